/-! the reference: a new one -/
theorem rn_ldc {w : rz_w} {d mc ms : Nat} {M : rz_M} {kc kn pc : Nat} {Lc : rz_L} {S : List Value} {G : rz_G} {X : rn_P} {idx : Nat} {v : Int32} (hd : decode M.1 pc = .ok (.ldc idx, 2)) (hw : Cond.constant (rz_on M.2.2.2.1) idx v ∈ rz_tb) (k : rn_T w d mc ms M kc kn (pc + 2) Lc (.int v :: S) G X) : rn_T w d mc ms M kc kn pc Lc S G X := fun p l e s m args below meth c H locs ls hc hS hR hl => lv_ldc hc.1 hc.2.1 hc.2.2.2.2.2.1 (hc.2.2.2.2.2.2.2.1 _ hw) hd (k p l e s m args below meth c H locs ls hc hS hR hl)
def re_fl (k : Nat) (v : Int32) : Nat → Int32 := fun i => if i < k then v else 0
theorem re_fl0 {v : Int32} : (fun _ => 0 : Nat → Int32) = re_fl 0 v := by funext i; simp [re_fl]
theorem re_fls (k : Nat) (v : Int32) : upd (re_fl k v) k v = re_fl (k + 1) v := by
  funext i
  by_cases c : i = k
  · subst c; rw [pk_us]; simp [re_fl]
  · rw [pk_un c]; simp only [re_fl]
    by_cases c2 : i < k
    · rw [if_pos c2, if_pos (by omega)]
    · rw [if_neg c2, if_neg (by omega)]
def re_I0 : Nat → Int32 := fun _ => 0
def re_A0 : Nat → Nat → Int32
  | 1 => re_fl 6 (nI 1)
  | 2 => re_fl 6 (nI 0)
  | 8 => re_fl 36 (-1)
  | _ => fun _ => 0
theorem re_new : rf re_I0 re_A0 dk_V0 := by
  refine ⟨fun k hk => ⟨?_, (by show 1 ≤ 1; decide), (by show 1 ≤ 6; decide), ?_, by simp [dk_V0, dk_ms], fun e he => (by simp [dk_V0, dk_ms] at he), fun q hq => ⟨?_, sg_nil⟩, fun _ _ => rfl, rfl, sg_nil, fun e he => (by simp [dk_V0, dk_ms] at he), fun q xs c => (by simp [dk_V0, dk_ms] at c), by simp [dk_V0, dk_ms], by simp [dk_V0, dk_ms]⟩, ⟨rfl, sg_nil, by simp [dk_V0]⟩, ⟨0, by decide, rfl⟩, rfl, by simp [dk_V0], rfl, rfl, by simp [dk_V0], sg_nil, fun i hi => (by simp [dk_V0] at hi), fun i f hf => (by simp [dk_V0] at hf)⟩
  · show re_fl 6 (nI 1) k = nI 1
    simp only [re_fl]; rw [if_pos hk]
  · show re_fl 6 (nI 0) k = nI 0
    simp only [re_fl]; rw [if_pos hk]
  · show re_fl 36 (-1) (6 * k + q) = -1
    simp only [re_fl]; rw [if_pos (by omega)]
set_option maxRecDepth 100000 in
set_option maxHeartbeats 8000000 in
theorem c_Mod_init {w : rz_w} {d : Nat} {G : rz_G} {a : Nat} (hG : G a = some (.inr (10, [.int 0, .null, .null, .null, .null, .null, .null, .null, .null, .null, .null, .null, .int 0, .null, .null, .null, .null, .null, .null, .null, .null, .null, .null, .null, .null, .null, .int 0, .int 0, .null, .null, .int 0, .null, .null, .null, .null, .null, .null, .null, .int 0, .null, .null, .int 0, .int 0, .null, .null, .null, .int 0, .int 0, .null, .null, .int 0, .int 0, .null, .null, .null, .null, .null, .null, .int 0, .null, .null, .null, .null, .null, .int 0, .null, .null, .int 0, .int 0, .int 0, .null, .null, .null, .null, .null, .null, .int 0, .null, .null, .null, .null, .null]))) : rn_C w (d + 1) 64 1054628 y_Mod_init m_Mod_init [.ref a] G (a + 1) (fun r G' => r = none ∧ (∀ x, x < a → G' x = G x) ∧ ∀ o, o < 65 → G' (a + o) = some (re_cell a re_I0 re_A0 o)) := by
  refine rn_enter [some (.ref a)] (by decide +kernel) rfl rfl (Nat.le_of_ble_eq_true rfl) rfl ?_
  refine rn_blk' [(.aload_n 0, 1, 0, 0)] (by decide +kernel) (by omega) (by omega) (fun K R hK hR => ?_)
  simp only [↓rx_aload_n0, ↓rx_nil, ↓ry_lr0s, ↓ry_lr0z, rz_set, rz_nol, rz_clr, List.set_cons_zero, List.set_cons_succ, rz_tr, Nat.reduceAdd, Int.reduceAdd, Int.reduceToNat, Int.reduceSub, Int.reduceNeg, Int.cast_ofNat_Int]
  refine hK _ _ _ _ ?_
  refine rn_obj (rz_j5 92 rfl rfl) rn_o1 rn_o2 (Nat.le_of_ble_eq_true rfl) (by decide +kernel) ?_
  have hfr : ∀ x, x < a → G x = G x := fun _ _ => rfl
  have hob := hG
  have hce : ∀ o, 1 ≤ o → o < 1 → (True) → G (a + o) = some (re_cell a re_I0 re_A0 o) := fun o h1 h2 => by omega
  refine rn_blk' [(.aload_n 0, 1, 0, 0), (.bipush 6, 2, 0, 0)] (by decide +kernel) (by omega) (by omega) (fun K R hK hR => ?_)
  simp only [rw_b6, ↓rx_aload_n0, ↓rx_bipush, ↓rx_nil, ↓ry_lr0s, ↓ry_lr0z, rz_set, rz_nol, rz_clr, List.set_cons_zero, List.set_cons_succ, rz_tr, Nat.reduceAdd, Int.reduceAdd, Int.reduceToNat, Int.reduceSub, Int.reduceNeg, Int.cast_ofNat_Int]
  refine hK _ _ _ _ ?_
  refine rn_na_i (N := 6) (by decide) (by decide +kernel) (Or.inl rfl) (by decide) (by decide) ?_
  change rn_T w _ _ _ _ 1 6 _ _ (.ref (a + 1) :: _) (rz_up G (a + 1) _) _
  rw [re_fl0 (v := (nI 1))]
  have e1 : rz_up G (a + 1) (.inl (0, 6, .inl (re_fl 0 (nI 1)))) (a + 1) = some (.inl (0, 6, .inl (re_fl 0 (nI 1)))) := rz_up_s _ _ _
  refine rn_blk' [(.dup, 1, 0, 0), (.iconst 0, 1, 0, 0), (.iconst 1, 1, 0, 0), (.iastore, 1, 0, 0)] (by decide +kernel) (by omega) (by omega) (fun K R hK hR => ?_)
  simp only [rw_c0, rw_c1, ↓rx_dup, ↓rx_iastore, ↓rx_iconst, ↓rx_nil, ↓ry_iau, ↓ry_rii, ↓ry_v1i, ↓ry_v1r, true_and, ↓rh_ia e1, rz_set, rz_nol, rz_clr, List.set_cons_zero, List.set_cons_succ, rz_tr, Nat.reduceAdd, Int.reduceAdd, Int.reduceToNat, Int.reduceSub, Int.reduceNeg, Int.cast_ofNat_Int]
  clear e1
  simp only [nI_clamp (show 0 < 2 ^ 31 by decide), re_fls, rz_up_up]
  refine ⟨vp_in_nI (by decide) (by decide), hK _ _ _ _ ?_⟩
  have e1 : rz_up G (a + 1) (.inl (0, 6, .inl (re_fl 1 (nI 1)))) (a + 1) = some (.inl (0, 6, .inl (re_fl 1 (nI 1)))) := rz_up_s _ _ _
  refine rn_blk' [(.dup, 1, 0, 0), (.iconst 1, 1, 0, 0), (.iconst 1, 1, 0, 0), (.iastore, 1, 0, 0)] (by decide +kernel) (by omega) (by omega) (fun K R hK hR => ?_)
  simp only [rw_c1, ↓rx_dup, ↓rx_iastore, ↓rx_iconst, ↓rx_nil, ↓ry_iau, ↓ry_rii, ↓ry_v1i, ↓ry_v1r, true_and, ↓rh_ia e1, rz_set, rz_nol, rz_clr, List.set_cons_zero, List.set_cons_succ, rz_tr, Nat.reduceAdd, Int.reduceAdd, Int.reduceToNat, Int.reduceSub, Int.reduceNeg, Int.cast_ofNat_Int]
  clear e1
  simp only [nI_clamp (show 1 < 2 ^ 31 by decide), re_fls, rz_up_up]
  refine ⟨vp_in_nI (by decide) (by decide), hK _ _ _ _ ?_⟩
  have e1 : rz_up G (a + 1) (.inl (0, 6, .inl (re_fl 2 (nI 1)))) (a + 1) = some (.inl (0, 6, .inl (re_fl 2 (nI 1)))) := rz_up_s _ _ _
  refine rn_blk' [(.dup, 1, 0, 0), (.iconst 2, 1, 0, 0), (.iconst 1, 1, 0, 0), (.iastore, 1, 0, 0)] (by decide +kernel) (by omega) (by omega) (fun K R hK hR => ?_)
  simp only [rw_c1, rw_c2, ↓rx_dup, ↓rx_iastore, ↓rx_iconst, ↓rx_nil, ↓ry_iau, ↓ry_rii, ↓ry_v1i, ↓ry_v1r, true_and, ↓rh_ia e1, rz_set, rz_nol, rz_clr, List.set_cons_zero, List.set_cons_succ, rz_tr, Nat.reduceAdd, Int.reduceAdd, Int.reduceToNat, Int.reduceSub, Int.reduceNeg, Int.cast_ofNat_Int]
  clear e1
  simp only [nI_clamp (show 2 < 2 ^ 31 by decide), re_fls, rz_up_up]
  refine ⟨vp_in_nI (by decide) (by decide), hK _ _ _ _ ?_⟩
  have e1 : rz_up G (a + 1) (.inl (0, 6, .inl (re_fl 3 (nI 1)))) (a + 1) = some (.inl (0, 6, .inl (re_fl 3 (nI 1)))) := rz_up_s _ _ _
  refine rn_blk' [(.dup, 1, 0, 0), (.iconst 3, 1, 0, 0), (.iconst 1, 1, 0, 0), (.iastore, 1, 0, 0)] (by decide +kernel) (by omega) (by omega) (fun K R hK hR => ?_)
  simp only [rw_c1, rw_c3, ↓rx_dup, ↓rx_iastore, ↓rx_iconst, ↓rx_nil, ↓ry_iau, ↓ry_rii, ↓ry_v1i, ↓ry_v1r, true_and, ↓rh_ia e1, rz_set, rz_nol, rz_clr, List.set_cons_zero, List.set_cons_succ, rz_tr, Nat.reduceAdd, Int.reduceAdd, Int.reduceToNat, Int.reduceSub, Int.reduceNeg, Int.cast_ofNat_Int]
  clear e1
  simp only [nI_clamp (show 3 < 2 ^ 31 by decide), re_fls, rz_up_up]
  refine ⟨vp_in_nI (by decide) (by decide), hK _ _ _ _ ?_⟩
  have e1 : rz_up G (a + 1) (.inl (0, 6, .inl (re_fl 4 (nI 1)))) (a + 1) = some (.inl (0, 6, .inl (re_fl 4 (nI 1)))) := rz_up_s _ _ _
  refine rn_blk' [(.dup, 1, 0, 0), (.iconst 4, 1, 0, 0), (.iconst 1, 1, 0, 0), (.iastore, 1, 0, 0)] (by decide +kernel) (by omega) (by omega) (fun K R hK hR => ?_)
  simp only [rw_c1, rw_c4, ↓rx_dup, ↓rx_iastore, ↓rx_iconst, ↓rx_nil, ↓ry_iau, ↓ry_rii, ↓ry_v1i, ↓ry_v1r, true_and, ↓rh_ia e1, rz_set, rz_nol, rz_clr, List.set_cons_zero, List.set_cons_succ, rz_tr, Nat.reduceAdd, Int.reduceAdd, Int.reduceToNat, Int.reduceSub, Int.reduceNeg, Int.cast_ofNat_Int]
  clear e1
  simp only [nI_clamp (show 4 < 2 ^ 31 by decide), re_fls, rz_up_up]
  refine ⟨vp_in_nI (by decide) (by decide), hK _ _ _ _ ?_⟩
  have e1 : rz_up G (a + 1) (.inl (0, 6, .inl (re_fl 5 (nI 1)))) (a + 1) = some (.inl (0, 6, .inl (re_fl 5 (nI 1)))) := rz_up_s _ _ _
  refine rn_blk' [(.dup, 1, 0, 0), (.iconst 5, 1, 0, 0), (.iconst 1, 1, 0, 0), (.iastore, 1, 0, 0)] (by decide +kernel) (by omega) (by omega) (fun K R hK hR => ?_)
  simp only [rw_c1, rw_c5, ↓rx_dup, ↓rx_iastore, ↓rx_iconst, ↓rx_nil, ↓ry_iau, ↓ry_rii, ↓ry_v1i, ↓ry_v1r, true_and, ↓rh_ia e1, rz_set, rz_nol, rz_clr, List.set_cons_zero, List.set_cons_succ, rz_tr, Nat.reduceAdd, Int.reduceAdd, Int.reduceToNat, Int.reduceSub, Int.reduceNeg, Int.cast_ofNat_Int]
  clear e1
  simp only [nI_clamp (show 5 < 2 ^ 31 by decide), re_fls, rz_up_up]
  refine ⟨vp_in_nI (by decide) (by decide), hK _ _ _ _ ?_⟩
  have e1 : rz_up G (a + 1) (.inl (0, 6, .inl (re_fl 6 (nI 1)))) a = some (.inr (10, [.int 0, .null, .null, .null, .null, .null, .null, .null, .null, .null, .null, .null, .int 0, .null, .null, .null, .null, .null, .null, .null, .null, .null, .null, .null, .null, .null, .int 0, .int 0, .null, .null, .int 0, .null, .null, .null, .null, .null, .null, .null, .int 0, .null, .null, .int 0, .int 0, .null, .null, .null, .int 0, .int 0, .null, .null, .int 0, .int 0, .null, .null, .null, .null, .null, .null, .int 0, .null, .null, .null, .null, .null, .int 0, .null, .null, .int 0, .int 0, .int 0, .null, .null, .null, .null, .null, .null, .int 0, .null, .null, .null, .null, .null])) := by rw [rz_up_n _ _ (by omega)]; exact hob
  refine rn_blk' [(.putfield 7, 3, 10, 1)] (by decide +kernel) (by omega) (by omega) (fun K R hK hR => ?_)
  simp only [List.length_cons, List.length_nil, Nat.reduceLT, rf_10_1, ↓rx_nil, ↓rx_putfield, ↓ry_obu, ↓ry_vr, true_and, ↓rh_ob e1, rz_set, rz_nol, rz_clr, List.set_cons_zero, List.set_cons_succ, rz_tr, Nat.reduceAdd, Int.reduceAdd, Int.reduceToNat, Int.reduceSub, Int.reduceNeg, Int.cast_ofNat_Int]
  refine hK _ _ _ _ ?_
  clear e1
  generalize hg : rz_up (rz_up G (a + 1) _) a _ = g1
  have hst : ∀ x, x ≠ a → x < a + 1 → g1 x = G x := fun x h1 h2 => by rw [← hg, rz_up_n _ _ h1, rz_up_n _ _ (by omega)]
  have hob : g1 a = some (.inr (10, [.int 0, .ref (a + 1), .null, .null, .null, .null, .null, .null, .null, .null, .null, .null, .int 0, .null, .null, .null, .null, .null, .null, .null, .null, .null, .null, .null, .null, .null, .int 0, .int 0, .null, .null, .int 0, .null, .null, .null, .null, .null, .null, .null, .int 0, .null, .null, .int 0, .int 0, .null, .null, .null, .int 0, .int 0, .null, .null, .int 0, .int 0, .null, .null, .null, .null, .null, .null, .int 0, .null, .null, .null, .null, .null, .int 0, .null, .null, .int 0, .int 0, .int 0, .null, .null, .null, .null, .null, .null, .int 0, .null, .null, .null, .null, .null])) := by rw [← hg, rz_up_s]
  have hfr : ∀ x, x < a → g1 x = G x := fun x hx => (hst x (by omega) (by omega)).trans (hfr x hx)
  have hn1 : g1 (a + 1) = some (.inl (0, 6, .inl (re_fl 6 (nI 1)))) := by rw [← hg, rz_up_n _ _ (by omega), rz_up_s]
  have hce : ∀ o, 1 ≤ o → o < 2 → (True) → g1 (a + o) = some (re_cell a re_I0 re_A0 o) := fun o h1 h2 h3 => by
    by_cases c : o < 1
    · exact (hst _ (by omega) (by omega)).trans (hce o h1 c h3)
    by_cases c1 : o = 1
    · subst c1; exact hn1
    omega
  clear hg hst hn1
  refine rn_blk' [(.aload_n 0, 1, 0, 0), (.bipush 6, 2, 0, 0)] (by decide +kernel) (by omega) (by omega) (fun K R hK hR => ?_)
  simp only [rw_b6, ↓rx_aload_n0, ↓rx_bipush, ↓rx_nil, ↓ry_lr0s, ↓ry_lr0z, rz_set, rz_nol, rz_clr, List.set_cons_zero, List.set_cons_succ, rz_tr, Nat.reduceAdd, Int.reduceAdd, Int.reduceToNat, Int.reduceSub, Int.reduceNeg, Int.cast_ofNat_Int]
  refine hK _ _ _ _ ?_
  refine rn_na_i (N := 6) (by decide) (by decide +kernel) (Or.inr ⟨a + 1, rfl, by rw [hce 1 (by decide) (by decide) trivial]; simp⟩) (by decide) (by decide) ?_
  change rn_T w _ _ _ _ 2 12 _ _ (.ref (a + 2) :: _) (rz_up g1 (a + 2) _) _
  rw [re_fl0 (v := (nI 0))]
  have e1 : rz_up g1 (a + 2) (.inl (0, 6, .inl (re_fl 0 (nI 0)))) (a + 2) = some (.inl (0, 6, .inl (re_fl 0 (nI 0)))) := rz_up_s _ _ _
  refine rn_blk' [(.dup, 1, 0, 0), (.iconst 0, 1, 0, 0), (.iconst 0, 1, 0, 0), (.iastore, 1, 0, 0)] (by decide +kernel) (by omega) (by omega) (fun K R hK hR => ?_)
  simp only [rw_c0, ↓rx_dup, ↓rx_iastore, ↓rx_iconst, ↓rx_nil, ↓ry_iau, ↓ry_rii, ↓ry_v1i, ↓ry_v1r, true_and, ↓rh_ia e1, rz_set, rz_nol, rz_clr, List.set_cons_zero, List.set_cons_succ, rz_tr, Nat.reduceAdd, Int.reduceAdd, Int.reduceToNat, Int.reduceSub, Int.reduceNeg, Int.cast_ofNat_Int]
  clear e1
  simp only [nI_clamp (show 0 < 2 ^ 31 by decide), re_fls, rz_up_up]
  refine ⟨vp_in_nI (by decide) (by decide), hK _ _ _ _ ?_⟩
  have e1 : rz_up g1 (a + 2) (.inl (0, 6, .inl (re_fl 1 (nI 0)))) (a + 2) = some (.inl (0, 6, .inl (re_fl 1 (nI 0)))) := rz_up_s _ _ _
  refine rn_blk' [(.dup, 1, 0, 0), (.iconst 1, 1, 0, 0), (.iconst 0, 1, 0, 0), (.iastore, 1, 0, 0)] (by decide +kernel) (by omega) (by omega) (fun K R hK hR => ?_)
  simp only [rw_c0, rw_c1, ↓rx_dup, ↓rx_iastore, ↓rx_iconst, ↓rx_nil, ↓ry_iau, ↓ry_rii, ↓ry_v1i, ↓ry_v1r, true_and, ↓rh_ia e1, rz_set, rz_nol, rz_clr, List.set_cons_zero, List.set_cons_succ, rz_tr, Nat.reduceAdd, Int.reduceAdd, Int.reduceToNat, Int.reduceSub, Int.reduceNeg, Int.cast_ofNat_Int]
  clear e1
  simp only [nI_clamp (show 1 < 2 ^ 31 by decide), re_fls, rz_up_up]
  refine ⟨vp_in_nI (by decide) (by decide), hK _ _ _ _ ?_⟩
  have e1 : rz_up g1 (a + 2) (.inl (0, 6, .inl (re_fl 2 (nI 0)))) (a + 2) = some (.inl (0, 6, .inl (re_fl 2 (nI 0)))) := rz_up_s _ _ _
  refine rn_blk' [(.dup, 1, 0, 0), (.iconst 2, 1, 0, 0), (.iconst 0, 1, 0, 0), (.iastore, 1, 0, 0)] (by decide +kernel) (by omega) (by omega) (fun K R hK hR => ?_)
  simp only [rw_c0, rw_c2, ↓rx_dup, ↓rx_iastore, ↓rx_iconst, ↓rx_nil, ↓ry_iau, ↓ry_rii, ↓ry_v1i, ↓ry_v1r, true_and, ↓rh_ia e1, rz_set, rz_nol, rz_clr, List.set_cons_zero, List.set_cons_succ, rz_tr, Nat.reduceAdd, Int.reduceAdd, Int.reduceToNat, Int.reduceSub, Int.reduceNeg, Int.cast_ofNat_Int]
  clear e1
  simp only [nI_clamp (show 2 < 2 ^ 31 by decide), re_fls, rz_up_up]
  refine ⟨vp_in_nI (by decide) (by decide), hK _ _ _ _ ?_⟩
  have e1 : rz_up g1 (a + 2) (.inl (0, 6, .inl (re_fl 3 (nI 0)))) (a + 2) = some (.inl (0, 6, .inl (re_fl 3 (nI 0)))) := rz_up_s _ _ _
  refine rn_blk' [(.dup, 1, 0, 0), (.iconst 3, 1, 0, 0), (.iconst 0, 1, 0, 0), (.iastore, 1, 0, 0)] (by decide +kernel) (by omega) (by omega) (fun K R hK hR => ?_)
  simp only [rw_c0, rw_c3, ↓rx_dup, ↓rx_iastore, ↓rx_iconst, ↓rx_nil, ↓ry_iau, ↓ry_rii, ↓ry_v1i, ↓ry_v1r, true_and, ↓rh_ia e1, rz_set, rz_nol, rz_clr, List.set_cons_zero, List.set_cons_succ, rz_tr, Nat.reduceAdd, Int.reduceAdd, Int.reduceToNat, Int.reduceSub, Int.reduceNeg, Int.cast_ofNat_Int]
  clear e1
  simp only [nI_clamp (show 3 < 2 ^ 31 by decide), re_fls, rz_up_up]
  refine ⟨vp_in_nI (by decide) (by decide), hK _ _ _ _ ?_⟩
  have e1 : rz_up g1 (a + 2) (.inl (0, 6, .inl (re_fl 4 (nI 0)))) (a + 2) = some (.inl (0, 6, .inl (re_fl 4 (nI 0)))) := rz_up_s _ _ _
  refine rn_blk' [(.dup, 1, 0, 0), (.iconst 4, 1, 0, 0), (.iconst 0, 1, 0, 0), (.iastore, 1, 0, 0)] (by decide +kernel) (by omega) (by omega) (fun K R hK hR => ?_)
  simp only [rw_c0, rw_c4, ↓rx_dup, ↓rx_iastore, ↓rx_iconst, ↓rx_nil, ↓ry_iau, ↓ry_rii, ↓ry_v1i, ↓ry_v1r, true_and, ↓rh_ia e1, rz_set, rz_nol, rz_clr, List.set_cons_zero, List.set_cons_succ, rz_tr, Nat.reduceAdd, Int.reduceAdd, Int.reduceToNat, Int.reduceSub, Int.reduceNeg, Int.cast_ofNat_Int]
  clear e1
  simp only [nI_clamp (show 4 < 2 ^ 31 by decide), re_fls, rz_up_up]
  refine ⟨vp_in_nI (by decide) (by decide), hK _ _ _ _ ?_⟩
  have e1 : rz_up g1 (a + 2) (.inl (0, 6, .inl (re_fl 5 (nI 0)))) (a + 2) = some (.inl (0, 6, .inl (re_fl 5 (nI 0)))) := rz_up_s _ _ _
  refine rn_blk' [(.dup, 1, 0, 0), (.iconst 5, 1, 0, 0), (.iconst 0, 1, 0, 0), (.iastore, 1, 0, 0)] (by decide +kernel) (by omega) (by omega) (fun K R hK hR => ?_)
  simp only [rw_c0, rw_c5, ↓rx_dup, ↓rx_iastore, ↓rx_iconst, ↓rx_nil, ↓ry_iau, ↓ry_rii, ↓ry_v1i, ↓ry_v1r, true_and, ↓rh_ia e1, rz_set, rz_nol, rz_clr, List.set_cons_zero, List.set_cons_succ, rz_tr, Nat.reduceAdd, Int.reduceAdd, Int.reduceToNat, Int.reduceSub, Int.reduceNeg, Int.cast_ofNat_Int]
  clear e1
  simp only [nI_clamp (show 5 < 2 ^ 31 by decide), re_fls, rz_up_up]
  refine ⟨vp_in_nI (by decide) (by decide), hK _ _ _ _ ?_⟩
  have e1 : rz_up g1 (a + 2) (.inl (0, 6, .inl (re_fl 6 (nI 0)))) a = some (.inr (10, [.int 0, .ref (a + 1), .null, .null, .null, .null, .null, .null, .null, .null, .null, .null, .int 0, .null, .null, .null, .null, .null, .null, .null, .null, .null, .null, .null, .null, .null, .int 0, .int 0, .null, .null, .int 0, .null, .null, .null, .null, .null, .null, .null, .int 0, .null, .null, .int 0, .int 0, .null, .null, .null, .int 0, .int 0, .null, .null, .int 0, .int 0, .null, .null, .null, .null, .null, .null, .int 0, .null, .null, .null, .null, .null, .int 0, .null, .null, .int 0, .int 0, .int 0, .null, .null, .null, .null, .null, .null, .int 0, .null, .null, .null, .null, .null])) := by rw [rz_up_n _ _ (by omega)]; exact hob
  refine rn_blk' [(.putfield 13, 3, 10, 2)] (by decide +kernel) (by omega) (by omega) (fun K R hK hR => ?_)
  simp only [List.length_cons, List.length_nil, Nat.reduceLT, rf_10_2, ↓rx_nil, ↓rx_putfield, ↓ry_obu, ↓ry_vr, true_and, ↓rh_ob e1, rz_set, rz_nol, rz_clr, List.set_cons_zero, List.set_cons_succ, rz_tr, Nat.reduceAdd, Int.reduceAdd, Int.reduceToNat, Int.reduceSub, Int.reduceNeg, Int.cast_ofNat_Int]
  refine hK _ _ _ _ ?_
  clear e1
  generalize hg : rz_up (rz_up g1 (a + 2) _) a _ = g2
  have hst : ∀ x, x ≠ a → x < a + 2 → g2 x = g1 x := fun x h1 h2 => by rw [← hg, rz_up_n _ _ h1, rz_up_n _ _ (by omega)]
  have hob : g2 a = some (.inr (10, [.int 0, .ref (a + 1), .ref (a + 2), .null, .null, .null, .null, .null, .null, .null, .null, .null, .int 0, .null, .null, .null, .null, .null, .null, .null, .null, .null, .null, .null, .null, .null, .int 0, .int 0, .null, .null, .int 0, .null, .null, .null, .null, .null, .null, .null, .int 0, .null, .null, .int 0, .int 0, .null, .null, .null, .int 0, .int 0, .null, .null, .int 0, .int 0, .null, .null, .null, .null, .null, .null, .int 0, .null, .null, .null, .null, .null, .int 0, .null, .null, .int 0, .int 0, .int 0, .null, .null, .null, .null, .null, .null, .int 0, .null, .null, .null, .null, .null])) := by rw [← hg, rz_up_s]
  have hfr : ∀ x, x < a → g2 x = G x := fun x hx => (hst x (by omega) (by omega)).trans (hfr x hx)
  have hn2 : g2 (a + 2) = some (.inl (0, 6, .inl (re_fl 6 (nI 0)))) := by rw [← hg, rz_up_n _ _ (by omega), rz_up_s]
  have hce : ∀ o, 1 ≤ o → o < 3 → (True) → g2 (a + o) = some (re_cell a re_I0 re_A0 o) := fun o h1 h2 h3 => by
    by_cases c : o < 2
    · exact (hst _ (by omega) (by omega)).trans (hce o h1 c h3)
    by_cases c2 : o = 2
    · subst c2; exact hn2
    omega
  clear hg hst hn2
  refine rn_blk' [(.aload_n 0, 1, 0, 0), (.sipush 144, 3, 0, 0)] (by decide +kernel) (by omega) (by omega) (fun K R hK hR => ?_)
  simp only [rw_s144, ↓rx_aload_n0, ↓rx_nil, ↓rx_sipush, ↓ry_lr0s, ↓ry_lr0z, rz_set, rz_nol, rz_clr, List.set_cons_zero, List.set_cons_succ, rz_tr, Nat.reduceAdd, Int.reduceAdd, Int.reduceToNat, Int.reduceSub, Int.reduceNeg, Int.cast_ofNat_Int]
  refine hK _ _ _ _ ?_
  refine rn_na_i (N := 144) (by decide) (by decide +kernel) (Or.inr ⟨a + 2, rfl, by rw [hce 2 (by decide) (by decide) trivial]; simp⟩) (by decide) (by decide) ?_
  change rn_T w _ _ _ _ 3 156 _ _ (.ref (a + 3) :: _) (rz_up g2 (a + 3) _) _
  have e1 : rz_up g2 (a + 3) (.inl (0, 144, .inl (fun _ => 0))) a = some (.inr (10, [.int 0, .ref (a + 1), .ref (a + 2), .null, .null, .null, .null, .null, .null, .null, .null, .null, .int 0, .null, .null, .null, .null, .null, .null, .null, .null, .null, .null, .null, .null, .null, .int 0, .int 0, .null, .null, .int 0, .null, .null, .null, .null, .null, .null, .null, .int 0, .null, .null, .int 0, .int 0, .null, .null, .null, .int 0, .int 0, .null, .null, .int 0, .int 0, .null, .null, .null, .null, .null, .null, .int 0, .null, .null, .null, .null, .null, .int 0, .null, .null, .int 0, .int 0, .int 0, .null, .null, .null, .null, .null, .null, .int 0, .null, .null, .null, .null, .null])) := by rw [rz_up_n _ _ (by omega)]; exact hob
  refine rn_blk' [(.putfield 16, 3, 10, 3)] (by decide +kernel) (by omega) (by omega) (fun K R hK hR => ?_)
  simp only [List.length_cons, List.length_nil, Nat.reduceLT, rf_10_3, ↓rx_nil, ↓rx_putfield, ↓ry_obu, ↓ry_vr, true_and, ↓rh_ob e1, rz_set, rz_nol, rz_clr, List.set_cons_zero, List.set_cons_succ, rz_tr, Nat.reduceAdd, Int.reduceAdd, Int.reduceToNat, Int.reduceSub, Int.reduceNeg, Int.cast_ofNat_Int]
  refine hK _ _ _ _ ?_
  clear e1
  generalize hg : rz_up (rz_up g2 (a + 3) _) a _ = g3
  have hst : ∀ x, x ≠ a → x < a + 3 → g3 x = g2 x := fun x h1 h2 => by rw [← hg, rz_up_n _ _ h1, rz_up_n _ _ (by omega)]
  have hob : g3 a = some (.inr (10, [.int 0, .ref (a + 1), .ref (a + 2), .ref (a + 3), .null, .null, .null, .null, .null, .null, .null, .null, .int 0, .null, .null, .null, .null, .null, .null, .null, .null, .null, .null, .null, .null, .null, .int 0, .int 0, .null, .null, .int 0, .null, .null, .null, .null, .null, .null, .null, .int 0, .null, .null, .int 0, .int 0, .null, .null, .null, .int 0, .int 0, .null, .null, .int 0, .int 0, .null, .null, .null, .null, .null, .null, .int 0, .null, .null, .null, .null, .null, .int 0, .null, .null, .int 0, .int 0, .int 0, .null, .null, .null, .null, .null, .null, .int 0, .null, .null, .null, .null, .null])) := by rw [← hg, rz_up_s]
  have hfr : ∀ x, x < a → g3 x = G x := fun x hx => (hst x (by omega) (by omega)).trans (hfr x hx)
  have hn3 : g3 (a + 3) = some (.inl (0, 144, .inl (fun _ => 0))) := by rw [← hg, rz_up_n _ _ (by omega), rz_up_s]
  have hce : ∀ o, 1 ≤ o → o < 4 → (True) → g3 (a + o) = some (re_cell a re_I0 re_A0 o) := fun o h1 h2 h3 => by
    by_cases c : o < 3
    · exact (hst _ (by omega) (by omega)).trans (hce o h1 c h3)
    by_cases c3 : o = 3
    · subst c3; exact hn3
    omega
  clear hg hst hn3
  refine rn_blk' [(.aload_n 0, 1, 0, 0), (.sipush 144, 3, 0, 0)] (by decide +kernel) (by omega) (by omega) (fun K R hK hR => ?_)
  simp only [rw_s144, ↓rx_aload_n0, ↓rx_nil, ↓rx_sipush, ↓ry_lr0s, ↓ry_lr0z, rz_set, rz_nol, rz_clr, List.set_cons_zero, List.set_cons_succ, rz_tr, Nat.reduceAdd, Int.reduceAdd, Int.reduceToNat, Int.reduceSub, Int.reduceNeg, Int.cast_ofNat_Int]
  refine hK _ _ _ _ ?_
  refine rn_na_i (N := 144) (by decide) (by decide +kernel) (Or.inr ⟨a + 3, rfl, by rw [hce 3 (by decide) (by decide) trivial]; simp⟩) (by decide) (by decide) ?_
  change rn_T w _ _ _ _ 4 300 _ _ (.ref (a + 4) :: _) (rz_up g3 (a + 4) _) _
  have e1 : rz_up g3 (a + 4) (.inl (0, 144, .inl (fun _ => 0))) a = some (.inr (10, [.int 0, .ref (a + 1), .ref (a + 2), .ref (a + 3), .null, .null, .null, .null, .null, .null, .null, .null, .int 0, .null, .null, .null, .null, .null, .null, .null, .null, .null, .null, .null, .null, .null, .int 0, .int 0, .null, .null, .int 0, .null, .null, .null, .null, .null, .null, .null, .int 0, .null, .null, .int 0, .int 0, .null, .null, .null, .int 0, .int 0, .null, .null, .int 0, .int 0, .null, .null, .null, .null, .null, .null, .int 0, .null, .null, .null, .null, .null, .int 0, .null, .null, .int 0, .int 0, .int 0, .null, .null, .null, .null, .null, .null, .int 0, .null, .null, .null, .null, .null])) := by rw [rz_up_n _ _ (by omega)]; exact hob
  refine rn_blk' [(.putfield 19, 3, 10, 4)] (by decide +kernel) (by omega) (by omega) (fun K R hK hR => ?_)
  simp only [List.length_cons, List.length_nil, Nat.reduceLT, rf_10_4, ↓rx_nil, ↓rx_putfield, ↓ry_obu, ↓ry_vr, true_and, ↓rh_ob e1, rz_set, rz_nol, rz_clr, List.set_cons_zero, List.set_cons_succ, rz_tr, Nat.reduceAdd, Int.reduceAdd, Int.reduceToNat, Int.reduceSub, Int.reduceNeg, Int.cast_ofNat_Int]
  refine hK _ _ _ _ ?_
  clear e1
  generalize hg : rz_up (rz_up g3 (a + 4) _) a _ = g4
  have hst : ∀ x, x ≠ a → x < a + 4 → g4 x = g3 x := fun x h1 h2 => by rw [← hg, rz_up_n _ _ h1, rz_up_n _ _ (by omega)]
  have hob : g4 a = some (.inr (10, [.int 0, .ref (a + 1), .ref (a + 2), .ref (a + 3), .ref (a + 4), .null, .null, .null, .null, .null, .null, .null, .int 0, .null, .null, .null, .null, .null, .null, .null, .null, .null, .null, .null, .null, .null, .int 0, .int 0, .null, .null, .int 0, .null, .null, .null, .null, .null, .null, .null, .int 0, .null, .null, .int 0, .int 0, .null, .null, .null, .int 0, .int 0, .null, .null, .int 0, .int 0, .null, .null, .null, .null, .null, .null, .int 0, .null, .null, .null, .null, .null, .int 0, .null, .null, .int 0, .int 0, .int 0, .null, .null, .null, .null, .null, .null, .int 0, .null, .null, .null, .null, .null])) := by rw [← hg, rz_up_s]
  have hfr : ∀ x, x < a → g4 x = G x := fun x hx => (hst x (by omega) (by omega)).trans (hfr x hx)
  have hn4 : g4 (a + 4) = some (.inl (0, 144, .inl (fun _ => 0))) := by rw [← hg, rz_up_n _ _ (by omega), rz_up_s]
  have hce : ∀ o, 1 ≤ o → o < 5 → (True) → g4 (a + o) = some (re_cell a re_I0 re_A0 o) := fun o h1 h2 h3 => by
    by_cases c : o < 4
    · exact (hst _ (by omega) (by omega)).trans (hce o h1 c h3)
    by_cases c4 : o = 4
    · subst c4; exact hn4
    omega
  clear hg hst hn4
  refine rn_blk' [(.aload_n 0, 1, 0, 0), (.sipush 144, 3, 0, 0)] (by decide +kernel) (by omega) (by omega) (fun K R hK hR => ?_)
  simp only [rw_s144, ↓rx_aload_n0, ↓rx_nil, ↓rx_sipush, ↓ry_lr0s, ↓ry_lr0z, rz_set, rz_nol, rz_clr, List.set_cons_zero, List.set_cons_succ, rz_tr, Nat.reduceAdd, Int.reduceAdd, Int.reduceToNat, Int.reduceSub, Int.reduceNeg, Int.cast_ofNat_Int]
  refine hK _ _ _ _ ?_
  refine rn_na_i (N := 144) (by decide) (by decide +kernel) (Or.inr ⟨a + 4, rfl, by rw [hce 4 (by decide) (by decide) trivial]; simp⟩) (by decide) (by decide) ?_
  change rn_T w _ _ _ _ 5 444 _ _ (.ref (a + 5) :: _) (rz_up g4 (a + 5) _) _
  have e1 : rz_up g4 (a + 5) (.inl (0, 144, .inl (fun _ => 0))) a = some (.inr (10, [.int 0, .ref (a + 1), .ref (a + 2), .ref (a + 3), .ref (a + 4), .null, .null, .null, .null, .null, .null, .null, .int 0, .null, .null, .null, .null, .null, .null, .null, .null, .null, .null, .null, .null, .null, .int 0, .int 0, .null, .null, .int 0, .null, .null, .null, .null, .null, .null, .null, .int 0, .null, .null, .int 0, .int 0, .null, .null, .null, .int 0, .int 0, .null, .null, .int 0, .int 0, .null, .null, .null, .null, .null, .null, .int 0, .null, .null, .null, .null, .null, .int 0, .null, .null, .int 0, .int 0, .int 0, .null, .null, .null, .null, .null, .null, .int 0, .null, .null, .null, .null, .null])) := by rw [rz_up_n _ _ (by omega)]; exact hob
  refine rn_blk' [(.putfield 22, 3, 10, 5)] (by decide +kernel) (by omega) (by omega) (fun K R hK hR => ?_)
  simp only [List.length_cons, List.length_nil, Nat.reduceLT, rf_10_5, ↓rx_nil, ↓rx_putfield, ↓ry_obu, ↓ry_vr, true_and, ↓rh_ob e1, rz_set, rz_nol, rz_clr, List.set_cons_zero, List.set_cons_succ, rz_tr, Nat.reduceAdd, Int.reduceAdd, Int.reduceToNat, Int.reduceSub, Int.reduceNeg, Int.cast_ofNat_Int]
  refine hK _ _ _ _ ?_
  clear e1
  generalize hg : rz_up (rz_up g4 (a + 5) _) a _ = g5
  have hst : ∀ x, x ≠ a → x < a + 5 → g5 x = g4 x := fun x h1 h2 => by rw [← hg, rz_up_n _ _ h1, rz_up_n _ _ (by omega)]
  have hob : g5 a = some (.inr (10, [.int 0, .ref (a + 1), .ref (a + 2), .ref (a + 3), .ref (a + 4), .ref (a + 5), .null, .null, .null, .null, .null, .null, .int 0, .null, .null, .null, .null, .null, .null, .null, .null, .null, .null, .null, .null, .null, .int 0, .int 0, .null, .null, .int 0, .null, .null, .null, .null, .null, .null, .null, .int 0, .null, .null, .int 0, .int 0, .null, .null, .null, .int 0, .int 0, .null, .null, .int 0, .int 0, .null, .null, .null, .null, .null, .null, .int 0, .null, .null, .null, .null, .null, .int 0, .null, .null, .int 0, .int 0, .int 0, .null, .null, .null, .null, .null, .null, .int 0, .null, .null, .null, .null, .null])) := by rw [← hg, rz_up_s]
  have hfr : ∀ x, x < a → g5 x = G x := fun x hx => (hst x (by omega) (by omega)).trans (hfr x hx)
  have hn5 : g5 (a + 5) = some (.inl (0, 144, .inl (fun _ => 0))) := by rw [← hg, rz_up_n _ _ (by omega), rz_up_s]
  have hce : ∀ o, 1 ≤ o → o < 6 → (True) → g5 (a + o) = some (re_cell a re_I0 re_A0 o) := fun o h1 h2 h3 => by
    by_cases c : o < 5
    · exact (hst _ (by omega) (by omega)).trans (hce o h1 c h3)
    by_cases c5 : o = 5
    · subst c5; exact hn5
    omega
  clear hg hst hn5
  refine rn_blk' [(.aload_n 0, 1, 0, 0), (.sipush 144, 3, 0, 0)] (by decide +kernel) (by omega) (by omega) (fun K R hK hR => ?_)
  simp only [rw_s144, ↓rx_aload_n0, ↓rx_nil, ↓rx_sipush, ↓ry_lr0s, ↓ry_lr0z, rz_set, rz_nol, rz_clr, List.set_cons_zero, List.set_cons_succ, rz_tr, Nat.reduceAdd, Int.reduceAdd, Int.reduceToNat, Int.reduceSub, Int.reduceNeg, Int.cast_ofNat_Int]
  refine hK _ _ _ _ ?_
  refine rn_na_i (N := 144) (by decide) (by decide +kernel) (Or.inr ⟨a + 5, rfl, by rw [hce 5 (by decide) (by decide) trivial]; simp⟩) (by decide) (by decide) ?_
  change rn_T w _ _ _ _ 6 588 _ _ (.ref (a + 6) :: _) (rz_up g5 (a + 6) _) _
  have e1 : rz_up g5 (a + 6) (.inl (0, 144, .inl (fun _ => 0))) a = some (.inr (10, [.int 0, .ref (a + 1), .ref (a + 2), .ref (a + 3), .ref (a + 4), .ref (a + 5), .null, .null, .null, .null, .null, .null, .int 0, .null, .null, .null, .null, .null, .null, .null, .null, .null, .null, .null, .null, .null, .int 0, .int 0, .null, .null, .int 0, .null, .null, .null, .null, .null, .null, .null, .int 0, .null, .null, .int 0, .int 0, .null, .null, .null, .int 0, .int 0, .null, .null, .int 0, .int 0, .null, .null, .null, .null, .null, .null, .int 0, .null, .null, .null, .null, .null, .int 0, .null, .null, .int 0, .int 0, .int 0, .null, .null, .null, .null, .null, .null, .int 0, .null, .null, .null, .null, .null])) := by rw [rz_up_n _ _ (by omega)]; exact hob
  refine rn_blk' [(.putfield 25, 3, 10, 6)] (by decide +kernel) (by omega) (by omega) (fun K R hK hR => ?_)
  simp only [List.length_cons, List.length_nil, Nat.reduceLT, rf_10_6, ↓rx_nil, ↓rx_putfield, ↓ry_obu, ↓ry_vr, true_and, ↓rh_ob e1, rz_set, rz_nol, rz_clr, List.set_cons_zero, List.set_cons_succ, rz_tr, Nat.reduceAdd, Int.reduceAdd, Int.reduceToNat, Int.reduceSub, Int.reduceNeg, Int.cast_ofNat_Int]
  refine hK _ _ _ _ ?_
  clear e1
  generalize hg : rz_up (rz_up g5 (a + 6) _) a _ = g6
  have hst : ∀ x, x ≠ a → x < a + 6 → g6 x = g5 x := fun x h1 h2 => by rw [← hg, rz_up_n _ _ h1, rz_up_n _ _ (by omega)]
  have hob : g6 a = some (.inr (10, [.int 0, .ref (a + 1), .ref (a + 2), .ref (a + 3), .ref (a + 4), .ref (a + 5), .ref (a + 6), .null, .null, .null, .null, .null, .int 0, .null, .null, .null, .null, .null, .null, .null, .null, .null, .null, .null, .null, .null, .int 0, .int 0, .null, .null, .int 0, .null, .null, .null, .null, .null, .null, .null, .int 0, .null, .null, .int 0, .int 0, .null, .null, .null, .int 0, .int 0, .null, .null, .int 0, .int 0, .null, .null, .null, .null, .null, .null, .int 0, .null, .null, .null, .null, .null, .int 0, .null, .null, .int 0, .int 0, .int 0, .null, .null, .null, .null, .null, .null, .int 0, .null, .null, .null, .null, .null])) := by rw [← hg, rz_up_s]
  have hfr : ∀ x, x < a → g6 x = G x := fun x hx => (hst x (by omega) (by omega)).trans (hfr x hx)
  have hn6 : g6 (a + 6) = some (.inl (0, 144, .inl (fun _ => 0))) := by rw [← hg, rz_up_n _ _ (by omega), rz_up_s]
  have hce : ∀ o, 1 ≤ o → o < 7 → (True) → g6 (a + o) = some (re_cell a re_I0 re_A0 o) := fun o h1 h2 h3 => by
    by_cases c : o < 6
    · exact (hst _ (by omega) (by omega)).trans (hce o h1 c h3)
    by_cases c6 : o = 6
    · subst c6; exact hn6
    omega
  clear hg hst hn6
  refine rn_blk' [(.aload_n 0, 1, 0, 0), (.sipush 432, 3, 0, 0)] (by decide +kernel) (by omega) (by omega) (fun K R hK hR => ?_)
  simp only [rw_s432, ↓rx_aload_n0, ↓rx_nil, ↓rx_sipush, ↓ry_lr0s, ↓ry_lr0z, rz_set, rz_nol, rz_clr, List.set_cons_zero, List.set_cons_succ, rz_tr, Nat.reduceAdd, Int.reduceAdd, Int.reduceToNat, Int.reduceSub, Int.reduceNeg, Int.cast_ofNat_Int]
  refine hK _ _ _ _ ?_
  refine rn_na_i (N := 432) (by decide) (by decide +kernel) (Or.inr ⟨a + 6, rfl, by rw [hce 6 (by decide) (by decide) trivial]; simp⟩) (by decide) (by decide) ?_
  change rn_T w _ _ _ _ 7 1020 _ _ (.ref (a + 7) :: _) (rz_up g6 (a + 7) _) _
  have e1 : rz_up g6 (a + 7) (.inl (0, 432, .inl (fun _ => 0))) a = some (.inr (10, [.int 0, .ref (a + 1), .ref (a + 2), .ref (a + 3), .ref (a + 4), .ref (a + 5), .ref (a + 6), .null, .null, .null, .null, .null, .int 0, .null, .null, .null, .null, .null, .null, .null, .null, .null, .null, .null, .null, .null, .int 0, .int 0, .null, .null, .int 0, .null, .null, .null, .null, .null, .null, .null, .int 0, .null, .null, .int 0, .int 0, .null, .null, .null, .int 0, .int 0, .null, .null, .int 0, .int 0, .null, .null, .null, .null, .null, .null, .int 0, .null, .null, .null, .null, .null, .int 0, .null, .null, .int 0, .int 0, .int 0, .null, .null, .null, .null, .null, .null, .int 0, .null, .null, .null, .null, .null])) := by rw [rz_up_n _ _ (by omega)]; exact hob
  refine rn_blk' [(.putfield 28, 3, 10, 7)] (by decide +kernel) (by omega) (by omega) (fun K R hK hR => ?_)
  simp only [List.length_cons, List.length_nil, Nat.reduceLT, rf_10_7, ↓rx_nil, ↓rx_putfield, ↓ry_obu, ↓ry_vr, true_and, ↓rh_ob e1, rz_set, rz_nol, rz_clr, List.set_cons_zero, List.set_cons_succ, rz_tr, Nat.reduceAdd, Int.reduceAdd, Int.reduceToNat, Int.reduceSub, Int.reduceNeg, Int.cast_ofNat_Int]
  refine hK _ _ _ _ ?_
  clear e1
  generalize hg : rz_up (rz_up g6 (a + 7) _) a _ = g7
  have hst : ∀ x, x ≠ a → x < a + 7 → g7 x = g6 x := fun x h1 h2 => by rw [← hg, rz_up_n _ _ h1, rz_up_n _ _ (by omega)]
  have hob : g7 a = some (.inr (10, [.int 0, .ref (a + 1), .ref (a + 2), .ref (a + 3), .ref (a + 4), .ref (a + 5), .ref (a + 6), .ref (a + 7), .null, .null, .null, .null, .int 0, .null, .null, .null, .null, .null, .null, .null, .null, .null, .null, .null, .null, .null, .int 0, .int 0, .null, .null, .int 0, .null, .null, .null, .null, .null, .null, .null, .int 0, .null, .null, .int 0, .int 0, .null, .null, .null, .int 0, .int 0, .null, .null, .int 0, .int 0, .null, .null, .null, .null, .null, .null, .int 0, .null, .null, .null, .null, .null, .int 0, .null, .null, .int 0, .int 0, .int 0, .null, .null, .null, .null, .null, .null, .int 0, .null, .null, .null, .null, .null])) := by rw [← hg, rz_up_s]
  have hfr : ∀ x, x < a → g7 x = G x := fun x hx => (hst x (by omega) (by omega)).trans (hfr x hx)
  have hn7 : g7 (a + 7) = some (.inl (0, 432, .inl (fun _ => 0))) := by rw [← hg, rz_up_n _ _ (by omega), rz_up_s]
  have hce : ∀ o, 1 ≤ o → o < 8 → (True) → g7 (a + o) = some (re_cell a re_I0 re_A0 o) := fun o h1 h2 h3 => by
    by_cases c : o < 7
    · exact (hst _ (by omega) (by omega)).trans (hce o h1 c h3)
    by_cases c7 : o = 7
    · subst c7; exact hn7
    omega
  clear hg hst hn7
  refine rn_blk' [(.aload_n 0, 1, 0, 0), (.bipush 36, 2, 0, 0)] (by decide +kernel) (by omega) (by omega) (fun K R hK hR => ?_)
  simp only [rw_b36, ↓rx_aload_n0, ↓rx_bipush, ↓rx_nil, ↓ry_lr0s, ↓ry_lr0z, rz_set, rz_nol, rz_clr, List.set_cons_zero, List.set_cons_succ, rz_tr, Nat.reduceAdd, Int.reduceAdd, Int.reduceToNat, Int.reduceSub, Int.reduceNeg, Int.cast_ofNat_Int]
  refine hK _ _ _ _ ?_
  refine rn_na_i (N := 36) (by decide) (by decide +kernel) (Or.inr ⟨a + 7, rfl, by rw [hce 7 (by decide) (by decide) trivial]; simp⟩) (by decide) (by decide) ?_
  change rn_T w _ _ _ _ 8 1056 _ _ (.ref (a + 8) :: _) (rz_up g7 (a + 8) _) _
  rw [re_fl0 (v := (-1))]
  have e1 : rz_up g7 (a + 8) (.inl (0, 36, .inl (re_fl 0 (-1)))) (a + 8) = some (.inl (0, 36, .inl (re_fl 0 (-1)))) := rz_up_s _ _ _
  refine rn_blk' [(.dup, 1, 0, 0), (.iconst 0, 1, 0, 0), (.iconst (-1), 1, 0, 0), (.iastore, 1, 0, 0)] (by decide +kernel) (by omega) (by omega) (fun K R hK hR => ?_)
  simp only [rw_c0, rw_cm1, ↓rx_dup, ↓rx_iastore, ↓rx_iconst, ↓rx_nil, ↓ry_iau, ↓ry_rii, ↓ry_v1i, ↓ry_v1r, true_and, ↓rh_ia e1, rz_set, rz_nol, rz_clr, List.set_cons_zero, List.set_cons_succ, rz_tr, Nat.reduceAdd, Int.reduceAdd, Int.reduceToNat, Int.reduceSub, Int.reduceNeg, Int.cast_ofNat_Int]
  clear e1
  simp only [nI_clamp (show 0 < 2 ^ 31 by decide), re_fls, rz_up_up]
  refine ⟨vp_in_nI (by decide) (by decide), hK _ _ _ _ ?_⟩
  have e1 : rz_up g7 (a + 8) (.inl (0, 36, .inl (re_fl 1 (-1)))) (a + 8) = some (.inl (0, 36, .inl (re_fl 1 (-1)))) := rz_up_s _ _ _
  refine rn_blk' [(.dup, 1, 0, 0), (.iconst 1, 1, 0, 0), (.iconst (-1), 1, 0, 0), (.iastore, 1, 0, 0)] (by decide +kernel) (by omega) (by omega) (fun K R hK hR => ?_)
  simp only [rw_c1, rw_cm1, ↓rx_dup, ↓rx_iastore, ↓rx_iconst, ↓rx_nil, ↓ry_iau, ↓ry_rii, ↓ry_v1i, ↓ry_v1r, true_and, ↓rh_ia e1, rz_set, rz_nol, rz_clr, List.set_cons_zero, List.set_cons_succ, rz_tr, Nat.reduceAdd, Int.reduceAdd, Int.reduceToNat, Int.reduceSub, Int.reduceNeg, Int.cast_ofNat_Int]
  clear e1
  simp only [nI_clamp (show 1 < 2 ^ 31 by decide), re_fls, rz_up_up]
  refine ⟨vp_in_nI (by decide) (by decide), hK _ _ _ _ ?_⟩
  have e1 : rz_up g7 (a + 8) (.inl (0, 36, .inl (re_fl 2 (-1)))) (a + 8) = some (.inl (0, 36, .inl (re_fl 2 (-1)))) := rz_up_s _ _ _
  refine rn_blk' [(.dup, 1, 0, 0), (.iconst 2, 1, 0, 0), (.iconst (-1), 1, 0, 0), (.iastore, 1, 0, 0)] (by decide +kernel) (by omega) (by omega) (fun K R hK hR => ?_)
  simp only [rw_c2, rw_cm1, ↓rx_dup, ↓rx_iastore, ↓rx_iconst, ↓rx_nil, ↓ry_iau, ↓ry_rii, ↓ry_v1i, ↓ry_v1r, true_and, ↓rh_ia e1, rz_set, rz_nol, rz_clr, List.set_cons_zero, List.set_cons_succ, rz_tr, Nat.reduceAdd, Int.reduceAdd, Int.reduceToNat, Int.reduceSub, Int.reduceNeg, Int.cast_ofNat_Int]
  clear e1
  simp only [nI_clamp (show 2 < 2 ^ 31 by decide), re_fls, rz_up_up]
  refine ⟨vp_in_nI (by decide) (by decide), hK _ _ _ _ ?_⟩
  have e1 : rz_up g7 (a + 8) (.inl (0, 36, .inl (re_fl 3 (-1)))) (a + 8) = some (.inl (0, 36, .inl (re_fl 3 (-1)))) := rz_up_s _ _ _
  refine rn_blk' [(.dup, 1, 0, 0), (.iconst 3, 1, 0, 0), (.iconst (-1), 1, 0, 0), (.iastore, 1, 0, 0)] (by decide +kernel) (by omega) (by omega) (fun K R hK hR => ?_)
  simp only [rw_c3, rw_cm1, ↓rx_dup, ↓rx_iastore, ↓rx_iconst, ↓rx_nil, ↓ry_iau, ↓ry_rii, ↓ry_v1i, ↓ry_v1r, true_and, ↓rh_ia e1, rz_set, rz_nol, rz_clr, List.set_cons_zero, List.set_cons_succ, rz_tr, Nat.reduceAdd, Int.reduceAdd, Int.reduceToNat, Int.reduceSub, Int.reduceNeg, Int.cast_ofNat_Int]
  clear e1
  simp only [nI_clamp (show 3 < 2 ^ 31 by decide), re_fls, rz_up_up]
  refine ⟨vp_in_nI (by decide) (by decide), hK _ _ _ _ ?_⟩
  have e1 : rz_up g7 (a + 8) (.inl (0, 36, .inl (re_fl 4 (-1)))) (a + 8) = some (.inl (0, 36, .inl (re_fl 4 (-1)))) := rz_up_s _ _ _
  refine rn_blk' [(.dup, 1, 0, 0), (.iconst 4, 1, 0, 0), (.iconst (-1), 1, 0, 0), (.iastore, 1, 0, 0)] (by decide +kernel) (by omega) (by omega) (fun K R hK hR => ?_)
  simp only [rw_c4, rw_cm1, ↓rx_dup, ↓rx_iastore, ↓rx_iconst, ↓rx_nil, ↓ry_iau, ↓ry_rii, ↓ry_v1i, ↓ry_v1r, true_and, ↓rh_ia e1, rz_set, rz_nol, rz_clr, List.set_cons_zero, List.set_cons_succ, rz_tr, Nat.reduceAdd, Int.reduceAdd, Int.reduceToNat, Int.reduceSub, Int.reduceNeg, Int.cast_ofNat_Int]
  clear e1
  simp only [nI_clamp (show 4 < 2 ^ 31 by decide), re_fls, rz_up_up]
  refine ⟨vp_in_nI (by decide) (by decide), hK _ _ _ _ ?_⟩
  have e1 : rz_up g7 (a + 8) (.inl (0, 36, .inl (re_fl 5 (-1)))) (a + 8) = some (.inl (0, 36, .inl (re_fl 5 (-1)))) := rz_up_s _ _ _
  refine rn_blk' [(.dup, 1, 0, 0), (.iconst 5, 1, 0, 0), (.iconst (-1), 1, 0, 0), (.iastore, 1, 0, 0)] (by decide +kernel) (by omega) (by omega) (fun K R hK hR => ?_)
  simp only [rw_c5, rw_cm1, ↓rx_dup, ↓rx_iastore, ↓rx_iconst, ↓rx_nil, ↓ry_iau, ↓ry_rii, ↓ry_v1i, ↓ry_v1r, true_and, ↓rh_ia e1, rz_set, rz_nol, rz_clr, List.set_cons_zero, List.set_cons_succ, rz_tr, Nat.reduceAdd, Int.reduceAdd, Int.reduceToNat, Int.reduceSub, Int.reduceNeg, Int.cast_ofNat_Int]
  clear e1
  simp only [nI_clamp (show 5 < 2 ^ 31 by decide), re_fls, rz_up_up]
  refine ⟨vp_in_nI (by decide) (by decide), hK _ _ _ _ ?_⟩
  have e1 : rz_up g7 (a + 8) (.inl (0, 36, .inl (re_fl 6 (-1)))) (a + 8) = some (.inl (0, 36, .inl (re_fl 6 (-1)))) := rz_up_s _ _ _
  refine rn_blk' [(.dup, 1, 0, 0), (.bipush 6, 2, 0, 0), (.iconst (-1), 1, 0, 0), (.iastore, 1, 0, 0)] (by decide +kernel) (by omega) (by omega) (fun K R hK hR => ?_)
  simp only [rw_b6, rw_cm1, ↓rx_bipush, ↓rx_dup, ↓rx_iastore, ↓rx_iconst, ↓rx_nil, ↓ry_iau, ↓ry_rii, ↓ry_v1i, ↓ry_v1r, true_and, ↓rh_ia e1, rz_set, rz_nol, rz_clr, List.set_cons_zero, List.set_cons_succ, rz_tr, Nat.reduceAdd, Int.reduceAdd, Int.reduceToNat, Int.reduceSub, Int.reduceNeg, Int.cast_ofNat_Int]
  clear e1
  simp only [nI_clamp (show 6 < 2 ^ 31 by decide), re_fls, rz_up_up]
  refine ⟨vp_in_nI (by decide) (by decide), hK _ _ _ _ ?_⟩
  have e1 : rz_up g7 (a + 8) (.inl (0, 36, .inl (re_fl 7 (-1)))) (a + 8) = some (.inl (0, 36, .inl (re_fl 7 (-1)))) := rz_up_s _ _ _
  refine rn_blk' [(.dup, 1, 0, 0), (.bipush 7, 2, 0, 0), (.iconst (-1), 1, 0, 0), (.iastore, 1, 0, 0)] (by decide +kernel) (by omega) (by omega) (fun K R hK hR => ?_)
  simp only [rw_b7, rw_cm1, ↓rx_bipush, ↓rx_dup, ↓rx_iastore, ↓rx_iconst, ↓rx_nil, ↓ry_iau, ↓ry_rii, ↓ry_v1i, ↓ry_v1r, true_and, ↓rh_ia e1, rz_set, rz_nol, rz_clr, List.set_cons_zero, List.set_cons_succ, rz_tr, Nat.reduceAdd, Int.reduceAdd, Int.reduceToNat, Int.reduceSub, Int.reduceNeg, Int.cast_ofNat_Int]
  clear e1
  simp only [nI_clamp (show 7 < 2 ^ 31 by decide), re_fls, rz_up_up]
  refine ⟨vp_in_nI (by decide) (by decide), hK _ _ _ _ ?_⟩
  have e1 : rz_up g7 (a + 8) (.inl (0, 36, .inl (re_fl 8 (-1)))) (a + 8) = some (.inl (0, 36, .inl (re_fl 8 (-1)))) := rz_up_s _ _ _
  refine rn_blk' [(.dup, 1, 0, 0), (.bipush 8, 2, 0, 0), (.iconst (-1), 1, 0, 0), (.iastore, 1, 0, 0)] (by decide +kernel) (by omega) (by omega) (fun K R hK hR => ?_)
  simp only [rw_b8, rw_cm1, ↓rx_bipush, ↓rx_dup, ↓rx_iastore, ↓rx_iconst, ↓rx_nil, ↓ry_iau, ↓ry_rii, ↓ry_v1i, ↓ry_v1r, true_and, ↓rh_ia e1, rz_set, rz_nol, rz_clr, List.set_cons_zero, List.set_cons_succ, rz_tr, Nat.reduceAdd, Int.reduceAdd, Int.reduceToNat, Int.reduceSub, Int.reduceNeg, Int.cast_ofNat_Int]
  clear e1
  simp only [nI_clamp (show 8 < 2 ^ 31 by decide), re_fls, rz_up_up]
  refine ⟨vp_in_nI (by decide) (by decide), hK _ _ _ _ ?_⟩
  have e1 : rz_up g7 (a + 8) (.inl (0, 36, .inl (re_fl 9 (-1)))) (a + 8) = some (.inl (0, 36, .inl (re_fl 9 (-1)))) := rz_up_s _ _ _
  refine rn_blk' [(.dup, 1, 0, 0), (.bipush 9, 2, 0, 0), (.iconst (-1), 1, 0, 0), (.iastore, 1, 0, 0)] (by decide +kernel) (by omega) (by omega) (fun K R hK hR => ?_)
  simp only [rw_b9, rw_cm1, ↓rx_bipush, ↓rx_dup, ↓rx_iastore, ↓rx_iconst, ↓rx_nil, ↓ry_iau, ↓ry_rii, ↓ry_v1i, ↓ry_v1r, true_and, ↓rh_ia e1, rz_set, rz_nol, rz_clr, List.set_cons_zero, List.set_cons_succ, rz_tr, Nat.reduceAdd, Int.reduceAdd, Int.reduceToNat, Int.reduceSub, Int.reduceNeg, Int.cast_ofNat_Int]
  clear e1
  simp only [nI_clamp (show 9 < 2 ^ 31 by decide), re_fls, rz_up_up]
  refine ⟨vp_in_nI (by decide) (by decide), hK _ _ _ _ ?_⟩
  have e1 : rz_up g7 (a + 8) (.inl (0, 36, .inl (re_fl 10 (-1)))) (a + 8) = some (.inl (0, 36, .inl (re_fl 10 (-1)))) := rz_up_s _ _ _
  refine rn_blk' [(.dup, 1, 0, 0), (.bipush 10, 2, 0, 0), (.iconst (-1), 1, 0, 0), (.iastore, 1, 0, 0)] (by decide +kernel) (by omega) (by omega) (fun K R hK hR => ?_)
  simp only [rw_b10, rw_cm1, ↓rx_bipush, ↓rx_dup, ↓rx_iastore, ↓rx_iconst, ↓rx_nil, ↓ry_iau, ↓ry_rii, ↓ry_v1i, ↓ry_v1r, true_and, ↓rh_ia e1, rz_set, rz_nol, rz_clr, List.set_cons_zero, List.set_cons_succ, rz_tr, Nat.reduceAdd, Int.reduceAdd, Int.reduceToNat, Int.reduceSub, Int.reduceNeg, Int.cast_ofNat_Int]
  clear e1
  simp only [nI_clamp (show 10 < 2 ^ 31 by decide), re_fls, rz_up_up]
  refine ⟨vp_in_nI (by decide) (by decide), hK _ _ _ _ ?_⟩
  have e1 : rz_up g7 (a + 8) (.inl (0, 36, .inl (re_fl 11 (-1)))) (a + 8) = some (.inl (0, 36, .inl (re_fl 11 (-1)))) := rz_up_s _ _ _
  refine rn_blk' [(.dup, 1, 0, 0), (.bipush 11, 2, 0, 0), (.iconst (-1), 1, 0, 0), (.iastore, 1, 0, 0)] (by decide +kernel) (by omega) (by omega) (fun K R hK hR => ?_)
  simp only [rw_b11, rw_cm1, ↓rx_bipush, ↓rx_dup, ↓rx_iastore, ↓rx_iconst, ↓rx_nil, ↓ry_iau, ↓ry_rii, ↓ry_v1i, ↓ry_v1r, true_and, ↓rh_ia e1, rz_set, rz_nol, rz_clr, List.set_cons_zero, List.set_cons_succ, rz_tr, Nat.reduceAdd, Int.reduceAdd, Int.reduceToNat, Int.reduceSub, Int.reduceNeg, Int.cast_ofNat_Int]
  clear e1
  simp only [nI_clamp (show 11 < 2 ^ 31 by decide), re_fls, rz_up_up]
  refine ⟨vp_in_nI (by decide) (by decide), hK _ _ _ _ ?_⟩
  have e1 : rz_up g7 (a + 8) (.inl (0, 36, .inl (re_fl 12 (-1)))) (a + 8) = some (.inl (0, 36, .inl (re_fl 12 (-1)))) := rz_up_s _ _ _
  refine rn_blk' [(.dup, 1, 0, 0), (.bipush 12, 2, 0, 0), (.iconst (-1), 1, 0, 0), (.iastore, 1, 0, 0)] (by decide +kernel) (by omega) (by omega) (fun K R hK hR => ?_)
  simp only [rw_b12, rw_cm1, ↓rx_bipush, ↓rx_dup, ↓rx_iastore, ↓rx_iconst, ↓rx_nil, ↓ry_iau, ↓ry_rii, ↓ry_v1i, ↓ry_v1r, true_and, ↓rh_ia e1, rz_set, rz_nol, rz_clr, List.set_cons_zero, List.set_cons_succ, rz_tr, Nat.reduceAdd, Int.reduceAdd, Int.reduceToNat, Int.reduceSub, Int.reduceNeg, Int.cast_ofNat_Int]
  clear e1
  simp only [nI_clamp (show 12 < 2 ^ 31 by decide), re_fls, rz_up_up]
  refine ⟨vp_in_nI (by decide) (by decide), hK _ _ _ _ ?_⟩
  have e1 : rz_up g7 (a + 8) (.inl (0, 36, .inl (re_fl 13 (-1)))) (a + 8) = some (.inl (0, 36, .inl (re_fl 13 (-1)))) := rz_up_s _ _ _
  refine rn_blk' [(.dup, 1, 0, 0), (.bipush 13, 2, 0, 0), (.iconst (-1), 1, 0, 0), (.iastore, 1, 0, 0)] (by decide +kernel) (by omega) (by omega) (fun K R hK hR => ?_)
  simp only [rw_b13, rw_cm1, ↓rx_bipush, ↓rx_dup, ↓rx_iastore, ↓rx_iconst, ↓rx_nil, ↓ry_iau, ↓ry_rii, ↓ry_v1i, ↓ry_v1r, true_and, ↓rh_ia e1, rz_set, rz_nol, rz_clr, List.set_cons_zero, List.set_cons_succ, rz_tr, Nat.reduceAdd, Int.reduceAdd, Int.reduceToNat, Int.reduceSub, Int.reduceNeg, Int.cast_ofNat_Int]
  clear e1
  simp only [nI_clamp (show 13 < 2 ^ 31 by decide), re_fls, rz_up_up]
  refine ⟨vp_in_nI (by decide) (by decide), hK _ _ _ _ ?_⟩
  have e1 : rz_up g7 (a + 8) (.inl (0, 36, .inl (re_fl 14 (-1)))) (a + 8) = some (.inl (0, 36, .inl (re_fl 14 (-1)))) := rz_up_s _ _ _
  refine rn_blk' [(.dup, 1, 0, 0), (.bipush 14, 2, 0, 0), (.iconst (-1), 1, 0, 0), (.iastore, 1, 0, 0)] (by decide +kernel) (by omega) (by omega) (fun K R hK hR => ?_)
  simp only [rw_b14, rw_cm1, ↓rx_bipush, ↓rx_dup, ↓rx_iastore, ↓rx_iconst, ↓rx_nil, ↓ry_iau, ↓ry_rii, ↓ry_v1i, ↓ry_v1r, true_and, ↓rh_ia e1, rz_set, rz_nol, rz_clr, List.set_cons_zero, List.set_cons_succ, rz_tr, Nat.reduceAdd, Int.reduceAdd, Int.reduceToNat, Int.reduceSub, Int.reduceNeg, Int.cast_ofNat_Int]
  clear e1
  simp only [nI_clamp (show 14 < 2 ^ 31 by decide), re_fls, rz_up_up]
  refine ⟨vp_in_nI (by decide) (by decide), hK _ _ _ _ ?_⟩
  have e1 : rz_up g7 (a + 8) (.inl (0, 36, .inl (re_fl 15 (-1)))) (a + 8) = some (.inl (0, 36, .inl (re_fl 15 (-1)))) := rz_up_s _ _ _
  refine rn_blk' [(.dup, 1, 0, 0), (.bipush 15, 2, 0, 0), (.iconst (-1), 1, 0, 0), (.iastore, 1, 0, 0)] (by decide +kernel) (by omega) (by omega) (fun K R hK hR => ?_)
  simp only [rw_b15, rw_cm1, ↓rx_bipush, ↓rx_dup, ↓rx_iastore, ↓rx_iconst, ↓rx_nil, ↓ry_iau, ↓ry_rii, ↓ry_v1i, ↓ry_v1r, true_and, ↓rh_ia e1, rz_set, rz_nol, rz_clr, List.set_cons_zero, List.set_cons_succ, rz_tr, Nat.reduceAdd, Int.reduceAdd, Int.reduceToNat, Int.reduceSub, Int.reduceNeg, Int.cast_ofNat_Int]
  clear e1
  simp only [nI_clamp (show 15 < 2 ^ 31 by decide), re_fls, rz_up_up]
  refine ⟨vp_in_nI (by decide) (by decide), hK _ _ _ _ ?_⟩
  have e1 : rz_up g7 (a + 8) (.inl (0, 36, .inl (re_fl 16 (-1)))) (a + 8) = some (.inl (0, 36, .inl (re_fl 16 (-1)))) := rz_up_s _ _ _
  refine rn_blk' [(.dup, 1, 0, 0), (.bipush 16, 2, 0, 0), (.iconst (-1), 1, 0, 0), (.iastore, 1, 0, 0)] (by decide +kernel) (by omega) (by omega) (fun K R hK hR => ?_)
  simp only [rw_b16, rw_cm1, ↓rx_bipush, ↓rx_dup, ↓rx_iastore, ↓rx_iconst, ↓rx_nil, ↓ry_iau, ↓ry_rii, ↓ry_v1i, ↓ry_v1r, true_and, ↓rh_ia e1, rz_set, rz_nol, rz_clr, List.set_cons_zero, List.set_cons_succ, rz_tr, Nat.reduceAdd, Int.reduceAdd, Int.reduceToNat, Int.reduceSub, Int.reduceNeg, Int.cast_ofNat_Int]
  clear e1
  simp only [nI_clamp (show 16 < 2 ^ 31 by decide), re_fls, rz_up_up]
  refine ⟨vp_in_nI (by decide) (by decide), hK _ _ _ _ ?_⟩
  have e1 : rz_up g7 (a + 8) (.inl (0, 36, .inl (re_fl 17 (-1)))) (a + 8) = some (.inl (0, 36, .inl (re_fl 17 (-1)))) := rz_up_s _ _ _
  refine rn_blk' [(.dup, 1, 0, 0), (.bipush 17, 2, 0, 0), (.iconst (-1), 1, 0, 0), (.iastore, 1, 0, 0)] (by decide +kernel) (by omega) (by omega) (fun K R hK hR => ?_)
  simp only [rw_b17, rw_cm1, ↓rx_bipush, ↓rx_dup, ↓rx_iastore, ↓rx_iconst, ↓rx_nil, ↓ry_iau, ↓ry_rii, ↓ry_v1i, ↓ry_v1r, true_and, ↓rh_ia e1, rz_set, rz_nol, rz_clr, List.set_cons_zero, List.set_cons_succ, rz_tr, Nat.reduceAdd, Int.reduceAdd, Int.reduceToNat, Int.reduceSub, Int.reduceNeg, Int.cast_ofNat_Int]
  clear e1
  simp only [nI_clamp (show 17 < 2 ^ 31 by decide), re_fls, rz_up_up]
  refine ⟨vp_in_nI (by decide) (by decide), hK _ _ _ _ ?_⟩
  have e1 : rz_up g7 (a + 8) (.inl (0, 36, .inl (re_fl 18 (-1)))) (a + 8) = some (.inl (0, 36, .inl (re_fl 18 (-1)))) := rz_up_s _ _ _
  refine rn_blk' [(.dup, 1, 0, 0), (.bipush 18, 2, 0, 0), (.iconst (-1), 1, 0, 0), (.iastore, 1, 0, 0)] (by decide +kernel) (by omega) (by omega) (fun K R hK hR => ?_)
  simp only [rw_b18, rw_cm1, ↓rx_bipush, ↓rx_dup, ↓rx_iastore, ↓rx_iconst, ↓rx_nil, ↓ry_iau, ↓ry_rii, ↓ry_v1i, ↓ry_v1r, true_and, ↓rh_ia e1, rz_set, rz_nol, rz_clr, List.set_cons_zero, List.set_cons_succ, rz_tr, Nat.reduceAdd, Int.reduceAdd, Int.reduceToNat, Int.reduceSub, Int.reduceNeg, Int.cast_ofNat_Int]
  clear e1
  simp only [nI_clamp (show 18 < 2 ^ 31 by decide), re_fls, rz_up_up]
  refine ⟨vp_in_nI (by decide) (by decide), hK _ _ _ _ ?_⟩
  have e1 : rz_up g7 (a + 8) (.inl (0, 36, .inl (re_fl 19 (-1)))) (a + 8) = some (.inl (0, 36, .inl (re_fl 19 (-1)))) := rz_up_s _ _ _
  refine rn_blk' [(.dup, 1, 0, 0), (.bipush 19, 2, 0, 0), (.iconst (-1), 1, 0, 0), (.iastore, 1, 0, 0)] (by decide +kernel) (by omega) (by omega) (fun K R hK hR => ?_)
  simp only [rw_b19, rw_cm1, ↓rx_bipush, ↓rx_dup, ↓rx_iastore, ↓rx_iconst, ↓rx_nil, ↓ry_iau, ↓ry_rii, ↓ry_v1i, ↓ry_v1r, true_and, ↓rh_ia e1, rz_set, rz_nol, rz_clr, List.set_cons_zero, List.set_cons_succ, rz_tr, Nat.reduceAdd, Int.reduceAdd, Int.reduceToNat, Int.reduceSub, Int.reduceNeg, Int.cast_ofNat_Int]
  clear e1
  simp only [nI_clamp (show 19 < 2 ^ 31 by decide), re_fls, rz_up_up]
  refine ⟨vp_in_nI (by decide) (by decide), hK _ _ _ _ ?_⟩
  have e1 : rz_up g7 (a + 8) (.inl (0, 36, .inl (re_fl 20 (-1)))) (a + 8) = some (.inl (0, 36, .inl (re_fl 20 (-1)))) := rz_up_s _ _ _
  refine rn_blk' [(.dup, 1, 0, 0), (.bipush 20, 2, 0, 0), (.iconst (-1), 1, 0, 0), (.iastore, 1, 0, 0)] (by decide +kernel) (by omega) (by omega) (fun K R hK hR => ?_)
  simp only [rw_b20, rw_cm1, ↓rx_bipush, ↓rx_dup, ↓rx_iastore, ↓rx_iconst, ↓rx_nil, ↓ry_iau, ↓ry_rii, ↓ry_v1i, ↓ry_v1r, true_and, ↓rh_ia e1, rz_set, rz_nol, rz_clr, List.set_cons_zero, List.set_cons_succ, rz_tr, Nat.reduceAdd, Int.reduceAdd, Int.reduceToNat, Int.reduceSub, Int.reduceNeg, Int.cast_ofNat_Int]
  clear e1
  simp only [nI_clamp (show 20 < 2 ^ 31 by decide), re_fls, rz_up_up]
  refine ⟨vp_in_nI (by decide) (by decide), hK _ _ _ _ ?_⟩
  have e1 : rz_up g7 (a + 8) (.inl (0, 36, .inl (re_fl 21 (-1)))) (a + 8) = some (.inl (0, 36, .inl (re_fl 21 (-1)))) := rz_up_s _ _ _
  refine rn_blk' [(.dup, 1, 0, 0), (.bipush 21, 2, 0, 0), (.iconst (-1), 1, 0, 0), (.iastore, 1, 0, 0)] (by decide +kernel) (by omega) (by omega) (fun K R hK hR => ?_)
  simp only [rw_b21, rw_cm1, ↓rx_bipush, ↓rx_dup, ↓rx_iastore, ↓rx_iconst, ↓rx_nil, ↓ry_iau, ↓ry_rii, ↓ry_v1i, ↓ry_v1r, true_and, ↓rh_ia e1, rz_set, rz_nol, rz_clr, List.set_cons_zero, List.set_cons_succ, rz_tr, Nat.reduceAdd, Int.reduceAdd, Int.reduceToNat, Int.reduceSub, Int.reduceNeg, Int.cast_ofNat_Int]
  clear e1
  simp only [nI_clamp (show 21 < 2 ^ 31 by decide), re_fls, rz_up_up]
  refine ⟨vp_in_nI (by decide) (by decide), hK _ _ _ _ ?_⟩
  have e1 : rz_up g7 (a + 8) (.inl (0, 36, .inl (re_fl 22 (-1)))) (a + 8) = some (.inl (0, 36, .inl (re_fl 22 (-1)))) := rz_up_s _ _ _
  refine rn_blk' [(.dup, 1, 0, 0), (.bipush 22, 2, 0, 0), (.iconst (-1), 1, 0, 0), (.iastore, 1, 0, 0)] (by decide +kernel) (by omega) (by omega) (fun K R hK hR => ?_)
  simp only [rw_b22, rw_cm1, ↓rx_bipush, ↓rx_dup, ↓rx_iastore, ↓rx_iconst, ↓rx_nil, ↓ry_iau, ↓ry_rii, ↓ry_v1i, ↓ry_v1r, true_and, ↓rh_ia e1, rz_set, rz_nol, rz_clr, List.set_cons_zero, List.set_cons_succ, rz_tr, Nat.reduceAdd, Int.reduceAdd, Int.reduceToNat, Int.reduceSub, Int.reduceNeg, Int.cast_ofNat_Int]
  clear e1
  simp only [nI_clamp (show 22 < 2 ^ 31 by decide), re_fls, rz_up_up]
  refine ⟨vp_in_nI (by decide) (by decide), hK _ _ _ _ ?_⟩
  have e1 : rz_up g7 (a + 8) (.inl (0, 36, .inl (re_fl 23 (-1)))) (a + 8) = some (.inl (0, 36, .inl (re_fl 23 (-1)))) := rz_up_s _ _ _
  refine rn_blk' [(.dup, 1, 0, 0), (.bipush 23, 2, 0, 0), (.iconst (-1), 1, 0, 0), (.iastore, 1, 0, 0)] (by decide +kernel) (by omega) (by omega) (fun K R hK hR => ?_)
  simp only [rw_b23, rw_cm1, ↓rx_bipush, ↓rx_dup, ↓rx_iastore, ↓rx_iconst, ↓rx_nil, ↓ry_iau, ↓ry_rii, ↓ry_v1i, ↓ry_v1r, true_and, ↓rh_ia e1, rz_set, rz_nol, rz_clr, List.set_cons_zero, List.set_cons_succ, rz_tr, Nat.reduceAdd, Int.reduceAdd, Int.reduceToNat, Int.reduceSub, Int.reduceNeg, Int.cast_ofNat_Int]
  clear e1
  simp only [nI_clamp (show 23 < 2 ^ 31 by decide), re_fls, rz_up_up]
  refine ⟨vp_in_nI (by decide) (by decide), hK _ _ _ _ ?_⟩
  have e1 : rz_up g7 (a + 8) (.inl (0, 36, .inl (re_fl 24 (-1)))) (a + 8) = some (.inl (0, 36, .inl (re_fl 24 (-1)))) := rz_up_s _ _ _
  refine rn_blk' [(.dup, 1, 0, 0), (.bipush 24, 2, 0, 0), (.iconst (-1), 1, 0, 0), (.iastore, 1, 0, 0)] (by decide +kernel) (by omega) (by omega) (fun K R hK hR => ?_)
  simp only [rw_b24, rw_cm1, ↓rx_bipush, ↓rx_dup, ↓rx_iastore, ↓rx_iconst, ↓rx_nil, ↓ry_iau, ↓ry_rii, ↓ry_v1i, ↓ry_v1r, true_and, ↓rh_ia e1, rz_set, rz_nol, rz_clr, List.set_cons_zero, List.set_cons_succ, rz_tr, Nat.reduceAdd, Int.reduceAdd, Int.reduceToNat, Int.reduceSub, Int.reduceNeg, Int.cast_ofNat_Int]
  clear e1
  simp only [nI_clamp (show 24 < 2 ^ 31 by decide), re_fls, rz_up_up]
  refine ⟨vp_in_nI (by decide) (by decide), hK _ _ _ _ ?_⟩
  have e1 : rz_up g7 (a + 8) (.inl (0, 36, .inl (re_fl 25 (-1)))) (a + 8) = some (.inl (0, 36, .inl (re_fl 25 (-1)))) := rz_up_s _ _ _
  refine rn_blk' [(.dup, 1, 0, 0), (.bipush 25, 2, 0, 0), (.iconst (-1), 1, 0, 0), (.iastore, 1, 0, 0)] (by decide +kernel) (by omega) (by omega) (fun K R hK hR => ?_)
  simp only [rw_b25, rw_cm1, ↓rx_bipush, ↓rx_dup, ↓rx_iastore, ↓rx_iconst, ↓rx_nil, ↓ry_iau, ↓ry_rii, ↓ry_v1i, ↓ry_v1r, true_and, ↓rh_ia e1, rz_set, rz_nol, rz_clr, List.set_cons_zero, List.set_cons_succ, rz_tr, Nat.reduceAdd, Int.reduceAdd, Int.reduceToNat, Int.reduceSub, Int.reduceNeg, Int.cast_ofNat_Int]
  clear e1
  simp only [nI_clamp (show 25 < 2 ^ 31 by decide), re_fls, rz_up_up]
  refine ⟨vp_in_nI (by decide) (by decide), hK _ _ _ _ ?_⟩
  have e1 : rz_up g7 (a + 8) (.inl (0, 36, .inl (re_fl 26 (-1)))) (a + 8) = some (.inl (0, 36, .inl (re_fl 26 (-1)))) := rz_up_s _ _ _
  refine rn_blk' [(.dup, 1, 0, 0), (.bipush 26, 2, 0, 0), (.iconst (-1), 1, 0, 0), (.iastore, 1, 0, 0)] (by decide +kernel) (by omega) (by omega) (fun K R hK hR => ?_)
  simp only [rw_b26, rw_cm1, ↓rx_bipush, ↓rx_dup, ↓rx_iastore, ↓rx_iconst, ↓rx_nil, ↓ry_iau, ↓ry_rii, ↓ry_v1i, ↓ry_v1r, true_and, ↓rh_ia e1, rz_set, rz_nol, rz_clr, List.set_cons_zero, List.set_cons_succ, rz_tr, Nat.reduceAdd, Int.reduceAdd, Int.reduceToNat, Int.reduceSub, Int.reduceNeg, Int.cast_ofNat_Int]
  clear e1
  simp only [nI_clamp (show 26 < 2 ^ 31 by decide), re_fls, rz_up_up]
  refine ⟨vp_in_nI (by decide) (by decide), hK _ _ _ _ ?_⟩
  have e1 : rz_up g7 (a + 8) (.inl (0, 36, .inl (re_fl 27 (-1)))) (a + 8) = some (.inl (0, 36, .inl (re_fl 27 (-1)))) := rz_up_s _ _ _
  refine rn_blk' [(.dup, 1, 0, 0), (.bipush 27, 2, 0, 0), (.iconst (-1), 1, 0, 0), (.iastore, 1, 0, 0)] (by decide +kernel) (by omega) (by omega) (fun K R hK hR => ?_)
  simp only [rw_b27, rw_cm1, ↓rx_bipush, ↓rx_dup, ↓rx_iastore, ↓rx_iconst, ↓rx_nil, ↓ry_iau, ↓ry_rii, ↓ry_v1i, ↓ry_v1r, true_and, ↓rh_ia e1, rz_set, rz_nol, rz_clr, List.set_cons_zero, List.set_cons_succ, rz_tr, Nat.reduceAdd, Int.reduceAdd, Int.reduceToNat, Int.reduceSub, Int.reduceNeg, Int.cast_ofNat_Int]
  clear e1
  simp only [nI_clamp (show 27 < 2 ^ 31 by decide), re_fls, rz_up_up]
  refine ⟨vp_in_nI (by decide) (by decide), hK _ _ _ _ ?_⟩
  have e1 : rz_up g7 (a + 8) (.inl (0, 36, .inl (re_fl 28 (-1)))) (a + 8) = some (.inl (0, 36, .inl (re_fl 28 (-1)))) := rz_up_s _ _ _
  refine rn_blk' [(.dup, 1, 0, 0), (.bipush 28, 2, 0, 0), (.iconst (-1), 1, 0, 0), (.iastore, 1, 0, 0)] (by decide +kernel) (by omega) (by omega) (fun K R hK hR => ?_)
  simp only [rw_b28, rw_cm1, ↓rx_bipush, ↓rx_dup, ↓rx_iastore, ↓rx_iconst, ↓rx_nil, ↓ry_iau, ↓ry_rii, ↓ry_v1i, ↓ry_v1r, true_and, ↓rh_ia e1, rz_set, rz_nol, rz_clr, List.set_cons_zero, List.set_cons_succ, rz_tr, Nat.reduceAdd, Int.reduceAdd, Int.reduceToNat, Int.reduceSub, Int.reduceNeg, Int.cast_ofNat_Int]
  clear e1
  simp only [nI_clamp (show 28 < 2 ^ 31 by decide), re_fls, rz_up_up]
  refine ⟨vp_in_nI (by decide) (by decide), hK _ _ _ _ ?_⟩
  have e1 : rz_up g7 (a + 8) (.inl (0, 36, .inl (re_fl 29 (-1)))) (a + 8) = some (.inl (0, 36, .inl (re_fl 29 (-1)))) := rz_up_s _ _ _
  refine rn_blk' [(.dup, 1, 0, 0), (.bipush 29, 2, 0, 0), (.iconst (-1), 1, 0, 0), (.iastore, 1, 0, 0)] (by decide +kernel) (by omega) (by omega) (fun K R hK hR => ?_)
  simp only [rw_b29, rw_cm1, ↓rx_bipush, ↓rx_dup, ↓rx_iastore, ↓rx_iconst, ↓rx_nil, ↓ry_iau, ↓ry_rii, ↓ry_v1i, ↓ry_v1r, true_and, ↓rh_ia e1, rz_set, rz_nol, rz_clr, List.set_cons_zero, List.set_cons_succ, rz_tr, Nat.reduceAdd, Int.reduceAdd, Int.reduceToNat, Int.reduceSub, Int.reduceNeg, Int.cast_ofNat_Int]
  clear e1
  simp only [nI_clamp (show 29 < 2 ^ 31 by decide), re_fls, rz_up_up]
  refine ⟨vp_in_nI (by decide) (by decide), hK _ _ _ _ ?_⟩
  have e1 : rz_up g7 (a + 8) (.inl (0, 36, .inl (re_fl 30 (-1)))) (a + 8) = some (.inl (0, 36, .inl (re_fl 30 (-1)))) := rz_up_s _ _ _
  refine rn_blk' [(.dup, 1, 0, 0), (.bipush 30, 2, 0, 0), (.iconst (-1), 1, 0, 0), (.iastore, 1, 0, 0)] (by decide +kernel) (by omega) (by omega) (fun K R hK hR => ?_)
  simp only [rw_b30, rw_cm1, ↓rx_bipush, ↓rx_dup, ↓rx_iastore, ↓rx_iconst, ↓rx_nil, ↓ry_iau, ↓ry_rii, ↓ry_v1i, ↓ry_v1r, true_and, ↓rh_ia e1, rz_set, rz_nol, rz_clr, List.set_cons_zero, List.set_cons_succ, rz_tr, Nat.reduceAdd, Int.reduceAdd, Int.reduceToNat, Int.reduceSub, Int.reduceNeg, Int.cast_ofNat_Int]
  clear e1
  simp only [nI_clamp (show 30 < 2 ^ 31 by decide), re_fls, rz_up_up]
  refine ⟨vp_in_nI (by decide) (by decide), hK _ _ _ _ ?_⟩
  have e1 : rz_up g7 (a + 8) (.inl (0, 36, .inl (re_fl 31 (-1)))) (a + 8) = some (.inl (0, 36, .inl (re_fl 31 (-1)))) := rz_up_s _ _ _
  refine rn_blk' [(.dup, 1, 0, 0), (.bipush 31, 2, 0, 0), (.iconst (-1), 1, 0, 0), (.iastore, 1, 0, 0)] (by decide +kernel) (by omega) (by omega) (fun K R hK hR => ?_)
  simp only [rw_b31, rw_cm1, ↓rx_bipush, ↓rx_dup, ↓rx_iastore, ↓rx_iconst, ↓rx_nil, ↓ry_iau, ↓ry_rii, ↓ry_v1i, ↓ry_v1r, true_and, ↓rh_ia e1, rz_set, rz_nol, rz_clr, List.set_cons_zero, List.set_cons_succ, rz_tr, Nat.reduceAdd, Int.reduceAdd, Int.reduceToNat, Int.reduceSub, Int.reduceNeg, Int.cast_ofNat_Int]
  clear e1
  simp only [nI_clamp (show 31 < 2 ^ 31 by decide), re_fls, rz_up_up]
  refine ⟨vp_in_nI (by decide) (by decide), hK _ _ _ _ ?_⟩
  have e1 : rz_up g7 (a + 8) (.inl (0, 36, .inl (re_fl 32 (-1)))) (a + 8) = some (.inl (0, 36, .inl (re_fl 32 (-1)))) := rz_up_s _ _ _
  refine rn_blk' [(.dup, 1, 0, 0), (.bipush 32, 2, 0, 0), (.iconst (-1), 1, 0, 0), (.iastore, 1, 0, 0)] (by decide +kernel) (by omega) (by omega) (fun K R hK hR => ?_)
  simp only [rw_b32, rw_cm1, ↓rx_bipush, ↓rx_dup, ↓rx_iastore, ↓rx_iconst, ↓rx_nil, ↓ry_iau, ↓ry_rii, ↓ry_v1i, ↓ry_v1r, true_and, ↓rh_ia e1, rz_set, rz_nol, rz_clr, List.set_cons_zero, List.set_cons_succ, rz_tr, Nat.reduceAdd, Int.reduceAdd, Int.reduceToNat, Int.reduceSub, Int.reduceNeg, Int.cast_ofNat_Int]
  clear e1
  simp only [nI_clamp (show 32 < 2 ^ 31 by decide), re_fls, rz_up_up]
  refine ⟨vp_in_nI (by decide) (by decide), hK _ _ _ _ ?_⟩
  have e1 : rz_up g7 (a + 8) (.inl (0, 36, .inl (re_fl 33 (-1)))) (a + 8) = some (.inl (0, 36, .inl (re_fl 33 (-1)))) := rz_up_s _ _ _
  refine rn_blk' [(.dup, 1, 0, 0), (.bipush 33, 2, 0, 0), (.iconst (-1), 1, 0, 0), (.iastore, 1, 0, 0)] (by decide +kernel) (by omega) (by omega) (fun K R hK hR => ?_)
  simp only [rw_b33, rw_cm1, ↓rx_bipush, ↓rx_dup, ↓rx_iastore, ↓rx_iconst, ↓rx_nil, ↓ry_iau, ↓ry_rii, ↓ry_v1i, ↓ry_v1r, true_and, ↓rh_ia e1, rz_set, rz_nol, rz_clr, List.set_cons_zero, List.set_cons_succ, rz_tr, Nat.reduceAdd, Int.reduceAdd, Int.reduceToNat, Int.reduceSub, Int.reduceNeg, Int.cast_ofNat_Int]
  clear e1
  simp only [nI_clamp (show 33 < 2 ^ 31 by decide), re_fls, rz_up_up]
  refine ⟨vp_in_nI (by decide) (by decide), hK _ _ _ _ ?_⟩
  have e1 : rz_up g7 (a + 8) (.inl (0, 36, .inl (re_fl 34 (-1)))) (a + 8) = some (.inl (0, 36, .inl (re_fl 34 (-1)))) := rz_up_s _ _ _
  refine rn_blk' [(.dup, 1, 0, 0), (.bipush 34, 2, 0, 0), (.iconst (-1), 1, 0, 0), (.iastore, 1, 0, 0)] (by decide +kernel) (by omega) (by omega) (fun K R hK hR => ?_)
  simp only [rw_b34, rw_cm1, ↓rx_bipush, ↓rx_dup, ↓rx_iastore, ↓rx_iconst, ↓rx_nil, ↓ry_iau, ↓ry_rii, ↓ry_v1i, ↓ry_v1r, true_and, ↓rh_ia e1, rz_set, rz_nol, rz_clr, List.set_cons_zero, List.set_cons_succ, rz_tr, Nat.reduceAdd, Int.reduceAdd, Int.reduceToNat, Int.reduceSub, Int.reduceNeg, Int.cast_ofNat_Int]
  clear e1
  simp only [nI_clamp (show 34 < 2 ^ 31 by decide), re_fls, rz_up_up]
  refine ⟨vp_in_nI (by decide) (by decide), hK _ _ _ _ ?_⟩
  have e1 : rz_up g7 (a + 8) (.inl (0, 36, .inl (re_fl 35 (-1)))) (a + 8) = some (.inl (0, 36, .inl (re_fl 35 (-1)))) := rz_up_s _ _ _
  refine rn_blk' [(.dup, 1, 0, 0), (.bipush 35, 2, 0, 0), (.iconst (-1), 1, 0, 0), (.iastore, 1, 0, 0)] (by decide +kernel) (by omega) (by omega) (fun K R hK hR => ?_)
  simp only [rw_b35, rw_cm1, ↓rx_bipush, ↓rx_dup, ↓rx_iastore, ↓rx_iconst, ↓rx_nil, ↓ry_iau, ↓ry_rii, ↓ry_v1i, ↓ry_v1r, true_and, ↓rh_ia e1, rz_set, rz_nol, rz_clr, List.set_cons_zero, List.set_cons_succ, rz_tr, Nat.reduceAdd, Int.reduceAdd, Int.reduceToNat, Int.reduceSub, Int.reduceNeg, Int.cast_ofNat_Int]
  clear e1
  simp only [nI_clamp (show 35 < 2 ^ 31 by decide), re_fls, rz_up_up]
  refine ⟨vp_in_nI (by decide) (by decide), hK _ _ _ _ ?_⟩
  have e1 : rz_up g7 (a + 8) (.inl (0, 36, .inl (re_fl 36 (-1)))) a = some (.inr (10, [.int 0, .ref (a + 1), .ref (a + 2), .ref (a + 3), .ref (a + 4), .ref (a + 5), .ref (a + 6), .ref (a + 7), .null, .null, .null, .null, .int 0, .null, .null, .null, .null, .null, .null, .null, .null, .null, .null, .null, .null, .null, .int 0, .int 0, .null, .null, .int 0, .null, .null, .null, .null, .null, .null, .null, .int 0, .null, .null, .int 0, .int 0, .null, .null, .null, .int 0, .int 0, .null, .null, .int 0, .int 0, .null, .null, .null, .null, .null, .null, .int 0, .null, .null, .null, .null, .null, .int 0, .null, .null, .int 0, .int 0, .int 0, .null, .null, .null, .null, .null, .null, .int 0, .null, .null, .null, .null, .null])) := by rw [rz_up_n _ _ (by omega)]; exact hob
  refine rn_blk' [(.putfield 31, 3, 10, 8)] (by decide +kernel) (by omega) (by omega) (fun K R hK hR => ?_)
  simp only [List.length_cons, List.length_nil, Nat.reduceLT, rf_10_8, ↓rx_nil, ↓rx_putfield, ↓ry_obu, ↓ry_vr, true_and, ↓rh_ob e1, rz_set, rz_nol, rz_clr, List.set_cons_zero, List.set_cons_succ, rz_tr, Nat.reduceAdd, Int.reduceAdd, Int.reduceToNat, Int.reduceSub, Int.reduceNeg, Int.cast_ofNat_Int]
  refine hK _ _ _ _ ?_
  clear e1
  generalize hg : rz_up (rz_up g7 (a + 8) _) a _ = g8
  have hst : ∀ x, x ≠ a → x < a + 8 → g8 x = g7 x := fun x h1 h2 => by rw [← hg, rz_up_n _ _ h1, rz_up_n _ _ (by omega)]
  have hob : g8 a = some (.inr (10, [.int 0, .ref (a + 1), .ref (a + 2), .ref (a + 3), .ref (a + 4), .ref (a + 5), .ref (a + 6), .ref (a + 7), .ref (a + 8), .null, .null, .null, .int 0, .null, .null, .null, .null, .null, .null, .null, .null, .null, .null, .null, .null, .null, .int 0, .int 0, .null, .null, .int 0, .null, .null, .null, .null, .null, .null, .null, .int 0, .null, .null, .int 0, .int 0, .null, .null, .null, .int 0, .int 0, .null, .null, .int 0, .int 0, .null, .null, .null, .null, .null, .null, .int 0, .null, .null, .null, .null, .null, .int 0, .null, .null, .int 0, .int 0, .int 0, .null, .null, .null, .null, .null, .null, .int 0, .null, .null, .null, .null, .null])) := by rw [← hg, rz_up_s]
  have hfr : ∀ x, x < a → g8 x = G x := fun x hx => (hst x (by omega) (by omega)).trans (hfr x hx)
  have hn8 : g8 (a + 8) = some (.inl (0, 36, .inl (re_fl 36 (-1)))) := by rw [← hg, rz_up_n _ _ (by omega), rz_up_s]
  have hce : ∀ o, 1 ≤ o → o < 9 → (True) → g8 (a + o) = some (re_cell a re_I0 re_A0 o) := fun o h1 h2 h3 => by
    by_cases c : o < 8
    · exact (hst _ (by omega) (by omega)).trans (hce o h1 c h3)
    by_cases c8 : o = 8
    · subst c8; exact hn8
    omega
  clear hg hst hn8
  refine rn_blk' [(.aload_n 0, 1, 0, 0), (.bipush 108, 2, 0, 0)] (by decide +kernel) (by omega) (by omega) (fun K R hK hR => ?_)
  simp only [rw_b108, ↓rx_aload_n0, ↓rx_bipush, ↓rx_nil, ↓ry_lr0s, ↓ry_lr0z, rz_set, rz_nol, rz_clr, List.set_cons_zero, List.set_cons_succ, rz_tr, Nat.reduceAdd, Int.reduceAdd, Int.reduceToNat, Int.reduceSub, Int.reduceNeg, Int.cast_ofNat_Int]
  refine hK _ _ _ _ ?_
  refine rn_na_i (N := 108) (by decide) (by decide +kernel) (Or.inr ⟨a + 8, rfl, by rw [hce 8 (by decide) (by decide) trivial]; simp⟩) (by decide) (by decide) ?_
  change rn_T w _ _ _ _ 9 1164 _ _ (.ref (a + 9) :: _) (rz_up g8 (a + 9) _) _
  have e1 : rz_up g8 (a + 9) (.inl (0, 108, .inl (fun _ => 0))) a = some (.inr (10, [.int 0, .ref (a + 1), .ref (a + 2), .ref (a + 3), .ref (a + 4), .ref (a + 5), .ref (a + 6), .ref (a + 7), .ref (a + 8), .null, .null, .null, .int 0, .null, .null, .null, .null, .null, .null, .null, .null, .null, .null, .null, .null, .null, .int 0, .int 0, .null, .null, .int 0, .null, .null, .null, .null, .null, .null, .null, .int 0, .null, .null, .int 0, .int 0, .null, .null, .null, .int 0, .int 0, .null, .null, .int 0, .int 0, .null, .null, .null, .null, .null, .null, .int 0, .null, .null, .null, .null, .null, .int 0, .null, .null, .int 0, .int 0, .int 0, .null, .null, .null, .null, .null, .null, .int 0, .null, .null, .null, .null, .null])) := by rw [rz_up_n _ _ (by omega)]; exact hob
  refine rn_blk' [(.putfield 34, 3, 10, 9)] (by decide +kernel) (by omega) (by omega) (fun K R hK hR => ?_)
  simp only [List.length_cons, List.length_nil, Nat.reduceLT, rf_10_9, ↓rx_nil, ↓rx_putfield, ↓ry_obu, ↓ry_vr, true_and, ↓rh_ob e1, rz_set, rz_nol, rz_clr, List.set_cons_zero, List.set_cons_succ, rz_tr, Nat.reduceAdd, Int.reduceAdd, Int.reduceToNat, Int.reduceSub, Int.reduceNeg, Int.cast_ofNat_Int]
  refine hK _ _ _ _ ?_
  clear e1
  generalize hg : rz_up (rz_up g8 (a + 9) _) a _ = g9
  have hst : ∀ x, x ≠ a → x < a + 9 → g9 x = g8 x := fun x h1 h2 => by rw [← hg, rz_up_n _ _ h1, rz_up_n _ _ (by omega)]
  have hob : g9 a = some (.inr (10, [.int 0, .ref (a + 1), .ref (a + 2), .ref (a + 3), .ref (a + 4), .ref (a + 5), .ref (a + 6), .ref (a + 7), .ref (a + 8), .ref (a + 9), .null, .null, .int 0, .null, .null, .null, .null, .null, .null, .null, .null, .null, .null, .null, .null, .null, .int 0, .int 0, .null, .null, .int 0, .null, .null, .null, .null, .null, .null, .null, .int 0, .null, .null, .int 0, .int 0, .null, .null, .null, .int 0, .int 0, .null, .null, .int 0, .int 0, .null, .null, .null, .null, .null, .null, .int 0, .null, .null, .null, .null, .null, .int 0, .null, .null, .int 0, .int 0, .int 0, .null, .null, .null, .null, .null, .null, .int 0, .null, .null, .null, .null, .null])) := by rw [← hg, rz_up_s]
  have hfr : ∀ x, x < a → g9 x = G x := fun x hx => (hst x (by omega) (by omega)).trans (hfr x hx)
  have hn9 : g9 (a + 9) = some (.inl (0, 108, .inl (fun _ => 0))) := by rw [← hg, rz_up_n _ _ (by omega), rz_up_s]
  have hce : ∀ o, 1 ≤ o → o < 10 → (True) → g9 (a + o) = some (re_cell a re_I0 re_A0 o) := fun o h1 h2 h3 => by
    by_cases c : o < 9
    · exact (hst _ (by omega) (by omega)).trans (hce o h1 c h3)
    by_cases c9 : o = 9
    · subst c9; exact hn9
    omega
  clear hg hst hn9
  refine rn_blk' [(.aload_n 0, 1, 0, 0), (.bipush 6, 2, 0, 0)] (by decide +kernel) (by omega) (by omega) (fun K R hK hR => ?_)
  simp only [rw_b6, ↓rx_aload_n0, ↓rx_bipush, ↓rx_nil, ↓ry_lr0s, ↓ry_lr0z, rz_set, rz_nol, rz_clr, List.set_cons_zero, List.set_cons_succ, rz_tr, Nat.reduceAdd, Int.reduceAdd, Int.reduceToNat, Int.reduceSub, Int.reduceNeg, Int.cast_ofNat_Int]
  refine hK _ _ _ _ ?_
  refine rn_na_i (N := 6) (by decide) (by decide +kernel) (Or.inr ⟨a + 9, rfl, by rw [hce 9 (by decide) (by decide) trivial]; simp⟩) (by decide) (by decide) ?_
  change rn_T w _ _ _ _ 10 1170 _ _ (.ref (a + 10) :: _) (rz_up g9 (a + 10) _) _
  have e1 : rz_up g9 (a + 10) (.inl (0, 6, .inl (fun _ => 0))) a = some (.inr (10, [.int 0, .ref (a + 1), .ref (a + 2), .ref (a + 3), .ref (a + 4), .ref (a + 5), .ref (a + 6), .ref (a + 7), .ref (a + 8), .ref (a + 9), .null, .null, .int 0, .null, .null, .null, .null, .null, .null, .null, .null, .null, .null, .null, .null, .null, .int 0, .int 0, .null, .null, .int 0, .null, .null, .null, .null, .null, .null, .null, .int 0, .null, .null, .int 0, .int 0, .null, .null, .null, .int 0, .int 0, .null, .null, .int 0, .int 0, .null, .null, .null, .null, .null, .null, .int 0, .null, .null, .null, .null, .null, .int 0, .null, .null, .int 0, .int 0, .int 0, .null, .null, .null, .null, .null, .null, .int 0, .null, .null, .null, .null, .null])) := by rw [rz_up_n _ _ (by omega)]; exact hob
  refine rn_blk' [(.putfield 37, 3, 10, 10)] (by decide +kernel) (by omega) (by omega) (fun K R hK hR => ?_)
  simp only [List.length_cons, List.length_nil, Nat.reduceLT, rf_10_10, ↓rx_nil, ↓rx_putfield, ↓ry_obu, ↓ry_vr, true_and, ↓rh_ob e1, rz_set, rz_nol, rz_clr, List.set_cons_zero, List.set_cons_succ, rz_tr, Nat.reduceAdd, Int.reduceAdd, Int.reduceToNat, Int.reduceSub, Int.reduceNeg, Int.cast_ofNat_Int]
  refine hK _ _ _ _ ?_
  clear e1
  generalize hg : rz_up (rz_up g9 (a + 10) _) a _ = g10
  have hst : ∀ x, x ≠ a → x < a + 10 → g10 x = g9 x := fun x h1 h2 => by rw [← hg, rz_up_n _ _ h1, rz_up_n _ _ (by omega)]
  have hob : g10 a = some (.inr (10, [.int 0, .ref (a + 1), .ref (a + 2), .ref (a + 3), .ref (a + 4), .ref (a + 5), .ref (a + 6), .ref (a + 7), .ref (a + 8), .ref (a + 9), .ref (a + 10), .null, .int 0, .null, .null, .null, .null, .null, .null, .null, .null, .null, .null, .null, .null, .null, .int 0, .int 0, .null, .null, .int 0, .null, .null, .null, .null, .null, .null, .null, .int 0, .null, .null, .int 0, .int 0, .null, .null, .null, .int 0, .int 0, .null, .null, .int 0, .int 0, .null, .null, .null, .null, .null, .null, .int 0, .null, .null, .null, .null, .null, .int 0, .null, .null, .int 0, .int 0, .int 0, .null, .null, .null, .null, .null, .null, .int 0, .null, .null, .null, .null, .null])) := by rw [← hg, rz_up_s]
  have hfr : ∀ x, x < a → g10 x = G x := fun x hx => (hst x (by omega) (by omega)).trans (hfr x hx)
  have hn10 : g10 (a + 10) = some (.inl (0, 6, .inl (fun _ => 0))) := by rw [← hg, rz_up_n _ _ (by omega), rz_up_s]
  have hce : ∀ o, 1 ≤ o → o < 11 → (True) → g10 (a + o) = some (re_cell a re_I0 re_A0 o) := fun o h1 h2 h3 => by
    by_cases c : o < 10
    · exact (hst _ (by omega) (by omega)).trans (hce o h1 c h3)
    by_cases c10 : o = 10
    · subst c10; exact hn10
    omega
  clear hg hst hn10
  refine rn_blk' [(.aload_n 0, 1, 0, 0), (.bipush 18, 2, 0, 0)] (by decide +kernel) (by omega) (by omega) (fun K R hK hR => ?_)
  simp only [rw_b18, ↓rx_aload_n0, ↓rx_bipush, ↓rx_nil, ↓ry_lr0s, ↓ry_lr0z, rz_set, rz_nol, rz_clr, List.set_cons_zero, List.set_cons_succ, rz_tr, Nat.reduceAdd, Int.reduceAdd, Int.reduceToNat, Int.reduceSub, Int.reduceNeg, Int.cast_ofNat_Int]
  refine hK _ _ _ _ ?_
  refine rn_na_i (N := 18) (by decide) (by decide +kernel) (Or.inr ⟨a + 10, rfl, by rw [hce 10 (by decide) (by decide) trivial]; simp⟩) (by decide) (by decide) ?_
  change rn_T w _ _ _ _ 11 1188 _ _ (.ref (a + 11) :: _) (rz_up g10 (a + 11) _) _
  have e1 : rz_up g10 (a + 11) (.inl (0, 18, .inl (fun _ => 0))) a = some (.inr (10, [.int 0, .ref (a + 1), .ref (a + 2), .ref (a + 3), .ref (a + 4), .ref (a + 5), .ref (a + 6), .ref (a + 7), .ref (a + 8), .ref (a + 9), .ref (a + 10), .null, .int 0, .null, .null, .null, .null, .null, .null, .null, .null, .null, .null, .null, .null, .null, .int 0, .int 0, .null, .null, .int 0, .null, .null, .null, .null, .null, .null, .null, .int 0, .null, .null, .int 0, .int 0, .null, .null, .null, .int 0, .int 0, .null, .null, .int 0, .int 0, .null, .null, .null, .null, .null, .null, .int 0, .null, .null, .null, .null, .null, .int 0, .null, .null, .int 0, .int 0, .int 0, .null, .null, .null, .null, .null, .null, .int 0, .null, .null, .null, .null, .null])) := by rw [rz_up_n _ _ (by omega)]; exact hob
  refine rn_blk' [(.putfield 40, 3, 10, 11)] (by decide +kernel) (by omega) (by omega) (fun K R hK hR => ?_)
  simp only [List.length_cons, List.length_nil, Nat.reduceLT, rf_10_11, ↓rx_nil, ↓rx_putfield, ↓ry_obu, ↓ry_vr, true_and, ↓rh_ob e1, rz_set, rz_nol, rz_clr, List.set_cons_zero, List.set_cons_succ, rz_tr, Nat.reduceAdd, Int.reduceAdd, Int.reduceToNat, Int.reduceSub, Int.reduceNeg, Int.cast_ofNat_Int]
  refine hK _ _ _ _ ?_
  clear e1
  generalize hg : rz_up (rz_up g10 (a + 11) _) a _ = g11
  have hst : ∀ x, x ≠ a → x < a + 11 → g11 x = g10 x := fun x h1 h2 => by rw [← hg, rz_up_n _ _ h1, rz_up_n _ _ (by omega)]
  have hob : g11 a = some (.inr (10, [.int 0, .ref (a + 1), .ref (a + 2), .ref (a + 3), .ref (a + 4), .ref (a + 5), .ref (a + 6), .ref (a + 7), .ref (a + 8), .ref (a + 9), .ref (a + 10), .ref (a + 11), .int 0, .null, .null, .null, .null, .null, .null, .null, .null, .null, .null, .null, .null, .null, .int 0, .int 0, .null, .null, .int 0, .null, .null, .null, .null, .null, .null, .null, .int 0, .null, .null, .int 0, .int 0, .null, .null, .null, .int 0, .int 0, .null, .null, .int 0, .int 0, .null, .null, .null, .null, .null, .null, .int 0, .null, .null, .null, .null, .null, .int 0, .null, .null, .int 0, .int 0, .int 0, .null, .null, .null, .null, .null, .null, .int 0, .null, .null, .null, .null, .null])) := by rw [← hg, rz_up_s]
  have hfr : ∀ x, x < a → g11 x = G x := fun x hx => (hst x (by omega) (by omega)).trans (hfr x hx)
  have hn11 : g11 (a + 11) = some (.inl (0, 18, .inl (fun _ => 0))) := by rw [← hg, rz_up_n _ _ (by omega), rz_up_s]
  have hce : ∀ o, 1 ≤ o → o < 12 → (True) → g11 (a + o) = some (re_cell a re_I0 re_A0 o) := fun o h1 h2 h3 => by
    by_cases c : o < 11
    · exact (hst _ (by omega) (by omega)).trans (hce o h1 c h3)
    by_cases c11 : o = 11
    · subst c11; exact hn11
    omega
  clear hg hst hn11
  refine rn_blk' [(.aload_n 0, 1, 0, 0), (.sipush 4096, 3, 0, 0)] (by decide +kernel) (by omega) (by omega) (fun K R hK hR => ?_)
  simp only [rw_s4096, ↓rx_aload_n0, ↓rx_nil, ↓rx_sipush, ↓ry_lr0s, ↓ry_lr0z, rz_set, rz_nol, rz_clr, List.set_cons_zero, List.set_cons_succ, rz_tr, Nat.reduceAdd, Int.reduceAdd, Int.reduceToNat, Int.reduceSub, Int.reduceNeg, Int.cast_ofNat_Int]
  refine hK _ _ _ _ ?_
  refine rn_na_i (N := 4096) (by decide) (by decide +kernel) (Or.inr ⟨a + 11, rfl, by rw [hce 11 (by decide) (by decide) trivial]; simp⟩) (by decide) (by decide) ?_
  change rn_T w _ _ _ _ 12 5284 _ _ (.ref (a + 12) :: _) (rz_up g11 (a + 12) _) _
  have e1 : rz_up g11 (a + 12) (.inl (0, 4096, .inl (fun _ => 0))) a = some (.inr (10, [.int 0, .ref (a + 1), .ref (a + 2), .ref (a + 3), .ref (a + 4), .ref (a + 5), .ref (a + 6), .ref (a + 7), .ref (a + 8), .ref (a + 9), .ref (a + 10), .ref (a + 11), .int 0, .null, .null, .null, .null, .null, .null, .null, .null, .null, .null, .null, .null, .null, .int 0, .int 0, .null, .null, .int 0, .null, .null, .null, .null, .null, .null, .null, .int 0, .null, .null, .int 0, .int 0, .null, .null, .null, .int 0, .int 0, .null, .null, .int 0, .int 0, .null, .null, .null, .null, .null, .null, .int 0, .null, .null, .null, .null, .null, .int 0, .null, .null, .int 0, .int 0, .int 0, .null, .null, .null, .null, .null, .null, .int 0, .null, .null, .null, .null, .null])) := by rw [rz_up_n _ _ (by omega)]; exact hob
  refine rn_blk' [(.putfield 43, 3, 10, 13)] (by decide +kernel) (by omega) (by omega) (fun K R hK hR => ?_)
  simp only [List.length_cons, List.length_nil, Nat.reduceLT, rf_10_13, ↓rx_nil, ↓rx_putfield, ↓ry_obu, ↓ry_vr, true_and, ↓rh_ob e1, rz_set, rz_nol, rz_clr, List.set_cons_zero, List.set_cons_succ, rz_tr, Nat.reduceAdd, Int.reduceAdd, Int.reduceToNat, Int.reduceSub, Int.reduceNeg, Int.cast_ofNat_Int]
  refine hK _ _ _ _ ?_
  clear e1
  generalize hg : rz_up (rz_up g11 (a + 12) _) a _ = g12
  have hst : ∀ x, x ≠ a → x < a + 12 → g12 x = g11 x := fun x h1 h2 => by rw [← hg, rz_up_n _ _ h1, rz_up_n _ _ (by omega)]
  have hob : g12 a = some (.inr (10, [.int 0, .ref (a + 1), .ref (a + 2), .ref (a + 3), .ref (a + 4), .ref (a + 5), .ref (a + 6), .ref (a + 7), .ref (a + 8), .ref (a + 9), .ref (a + 10), .ref (a + 11), .int 0, .ref (a + 12), .null, .null, .null, .null, .null, .null, .null, .null, .null, .null, .null, .null, .int 0, .int 0, .null, .null, .int 0, .null, .null, .null, .null, .null, .null, .null, .int 0, .null, .null, .int 0, .int 0, .null, .null, .null, .int 0, .int 0, .null, .null, .int 0, .int 0, .null, .null, .null, .null, .null, .null, .int 0, .null, .null, .null, .null, .null, .int 0, .null, .null, .int 0, .int 0, .int 0, .null, .null, .null, .null, .null, .null, .int 0, .null, .null, .null, .null, .null])) := by rw [← hg, rz_up_s]
  have hfr : ∀ x, x < a → g12 x = G x := fun x hx => (hst x (by omega) (by omega)).trans (hfr x hx)
  have hn12 : g12 (a + 12) = some (.inl (0, 4096, .inl (fun _ => 0))) := by rw [← hg, rz_up_n _ _ (by omega), rz_up_s]
  have hce : ∀ o, 1 ≤ o → o < 13 → (True) → g12 (a + o) = some (re_cell a re_I0 re_A0 o) := fun o h1 h2 h3 => by
    by_cases c : o < 12
    · exact (hst _ (by omega) (by omega)).trans (hce o h1 c h3)
    by_cases c12 : o = 12
    · subst c12; exact hn12
    omega
  clear hg hst hn12
  refine rn_blk' [(.aload_n 0, 1, 0, 0), (.bipush 12, 2, 0, 0)] (by decide +kernel) (by omega) (by omega) (fun K R hK hR => ?_)
  simp only [rw_b12, ↓rx_aload_n0, ↓rx_bipush, ↓rx_nil, ↓ry_lr0s, ↓ry_lr0z, rz_set, rz_nol, rz_clr, List.set_cons_zero, List.set_cons_succ, rz_tr, Nat.reduceAdd, Int.reduceAdd, Int.reduceToNat, Int.reduceSub, Int.reduceNeg, Int.cast_ofNat_Int]
  refine hK _ _ _ _ ?_
  refine rn_na_z (N := 12) (by decide) (by decide +kernel) (Or.inr ⟨a + 12, rfl, by rw [hce 12 (by decide) (by decide) trivial]; simp⟩) (by decide) (by decide) ?_
  change rn_T w _ _ _ _ 13 5296 _ _ (.ref (a + 13) :: _) (rz_up g12 (a + 13) _) _
  have e1 : rz_up g12 (a + 13) (.inl (3, 12, .inl (fun _ => 0))) a = some (.inr (10, [.int 0, .ref (a + 1), .ref (a + 2), .ref (a + 3), .ref (a + 4), .ref (a + 5), .ref (a + 6), .ref (a + 7), .ref (a + 8), .ref (a + 9), .ref (a + 10), .ref (a + 11), .int 0, .ref (a + 12), .null, .null, .null, .null, .null, .null, .null, .null, .null, .null, .null, .null, .int 0, .int 0, .null, .null, .int 0, .null, .null, .null, .null, .null, .null, .null, .int 0, .null, .null, .int 0, .int 0, .null, .null, .null, .int 0, .int 0, .null, .null, .int 0, .int 0, .null, .null, .null, .null, .null, .null, .int 0, .null, .null, .null, .null, .null, .int 0, .null, .null, .int 0, .int 0, .int 0, .null, .null, .null, .null, .null, .null, .int 0, .null, .null, .null, .null, .null])) := by rw [rz_up_n _ _ (by omega)]; exact hob
  refine rn_blk' [(.putfield 46, 3, 10, 14)] (by decide +kernel) (by omega) (by omega) (fun K R hK hR => ?_)
  simp only [List.length_cons, List.length_nil, Nat.reduceLT, rf_10_14, ↓rx_nil, ↓rx_putfield, ↓ry_obu, ↓ry_vr, true_and, ↓rh_ob e1, rz_set, rz_nol, rz_clr, List.set_cons_zero, List.set_cons_succ, rz_tr, Nat.reduceAdd, Int.reduceAdd, Int.reduceToNat, Int.reduceSub, Int.reduceNeg, Int.cast_ofNat_Int]
  refine hK _ _ _ _ ?_
  clear e1
  generalize hg : rz_up (rz_up g12 (a + 13) _) a _ = g13
  have hst : ∀ x, x ≠ a → x < a + 13 → g13 x = g12 x := fun x h1 h2 => by rw [← hg, rz_up_n _ _ h1, rz_up_n _ _ (by omega)]
  have hob : g13 a = some (.inr (10, [.int 0, .ref (a + 1), .ref (a + 2), .ref (a + 3), .ref (a + 4), .ref (a + 5), .ref (a + 6), .ref (a + 7), .ref (a + 8), .ref (a + 9), .ref (a + 10), .ref (a + 11), .int 0, .ref (a + 12), .ref (a + 13), .null, .null, .null, .null, .null, .null, .null, .null, .null, .null, .null, .int 0, .int 0, .null, .null, .int 0, .null, .null, .null, .null, .null, .null, .null, .int 0, .null, .null, .int 0, .int 0, .null, .null, .null, .int 0, .int 0, .null, .null, .int 0, .int 0, .null, .null, .null, .null, .null, .null, .int 0, .null, .null, .null, .null, .null, .int 0, .null, .null, .int 0, .int 0, .int 0, .null, .null, .null, .null, .null, .null, .int 0, .null, .null, .null, .null, .null])) := by rw [← hg, rz_up_s]
  have hfr : ∀ x, x < a → g13 x = G x := fun x hx => (hst x (by omega) (by omega)).trans (hfr x hx)
  have hn13 : g13 (a + 13) = some (.inl (3, 12, .inl (fun _ => 0))) := by rw [← hg, rz_up_n _ _ (by omega), rz_up_s]
  have hce : ∀ o, 1 ≤ o → o < 14 → (True) → g13 (a + o) = some (re_cell a re_I0 re_A0 o) := fun o h1 h2 h3 => by
    by_cases c : o < 13
    · exact (hst _ (by omega) (by omega)).trans (hce o h1 c h3)
    by_cases c13 : o = 13
    · subst c13; exact hn13
    omega
  clear hg hst hn13
  refine rn_blk' [(.aload_n 0, 1, 0, 0), (.iconst 2, 1, 0, 0)] (by decide +kernel) (by omega) (by omega) (fun K R hK hR => ?_)
  simp only [rw_c2, ↓rx_aload_n0, ↓rx_iconst, ↓rx_nil, ↓ry_lr0s, ↓ry_lr0z, rz_set, rz_nol, rz_clr, List.set_cons_zero, List.set_cons_succ, rz_tr, Nat.reduceAdd, Int.reduceAdd, Int.reduceToNat, Int.reduceSub, Int.reduceNeg, Int.cast_ofNat_Int]
  refine hK _ _ _ _ ?_
  refine rn_na_i (N := 2) (by decide) (by decide +kernel) (Or.inr ⟨a + 13, rfl, by rw [hce 13 (by decide) (by decide) trivial]; simp⟩) (by decide) (by decide) ?_
  change rn_T w _ _ _ _ 14 5298 _ _ (.ref (a + 14) :: _) (rz_up g13 (a + 14) _) _
  have e1 : rz_up g13 (a + 14) (.inl (0, 2, .inl (fun _ => 0))) a = some (.inr (10, [.int 0, .ref (a + 1), .ref (a + 2), .ref (a + 3), .ref (a + 4), .ref (a + 5), .ref (a + 6), .ref (a + 7), .ref (a + 8), .ref (a + 9), .ref (a + 10), .ref (a + 11), .int 0, .ref (a + 12), .ref (a + 13), .null, .null, .null, .null, .null, .null, .null, .null, .null, .null, .null, .int 0, .int 0, .null, .null, .int 0, .null, .null, .null, .null, .null, .null, .null, .int 0, .null, .null, .int 0, .int 0, .null, .null, .null, .int 0, .int 0, .null, .null, .int 0, .int 0, .null, .null, .null, .null, .null, .null, .int 0, .null, .null, .null, .null, .null, .int 0, .null, .null, .int 0, .int 0, .int 0, .null, .null, .null, .null, .null, .null, .int 0, .null, .null, .null, .null, .null])) := by rw [rz_up_n _ _ (by omega)]; exact hob
  refine rn_blk' [(.putfield 50, 3, 10, 15)] (by decide +kernel) (by omega) (by omega) (fun K R hK hR => ?_)
  simp only [List.length_cons, List.length_nil, Nat.reduceLT, rf_10_15, ↓rx_nil, ↓rx_putfield, ↓ry_obu, ↓ry_vr, true_and, ↓rh_ob e1, rz_set, rz_nol, rz_clr, List.set_cons_zero, List.set_cons_succ, rz_tr, Nat.reduceAdd, Int.reduceAdd, Int.reduceToNat, Int.reduceSub, Int.reduceNeg, Int.cast_ofNat_Int]
  refine hK _ _ _ _ ?_
  clear e1
  generalize hg : rz_up (rz_up g13 (a + 14) _) a _ = g14
  have hst : ∀ x, x ≠ a → x < a + 14 → g14 x = g13 x := fun x h1 h2 => by rw [← hg, rz_up_n _ _ h1, rz_up_n _ _ (by omega)]
  have hob : g14 a = some (.inr (10, [.int 0, .ref (a + 1), .ref (a + 2), .ref (a + 3), .ref (a + 4), .ref (a + 5), .ref (a + 6), .ref (a + 7), .ref (a + 8), .ref (a + 9), .ref (a + 10), .ref (a + 11), .int 0, .ref (a + 12), .ref (a + 13), .ref (a + 14), .null, .null, .null, .null, .null, .null, .null, .null, .null, .null, .int 0, .int 0, .null, .null, .int 0, .null, .null, .null, .null, .null, .null, .null, .int 0, .null, .null, .int 0, .int 0, .null, .null, .null, .int 0, .int 0, .null, .null, .int 0, .int 0, .null, .null, .null, .null, .null, .null, .int 0, .null, .null, .null, .null, .null, .int 0, .null, .null, .int 0, .int 0, .int 0, .null, .null, .null, .null, .null, .null, .int 0, .null, .null, .null, .null, .null])) := by rw [← hg, rz_up_s]
  have hfr : ∀ x, x < a → g14 x = G x := fun x hx => (hst x (by omega) (by omega)).trans (hfr x hx)
  have hn14 : g14 (a + 14) = some (.inl (0, 2, .inl (fun _ => 0))) := by rw [← hg, rz_up_n _ _ (by omega), rz_up_s]
  have hce : ∀ o, 1 ≤ o → o < 15 → (True) → g14 (a + o) = some (re_cell a re_I0 re_A0 o) := fun o h1 h2 h3 => by
    by_cases c : o < 14
    · exact (hst _ (by omega) (by omega)).trans (hce o h1 c h3)
    by_cases c14 : o = 14
    · subst c14; exact hn14
    omega
  clear hg hst hn14
  refine rn_blk' [(.aload_n 0, 1, 0, 0), (.bipush 48, 2, 0, 0)] (by decide +kernel) (by omega) (by omega) (fun K R hK hR => ?_)
  simp only [rw_b48, ↓rx_aload_n0, ↓rx_bipush, ↓rx_nil, ↓ry_lr0s, ↓ry_lr0z, rz_set, rz_nol, rz_clr, List.set_cons_zero, List.set_cons_succ, rz_tr, Nat.reduceAdd, Int.reduceAdd, Int.reduceToNat, Int.reduceSub, Int.reduceNeg, Int.cast_ofNat_Int]
  refine hK _ _ _ _ ?_
  refine rn_na_i (N := 48) (by decide) (by decide +kernel) (Or.inr ⟨a + 14, rfl, by rw [hce 14 (by decide) (by decide) trivial]; simp⟩) (by decide) (by decide) ?_
  change rn_T w _ _ _ _ 15 5346 _ _ (.ref (a + 15) :: _) (rz_up g14 (a + 15) _) _
  have e1 : rz_up g14 (a + 15) (.inl (0, 48, .inl (fun _ => 0))) a = some (.inr (10, [.int 0, .ref (a + 1), .ref (a + 2), .ref (a + 3), .ref (a + 4), .ref (a + 5), .ref (a + 6), .ref (a + 7), .ref (a + 8), .ref (a + 9), .ref (a + 10), .ref (a + 11), .int 0, .ref (a + 12), .ref (a + 13), .ref (a + 14), .null, .null, .null, .null, .null, .null, .null, .null, .null, .null, .int 0, .int 0, .null, .null, .int 0, .null, .null, .null, .null, .null, .null, .null, .int 0, .null, .null, .int 0, .int 0, .null, .null, .null, .int 0, .int 0, .null, .null, .int 0, .int 0, .null, .null, .null, .null, .null, .null, .int 0, .null, .null, .null, .null, .null, .int 0, .null, .null, .int 0, .int 0, .int 0, .null, .null, .null, .null, .null, .null, .int 0, .null, .null, .null, .null, .null])) := by rw [rz_up_n _ _ (by omega)]; exact hob
  refine rn_blk' [(.putfield 53, 3, 10, 16)] (by decide +kernel) (by omega) (by omega) (fun K R hK hR => ?_)
  simp only [List.length_cons, List.length_nil, Nat.reduceLT, rf_10_16, ↓rx_nil, ↓rx_putfield, ↓ry_obu, ↓ry_vr, true_and, ↓rh_ob e1, rz_set, rz_nol, rz_clr, List.set_cons_zero, List.set_cons_succ, rz_tr, Nat.reduceAdd, Int.reduceAdd, Int.reduceToNat, Int.reduceSub, Int.reduceNeg, Int.cast_ofNat_Int]
  refine hK _ _ _ _ ?_
  clear e1
  generalize hg : rz_up (rz_up g14 (a + 15) _) a _ = g15
  have hst : ∀ x, x ≠ a → x < a + 15 → g15 x = g14 x := fun x h1 h2 => by rw [← hg, rz_up_n _ _ h1, rz_up_n _ _ (by omega)]
  have hob : g15 a = some (.inr (10, [.int 0, .ref (a + 1), .ref (a + 2), .ref (a + 3), .ref (a + 4), .ref (a + 5), .ref (a + 6), .ref (a + 7), .ref (a + 8), .ref (a + 9), .ref (a + 10), .ref (a + 11), .int 0, .ref (a + 12), .ref (a + 13), .ref (a + 14), .ref (a + 15), .null, .null, .null, .null, .null, .null, .null, .null, .null, .int 0, .int 0, .null, .null, .int 0, .null, .null, .null, .null, .null, .null, .null, .int 0, .null, .null, .int 0, .int 0, .null, .null, .null, .int 0, .int 0, .null, .null, .int 0, .int 0, .null, .null, .null, .null, .null, .null, .int 0, .null, .null, .null, .null, .null, .int 0, .null, .null, .int 0, .int 0, .int 0, .null, .null, .null, .null, .null, .null, .int 0, .null, .null, .null, .null, .null])) := by rw [← hg, rz_up_s]
  have hfr : ∀ x, x < a → g15 x = G x := fun x hx => (hst x (by omega) (by omega)).trans (hfr x hx)
  have hn15 : g15 (a + 15) = some (.inl (0, 48, .inl (fun _ => 0))) := by rw [← hg, rz_up_n _ _ (by omega), rz_up_s]
  have hce : ∀ o, 1 ≤ o → o < 16 → (True) → g15 (a + o) = some (re_cell a re_I0 re_A0 o) := fun o h1 h2 h3 => by
    by_cases c : o < 15
    · exact (hst _ (by omega) (by omega)).trans (hce o h1 c h3)
    by_cases c15 : o = 15
    · subst c15; exact hn15
    omega
  clear hg hst hn15
  refine rn_blk' [(.aload_n 0, 1, 0, 0), (.bipush 48, 2, 0, 0)] (by decide +kernel) (by omega) (by omega) (fun K R hK hR => ?_)
  simp only [rw_b48, ↓rx_aload_n0, ↓rx_bipush, ↓rx_nil, ↓ry_lr0s, ↓ry_lr0z, rz_set, rz_nol, rz_clr, List.set_cons_zero, List.set_cons_succ, rz_tr, Nat.reduceAdd, Int.reduceAdd, Int.reduceToNat, Int.reduceSub, Int.reduceNeg, Int.cast_ofNat_Int]
  refine hK _ _ _ _ ?_
  refine rn_na_i (N := 48) (by decide) (by decide +kernel) (Or.inr ⟨a + 15, rfl, by rw [hce 15 (by decide) (by decide) trivial]; simp⟩) (by decide) (by decide) ?_
  change rn_T w _ _ _ _ 16 5394 _ _ (.ref (a + 16) :: _) (rz_up g15 (a + 16) _) _
  have e1 : rz_up g15 (a + 16) (.inl (0, 48, .inl (fun _ => 0))) a = some (.inr (10, [.int 0, .ref (a + 1), .ref (a + 2), .ref (a + 3), .ref (a + 4), .ref (a + 5), .ref (a + 6), .ref (a + 7), .ref (a + 8), .ref (a + 9), .ref (a + 10), .ref (a + 11), .int 0, .ref (a + 12), .ref (a + 13), .ref (a + 14), .ref (a + 15), .null, .null, .null, .null, .null, .null, .null, .null, .null, .int 0, .int 0, .null, .null, .int 0, .null, .null, .null, .null, .null, .null, .null, .int 0, .null, .null, .int 0, .int 0, .null, .null, .null, .int 0, .int 0, .null, .null, .int 0, .int 0, .null, .null, .null, .null, .null, .null, .int 0, .null, .null, .null, .null, .null, .int 0, .null, .null, .int 0, .int 0, .int 0, .null, .null, .null, .null, .null, .null, .int 0, .null, .null, .null, .null, .null])) := by rw [rz_up_n _ _ (by omega)]; exact hob
  refine rn_blk' [(.putfield 56, 3, 10, 17)] (by decide +kernel) (by omega) (by omega) (fun K R hK hR => ?_)
  simp only [List.length_cons, List.length_nil, Nat.reduceLT, rf_10_17, ↓rx_nil, ↓rx_putfield, ↓ry_obu, ↓ry_vr, true_and, ↓rh_ob e1, rz_set, rz_nol, rz_clr, List.set_cons_zero, List.set_cons_succ, rz_tr, Nat.reduceAdd, Int.reduceAdd, Int.reduceToNat, Int.reduceSub, Int.reduceNeg, Int.cast_ofNat_Int]
  refine hK _ _ _ _ ?_
  clear e1
  generalize hg : rz_up (rz_up g15 (a + 16) _) a _ = g16
  have hst : ∀ x, x ≠ a → x < a + 16 → g16 x = g15 x := fun x h1 h2 => by rw [← hg, rz_up_n _ _ h1, rz_up_n _ _ (by omega)]
  have hob : g16 a = some (.inr (10, [.int 0, .ref (a + 1), .ref (a + 2), .ref (a + 3), .ref (a + 4), .ref (a + 5), .ref (a + 6), .ref (a + 7), .ref (a + 8), .ref (a + 9), .ref (a + 10), .ref (a + 11), .int 0, .ref (a + 12), .ref (a + 13), .ref (a + 14), .ref (a + 15), .ref (a + 16), .null, .null, .null, .null, .null, .null, .null, .null, .int 0, .int 0, .null, .null, .int 0, .null, .null, .null, .null, .null, .null, .null, .int 0, .null, .null, .int 0, .int 0, .null, .null, .null, .int 0, .int 0, .null, .null, .int 0, .int 0, .null, .null, .null, .null, .null, .null, .int 0, .null, .null, .null, .null, .null, .int 0, .null, .null, .int 0, .int 0, .int 0, .null, .null, .null, .null, .null, .null, .int 0, .null, .null, .null, .null, .null])) := by rw [← hg, rz_up_s]
  have hfr : ∀ x, x < a → g16 x = G x := fun x hx => (hst x (by omega) (by omega)).trans (hfr x hx)
  have hn16 : g16 (a + 16) = some (.inl (0, 48, .inl (fun _ => 0))) := by rw [← hg, rz_up_n _ _ (by omega), rz_up_s]
  have hce : ∀ o, 1 ≤ o → o < 17 → (True) → g16 (a + o) = some (re_cell a re_I0 re_A0 o) := fun o h1 h2 h3 => by
    by_cases c : o < 16
    · exact (hst _ (by omega) (by omega)).trans (hce o h1 c h3)
    by_cases c16 : o = 16
    · subst c16; exact hn16
    omega
  clear hg hst hn16
  refine rn_blk' [(.aload_n 0, 1, 0, 0), (.bipush 48, 2, 0, 0)] (by decide +kernel) (by omega) (by omega) (fun K R hK hR => ?_)
  simp only [rw_b48, ↓rx_aload_n0, ↓rx_bipush, ↓rx_nil, ↓ry_lr0s, ↓ry_lr0z, rz_set, rz_nol, rz_clr, List.set_cons_zero, List.set_cons_succ, rz_tr, Nat.reduceAdd, Int.reduceAdd, Int.reduceToNat, Int.reduceSub, Int.reduceNeg, Int.cast_ofNat_Int]
  refine hK _ _ _ _ ?_
  refine rn_na_i (N := 48) (by decide) (by decide +kernel) (Or.inr ⟨a + 16, rfl, by rw [hce 16 (by decide) (by decide) trivial]; simp⟩) (by decide) (by decide) ?_
  change rn_T w _ _ _ _ 17 5442 _ _ (.ref (a + 17) :: _) (rz_up g16 (a + 17) _) _
  have e1 : rz_up g16 (a + 17) (.inl (0, 48, .inl (fun _ => 0))) a = some (.inr (10, [.int 0, .ref (a + 1), .ref (a + 2), .ref (a + 3), .ref (a + 4), .ref (a + 5), .ref (a + 6), .ref (a + 7), .ref (a + 8), .ref (a + 9), .ref (a + 10), .ref (a + 11), .int 0, .ref (a + 12), .ref (a + 13), .ref (a + 14), .ref (a + 15), .ref (a + 16), .null, .null, .null, .null, .null, .null, .null, .null, .int 0, .int 0, .null, .null, .int 0, .null, .null, .null, .null, .null, .null, .null, .int 0, .null, .null, .int 0, .int 0, .null, .null, .null, .int 0, .int 0, .null, .null, .int 0, .int 0, .null, .null, .null, .null, .null, .null, .int 0, .null, .null, .null, .null, .null, .int 0, .null, .null, .int 0, .int 0, .int 0, .null, .null, .null, .null, .null, .null, .int 0, .null, .null, .null, .null, .null])) := by rw [rz_up_n _ _ (by omega)]; exact hob
  refine rn_blk' [(.putfield 59, 3, 10, 18)] (by decide +kernel) (by omega) (by omega) (fun K R hK hR => ?_)
  simp only [List.length_cons, List.length_nil, Nat.reduceLT, rf_10_18, ↓rx_nil, ↓rx_putfield, ↓ry_obu, ↓ry_vr, true_and, ↓rh_ob e1, rz_set, rz_nol, rz_clr, List.set_cons_zero, List.set_cons_succ, rz_tr, Nat.reduceAdd, Int.reduceAdd, Int.reduceToNat, Int.reduceSub, Int.reduceNeg, Int.cast_ofNat_Int]
  refine hK _ _ _ _ ?_
  clear e1
  generalize hg : rz_up (rz_up g16 (a + 17) _) a _ = g17
  have hst : ∀ x, x ≠ a → x < a + 17 → g17 x = g16 x := fun x h1 h2 => by rw [← hg, rz_up_n _ _ h1, rz_up_n _ _ (by omega)]
  have hob : g17 a = some (.inr (10, [.int 0, .ref (a + 1), .ref (a + 2), .ref (a + 3), .ref (a + 4), .ref (a + 5), .ref (a + 6), .ref (a + 7), .ref (a + 8), .ref (a + 9), .ref (a + 10), .ref (a + 11), .int 0, .ref (a + 12), .ref (a + 13), .ref (a + 14), .ref (a + 15), .ref (a + 16), .ref (a + 17), .null, .null, .null, .null, .null, .null, .null, .int 0, .int 0, .null, .null, .int 0, .null, .null, .null, .null, .null, .null, .null, .int 0, .null, .null, .int 0, .int 0, .null, .null, .null, .int 0, .int 0, .null, .null, .int 0, .int 0, .null, .null, .null, .null, .null, .null, .int 0, .null, .null, .null, .null, .null, .int 0, .null, .null, .int 0, .int 0, .int 0, .null, .null, .null, .null, .null, .null, .int 0, .null, .null, .null, .null, .null])) := by rw [← hg, rz_up_s]
  have hfr : ∀ x, x < a → g17 x = G x := fun x hx => (hst x (by omega) (by omega)).trans (hfr x hx)
  have hn17 : g17 (a + 17) = some (.inl (0, 48, .inl (fun _ => 0))) := by rw [← hg, rz_up_n _ _ (by omega), rz_up_s]
  have hce : ∀ o, 1 ≤ o → o < 18 → (True) → g17 (a + o) = some (re_cell a re_I0 re_A0 o) := fun o h1 h2 h3 => by
    by_cases c : o < 17
    · exact (hst _ (by omega) (by omega)).trans (hce o h1 c h3)
    by_cases c17 : o = 17
    · subst c17; exact hn17
    omega
  clear hg hst hn17
  refine rn_blk' [(.aload_n 0, 1, 0, 0), (.bipush 48, 2, 0, 0)] (by decide +kernel) (by omega) (by omega) (fun K R hK hR => ?_)
  simp only [rw_b48, ↓rx_aload_n0, ↓rx_bipush, ↓rx_nil, ↓ry_lr0s, ↓ry_lr0z, rz_set, rz_nol, rz_clr, List.set_cons_zero, List.set_cons_succ, rz_tr, Nat.reduceAdd, Int.reduceAdd, Int.reduceToNat, Int.reduceSub, Int.reduceNeg, Int.cast_ofNat_Int]
  refine hK _ _ _ _ ?_
  refine rn_na_i (N := 48) (by decide) (by decide +kernel) (Or.inr ⟨a + 17, rfl, by rw [hce 17 (by decide) (by decide) trivial]; simp⟩) (by decide) (by decide) ?_
  change rn_T w _ _ _ _ 18 5490 _ _ (.ref (a + 18) :: _) (rz_up g17 (a + 18) _) _
  have e1 : rz_up g17 (a + 18) (.inl (0, 48, .inl (fun _ => 0))) a = some (.inr (10, [.int 0, .ref (a + 1), .ref (a + 2), .ref (a + 3), .ref (a + 4), .ref (a + 5), .ref (a + 6), .ref (a + 7), .ref (a + 8), .ref (a + 9), .ref (a + 10), .ref (a + 11), .int 0, .ref (a + 12), .ref (a + 13), .ref (a + 14), .ref (a + 15), .ref (a + 16), .ref (a + 17), .null, .null, .null, .null, .null, .null, .null, .int 0, .int 0, .null, .null, .int 0, .null, .null, .null, .null, .null, .null, .null, .int 0, .null, .null, .int 0, .int 0, .null, .null, .null, .int 0, .int 0, .null, .null, .int 0, .int 0, .null, .null, .null, .null, .null, .null, .int 0, .null, .null, .null, .null, .null, .int 0, .null, .null, .int 0, .int 0, .int 0, .null, .null, .null, .null, .null, .null, .int 0, .null, .null, .null, .null, .null])) := by rw [rz_up_n _ _ (by omega)]; exact hob
  refine rn_blk' [(.putfield 62, 3, 10, 19)] (by decide +kernel) (by omega) (by omega) (fun K R hK hR => ?_)
  simp only [List.length_cons, List.length_nil, Nat.reduceLT, rf_10_19, ↓rx_nil, ↓rx_putfield, ↓ry_obu, ↓ry_vr, true_and, ↓rh_ob e1, rz_set, rz_nol, rz_clr, List.set_cons_zero, List.set_cons_succ, rz_tr, Nat.reduceAdd, Int.reduceAdd, Int.reduceToNat, Int.reduceSub, Int.reduceNeg, Int.cast_ofNat_Int]
  refine hK _ _ _ _ ?_
  clear e1
  generalize hg : rz_up (rz_up g17 (a + 18) _) a _ = g18
  have hst : ∀ x, x ≠ a → x < a + 18 → g18 x = g17 x := fun x h1 h2 => by rw [← hg, rz_up_n _ _ h1, rz_up_n _ _ (by omega)]
  have hob : g18 a = some (.inr (10, [.int 0, .ref (a + 1), .ref (a + 2), .ref (a + 3), .ref (a + 4), .ref (a + 5), .ref (a + 6), .ref (a + 7), .ref (a + 8), .ref (a + 9), .ref (a + 10), .ref (a + 11), .int 0, .ref (a + 12), .ref (a + 13), .ref (a + 14), .ref (a + 15), .ref (a + 16), .ref (a + 17), .ref (a + 18), .null, .null, .null, .null, .null, .null, .int 0, .int 0, .null, .null, .int 0, .null, .null, .null, .null, .null, .null, .null, .int 0, .null, .null, .int 0, .int 0, .null, .null, .null, .int 0, .int 0, .null, .null, .int 0, .int 0, .null, .null, .null, .null, .null, .null, .int 0, .null, .null, .null, .null, .null, .int 0, .null, .null, .int 0, .int 0, .int 0, .null, .null, .null, .null, .null, .null, .int 0, .null, .null, .null, .null, .null])) := by rw [← hg, rz_up_s]
  have hfr : ∀ x, x < a → g18 x = G x := fun x hx => (hst x (by omega) (by omega)).trans (hfr x hx)
  have hn18 : g18 (a + 18) = some (.inl (0, 48, .inl (fun _ => 0))) := by rw [← hg, rz_up_n _ _ (by omega), rz_up_s]
  have hce : ∀ o, 1 ≤ o → o < 19 → (True) → g18 (a + o) = some (re_cell a re_I0 re_A0 o) := fun o h1 h2 h3 => by
    by_cases c : o < 18
    · exact (hst _ (by omega) (by omega)).trans (hce o h1 c h3)
    by_cases c18 : o = 18
    · subst c18; exact hn18
    omega
  clear hg hst hn18
  refine rn_blk' [(.aload_n 0, 1, 0, 0), (.sipush 1536, 3, 0, 0)] (by decide +kernel) (by omega) (by omega) (fun K R hK hR => ?_)
  simp only [rw_s1536, ↓rx_aload_n0, ↓rx_nil, ↓rx_sipush, ↓ry_lr0s, ↓ry_lr0z, rz_set, rz_nol, rz_clr, List.set_cons_zero, List.set_cons_succ, rz_tr, Nat.reduceAdd, Int.reduceAdd, Int.reduceToNat, Int.reduceSub, Int.reduceNeg, Int.cast_ofNat_Int]
  refine hK _ _ _ _ ?_
  refine rn_na_i (N := 1536) (by decide) (by decide +kernel) (Or.inr ⟨a + 18, rfl, by rw [hce 18 (by decide) (by decide) trivial]; simp⟩) (by decide) (by decide) ?_
  change rn_T w _ _ _ _ 19 7026 _ _ (.ref (a + 19) :: _) (rz_up g18 (a + 19) _) _
  have e1 : rz_up g18 (a + 19) (.inl (0, 1536, .inl (fun _ => 0))) a = some (.inr (10, [.int 0, .ref (a + 1), .ref (a + 2), .ref (a + 3), .ref (a + 4), .ref (a + 5), .ref (a + 6), .ref (a + 7), .ref (a + 8), .ref (a + 9), .ref (a + 10), .ref (a + 11), .int 0, .ref (a + 12), .ref (a + 13), .ref (a + 14), .ref (a + 15), .ref (a + 16), .ref (a + 17), .ref (a + 18), .null, .null, .null, .null, .null, .null, .int 0, .int 0, .null, .null, .int 0, .null, .null, .null, .null, .null, .null, .null, .int 0, .null, .null, .int 0, .int 0, .null, .null, .null, .int 0, .int 0, .null, .null, .int 0, .int 0, .null, .null, .null, .null, .null, .null, .int 0, .null, .null, .null, .null, .null, .int 0, .null, .null, .int 0, .int 0, .int 0, .null, .null, .null, .null, .null, .null, .int 0, .null, .null, .null, .null, .null])) := by rw [rz_up_n _ _ (by omega)]; exact hob
  refine rn_blk' [(.putfield 65, 3, 10, 20)] (by decide +kernel) (by omega) (by omega) (fun K R hK hR => ?_)
  simp only [List.length_cons, List.length_nil, Nat.reduceLT, rf_10_20, ↓rx_nil, ↓rx_putfield, ↓ry_obu, ↓ry_vr, true_and, ↓rh_ob e1, rz_set, rz_nol, rz_clr, List.set_cons_zero, List.set_cons_succ, rz_tr, Nat.reduceAdd, Int.reduceAdd, Int.reduceToNat, Int.reduceSub, Int.reduceNeg, Int.cast_ofNat_Int]
  refine hK _ _ _ _ ?_
  clear e1
  generalize hg : rz_up (rz_up g18 (a + 19) _) a _ = g19
  have hst : ∀ x, x ≠ a → x < a + 19 → g19 x = g18 x := fun x h1 h2 => by rw [← hg, rz_up_n _ _ h1, rz_up_n _ _ (by omega)]
  have hob : g19 a = some (.inr (10, [.int 0, .ref (a + 1), .ref (a + 2), .ref (a + 3), .ref (a + 4), .ref (a + 5), .ref (a + 6), .ref (a + 7), .ref (a + 8), .ref (a + 9), .ref (a + 10), .ref (a + 11), .int 0, .ref (a + 12), .ref (a + 13), .ref (a + 14), .ref (a + 15), .ref (a + 16), .ref (a + 17), .ref (a + 18), .ref (a + 19), .null, .null, .null, .null, .null, .int 0, .int 0, .null, .null, .int 0, .null, .null, .null, .null, .null, .null, .null, .int 0, .null, .null, .int 0, .int 0, .null, .null, .null, .int 0, .int 0, .null, .null, .int 0, .int 0, .null, .null, .null, .null, .null, .null, .int 0, .null, .null, .null, .null, .null, .int 0, .null, .null, .int 0, .int 0, .int 0, .null, .null, .null, .null, .null, .null, .int 0, .null, .null, .null, .null, .null])) := by rw [← hg, rz_up_s]
  have hfr : ∀ x, x < a → g19 x = G x := fun x hx => (hst x (by omega) (by omega)).trans (hfr x hx)
  have hn19 : g19 (a + 19) = some (.inl (0, 1536, .inl (fun _ => 0))) := by rw [← hg, rz_up_n _ _ (by omega), rz_up_s]
  have hce : ∀ o, 1 ≤ o → o < 20 → (True) → g19 (a + o) = some (re_cell a re_I0 re_A0 o) := fun o h1 h2 h3 => by
    by_cases c : o < 19
    · exact (hst _ (by omega) (by omega)).trans (hce o h1 c h3)
    by_cases c19 : o = 19
    · subst c19; exact hn19
    omega
  clear hg hst hn19
  refine rn_blk' [(.aload_n 0, 1, 0, 0), (.bipush 12, 2, 0, 0)] (by decide +kernel) (by omega) (by omega) (fun K R hK hR => ?_)
  simp only [rw_b12, ↓rx_aload_n0, ↓rx_bipush, ↓rx_nil, ↓ry_lr0s, ↓ry_lr0z, rz_set, rz_nol, rz_clr, List.set_cons_zero, List.set_cons_succ, rz_tr, Nat.reduceAdd, Int.reduceAdd, Int.reduceToNat, Int.reduceSub, Int.reduceNeg, Int.cast_ofNat_Int]
  refine hK _ _ _ _ ?_
  refine rn_na_i (N := 12) (by decide) (by decide +kernel) (Or.inr ⟨a + 19, rfl, by rw [hce 19 (by decide) (by decide) trivial]; simp⟩) (by decide) (by decide) ?_
  change rn_T w _ _ _ _ 20 7038 _ _ (.ref (a + 20) :: _) (rz_up g19 (a + 20) _) _
  have e1 : rz_up g19 (a + 20) (.inl (0, 12, .inl (fun _ => 0))) a = some (.inr (10, [.int 0, .ref (a + 1), .ref (a + 2), .ref (a + 3), .ref (a + 4), .ref (a + 5), .ref (a + 6), .ref (a + 7), .ref (a + 8), .ref (a + 9), .ref (a + 10), .ref (a + 11), .int 0, .ref (a + 12), .ref (a + 13), .ref (a + 14), .ref (a + 15), .ref (a + 16), .ref (a + 17), .ref (a + 18), .ref (a + 19), .null, .null, .null, .null, .null, .int 0, .int 0, .null, .null, .int 0, .null, .null, .null, .null, .null, .null, .null, .int 0, .null, .null, .int 0, .int 0, .null, .null, .null, .int 0, .int 0, .null, .null, .int 0, .int 0, .null, .null, .null, .null, .null, .null, .int 0, .null, .null, .null, .null, .null, .int 0, .null, .null, .int 0, .int 0, .int 0, .null, .null, .null, .null, .null, .null, .int 0, .null, .null, .null, .null, .null])) := by rw [rz_up_n _ _ (by omega)]; exact hob
  refine rn_blk' [(.putfield 68, 3, 10, 21)] (by decide +kernel) (by omega) (by omega) (fun K R hK hR => ?_)
  simp only [List.length_cons, List.length_nil, Nat.reduceLT, rf_10_21, ↓rx_nil, ↓rx_putfield, ↓ry_obu, ↓ry_vr, true_and, ↓rh_ob e1, rz_set, rz_nol, rz_clr, List.set_cons_zero, List.set_cons_succ, rz_tr, Nat.reduceAdd, Int.reduceAdd, Int.reduceToNat, Int.reduceSub, Int.reduceNeg, Int.cast_ofNat_Int]
  refine hK _ _ _ _ ?_
  clear e1
  generalize hg : rz_up (rz_up g19 (a + 20) _) a _ = g20
  have hst : ∀ x, x ≠ a → x < a + 20 → g20 x = g19 x := fun x h1 h2 => by rw [← hg, rz_up_n _ _ h1, rz_up_n _ _ (by omega)]
  have hob : g20 a = some (.inr (10, [.int 0, .ref (a + 1), .ref (a + 2), .ref (a + 3), .ref (a + 4), .ref (a + 5), .ref (a + 6), .ref (a + 7), .ref (a + 8), .ref (a + 9), .ref (a + 10), .ref (a + 11), .int 0, .ref (a + 12), .ref (a + 13), .ref (a + 14), .ref (a + 15), .ref (a + 16), .ref (a + 17), .ref (a + 18), .ref (a + 19), .ref (a + 20), .null, .null, .null, .null, .int 0, .int 0, .null, .null, .int 0, .null, .null, .null, .null, .null, .null, .null, .int 0, .null, .null, .int 0, .int 0, .null, .null, .null, .int 0, .int 0, .null, .null, .int 0, .int 0, .null, .null, .null, .null, .null, .null, .int 0, .null, .null, .null, .null, .null, .int 0, .null, .null, .int 0, .int 0, .int 0, .null, .null, .null, .null, .null, .null, .int 0, .null, .null, .null, .null, .null])) := by rw [← hg, rz_up_s]
  have hfr : ∀ x, x < a → g20 x = G x := fun x hx => (hst x (by omega) (by omega)).trans (hfr x hx)
  have hn20 : g20 (a + 20) = some (.inl (0, 12, .inl (fun _ => 0))) := by rw [← hg, rz_up_n _ _ (by omega), rz_up_s]
  have hce : ∀ o, 1 ≤ o → o < 21 → (True) → g20 (a + o) = some (re_cell a re_I0 re_A0 o) := fun o h1 h2 h3 => by
    by_cases c : o < 20
    · exact (hst _ (by omega) (by omega)).trans (hce o h1 c h3)
    by_cases c20 : o = 20
    · subst c20; exact hn20
    omega
  clear hg hst hn20
  refine rn_blk' [(.aload_n 0, 1, 0, 0), (.sipush 384, 3, 0, 0)] (by decide +kernel) (by omega) (by omega) (fun K R hK hR => ?_)
  simp only [rw_s384, ↓rx_aload_n0, ↓rx_nil, ↓rx_sipush, ↓ry_lr0s, ↓ry_lr0z, rz_set, rz_nol, rz_clr, List.set_cons_zero, List.set_cons_succ, rz_tr, Nat.reduceAdd, Int.reduceAdd, Int.reduceToNat, Int.reduceSub, Int.reduceNeg, Int.cast_ofNat_Int]
  refine hK _ _ _ _ ?_
  refine rn_na_i (N := 384) (by decide) (by decide +kernel) (Or.inr ⟨a + 20, rfl, by rw [hce 20 (by decide) (by decide) trivial]; simp⟩) (by decide) (by decide) ?_
  change rn_T w _ _ _ _ 21 7422 _ _ (.ref (a + 21) :: _) (rz_up g20 (a + 21) _) _
  have e1 : rz_up g20 (a + 21) (.inl (0, 384, .inl (fun _ => 0))) a = some (.inr (10, [.int 0, .ref (a + 1), .ref (a + 2), .ref (a + 3), .ref (a + 4), .ref (a + 5), .ref (a + 6), .ref (a + 7), .ref (a + 8), .ref (a + 9), .ref (a + 10), .ref (a + 11), .int 0, .ref (a + 12), .ref (a + 13), .ref (a + 14), .ref (a + 15), .ref (a + 16), .ref (a + 17), .ref (a + 18), .ref (a + 19), .ref (a + 20), .null, .null, .null, .null, .int 0, .int 0, .null, .null, .int 0, .null, .null, .null, .null, .null, .null, .null, .int 0, .null, .null, .int 0, .int 0, .null, .null, .null, .int 0, .int 0, .null, .null, .int 0, .int 0, .null, .null, .null, .null, .null, .null, .int 0, .null, .null, .null, .null, .null, .int 0, .null, .null, .int 0, .int 0, .int 0, .null, .null, .null, .null, .null, .null, .int 0, .null, .null, .null, .null, .null])) := by rw [rz_up_n _ _ (by omega)]; exact hob
  refine rn_blk' [(.putfield 71, 3, 10, 22)] (by decide +kernel) (by omega) (by omega) (fun K R hK hR => ?_)
  simp only [List.length_cons, List.length_nil, Nat.reduceLT, rf_10_22, ↓rx_nil, ↓rx_putfield, ↓ry_obu, ↓ry_vr, true_and, ↓rh_ob e1, rz_set, rz_nol, rz_clr, List.set_cons_zero, List.set_cons_succ, rz_tr, Nat.reduceAdd, Int.reduceAdd, Int.reduceToNat, Int.reduceSub, Int.reduceNeg, Int.cast_ofNat_Int]
  refine hK _ _ _ _ ?_
  clear e1
  generalize hg : rz_up (rz_up g20 (a + 21) _) a _ = g21
  have hst : ∀ x, x ≠ a → x < a + 21 → g21 x = g20 x := fun x h1 h2 => by rw [← hg, rz_up_n _ _ h1, rz_up_n _ _ (by omega)]
  have hob : g21 a = some (.inr (10, [.int 0, .ref (a + 1), .ref (a + 2), .ref (a + 3), .ref (a + 4), .ref (a + 5), .ref (a + 6), .ref (a + 7), .ref (a + 8), .ref (a + 9), .ref (a + 10), .ref (a + 11), .int 0, .ref (a + 12), .ref (a + 13), .ref (a + 14), .ref (a + 15), .ref (a + 16), .ref (a + 17), .ref (a + 18), .ref (a + 19), .ref (a + 20), .ref (a + 21), .null, .null, .null, .int 0, .int 0, .null, .null, .int 0, .null, .null, .null, .null, .null, .null, .null, .int 0, .null, .null, .int 0, .int 0, .null, .null, .null, .int 0, .int 0, .null, .null, .int 0, .int 0, .null, .null, .null, .null, .null, .null, .int 0, .null, .null, .null, .null, .null, .int 0, .null, .null, .int 0, .int 0, .int 0, .null, .null, .null, .null, .null, .null, .int 0, .null, .null, .null, .null, .null])) := by rw [← hg, rz_up_s]
  have hfr : ∀ x, x < a → g21 x = G x := fun x hx => (hst x (by omega) (by omega)).trans (hfr x hx)
  have hn21 : g21 (a + 21) = some (.inl (0, 384, .inl (fun _ => 0))) := by rw [← hg, rz_up_n _ _ (by omega), rz_up_s]
  have hce : ∀ o, 1 ≤ o → o < 22 → (True) → g21 (a + o) = some (re_cell a re_I0 re_A0 o) := fun o h1 h2 h3 => by
    by_cases c : o < 21
    · exact (hst _ (by omega) (by omega)).trans (hce o h1 c h3)
    by_cases c21 : o = 21
    · subst c21; exact hn21
    omega
  clear hg hst hn21
  refine rn_blk' [(.aload_n 0, 1, 0, 0), (.iconst 2, 1, 0, 0)] (by decide +kernel) (by omega) (by omega) (fun K R hK hR => ?_)
  simp only [rw_c2, ↓rx_aload_n0, ↓rx_iconst, ↓rx_nil, ↓ry_lr0s, ↓ry_lr0z, rz_set, rz_nol, rz_clr, List.set_cons_zero, List.set_cons_succ, rz_tr, Nat.reduceAdd, Int.reduceAdd, Int.reduceToNat, Int.reduceSub, Int.reduceNeg, Int.cast_ofNat_Int]
  refine hK _ _ _ _ ?_
  refine rn_na_i (N := 2) (by decide) (by decide +kernel) (Or.inr ⟨a + 21, rfl, by rw [hce 21 (by decide) (by decide) trivial]; simp⟩) (by decide) (by decide) ?_
  change rn_T w _ _ _ _ 22 7424 _ _ (.ref (a + 22) :: _) (rz_up g21 (a + 22) _) _
  have e1 : rz_up g21 (a + 22) (.inl (0, 2, .inl (fun _ => 0))) a = some (.inr (10, [.int 0, .ref (a + 1), .ref (a + 2), .ref (a + 3), .ref (a + 4), .ref (a + 5), .ref (a + 6), .ref (a + 7), .ref (a + 8), .ref (a + 9), .ref (a + 10), .ref (a + 11), .int 0, .ref (a + 12), .ref (a + 13), .ref (a + 14), .ref (a + 15), .ref (a + 16), .ref (a + 17), .ref (a + 18), .ref (a + 19), .ref (a + 20), .ref (a + 21), .null, .null, .null, .int 0, .int 0, .null, .null, .int 0, .null, .null, .null, .null, .null, .null, .null, .int 0, .null, .null, .int 0, .int 0, .null, .null, .null, .int 0, .int 0, .null, .null, .int 0, .int 0, .null, .null, .null, .null, .null, .null, .int 0, .null, .null, .null, .null, .null, .int 0, .null, .null, .int 0, .int 0, .int 0, .null, .null, .null, .null, .null, .null, .int 0, .null, .null, .null, .null, .null])) := by rw [rz_up_n _ _ (by omega)]; exact hob
  refine rn_blk' [(.putfield 74, 3, 10, 23)] (by decide +kernel) (by omega) (by omega) (fun K R hK hR => ?_)
  simp only [List.length_cons, List.length_nil, Nat.reduceLT, rf_10_23, ↓rx_nil, ↓rx_putfield, ↓ry_obu, ↓ry_vr, true_and, ↓rh_ob e1, rz_set, rz_nol, rz_clr, List.set_cons_zero, List.set_cons_succ, rz_tr, Nat.reduceAdd, Int.reduceAdd, Int.reduceToNat, Int.reduceSub, Int.reduceNeg, Int.cast_ofNat_Int]
  refine hK _ _ _ _ ?_
  clear e1
  generalize hg : rz_up (rz_up g21 (a + 22) _) a _ = g22
  have hst : ∀ x, x ≠ a → x < a + 22 → g22 x = g21 x := fun x h1 h2 => by rw [← hg, rz_up_n _ _ h1, rz_up_n _ _ (by omega)]
  have hob : g22 a = some (.inr (10, [.int 0, .ref (a + 1), .ref (a + 2), .ref (a + 3), .ref (a + 4), .ref (a + 5), .ref (a + 6), .ref (a + 7), .ref (a + 8), .ref (a + 9), .ref (a + 10), .ref (a + 11), .int 0, .ref (a + 12), .ref (a + 13), .ref (a + 14), .ref (a + 15), .ref (a + 16), .ref (a + 17), .ref (a + 18), .ref (a + 19), .ref (a + 20), .ref (a + 21), .ref (a + 22), .null, .null, .int 0, .int 0, .null, .null, .int 0, .null, .null, .null, .null, .null, .null, .null, .int 0, .null, .null, .int 0, .int 0, .null, .null, .null, .int 0, .int 0, .null, .null, .int 0, .int 0, .null, .null, .null, .null, .null, .null, .int 0, .null, .null, .null, .null, .null, .int 0, .null, .null, .int 0, .int 0, .int 0, .null, .null, .null, .null, .null, .null, .int 0, .null, .null, .null, .null, .null])) := by rw [← hg, rz_up_s]
  have hfr : ∀ x, x < a → g22 x = G x := fun x hx => (hst x (by omega) (by omega)).trans (hfr x hx)
  have hn22 : g22 (a + 22) = some (.inl (0, 2, .inl (fun _ => 0))) := by rw [← hg, rz_up_n _ _ (by omega), rz_up_s]
  have hce : ∀ o, 1 ≤ o → o < 23 → (True) → g22 (a + o) = some (re_cell a re_I0 re_A0 o) := fun o h1 h2 h3 => by
    by_cases c : o < 22
    · exact (hst _ (by omega) (by omega)).trans (hce o h1 c h3)
    by_cases c22 : o = 22
    · subst c22; exact hn22
    omega
  clear hg hst hn22
  refine rn_blk' [(.aload_n 0, 1, 0, 0), (.bipush 64, 2, 0, 0)] (by decide +kernel) (by omega) (by omega) (fun K R hK hR => ?_)
  simp only [rw_b64, ↓rx_aload_n0, ↓rx_bipush, ↓rx_nil, ↓ry_lr0s, ↓ry_lr0z, rz_set, rz_nol, rz_clr, List.set_cons_zero, List.set_cons_succ, rz_tr, Nat.reduceAdd, Int.reduceAdd, Int.reduceToNat, Int.reduceSub, Int.reduceNeg, Int.cast_ofNat_Int]
  refine hK _ _ _ _ ?_
  refine rn_na_i (N := 64) (by decide) (by decide +kernel) (Or.inr ⟨a + 22, rfl, by rw [hce 22 (by decide) (by decide) trivial]; simp⟩) (by decide) (by decide) ?_
  change rn_T w _ _ _ _ 23 7488 _ _ (.ref (a + 23) :: _) (rz_up g22 (a + 23) _) _
  have e1 : rz_up g22 (a + 23) (.inl (0, 64, .inl (fun _ => 0))) a = some (.inr (10, [.int 0, .ref (a + 1), .ref (a + 2), .ref (a + 3), .ref (a + 4), .ref (a + 5), .ref (a + 6), .ref (a + 7), .ref (a + 8), .ref (a + 9), .ref (a + 10), .ref (a + 11), .int 0, .ref (a + 12), .ref (a + 13), .ref (a + 14), .ref (a + 15), .ref (a + 16), .ref (a + 17), .ref (a + 18), .ref (a + 19), .ref (a + 20), .ref (a + 21), .ref (a + 22), .null, .null, .int 0, .int 0, .null, .null, .int 0, .null, .null, .null, .null, .null, .null, .null, .int 0, .null, .null, .int 0, .int 0, .null, .null, .null, .int 0, .int 0, .null, .null, .int 0, .int 0, .null, .null, .null, .null, .null, .null, .int 0, .null, .null, .null, .null, .null, .int 0, .null, .null, .int 0, .int 0, .int 0, .null, .null, .null, .null, .null, .null, .int 0, .null, .null, .null, .null, .null])) := by rw [rz_up_n _ _ (by omega)]; exact hob
  refine rn_blk' [(.putfield 77, 3, 10, 24)] (by decide +kernel) (by omega) (by omega) (fun K R hK hR => ?_)
  simp only [List.length_cons, List.length_nil, Nat.reduceLT, rf_10_24, ↓rx_nil, ↓rx_putfield, ↓ry_obu, ↓ry_vr, true_and, ↓rh_ob e1, rz_set, rz_nol, rz_clr, List.set_cons_zero, List.set_cons_succ, rz_tr, Nat.reduceAdd, Int.reduceAdd, Int.reduceToNat, Int.reduceSub, Int.reduceNeg, Int.cast_ofNat_Int]
  refine hK _ _ _ _ ?_
  clear e1
  generalize hg : rz_up (rz_up g22 (a + 23) _) a _ = g23
  have hst : ∀ x, x ≠ a → x < a + 23 → g23 x = g22 x := fun x h1 h2 => by rw [← hg, rz_up_n _ _ h1, rz_up_n _ _ (by omega)]
  have hob : g23 a = some (.inr (10, [.int 0, .ref (a + 1), .ref (a + 2), .ref (a + 3), .ref (a + 4), .ref (a + 5), .ref (a + 6), .ref (a + 7), .ref (a + 8), .ref (a + 9), .ref (a + 10), .ref (a + 11), .int 0, .ref (a + 12), .ref (a + 13), .ref (a + 14), .ref (a + 15), .ref (a + 16), .ref (a + 17), .ref (a + 18), .ref (a + 19), .ref (a + 20), .ref (a + 21), .ref (a + 22), .ref (a + 23), .null, .int 0, .int 0, .null, .null, .int 0, .null, .null, .null, .null, .null, .null, .null, .int 0, .null, .null, .int 0, .int 0, .null, .null, .null, .int 0, .int 0, .null, .null, .int 0, .int 0, .null, .null, .null, .null, .null, .null, .int 0, .null, .null, .null, .null, .null, .int 0, .null, .null, .int 0, .int 0, .int 0, .null, .null, .null, .null, .null, .null, .int 0, .null, .null, .null, .null, .null])) := by rw [← hg, rz_up_s]
  have hfr : ∀ x, x < a → g23 x = G x := fun x hx => (hst x (by omega) (by omega)).trans (hfr x hx)
  have hn23 : g23 (a + 23) = some (.inl (0, 64, .inl (fun _ => 0))) := by rw [← hg, rz_up_n _ _ (by omega), rz_up_s]
  have hce : ∀ o, 1 ≤ o → o < 24 → (True) → g23 (a + o) = some (re_cell a re_I0 re_A0 o) := fun o h1 h2 h3 => by
    by_cases c : o < 23
    · exact (hst _ (by omega) (by omega)).trans (hce o h1 c h3)
    by_cases c23 : o = 23
    · subst c23; exact hn23
    omega
  clear hg hst hn23
  refine rn_blk' [(.aload_n 0, 1, 0, 0), (.bipush 36, 2, 0, 0)] (by decide +kernel) (by omega) (by omega) (fun K R hK hR => ?_)
  simp only [rw_b36, ↓rx_aload_n0, ↓rx_bipush, ↓rx_nil, ↓ry_lr0s, ↓ry_lr0z, rz_set, rz_nol, rz_clr, List.set_cons_zero, List.set_cons_succ, rz_tr, Nat.reduceAdd, Int.reduceAdd, Int.reduceToNat, Int.reduceSub, Int.reduceNeg, Int.cast_ofNat_Int]
  refine hK _ _ _ _ ?_
  refine rn_na_z (N := 36) (by decide) (by decide +kernel) (Or.inr ⟨a + 23, rfl, by rw [hce 23 (by decide) (by decide) trivial]; simp⟩) (by decide) (by decide) ?_
  change rn_T w _ _ _ _ 24 7524 _ _ (.ref (a + 24) :: _) (rz_up g23 (a + 24) _) _
  have e1 : rz_up g23 (a + 24) (.inl (3, 36, .inl (fun _ => 0))) a = some (.inr (10, [.int 0, .ref (a + 1), .ref (a + 2), .ref (a + 3), .ref (a + 4), .ref (a + 5), .ref (a + 6), .ref (a + 7), .ref (a + 8), .ref (a + 9), .ref (a + 10), .ref (a + 11), .int 0, .ref (a + 12), .ref (a + 13), .ref (a + 14), .ref (a + 15), .ref (a + 16), .ref (a + 17), .ref (a + 18), .ref (a + 19), .ref (a + 20), .ref (a + 21), .ref (a + 22), .ref (a + 23), .null, .int 0, .int 0, .null, .null, .int 0, .null, .null, .null, .null, .null, .null, .null, .int 0, .null, .null, .int 0, .int 0, .null, .null, .null, .int 0, .int 0, .null, .null, .int 0, .int 0, .null, .null, .null, .null, .null, .null, .int 0, .null, .null, .null, .null, .null, .int 0, .null, .null, .int 0, .int 0, .int 0, .null, .null, .null, .null, .null, .null, .int 0, .null, .null, .null, .null, .null])) := by rw [rz_up_n _ _ (by omega)]; exact hob
  refine rn_blk' [(.putfield 80, 3, 10, 25)] (by decide +kernel) (by omega) (by omega) (fun K R hK hR => ?_)
  simp only [List.length_cons, List.length_nil, Nat.reduceLT, rf_10_25, ↓rx_nil, ↓rx_putfield, ↓ry_obu, ↓ry_vr, true_and, ↓rh_ob e1, rz_set, rz_nol, rz_clr, List.set_cons_zero, List.set_cons_succ, rz_tr, Nat.reduceAdd, Int.reduceAdd, Int.reduceToNat, Int.reduceSub, Int.reduceNeg, Int.cast_ofNat_Int]
  refine hK _ _ _ _ ?_
  clear e1
  generalize hg : rz_up (rz_up g23 (a + 24) _) a _ = g24
  have hst : ∀ x, x ≠ a → x < a + 24 → g24 x = g23 x := fun x h1 h2 => by rw [← hg, rz_up_n _ _ h1, rz_up_n _ _ (by omega)]
  have hob : g24 a = some (.inr (10, [.int 0, .ref (a + 1), .ref (a + 2), .ref (a + 3), .ref (a + 4), .ref (a + 5), .ref (a + 6), .ref (a + 7), .ref (a + 8), .ref (a + 9), .ref (a + 10), .ref (a + 11), .int 0, .ref (a + 12), .ref (a + 13), .ref (a + 14), .ref (a + 15), .ref (a + 16), .ref (a + 17), .ref (a + 18), .ref (a + 19), .ref (a + 20), .ref (a + 21), .ref (a + 22), .ref (a + 23), .ref (a + 24), .int 0, .int 0, .null, .null, .int 0, .null, .null, .null, .null, .null, .null, .null, .int 0, .null, .null, .int 0, .int 0, .null, .null, .null, .int 0, .int 0, .null, .null, .int 0, .int 0, .null, .null, .null, .null, .null, .null, .int 0, .null, .null, .null, .null, .null, .int 0, .null, .null, .int 0, .int 0, .int 0, .null, .null, .null, .null, .null, .null, .int 0, .null, .null, .null, .null, .null])) := by rw [← hg, rz_up_s]
  have hfr : ∀ x, x < a → g24 x = G x := fun x hx => (hst x (by omega) (by omega)).trans (hfr x hx)
  have hn24 : g24 (a + 24) = some (.inl (3, 36, .inl (fun _ => 0))) := by rw [← hg, rz_up_n _ _ (by omega), rz_up_s]
  have hce : ∀ o, 1 ≤ o → o < 25 → (True) → g24 (a + o) = some (re_cell a re_I0 re_A0 o) := fun o h1 h2 h3 => by
    by_cases c : o < 24
    · exact (hst _ (by omega) (by omega)).trans (hce o h1 c h3)
    by_cases c24 : o = 24
    · subst c24; exact hn24
    omega
  clear hg hst hn24
  refine rn_blk' [(.aload_n 0, 1, 0, 0), (.sipush 4200, 3, 0, 0)] (by decide +kernel) (by omega) (by omega) (fun K R hK hR => ?_)
  simp only [rw_s4200, ↓rx_aload_n0, ↓rx_nil, ↓rx_sipush, ↓ry_lr0s, ↓ry_lr0z, rz_set, rz_nol, rz_clr, List.set_cons_zero, List.set_cons_succ, rz_tr, Nat.reduceAdd, Int.reduceAdd, Int.reduceToNat, Int.reduceSub, Int.reduceNeg, Int.cast_ofNat_Int]
  refine hK _ _ _ _ ?_
  refine rn_na_i (N := 4200) (by decide) (by decide +kernel) (Or.inr ⟨a + 24, rfl, by rw [hce 24 (by decide) (by decide) trivial]; simp⟩) (by decide) (by decide) ?_
  change rn_T w _ _ _ _ 25 11724 _ _ (.ref (a + 25) :: _) (rz_up g24 (a + 25) _) _
  have e1 : rz_up g24 (a + 25) (.inl (0, 4200, .inl (fun _ => 0))) a = some (.inr (10, [.int 0, .ref (a + 1), .ref (a + 2), .ref (a + 3), .ref (a + 4), .ref (a + 5), .ref (a + 6), .ref (a + 7), .ref (a + 8), .ref (a + 9), .ref (a + 10), .ref (a + 11), .int 0, .ref (a + 12), .ref (a + 13), .ref (a + 14), .ref (a + 15), .ref (a + 16), .ref (a + 17), .ref (a + 18), .ref (a + 19), .ref (a + 20), .ref (a + 21), .ref (a + 22), .ref (a + 23), .ref (a + 24), .int 0, .int 0, .null, .null, .int 0, .null, .null, .null, .null, .null, .null, .null, .int 0, .null, .null, .int 0, .int 0, .null, .null, .null, .int 0, .int 0, .null, .null, .int 0, .int 0, .null, .null, .null, .null, .null, .null, .int 0, .null, .null, .null, .null, .null, .int 0, .null, .null, .int 0, .int 0, .int 0, .null, .null, .null, .null, .null, .null, .int 0, .null, .null, .null, .null, .null])) := by rw [rz_up_n _ _ (by omega)]; exact hob
  refine rn_blk' [(.putfield 83, 3, 10, 28)] (by decide +kernel) (by omega) (by omega) (fun K R hK hR => ?_)
  simp only [List.length_cons, List.length_nil, Nat.reduceLT, rf_10_28, ↓rx_nil, ↓rx_putfield, ↓ry_obu, ↓ry_vr, true_and, ↓rh_ob e1, rz_set, rz_nol, rz_clr, List.set_cons_zero, List.set_cons_succ, rz_tr, Nat.reduceAdd, Int.reduceAdd, Int.reduceToNat, Int.reduceSub, Int.reduceNeg, Int.cast_ofNat_Int]
  refine hK _ _ _ _ ?_
  clear e1
  generalize hg : rz_up (rz_up g24 (a + 25) _) a _ = g25
  have hst : ∀ x, x ≠ a → x < a + 25 → g25 x = g24 x := fun x h1 h2 => by rw [← hg, rz_up_n _ _ h1, rz_up_n _ _ (by omega)]
  have hob : g25 a = some (.inr (10, [.int 0, .ref (a + 1), .ref (a + 2), .ref (a + 3), .ref (a + 4), .ref (a + 5), .ref (a + 6), .ref (a + 7), .ref (a + 8), .ref (a + 9), .ref (a + 10), .ref (a + 11), .int 0, .ref (a + 12), .ref (a + 13), .ref (a + 14), .ref (a + 15), .ref (a + 16), .ref (a + 17), .ref (a + 18), .ref (a + 19), .ref (a + 20), .ref (a + 21), .ref (a + 22), .ref (a + 23), .ref (a + 24), .int 0, .int 0, .ref (a + 25), .null, .int 0, .null, .null, .null, .null, .null, .null, .null, .int 0, .null, .null, .int 0, .int 0, .null, .null, .null, .int 0, .int 0, .null, .null, .int 0, .int 0, .null, .null, .null, .null, .null, .null, .int 0, .null, .null, .null, .null, .null, .int 0, .null, .null, .int 0, .int 0, .int 0, .null, .null, .null, .null, .null, .null, .int 0, .null, .null, .null, .null, .null])) := by rw [← hg, rz_up_s]
  have hfr : ∀ x, x < a → g25 x = G x := fun x hx => (hst x (by omega) (by omega)).trans (hfr x hx)
  have hn25 : g25 (a + 25) = some (.inl (0, 4200, .inl (fun _ => 0))) := by rw [← hg, rz_up_n _ _ (by omega), rz_up_s]
  have hce : ∀ o, 1 ≤ o → o < 26 → (True) → g25 (a + o) = some (re_cell a re_I0 re_A0 o) := fun o h1 h2 h3 => by
    by_cases c : o < 25
    · exact (hst _ (by omega) (by omega)).trans (hce o h1 c h3)
    by_cases c25 : o = 25
    · subst c25; exact hn25
    omega
  clear hg hst hn25
  refine rn_blk' [(.aload_n 0, 1, 0, 0), (.sipush 4200, 3, 0, 0)] (by decide +kernel) (by omega) (by omega) (fun K R hK hR => ?_)
  simp only [rw_s4200, ↓rx_aload_n0, ↓rx_nil, ↓rx_sipush, ↓ry_lr0s, ↓ry_lr0z, rz_set, rz_nol, rz_clr, List.set_cons_zero, List.set_cons_succ, rz_tr, Nat.reduceAdd, Int.reduceAdd, Int.reduceToNat, Int.reduceSub, Int.reduceNeg, Int.cast_ofNat_Int]
  refine hK _ _ _ _ ?_
  refine rn_na_i (N := 4200) (by decide) (by decide +kernel) (Or.inr ⟨a + 25, rfl, by rw [hce 25 (by decide) (by decide) trivial]; simp⟩) (by decide) (by decide) ?_
  change rn_T w _ _ _ _ 26 15924 _ _ (.ref (a + 26) :: _) (rz_up g25 (a + 26) _) _
  have e1 : rz_up g25 (a + 26) (.inl (0, 4200, .inl (fun _ => 0))) a = some (.inr (10, [.int 0, .ref (a + 1), .ref (a + 2), .ref (a + 3), .ref (a + 4), .ref (a + 5), .ref (a + 6), .ref (a + 7), .ref (a + 8), .ref (a + 9), .ref (a + 10), .ref (a + 11), .int 0, .ref (a + 12), .ref (a + 13), .ref (a + 14), .ref (a + 15), .ref (a + 16), .ref (a + 17), .ref (a + 18), .ref (a + 19), .ref (a + 20), .ref (a + 21), .ref (a + 22), .ref (a + 23), .ref (a + 24), .int 0, .int 0, .ref (a + 25), .null, .int 0, .null, .null, .null, .null, .null, .null, .null, .int 0, .null, .null, .int 0, .int 0, .null, .null, .null, .int 0, .int 0, .null, .null, .int 0, .int 0, .null, .null, .null, .null, .null, .null, .int 0, .null, .null, .null, .null, .null, .int 0, .null, .null, .int 0, .int 0, .int 0, .null, .null, .null, .null, .null, .null, .int 0, .null, .null, .null, .null, .null])) := by rw [rz_up_n _ _ (by omega)]; exact hob
  refine rn_blk' [(.putfield 86, 3, 10, 29)] (by decide +kernel) (by omega) (by omega) (fun K R hK hR => ?_)
  simp only [List.length_cons, List.length_nil, Nat.reduceLT, rf_10_29, ↓rx_nil, ↓rx_putfield, ↓ry_obu, ↓ry_vr, true_and, ↓rh_ob e1, rz_set, rz_nol, rz_clr, List.set_cons_zero, List.set_cons_succ, rz_tr, Nat.reduceAdd, Int.reduceAdd, Int.reduceToNat, Int.reduceSub, Int.reduceNeg, Int.cast_ofNat_Int]
  refine hK _ _ _ _ ?_
  clear e1
  generalize hg : rz_up (rz_up g25 (a + 26) _) a _ = g26
  have hst : ∀ x, x ≠ a → x < a + 26 → g26 x = g25 x := fun x h1 h2 => by rw [← hg, rz_up_n _ _ h1, rz_up_n _ _ (by omega)]
  have hob : g26 a = some (.inr (10, [.int 0, .ref (a + 1), .ref (a + 2), .ref (a + 3), .ref (a + 4), .ref (a + 5), .ref (a + 6), .ref (a + 7), .ref (a + 8), .ref (a + 9), .ref (a + 10), .ref (a + 11), .int 0, .ref (a + 12), .ref (a + 13), .ref (a + 14), .ref (a + 15), .ref (a + 16), .ref (a + 17), .ref (a + 18), .ref (a + 19), .ref (a + 20), .ref (a + 21), .ref (a + 22), .ref (a + 23), .ref (a + 24), .int 0, .int 0, .ref (a + 25), .ref (a + 26), .int 0, .null, .null, .null, .null, .null, .null, .null, .int 0, .null, .null, .int 0, .int 0, .null, .null, .null, .int 0, .int 0, .null, .null, .int 0, .int 0, .null, .null, .null, .null, .null, .null, .int 0, .null, .null, .null, .null, .null, .int 0, .null, .null, .int 0, .int 0, .int 0, .null, .null, .null, .null, .null, .null, .int 0, .null, .null, .null, .null, .null])) := by rw [← hg, rz_up_s]
  have hfr : ∀ x, x < a → g26 x = G x := fun x hx => (hst x (by omega) (by omega)).trans (hfr x hx)
  have hn26 : g26 (a + 26) = some (.inl (0, 4200, .inl (fun _ => 0))) := by rw [← hg, rz_up_n _ _ (by omega), rz_up_s]
  have hce : ∀ o, 1 ≤ o → o < 27 → (True) → g26 (a + o) = some (re_cell a re_I0 re_A0 o) := fun o h1 h2 h3 => by
    by_cases c : o < 26
    · exact (hst _ (by omega) (by omega)).trans (hce o h1 c h3)
    by_cases c26 : o = 26
    · subst c26; exact hn26
    omega
  clear hg hst hn26
  refine rn_blk' [(.aload_n 0, 1, 0, 0), (.bipush 80, 2, 0, 0)] (by decide +kernel) (by omega) (by omega) (fun K R hK hR => ?_)
  simp only [rw_b80, ↓rx_aload_n0, ↓rx_bipush, ↓rx_nil, ↓ry_lr0s, ↓ry_lr0z, rz_set, rz_nol, rz_clr, List.set_cons_zero, List.set_cons_succ, rz_tr, Nat.reduceAdd, Int.reduceAdd, Int.reduceToNat, Int.reduceSub, Int.reduceNeg, Int.cast_ofNat_Int]
  refine hK _ _ _ _ ?_
  refine rn_na_i (N := 80) (by decide) (by decide +kernel) (Or.inr ⟨a + 26, rfl, by rw [hce 26 (by decide) (by decide) trivial]; simp⟩) (by decide) (by decide) ?_
  change rn_T w _ _ _ _ 27 16004 _ _ (.ref (a + 27) :: _) (rz_up g26 (a + 27) _) _
  have e1 : rz_up g26 (a + 27) (.inl (0, 80, .inl (fun _ => 0))) a = some (.inr (10, [.int 0, .ref (a + 1), .ref (a + 2), .ref (a + 3), .ref (a + 4), .ref (a + 5), .ref (a + 6), .ref (a + 7), .ref (a + 8), .ref (a + 9), .ref (a + 10), .ref (a + 11), .int 0, .ref (a + 12), .ref (a + 13), .ref (a + 14), .ref (a + 15), .ref (a + 16), .ref (a + 17), .ref (a + 18), .ref (a + 19), .ref (a + 20), .ref (a + 21), .ref (a + 22), .ref (a + 23), .ref (a + 24), .int 0, .int 0, .ref (a + 25), .ref (a + 26), .int 0, .null, .null, .null, .null, .null, .null, .null, .int 0, .null, .null, .int 0, .int 0, .null, .null, .null, .int 0, .int 0, .null, .null, .int 0, .int 0, .null, .null, .null, .null, .null, .null, .int 0, .null, .null, .null, .null, .null, .int 0, .null, .null, .int 0, .int 0, .int 0, .null, .null, .null, .null, .null, .null, .int 0, .null, .null, .null, .null, .null])) := by rw [rz_up_n _ _ (by omega)]; exact hob
  refine rn_blk' [(.putfield 89, 3, 10, 31)] (by decide +kernel) (by omega) (by omega) (fun K R hK hR => ?_)
  simp only [List.length_cons, List.length_nil, Nat.reduceLT, rf_10_31, ↓rx_nil, ↓rx_putfield, ↓ry_obu, ↓ry_vr, true_and, ↓rh_ob e1, rz_set, rz_nol, rz_clr, List.set_cons_zero, List.set_cons_succ, rz_tr, Nat.reduceAdd, Int.reduceAdd, Int.reduceToNat, Int.reduceSub, Int.reduceNeg, Int.cast_ofNat_Int]
  refine hK _ _ _ _ ?_
  clear e1
  generalize hg : rz_up (rz_up g26 (a + 27) _) a _ = g27
  have hst : ∀ x, x ≠ a → x < a + 27 → g27 x = g26 x := fun x h1 h2 => by rw [← hg, rz_up_n _ _ h1, rz_up_n _ _ (by omega)]
  have hob : g27 a = some (.inr (10, [.int 0, .ref (a + 1), .ref (a + 2), .ref (a + 3), .ref (a + 4), .ref (a + 5), .ref (a + 6), .ref (a + 7), .ref (a + 8), .ref (a + 9), .ref (a + 10), .ref (a + 11), .int 0, .ref (a + 12), .ref (a + 13), .ref (a + 14), .ref (a + 15), .ref (a + 16), .ref (a + 17), .ref (a + 18), .ref (a + 19), .ref (a + 20), .ref (a + 21), .ref (a + 22), .ref (a + 23), .ref (a + 24), .int 0, .int 0, .ref (a + 25), .ref (a + 26), .int 0, .ref (a + 27), .null, .null, .null, .null, .null, .null, .int 0, .null, .null, .int 0, .int 0, .null, .null, .null, .int 0, .int 0, .null, .null, .int 0, .int 0, .null, .null, .null, .null, .null, .null, .int 0, .null, .null, .null, .null, .null, .int 0, .null, .null, .int 0, .int 0, .int 0, .null, .null, .null, .null, .null, .null, .int 0, .null, .null, .null, .null, .null])) := by rw [← hg, rz_up_s]
  have hfr : ∀ x, x < a → g27 x = G x := fun x hx => (hst x (by omega) (by omega)).trans (hfr x hx)
  have hn27 : g27 (a + 27) = some (.inl (0, 80, .inl (fun _ => 0))) := by rw [← hg, rz_up_n _ _ (by omega), rz_up_s]
  have hce : ∀ o, 1 ≤ o → o < 28 → (True) → g27 (a + o) = some (re_cell a re_I0 re_A0 o) := fun o h1 h2 h3 => by
    by_cases c : o < 27
    · exact (hst _ (by omega) (by omega)).trans (hce o h1 c h3)
    by_cases c27 : o = 27
    · subst c27; exact hn27
    omega
  clear hg hst hn27
  refine rn_blk' [(.aload_n 0, 1, 0, 0), (.bipush 80, 2, 0, 0)] (by decide +kernel) (by omega) (by omega) (fun K R hK hR => ?_)
  simp only [rw_b80, ↓rx_aload_n0, ↓rx_bipush, ↓rx_nil, ↓ry_lr0s, ↓ry_lr0z, rz_set, rz_nol, rz_clr, List.set_cons_zero, List.set_cons_succ, rz_tr, Nat.reduceAdd, Int.reduceAdd, Int.reduceToNat, Int.reduceSub, Int.reduceNeg, Int.cast_ofNat_Int]
  refine hK _ _ _ _ ?_
  refine rn_na_i (N := 80) (by decide) (by decide +kernel) (Or.inr ⟨a + 27, rfl, by rw [hce 27 (by decide) (by decide) trivial]; simp⟩) (by decide) (by decide) ?_
  change rn_T w _ _ _ _ 28 16084 _ _ (.ref (a + 28) :: _) (rz_up g27 (a + 28) _) _
  have e1 : rz_up g27 (a + 28) (.inl (0, 80, .inl (fun _ => 0))) a = some (.inr (10, [.int 0, .ref (a + 1), .ref (a + 2), .ref (a + 3), .ref (a + 4), .ref (a + 5), .ref (a + 6), .ref (a + 7), .ref (a + 8), .ref (a + 9), .ref (a + 10), .ref (a + 11), .int 0, .ref (a + 12), .ref (a + 13), .ref (a + 14), .ref (a + 15), .ref (a + 16), .ref (a + 17), .ref (a + 18), .ref (a + 19), .ref (a + 20), .ref (a + 21), .ref (a + 22), .ref (a + 23), .ref (a + 24), .int 0, .int 0, .ref (a + 25), .ref (a + 26), .int 0, .ref (a + 27), .null, .null, .null, .null, .null, .null, .int 0, .null, .null, .int 0, .int 0, .null, .null, .null, .int 0, .int 0, .null, .null, .int 0, .int 0, .null, .null, .null, .null, .null, .null, .int 0, .null, .null, .null, .null, .null, .int 0, .null, .null, .int 0, .int 0, .int 0, .null, .null, .null, .null, .null, .null, .int 0, .null, .null, .null, .null, .null])) := by rw [rz_up_n _ _ (by omega)]; exact hob
  refine rn_blk' [(.putfield 92, 3, 10, 32)] (by decide +kernel) (by omega) (by omega) (fun K R hK hR => ?_)
  simp only [List.length_cons, List.length_nil, Nat.reduceLT, rf_10_32, ↓rx_nil, ↓rx_putfield, ↓ry_obu, ↓ry_vr, true_and, ↓rh_ob e1, rz_set, rz_nol, rz_clr, List.set_cons_zero, List.set_cons_succ, rz_tr, Nat.reduceAdd, Int.reduceAdd, Int.reduceToNat, Int.reduceSub, Int.reduceNeg, Int.cast_ofNat_Int]
  refine hK _ _ _ _ ?_
  clear e1
  generalize hg : rz_up (rz_up g27 (a + 28) _) a _ = g28
  have hst : ∀ x, x ≠ a → x < a + 28 → g28 x = g27 x := fun x h1 h2 => by rw [← hg, rz_up_n _ _ h1, rz_up_n _ _ (by omega)]
  have hob : g28 a = some (.inr (10, [.int 0, .ref (a + 1), .ref (a + 2), .ref (a + 3), .ref (a + 4), .ref (a + 5), .ref (a + 6), .ref (a + 7), .ref (a + 8), .ref (a + 9), .ref (a + 10), .ref (a + 11), .int 0, .ref (a + 12), .ref (a + 13), .ref (a + 14), .ref (a + 15), .ref (a + 16), .ref (a + 17), .ref (a + 18), .ref (a + 19), .ref (a + 20), .ref (a + 21), .ref (a + 22), .ref (a + 23), .ref (a + 24), .int 0, .int 0, .ref (a + 25), .ref (a + 26), .int 0, .ref (a + 27), .ref (a + 28), .null, .null, .null, .null, .null, .int 0, .null, .null, .int 0, .int 0, .null, .null, .null, .int 0, .int 0, .null, .null, .int 0, .int 0, .null, .null, .null, .null, .null, .null, .int 0, .null, .null, .null, .null, .null, .int 0, .null, .null, .int 0, .int 0, .int 0, .null, .null, .null, .null, .null, .null, .int 0, .null, .null, .null, .null, .null])) := by rw [← hg, rz_up_s]
  have hfr : ∀ x, x < a → g28 x = G x := fun x hx => (hst x (by omega) (by omega)).trans (hfr x hx)
  have hn28 : g28 (a + 28) = some (.inl (0, 80, .inl (fun _ => 0))) := by rw [← hg, rz_up_n _ _ (by omega), rz_up_s]
  have hce : ∀ o, 1 ≤ o → o < 29 → (True) → g28 (a + o) = some (re_cell a re_I0 re_A0 o) := fun o h1 h2 h3 => by
    by_cases c : o < 28
    · exact (hst _ (by omega) (by omega)).trans (hce o h1 c h3)
    by_cases c28 : o = 28
    · subst c28; exact hn28
    omega
  clear hg hst hn28
  refine rn_blk' [(.aload_n 0, 1, 0, 0), (.bipush 80, 2, 0, 0)] (by decide +kernel) (by omega) (by omega) (fun K R hK hR => ?_)
  simp only [rw_b80, ↓rx_aload_n0, ↓rx_bipush, ↓rx_nil, ↓ry_lr0s, ↓ry_lr0z, rz_set, rz_nol, rz_clr, List.set_cons_zero, List.set_cons_succ, rz_tr, Nat.reduceAdd, Int.reduceAdd, Int.reduceToNat, Int.reduceSub, Int.reduceNeg, Int.cast_ofNat_Int]
  refine hK _ _ _ _ ?_
  refine rn_na_i (N := 80) (by decide) (by decide +kernel) (Or.inr ⟨a + 28, rfl, by rw [hce 28 (by decide) (by decide) trivial]; simp⟩) (by decide) (by decide) ?_
  change rn_T w _ _ _ _ 29 16164 _ _ (.ref (a + 29) :: _) (rz_up g28 (a + 29) _) _
  have e1 : rz_up g28 (a + 29) (.inl (0, 80, .inl (fun _ => 0))) a = some (.inr (10, [.int 0, .ref (a + 1), .ref (a + 2), .ref (a + 3), .ref (a + 4), .ref (a + 5), .ref (a + 6), .ref (a + 7), .ref (a + 8), .ref (a + 9), .ref (a + 10), .ref (a + 11), .int 0, .ref (a + 12), .ref (a + 13), .ref (a + 14), .ref (a + 15), .ref (a + 16), .ref (a + 17), .ref (a + 18), .ref (a + 19), .ref (a + 20), .ref (a + 21), .ref (a + 22), .ref (a + 23), .ref (a + 24), .int 0, .int 0, .ref (a + 25), .ref (a + 26), .int 0, .ref (a + 27), .ref (a + 28), .null, .null, .null, .null, .null, .int 0, .null, .null, .int 0, .int 0, .null, .null, .null, .int 0, .int 0, .null, .null, .int 0, .int 0, .null, .null, .null, .null, .null, .null, .int 0, .null, .null, .null, .null, .null, .int 0, .null, .null, .int 0, .int 0, .int 0, .null, .null, .null, .null, .null, .null, .int 0, .null, .null, .null, .null, .null])) := by rw [rz_up_n _ _ (by omega)]; exact hob
  refine rn_blk' [(.putfield 95, 3, 10, 33)] (by decide +kernel) (by omega) (by omega) (fun K R hK hR => ?_)
  simp only [List.length_cons, List.length_nil, Nat.reduceLT, rf_10_33, ↓rx_nil, ↓rx_putfield, ↓ry_obu, ↓ry_vr, true_and, ↓rh_ob e1, rz_set, rz_nol, rz_clr, List.set_cons_zero, List.set_cons_succ, rz_tr, Nat.reduceAdd, Int.reduceAdd, Int.reduceToNat, Int.reduceSub, Int.reduceNeg, Int.cast_ofNat_Int]
  refine hK _ _ _ _ ?_
  clear e1
  generalize hg : rz_up (rz_up g28 (a + 29) _) a _ = g29
  have hst : ∀ x, x ≠ a → x < a + 29 → g29 x = g28 x := fun x h1 h2 => by rw [← hg, rz_up_n _ _ h1, rz_up_n _ _ (by omega)]
  have hob : g29 a = some (.inr (10, [.int 0, .ref (a + 1), .ref (a + 2), .ref (a + 3), .ref (a + 4), .ref (a + 5), .ref (a + 6), .ref (a + 7), .ref (a + 8), .ref (a + 9), .ref (a + 10), .ref (a + 11), .int 0, .ref (a + 12), .ref (a + 13), .ref (a + 14), .ref (a + 15), .ref (a + 16), .ref (a + 17), .ref (a + 18), .ref (a + 19), .ref (a + 20), .ref (a + 21), .ref (a + 22), .ref (a + 23), .ref (a + 24), .int 0, .int 0, .ref (a + 25), .ref (a + 26), .int 0, .ref (a + 27), .ref (a + 28), .ref (a + 29), .null, .null, .null, .null, .int 0, .null, .null, .int 0, .int 0, .null, .null, .null, .int 0, .int 0, .null, .null, .int 0, .int 0, .null, .null, .null, .null, .null, .null, .int 0, .null, .null, .null, .null, .null, .int 0, .null, .null, .int 0, .int 0, .int 0, .null, .null, .null, .null, .null, .null, .int 0, .null, .null, .null, .null, .null])) := by rw [← hg, rz_up_s]
  have hfr : ∀ x, x < a → g29 x = G x := fun x hx => (hst x (by omega) (by omega)).trans (hfr x hx)
  have hn29 : g29 (a + 29) = some (.inl (0, 80, .inl (fun _ => 0))) := by rw [← hg, rz_up_n _ _ (by omega), rz_up_s]
  have hce : ∀ o, 1 ≤ o → o < 30 → (True) → g29 (a + o) = some (re_cell a re_I0 re_A0 o) := fun o h1 h2 h3 => by
    by_cases c : o < 29
    · exact (hst _ (by omega) (by omega)).trans (hce o h1 c h3)
    by_cases c29 : o = 29
    · subst c29; exact hn29
    omega
  clear hg hst hn29
  refine rn_blk' [(.aload_n 0, 1, 0, 0), (.bipush 80, 2, 0, 0)] (by decide +kernel) (by omega) (by omega) (fun K R hK hR => ?_)
  simp only [rw_b80, ↓rx_aload_n0, ↓rx_bipush, ↓rx_nil, ↓ry_lr0s, ↓ry_lr0z, rz_set, rz_nol, rz_clr, List.set_cons_zero, List.set_cons_succ, rz_tr, Nat.reduceAdd, Int.reduceAdd, Int.reduceToNat, Int.reduceSub, Int.reduceNeg, Int.cast_ofNat_Int]
  refine hK _ _ _ _ ?_
  refine rn_na_i (N := 80) (by decide) (by decide +kernel) (Or.inr ⟨a + 29, rfl, by rw [hce 29 (by decide) (by decide) trivial]; simp⟩) (by decide) (by decide) ?_
  change rn_T w _ _ _ _ 30 16244 _ _ (.ref (a + 30) :: _) (rz_up g29 (a + 30) _) _
  have e1 : rz_up g29 (a + 30) (.inl (0, 80, .inl (fun _ => 0))) a = some (.inr (10, [.int 0, .ref (a + 1), .ref (a + 2), .ref (a + 3), .ref (a + 4), .ref (a + 5), .ref (a + 6), .ref (a + 7), .ref (a + 8), .ref (a + 9), .ref (a + 10), .ref (a + 11), .int 0, .ref (a + 12), .ref (a + 13), .ref (a + 14), .ref (a + 15), .ref (a + 16), .ref (a + 17), .ref (a + 18), .ref (a + 19), .ref (a + 20), .ref (a + 21), .ref (a + 22), .ref (a + 23), .ref (a + 24), .int 0, .int 0, .ref (a + 25), .ref (a + 26), .int 0, .ref (a + 27), .ref (a + 28), .ref (a + 29), .null, .null, .null, .null, .int 0, .null, .null, .int 0, .int 0, .null, .null, .null, .int 0, .int 0, .null, .null, .int 0, .int 0, .null, .null, .null, .null, .null, .null, .int 0, .null, .null, .null, .null, .null, .int 0, .null, .null, .int 0, .int 0, .int 0, .null, .null, .null, .null, .null, .null, .int 0, .null, .null, .null, .null, .null])) := by rw [rz_up_n _ _ (by omega)]; exact hob
  refine rn_blk' [(.putfield 98, 3, 10, 34)] (by decide +kernel) (by omega) (by omega) (fun K R hK hR => ?_)
  simp only [List.length_cons, List.length_nil, Nat.reduceLT, rf_10_34, ↓rx_nil, ↓rx_putfield, ↓ry_obu, ↓ry_vr, true_and, ↓rh_ob e1, rz_set, rz_nol, rz_clr, List.set_cons_zero, List.set_cons_succ, rz_tr, Nat.reduceAdd, Int.reduceAdd, Int.reduceToNat, Int.reduceSub, Int.reduceNeg, Int.cast_ofNat_Int]
  refine hK _ _ _ _ ?_
  clear e1
  generalize hg : rz_up (rz_up g29 (a + 30) _) a _ = g30
  have hst : ∀ x, x ≠ a → x < a + 30 → g30 x = g29 x := fun x h1 h2 => by rw [← hg, rz_up_n _ _ h1, rz_up_n _ _ (by omega)]
  have hob : g30 a = some (.inr (10, [.int 0, .ref (a + 1), .ref (a + 2), .ref (a + 3), .ref (a + 4), .ref (a + 5), .ref (a + 6), .ref (a + 7), .ref (a + 8), .ref (a + 9), .ref (a + 10), .ref (a + 11), .int 0, .ref (a + 12), .ref (a + 13), .ref (a + 14), .ref (a + 15), .ref (a + 16), .ref (a + 17), .ref (a + 18), .ref (a + 19), .ref (a + 20), .ref (a + 21), .ref (a + 22), .ref (a + 23), .ref (a + 24), .int 0, .int 0, .ref (a + 25), .ref (a + 26), .int 0, .ref (a + 27), .ref (a + 28), .ref (a + 29), .ref (a + 30), .null, .null, .null, .int 0, .null, .null, .int 0, .int 0, .null, .null, .null, .int 0, .int 0, .null, .null, .int 0, .int 0, .null, .null, .null, .null, .null, .null, .int 0, .null, .null, .null, .null, .null, .int 0, .null, .null, .int 0, .int 0, .int 0, .null, .null, .null, .null, .null, .null, .int 0, .null, .null, .null, .null, .null])) := by rw [← hg, rz_up_s]
  have hfr : ∀ x, x < a → g30 x = G x := fun x hx => (hst x (by omega) (by omega)).trans (hfr x hx)
  have hn30 : g30 (a + 30) = some (.inl (0, 80, .inl (fun _ => 0))) := by rw [← hg, rz_up_n _ _ (by omega), rz_up_s]
  have hce : ∀ o, 1 ≤ o → o < 31 → (True) → g30 (a + o) = some (re_cell a re_I0 re_A0 o) := fun o h1 h2 h3 => by
    by_cases c : o < 30
    · exact (hst _ (by omega) (by omega)).trans (hce o h1 c h3)
    by_cases c30 : o = 30
    · subst c30; exact hn30
    omega
  clear hg hst hn30
  refine rn_blk' [(.aload_n 0, 1, 0, 0)] (by decide +kernel) (by omega) (by omega) (fun K R hK hR => ?_)
  simp only [↓rx_aload_n0, ↓rx_nil, ↓ry_lr0s, ↓ry_lr0z, rz_set, rz_nol, rz_clr, List.set_cons_zero, List.set_cons_succ, rz_tr, Nat.reduceAdd, Int.reduceAdd, Int.reduceToNat, Int.reduceSub, Int.reduceNeg, Int.cast_ofNat_Int]
  refine hK _ _ _ _ ?_
  refine rn_ldc (v := 168000) (by decide +kernel) (rz_j5 93 rfl rfl) ?_
  change rn_T w _ _ _ _ _ _ _ _ (.int (nI 168000) :: _) _ _
  refine rn_na_i (N := 168000) (by decide) (by decide +kernel) (Or.inr ⟨a + 30, rfl, by rw [hce 30 (by decide) (by decide) trivial]; simp⟩) (by decide) (by decide) ?_
  change rn_T w _ _ _ _ 31 184244 _ _ (.ref (a + 31) :: _) (rz_up g30 (a + 31) _) _
  have e1 : rz_up g30 (a + 31) (.inl (0, 168000, .inl (fun _ => 0))) a = some (.inr (10, [.int 0, .ref (a + 1), .ref (a + 2), .ref (a + 3), .ref (a + 4), .ref (a + 5), .ref (a + 6), .ref (a + 7), .ref (a + 8), .ref (a + 9), .ref (a + 10), .ref (a + 11), .int 0, .ref (a + 12), .ref (a + 13), .ref (a + 14), .ref (a + 15), .ref (a + 16), .ref (a + 17), .ref (a + 18), .ref (a + 19), .ref (a + 20), .ref (a + 21), .ref (a + 22), .ref (a + 23), .ref (a + 24), .int 0, .int 0, .ref (a + 25), .ref (a + 26), .int 0, .ref (a + 27), .ref (a + 28), .ref (a + 29), .ref (a + 30), .null, .null, .null, .int 0, .null, .null, .int 0, .int 0, .null, .null, .null, .int 0, .int 0, .null, .null, .int 0, .int 0, .null, .null, .null, .null, .null, .null, .int 0, .null, .null, .null, .null, .null, .int 0, .null, .null, .int 0, .int 0, .int 0, .null, .null, .null, .null, .null, .null, .int 0, .null, .null, .null, .null, .null])) := by rw [rz_up_n _ _ (by omega)]; exact hob
  refine rn_blk' [(.putfield 102, 3, 10, 35)] (by decide +kernel) (by omega) (by omega) (fun K R hK hR => ?_)
  simp only [List.length_cons, List.length_nil, Nat.reduceLT, rf_10_35, ↓rx_nil, ↓rx_putfield, ↓ry_obu, ↓ry_vr, true_and, ↓rh_ob e1, rz_set, rz_nol, rz_clr, List.set_cons_zero, List.set_cons_succ, rz_tr, Nat.reduceAdd, Int.reduceAdd, Int.reduceToNat, Int.reduceSub, Int.reduceNeg, Int.cast_ofNat_Int]
  refine hK _ _ _ _ ?_
  clear e1
  generalize hg : rz_up (rz_up g30 (a + 31) _) a _ = g31
  have hst : ∀ x, x ≠ a → x < a + 31 → g31 x = g30 x := fun x h1 h2 => by rw [← hg, rz_up_n _ _ h1, rz_up_n _ _ (by omega)]
  have hob : g31 a = some (.inr (10, [.int 0, .ref (a + 1), .ref (a + 2), .ref (a + 3), .ref (a + 4), .ref (a + 5), .ref (a + 6), .ref (a + 7), .ref (a + 8), .ref (a + 9), .ref (a + 10), .ref (a + 11), .int 0, .ref (a + 12), .ref (a + 13), .ref (a + 14), .ref (a + 15), .ref (a + 16), .ref (a + 17), .ref (a + 18), .ref (a + 19), .ref (a + 20), .ref (a + 21), .ref (a + 22), .ref (a + 23), .ref (a + 24), .int 0, .int 0, .ref (a + 25), .ref (a + 26), .int 0, .ref (a + 27), .ref (a + 28), .ref (a + 29), .ref (a + 30), .ref (a + 31), .null, .null, .int 0, .null, .null, .int 0, .int 0, .null, .null, .null, .int 0, .int 0, .null, .null, .int 0, .int 0, .null, .null, .null, .null, .null, .null, .int 0, .null, .null, .null, .null, .null, .int 0, .null, .null, .int 0, .int 0, .int 0, .null, .null, .null, .null, .null, .null, .int 0, .null, .null, .null, .null, .null])) := by rw [← hg, rz_up_s]
  have hfr : ∀ x, x < a → g31 x = G x := fun x hx => (hst x (by omega) (by omega)).trans (hfr x hx)
  have hn31 : g31 (a + 31) = some (.inl (0, 168000, .inl (fun _ => 0))) := by rw [← hg, rz_up_n _ _ (by omega), rz_up_s]
  have hce : ∀ o, 1 ≤ o → o < 32 → (True) → g31 (a + o) = some (re_cell a re_I0 re_A0 o) := fun o h1 h2 h3 => by
    by_cases c : o < 31
    · exact (hst _ (by omega) (by omega)).trans (hce o h1 c h3)
    by_cases c31 : o = 31
    · subst c31; exact hn31
    omega
  clear hg hst hn31
  refine rn_blk' [(.aload_n 0, 1, 0, 0), (.bipush 80, 2, 0, 0)] (by decide +kernel) (by omega) (by omega) (fun K R hK hR => ?_)
  simp only [rw_b80, ↓rx_aload_n0, ↓rx_bipush, ↓rx_nil, ↓ry_lr0s, ↓ry_lr0z, rz_set, rz_nol, rz_clr, List.set_cons_zero, List.set_cons_succ, rz_tr, Nat.reduceAdd, Int.reduceAdd, Int.reduceToNat, Int.reduceSub, Int.reduceNeg, Int.cast_ofNat_Int]
  refine hK _ _ _ _ ?_
  refine rn_na_i (N := 80) (by decide) (by decide +kernel) (Or.inr ⟨a + 31, rfl, by rw [hce 31 (by decide) (by decide) trivial]; simp⟩) (by decide) (by decide) ?_
  change rn_T w _ _ _ _ 32 184324 _ _ (.ref (a + 32) :: _) (rz_up g31 (a + 32) _) _
  have e1 : rz_up g31 (a + 32) (.inl (0, 80, .inl (fun _ => 0))) a = some (.inr (10, [.int 0, .ref (a + 1), .ref (a + 2), .ref (a + 3), .ref (a + 4), .ref (a + 5), .ref (a + 6), .ref (a + 7), .ref (a + 8), .ref (a + 9), .ref (a + 10), .ref (a + 11), .int 0, .ref (a + 12), .ref (a + 13), .ref (a + 14), .ref (a + 15), .ref (a + 16), .ref (a + 17), .ref (a + 18), .ref (a + 19), .ref (a + 20), .ref (a + 21), .ref (a + 22), .ref (a + 23), .ref (a + 24), .int 0, .int 0, .ref (a + 25), .ref (a + 26), .int 0, .ref (a + 27), .ref (a + 28), .ref (a + 29), .ref (a + 30), .ref (a + 31), .null, .null, .int 0, .null, .null, .int 0, .int 0, .null, .null, .null, .int 0, .int 0, .null, .null, .int 0, .int 0, .null, .null, .null, .null, .null, .null, .int 0, .null, .null, .null, .null, .null, .int 0, .null, .null, .int 0, .int 0, .int 0, .null, .null, .null, .null, .null, .null, .int 0, .null, .null, .null, .null, .null])) := by rw [rz_up_n _ _ (by omega)]; exact hob
  refine rn_blk' [(.putfield 105, 3, 10, 36)] (by decide +kernel) (by omega) (by omega) (fun K R hK hR => ?_)
  simp only [List.length_cons, List.length_nil, Nat.reduceLT, rf_10_36, ↓rx_nil, ↓rx_putfield, ↓ry_obu, ↓ry_vr, true_and, ↓rh_ob e1, rz_set, rz_nol, rz_clr, List.set_cons_zero, List.set_cons_succ, rz_tr, Nat.reduceAdd, Int.reduceAdd, Int.reduceToNat, Int.reduceSub, Int.reduceNeg, Int.cast_ofNat_Int]
  refine hK _ _ _ _ ?_
  clear e1
  generalize hg : rz_up (rz_up g31 (a + 32) _) a _ = g32
  have hst : ∀ x, x ≠ a → x < a + 32 → g32 x = g31 x := fun x h1 h2 => by rw [← hg, rz_up_n _ _ h1, rz_up_n _ _ (by omega)]
  have hob : g32 a = some (.inr (10, [.int 0, .ref (a + 1), .ref (a + 2), .ref (a + 3), .ref (a + 4), .ref (a + 5), .ref (a + 6), .ref (a + 7), .ref (a + 8), .ref (a + 9), .ref (a + 10), .ref (a + 11), .int 0, .ref (a + 12), .ref (a + 13), .ref (a + 14), .ref (a + 15), .ref (a + 16), .ref (a + 17), .ref (a + 18), .ref (a + 19), .ref (a + 20), .ref (a + 21), .ref (a + 22), .ref (a + 23), .ref (a + 24), .int 0, .int 0, .ref (a + 25), .ref (a + 26), .int 0, .ref (a + 27), .ref (a + 28), .ref (a + 29), .ref (a + 30), .ref (a + 31), .ref (a + 32), .null, .int 0, .null, .null, .int 0, .int 0, .null, .null, .null, .int 0, .int 0, .null, .null, .int 0, .int 0, .null, .null, .null, .null, .null, .null, .int 0, .null, .null, .null, .null, .null, .int 0, .null, .null, .int 0, .int 0, .int 0, .null, .null, .null, .null, .null, .null, .int 0, .null, .null, .null, .null, .null])) := by rw [← hg, rz_up_s]
  have hfr : ∀ x, x < a → g32 x = G x := fun x hx => (hst x (by omega) (by omega)).trans (hfr x hx)
  have hn32 : g32 (a + 32) = some (.inl (0, 80, .inl (fun _ => 0))) := by rw [← hg, rz_up_n _ _ (by omega), rz_up_s]
  have hce : ∀ o, 1 ≤ o → o < 33 → (True) → g32 (a + o) = some (re_cell a re_I0 re_A0 o) := fun o h1 h2 h3 => by
    by_cases c : o < 32
    · exact (hst _ (by omega) (by omega)).trans (hce o h1 c h3)
    by_cases c32 : o = 32
    · subst c32; exact hn32
    omega
  clear hg hst hn32
  refine rn_blk' [(.aload_n 0, 1, 0, 0), (.bipush 36, 2, 0, 0)] (by decide +kernel) (by omega) (by omega) (fun K R hK hR => ?_)
  simp only [rw_b36, ↓rx_aload_n0, ↓rx_bipush, ↓rx_nil, ↓ry_lr0s, ↓ry_lr0z, rz_set, rz_nol, rz_clr, List.set_cons_zero, List.set_cons_succ, rz_tr, Nat.reduceAdd, Int.reduceAdd, Int.reduceToNat, Int.reduceSub, Int.reduceNeg, Int.cast_ofNat_Int]
  refine hK _ _ _ _ ?_
  refine rn_na_i (N := 36) (by decide) (by decide +kernel) (Or.inr ⟨a + 32, rfl, by rw [hce 32 (by decide) (by decide) trivial]; simp⟩) (by decide) (by decide) ?_
  change rn_T w _ _ _ _ 33 184360 _ _ (.ref (a + 33) :: _) (rz_up g32 (a + 33) _) _
  have e1 : rz_up g32 (a + 33) (.inl (0, 36, .inl (fun _ => 0))) a = some (.inr (10, [.int 0, .ref (a + 1), .ref (a + 2), .ref (a + 3), .ref (a + 4), .ref (a + 5), .ref (a + 6), .ref (a + 7), .ref (a + 8), .ref (a + 9), .ref (a + 10), .ref (a + 11), .int 0, .ref (a + 12), .ref (a + 13), .ref (a + 14), .ref (a + 15), .ref (a + 16), .ref (a + 17), .ref (a + 18), .ref (a + 19), .ref (a + 20), .ref (a + 21), .ref (a + 22), .ref (a + 23), .ref (a + 24), .int 0, .int 0, .ref (a + 25), .ref (a + 26), .int 0, .ref (a + 27), .ref (a + 28), .ref (a + 29), .ref (a + 30), .ref (a + 31), .ref (a + 32), .null, .int 0, .null, .null, .int 0, .int 0, .null, .null, .null, .int 0, .int 0, .null, .null, .int 0, .int 0, .null, .null, .null, .null, .null, .null, .int 0, .null, .null, .null, .null, .null, .int 0, .null, .null, .int 0, .int 0, .int 0, .null, .null, .null, .null, .null, .null, .int 0, .null, .null, .null, .null, .null])) := by rw [rz_up_n _ _ (by omega)]; exact hob
  refine rn_blk' [(.putfield 108, 3, 10, 37)] (by decide +kernel) (by omega) (by omega) (fun K R hK hR => ?_)
  simp only [List.length_cons, List.length_nil, Nat.reduceLT, rf_10_37, ↓rx_nil, ↓rx_putfield, ↓ry_obu, ↓ry_vr, true_and, ↓rh_ob e1, rz_set, rz_nol, rz_clr, List.set_cons_zero, List.set_cons_succ, rz_tr, Nat.reduceAdd, Int.reduceAdd, Int.reduceToNat, Int.reduceSub, Int.reduceNeg, Int.cast_ofNat_Int]
  refine hK _ _ _ _ ?_
  clear e1
  generalize hg : rz_up (rz_up g32 (a + 33) _) a _ = g33
  have hst : ∀ x, x ≠ a → x < a + 33 → g33 x = g32 x := fun x h1 h2 => by rw [← hg, rz_up_n _ _ h1, rz_up_n _ _ (by omega)]
  have hob : g33 a = some (.inr (10, [.int 0, .ref (a + 1), .ref (a + 2), .ref (a + 3), .ref (a + 4), .ref (a + 5), .ref (a + 6), .ref (a + 7), .ref (a + 8), .ref (a + 9), .ref (a + 10), .ref (a + 11), .int 0, .ref (a + 12), .ref (a + 13), .ref (a + 14), .ref (a + 15), .ref (a + 16), .ref (a + 17), .ref (a + 18), .ref (a + 19), .ref (a + 20), .ref (a + 21), .ref (a + 22), .ref (a + 23), .ref (a + 24), .int 0, .int 0, .ref (a + 25), .ref (a + 26), .int 0, .ref (a + 27), .ref (a + 28), .ref (a + 29), .ref (a + 30), .ref (a + 31), .ref (a + 32), .ref (a + 33), .int 0, .null, .null, .int 0, .int 0, .null, .null, .null, .int 0, .int 0, .null, .null, .int 0, .int 0, .null, .null, .null, .null, .null, .null, .int 0, .null, .null, .null, .null, .null, .int 0, .null, .null, .int 0, .int 0, .int 0, .null, .null, .null, .null, .null, .null, .int 0, .null, .null, .null, .null, .null])) := by rw [← hg, rz_up_s]
  have hfr : ∀ x, x < a → g33 x = G x := fun x hx => (hst x (by omega) (by omega)).trans (hfr x hx)
  have hn33 : g33 (a + 33) = some (.inl (0, 36, .inl (fun _ => 0))) := by rw [← hg, rz_up_n _ _ (by omega), rz_up_s]
  have hce : ∀ o, 1 ≤ o → o < 34 → (True) → g33 (a + o) = some (re_cell a re_I0 re_A0 o) := fun o h1 h2 h3 => by
    by_cases c : o < 33
    · exact (hst _ (by omega) (by omega)).trans (hce o h1 c h3)
    by_cases c33 : o = 33
    · subst c33; exact hn33
    omega
  clear hg hst hn33
  refine rn_blk' [(.aload_n 0, 1, 0, 0), (.sipush 4100, 3, 0, 0)] (by decide +kernel) (by omega) (by omega) (fun K R hK hR => ?_)
  simp only [rw_s4100, ↓rx_aload_n0, ↓rx_nil, ↓rx_sipush, ↓ry_lr0s, ↓ry_lr0z, rz_set, rz_nol, rz_clr, List.set_cons_zero, List.set_cons_succ, rz_tr, Nat.reduceAdd, Int.reduceAdd, Int.reduceToNat, Int.reduceSub, Int.reduceNeg, Int.cast_ofNat_Int]
  refine hK _ _ _ _ ?_
  refine rn_na_i (N := 4100) (by decide) (by decide +kernel) (Or.inr ⟨a + 33, rfl, by rw [hce 33 (by decide) (by decide) trivial]; simp⟩) (by decide) (by decide) ?_
  change rn_T w _ _ _ _ 34 188460 _ _ (.ref (a + 34) :: _) (rz_up g33 (a + 34) _) _
  have e1 : rz_up g33 (a + 34) (.inl (0, 4100, .inl (fun _ => 0))) a = some (.inr (10, [.int 0, .ref (a + 1), .ref (a + 2), .ref (a + 3), .ref (a + 4), .ref (a + 5), .ref (a + 6), .ref (a + 7), .ref (a + 8), .ref (a + 9), .ref (a + 10), .ref (a + 11), .int 0, .ref (a + 12), .ref (a + 13), .ref (a + 14), .ref (a + 15), .ref (a + 16), .ref (a + 17), .ref (a + 18), .ref (a + 19), .ref (a + 20), .ref (a + 21), .ref (a + 22), .ref (a + 23), .ref (a + 24), .int 0, .int 0, .ref (a + 25), .ref (a + 26), .int 0, .ref (a + 27), .ref (a + 28), .ref (a + 29), .ref (a + 30), .ref (a + 31), .ref (a + 32), .ref (a + 33), .int 0, .null, .null, .int 0, .int 0, .null, .null, .null, .int 0, .int 0, .null, .null, .int 0, .int 0, .null, .null, .null, .null, .null, .null, .int 0, .null, .null, .null, .null, .null, .int 0, .null, .null, .int 0, .int 0, .int 0, .null, .null, .null, .null, .null, .null, .int 0, .null, .null, .null, .null, .null])) := by rw [rz_up_n _ _ (by omega)]; exact hob
  refine rn_blk' [(.putfield 111, 3, 10, 39)] (by decide +kernel) (by omega) (by omega) (fun K R hK hR => ?_)
  simp only [List.length_cons, List.length_nil, Nat.reduceLT, rf_10_39, ↓rx_nil, ↓rx_putfield, ↓ry_obu, ↓ry_vr, true_and, ↓rh_ob e1, rz_set, rz_nol, rz_clr, List.set_cons_zero, List.set_cons_succ, rz_tr, Nat.reduceAdd, Int.reduceAdd, Int.reduceToNat, Int.reduceSub, Int.reduceNeg, Int.cast_ofNat_Int]
  refine hK _ _ _ _ ?_
  clear e1
  generalize hg : rz_up (rz_up g33 (a + 34) _) a _ = g34
  have hst : ∀ x, x ≠ a → x < a + 34 → g34 x = g33 x := fun x h1 h2 => by rw [← hg, rz_up_n _ _ h1, rz_up_n _ _ (by omega)]
  have hob : g34 a = some (.inr (10, [.int 0, .ref (a + 1), .ref (a + 2), .ref (a + 3), .ref (a + 4), .ref (a + 5), .ref (a + 6), .ref (a + 7), .ref (a + 8), .ref (a + 9), .ref (a + 10), .ref (a + 11), .int 0, .ref (a + 12), .ref (a + 13), .ref (a + 14), .ref (a + 15), .ref (a + 16), .ref (a + 17), .ref (a + 18), .ref (a + 19), .ref (a + 20), .ref (a + 21), .ref (a + 22), .ref (a + 23), .ref (a + 24), .int 0, .int 0, .ref (a + 25), .ref (a + 26), .int 0, .ref (a + 27), .ref (a + 28), .ref (a + 29), .ref (a + 30), .ref (a + 31), .ref (a + 32), .ref (a + 33), .int 0, .ref (a + 34), .null, .int 0, .int 0, .null, .null, .null, .int 0, .int 0, .null, .null, .int 0, .int 0, .null, .null, .null, .null, .null, .null, .int 0, .null, .null, .null, .null, .null, .int 0, .null, .null, .int 0, .int 0, .int 0, .null, .null, .null, .null, .null, .null, .int 0, .null, .null, .null, .null, .null])) := by rw [← hg, rz_up_s]
  have hfr : ∀ x, x < a → g34 x = G x := fun x hx => (hst x (by omega) (by omega)).trans (hfr x hx)
  have hn34 : g34 (a + 34) = some (.inl (0, 4100, .inl (fun _ => 0))) := by rw [← hg, rz_up_n _ _ (by omega), rz_up_s]
  have hce : ∀ o, 1 ≤ o → o < 35 → (True) → g34 (a + o) = some (re_cell a re_I0 re_A0 o) := fun o h1 h2 h3 => by
    by_cases c : o < 34
    · exact (hst _ (by omega) (by omega)).trans (hce o h1 c h3)
    by_cases c34 : o = 34
    · subst c34; exact hn34
    omega
  clear hg hst hn34
  refine rn_blk' [(.aload_n 0, 1, 0, 0), (.sipush 4100, 3, 0, 0)] (by decide +kernel) (by omega) (by omega) (fun K R hK hR => ?_)
  simp only [rw_s4100, ↓rx_aload_n0, ↓rx_nil, ↓rx_sipush, ↓ry_lr0s, ↓ry_lr0z, rz_set, rz_nol, rz_clr, List.set_cons_zero, List.set_cons_succ, rz_tr, Nat.reduceAdd, Int.reduceAdd, Int.reduceToNat, Int.reduceSub, Int.reduceNeg, Int.cast_ofNat_Int]
  refine hK _ _ _ _ ?_
  refine rn_na_i (N := 4100) (by decide) (by decide +kernel) (Or.inr ⟨a + 34, rfl, by rw [hce 34 (by decide) (by decide) trivial]; simp⟩) (by decide) (by decide) ?_
  change rn_T w _ _ _ _ 35 192560 _ _ (.ref (a + 35) :: _) (rz_up g34 (a + 35) _) _
  have e1 : rz_up g34 (a + 35) (.inl (0, 4100, .inl (fun _ => 0))) a = some (.inr (10, [.int 0, .ref (a + 1), .ref (a + 2), .ref (a + 3), .ref (a + 4), .ref (a + 5), .ref (a + 6), .ref (a + 7), .ref (a + 8), .ref (a + 9), .ref (a + 10), .ref (a + 11), .int 0, .ref (a + 12), .ref (a + 13), .ref (a + 14), .ref (a + 15), .ref (a + 16), .ref (a + 17), .ref (a + 18), .ref (a + 19), .ref (a + 20), .ref (a + 21), .ref (a + 22), .ref (a + 23), .ref (a + 24), .int 0, .int 0, .ref (a + 25), .ref (a + 26), .int 0, .ref (a + 27), .ref (a + 28), .ref (a + 29), .ref (a + 30), .ref (a + 31), .ref (a + 32), .ref (a + 33), .int 0, .ref (a + 34), .null, .int 0, .int 0, .null, .null, .null, .int 0, .int 0, .null, .null, .int 0, .int 0, .null, .null, .null, .null, .null, .null, .int 0, .null, .null, .null, .null, .null, .int 0, .null, .null, .int 0, .int 0, .int 0, .null, .null, .null, .null, .null, .null, .int 0, .null, .null, .null, .null, .null])) := by rw [rz_up_n _ _ (by omega)]; exact hob
  refine rn_blk' [(.putfield 114, 3, 10, 40)] (by decide +kernel) (by omega) (by omega) (fun K R hK hR => ?_)
  simp only [List.length_cons, List.length_nil, Nat.reduceLT, rf_10_40, ↓rx_nil, ↓rx_putfield, ↓ry_obu, ↓ry_vr, true_and, ↓rh_ob e1, rz_set, rz_nol, rz_clr, List.set_cons_zero, List.set_cons_succ, rz_tr, Nat.reduceAdd, Int.reduceAdd, Int.reduceToNat, Int.reduceSub, Int.reduceNeg, Int.cast_ofNat_Int]
  refine hK _ _ _ _ ?_
  clear e1
  generalize hg : rz_up (rz_up g34 (a + 35) _) a _ = g35
  have hst : ∀ x, x ≠ a → x < a + 35 → g35 x = g34 x := fun x h1 h2 => by rw [← hg, rz_up_n _ _ h1, rz_up_n _ _ (by omega)]
  have hob : g35 a = some (.inr (10, [.int 0, .ref (a + 1), .ref (a + 2), .ref (a + 3), .ref (a + 4), .ref (a + 5), .ref (a + 6), .ref (a + 7), .ref (a + 8), .ref (a + 9), .ref (a + 10), .ref (a + 11), .int 0, .ref (a + 12), .ref (a + 13), .ref (a + 14), .ref (a + 15), .ref (a + 16), .ref (a + 17), .ref (a + 18), .ref (a + 19), .ref (a + 20), .ref (a + 21), .ref (a + 22), .ref (a + 23), .ref (a + 24), .int 0, .int 0, .ref (a + 25), .ref (a + 26), .int 0, .ref (a + 27), .ref (a + 28), .ref (a + 29), .ref (a + 30), .ref (a + 31), .ref (a + 32), .ref (a + 33), .int 0, .ref (a + 34), .ref (a + 35), .int 0, .int 0, .null, .null, .null, .int 0, .int 0, .null, .null, .int 0, .int 0, .null, .null, .null, .null, .null, .null, .int 0, .null, .null, .null, .null, .null, .int 0, .null, .null, .int 0, .int 0, .int 0, .null, .null, .null, .null, .null, .null, .int 0, .null, .null, .null, .null, .null])) := by rw [← hg, rz_up_s]
  have hfr : ∀ x, x < a → g35 x = G x := fun x hx => (hst x (by omega) (by omega)).trans (hfr x hx)
  have hn35 : g35 (a + 35) = some (.inl (0, 4100, .inl (fun _ => 0))) := by rw [← hg, rz_up_n _ _ (by omega), rz_up_s]
  have hce : ∀ o, 1 ≤ o → o < 36 → (True) → g35 (a + o) = some (re_cell a re_I0 re_A0 o) := fun o h1 h2 h3 => by
    by_cases c : o < 35
    · exact (hst _ (by omega) (by omega)).trans (hce o h1 c h3)
    by_cases c35 : o = 35
    · subst c35; exact hn35
    omega
  clear hg hst hn35
  refine rn_blk' [(.aload_n 0, 1, 0, 0), (.sipush 4100, 3, 0, 0)] (by decide +kernel) (by omega) (by omega) (fun K R hK hR => ?_)
  simp only [rw_s4100, ↓rx_aload_n0, ↓rx_nil, ↓rx_sipush, ↓ry_lr0s, ↓ry_lr0z, rz_set, rz_nol, rz_clr, List.set_cons_zero, List.set_cons_succ, rz_tr, Nat.reduceAdd, Int.reduceAdd, Int.reduceToNat, Int.reduceSub, Int.reduceNeg, Int.cast_ofNat_Int]
  refine hK _ _ _ _ ?_
  refine rn_na_i (N := 4100) (by decide) (by decide +kernel) (Or.inr ⟨a + 35, rfl, by rw [hce 35 (by decide) (by decide) trivial]; simp⟩) (by decide) (by decide) ?_
  change rn_T w _ _ _ _ 36 196660 _ _ (.ref (a + 36) :: _) (rz_up g35 (a + 36) _) _
  have e1 : rz_up g35 (a + 36) (.inl (0, 4100, .inl (fun _ => 0))) a = some (.inr (10, [.int 0, .ref (a + 1), .ref (a + 2), .ref (a + 3), .ref (a + 4), .ref (a + 5), .ref (a + 6), .ref (a + 7), .ref (a + 8), .ref (a + 9), .ref (a + 10), .ref (a + 11), .int 0, .ref (a + 12), .ref (a + 13), .ref (a + 14), .ref (a + 15), .ref (a + 16), .ref (a + 17), .ref (a + 18), .ref (a + 19), .ref (a + 20), .ref (a + 21), .ref (a + 22), .ref (a + 23), .ref (a + 24), .int 0, .int 0, .ref (a + 25), .ref (a + 26), .int 0, .ref (a + 27), .ref (a + 28), .ref (a + 29), .ref (a + 30), .ref (a + 31), .ref (a + 32), .ref (a + 33), .int 0, .ref (a + 34), .ref (a + 35), .int 0, .int 0, .null, .null, .null, .int 0, .int 0, .null, .null, .int 0, .int 0, .null, .null, .null, .null, .null, .null, .int 0, .null, .null, .null, .null, .null, .int 0, .null, .null, .int 0, .int 0, .int 0, .null, .null, .null, .null, .null, .null, .int 0, .null, .null, .null, .null, .null])) := by rw [rz_up_n _ _ (by omega)]; exact hob
  refine rn_blk' [(.putfield 117, 3, 10, 43)] (by decide +kernel) (by omega) (by omega) (fun K R hK hR => ?_)
  simp only [List.length_cons, List.length_nil, Nat.reduceLT, rf_10_43, ↓rx_nil, ↓rx_putfield, ↓ry_obu, ↓ry_vr, true_and, ↓rh_ob e1, rz_set, rz_nol, rz_clr, List.set_cons_zero, List.set_cons_succ, rz_tr, Nat.reduceAdd, Int.reduceAdd, Int.reduceToNat, Int.reduceSub, Int.reduceNeg, Int.cast_ofNat_Int]
  refine hK _ _ _ _ ?_
  clear e1
  generalize hg : rz_up (rz_up g35 (a + 36) _) a _ = g36
  have hst : ∀ x, x ≠ a → x < a + 36 → g36 x = g35 x := fun x h1 h2 => by rw [← hg, rz_up_n _ _ h1, rz_up_n _ _ (by omega)]
  have hob : g36 a = some (.inr (10, [.int 0, .ref (a + 1), .ref (a + 2), .ref (a + 3), .ref (a + 4), .ref (a + 5), .ref (a + 6), .ref (a + 7), .ref (a + 8), .ref (a + 9), .ref (a + 10), .ref (a + 11), .int 0, .ref (a + 12), .ref (a + 13), .ref (a + 14), .ref (a + 15), .ref (a + 16), .ref (a + 17), .ref (a + 18), .ref (a + 19), .ref (a + 20), .ref (a + 21), .ref (a + 22), .ref (a + 23), .ref (a + 24), .int 0, .int 0, .ref (a + 25), .ref (a + 26), .int 0, .ref (a + 27), .ref (a + 28), .ref (a + 29), .ref (a + 30), .ref (a + 31), .ref (a + 32), .ref (a + 33), .int 0, .ref (a + 34), .ref (a + 35), .int 0, .int 0, .ref (a + 36), .null, .null, .int 0, .int 0, .null, .null, .int 0, .int 0, .null, .null, .null, .null, .null, .null, .int 0, .null, .null, .null, .null, .null, .int 0, .null, .null, .int 0, .int 0, .int 0, .null, .null, .null, .null, .null, .null, .int 0, .null, .null, .null, .null, .null])) := by rw [← hg, rz_up_s]
  have hfr : ∀ x, x < a → g36 x = G x := fun x hx => (hst x (by omega) (by omega)).trans (hfr x hx)
  have hn36 : g36 (a + 36) = some (.inl (0, 4100, .inl (fun _ => 0))) := by rw [← hg, rz_up_n _ _ (by omega), rz_up_s]
  have hce : ∀ o, 1 ≤ o → o < 37 → (True) → g36 (a + o) = some (re_cell a re_I0 re_A0 o) := fun o h1 h2 h3 => by
    by_cases c : o < 36
    · exact (hst _ (by omega) (by omega)).trans (hce o h1 c h3)
    by_cases c36 : o = 36
    · subst c36; exact hn36
    omega
  clear hg hst hn36
  refine rn_blk' [(.aload_n 0, 1, 0, 0), (.sipush 4100, 3, 0, 0)] (by decide +kernel) (by omega) (by omega) (fun K R hK hR => ?_)
  simp only [rw_s4100, ↓rx_aload_n0, ↓rx_nil, ↓rx_sipush, ↓ry_lr0s, ↓ry_lr0z, rz_set, rz_nol, rz_clr, List.set_cons_zero, List.set_cons_succ, rz_tr, Nat.reduceAdd, Int.reduceAdd, Int.reduceToNat, Int.reduceSub, Int.reduceNeg, Int.cast_ofNat_Int]
  refine hK _ _ _ _ ?_
  refine rn_na_i (N := 4100) (by decide) (by decide +kernel) (Or.inr ⟨a + 36, rfl, by rw [hce 36 (by decide) (by decide) trivial]; simp⟩) (by decide) (by decide) ?_
  change rn_T w _ _ _ _ 37 200760 _ _ (.ref (a + 37) :: _) (rz_up g36 (a + 37) _) _
  have e1 : rz_up g36 (a + 37) (.inl (0, 4100, .inl (fun _ => 0))) a = some (.inr (10, [.int 0, .ref (a + 1), .ref (a + 2), .ref (a + 3), .ref (a + 4), .ref (a + 5), .ref (a + 6), .ref (a + 7), .ref (a + 8), .ref (a + 9), .ref (a + 10), .ref (a + 11), .int 0, .ref (a + 12), .ref (a + 13), .ref (a + 14), .ref (a + 15), .ref (a + 16), .ref (a + 17), .ref (a + 18), .ref (a + 19), .ref (a + 20), .ref (a + 21), .ref (a + 22), .ref (a + 23), .ref (a + 24), .int 0, .int 0, .ref (a + 25), .ref (a + 26), .int 0, .ref (a + 27), .ref (a + 28), .ref (a + 29), .ref (a + 30), .ref (a + 31), .ref (a + 32), .ref (a + 33), .int 0, .ref (a + 34), .ref (a + 35), .int 0, .int 0, .ref (a + 36), .null, .null, .int 0, .int 0, .null, .null, .int 0, .int 0, .null, .null, .null, .null, .null, .null, .int 0, .null, .null, .null, .null, .null, .int 0, .null, .null, .int 0, .int 0, .int 0, .null, .null, .null, .null, .null, .null, .int 0, .null, .null, .null, .null, .null])) := by rw [rz_up_n _ _ (by omega)]; exact hob
  refine rn_blk' [(.putfield 120, 3, 10, 44)] (by decide +kernel) (by omega) (by omega) (fun K R hK hR => ?_)
  simp only [List.length_cons, List.length_nil, Nat.reduceLT, rf_10_44, ↓rx_nil, ↓rx_putfield, ↓ry_obu, ↓ry_vr, true_and, ↓rh_ob e1, rz_set, rz_nol, rz_clr, List.set_cons_zero, List.set_cons_succ, rz_tr, Nat.reduceAdd, Int.reduceAdd, Int.reduceToNat, Int.reduceSub, Int.reduceNeg, Int.cast_ofNat_Int]
  refine hK _ _ _ _ ?_
  clear e1
  generalize hg : rz_up (rz_up g36 (a + 37) _) a _ = g37
  have hst : ∀ x, x ≠ a → x < a + 37 → g37 x = g36 x := fun x h1 h2 => by rw [← hg, rz_up_n _ _ h1, rz_up_n _ _ (by omega)]
  have hob : g37 a = some (.inr (10, [.int 0, .ref (a + 1), .ref (a + 2), .ref (a + 3), .ref (a + 4), .ref (a + 5), .ref (a + 6), .ref (a + 7), .ref (a + 8), .ref (a + 9), .ref (a + 10), .ref (a + 11), .int 0, .ref (a + 12), .ref (a + 13), .ref (a + 14), .ref (a + 15), .ref (a + 16), .ref (a + 17), .ref (a + 18), .ref (a + 19), .ref (a + 20), .ref (a + 21), .ref (a + 22), .ref (a + 23), .ref (a + 24), .int 0, .int 0, .ref (a + 25), .ref (a + 26), .int 0, .ref (a + 27), .ref (a + 28), .ref (a + 29), .ref (a + 30), .ref (a + 31), .ref (a + 32), .ref (a + 33), .int 0, .ref (a + 34), .ref (a + 35), .int 0, .int 0, .ref (a + 36), .ref (a + 37), .null, .int 0, .int 0, .null, .null, .int 0, .int 0, .null, .null, .null, .null, .null, .null, .int 0, .null, .null, .null, .null, .null, .int 0, .null, .null, .int 0, .int 0, .int 0, .null, .null, .null, .null, .null, .null, .int 0, .null, .null, .null, .null, .null])) := by rw [← hg, rz_up_s]
  have hfr : ∀ x, x < a → g37 x = G x := fun x hx => (hst x (by omega) (by omega)).trans (hfr x hx)
  have hn37 : g37 (a + 37) = some (.inl (0, 4100, .inl (fun _ => 0))) := by rw [← hg, rz_up_n _ _ (by omega), rz_up_s]
  have hce : ∀ o, 1 ≤ o → o < 38 → (True) → g37 (a + o) = some (re_cell a re_I0 re_A0 o) := fun o h1 h2 h3 => by
    by_cases c : o < 37
    · exact (hst _ (by omega) (by omega)).trans (hce o h1 c h3)
    by_cases c37 : o = 37
    · subst c37; exact hn37
    omega
  clear hg hst hn37
  refine rn_blk' [(.aload_n 0, 1, 0, 0), (.sipush 4096, 3, 0, 0)] (by decide +kernel) (by omega) (by omega) (fun K R hK hR => ?_)
  simp only [rw_s4096, ↓rx_aload_n0, ↓rx_nil, ↓rx_sipush, ↓ry_lr0s, ↓ry_lr0z, rz_set, rz_nol, rz_clr, List.set_cons_zero, List.set_cons_succ, rz_tr, Nat.reduceAdd, Int.reduceAdd, Int.reduceToNat, Int.reduceSub, Int.reduceNeg, Int.cast_ofNat_Int]
  refine hK _ _ _ _ ?_
  refine rn_na_z (N := 4096) (by decide) (by decide +kernel) (Or.inr ⟨a + 37, rfl, by rw [hce 37 (by decide) (by decide) trivial]; simp⟩) (by decide) (by decide) ?_
  change rn_T w _ _ _ _ 38 204856 _ _ (.ref (a + 38) :: _) (rz_up g37 (a + 38) _) _
  have e1 : rz_up g37 (a + 38) (.inl (3, 4096, .inl (fun _ => 0))) a = some (.inr (10, [.int 0, .ref (a + 1), .ref (a + 2), .ref (a + 3), .ref (a + 4), .ref (a + 5), .ref (a + 6), .ref (a + 7), .ref (a + 8), .ref (a + 9), .ref (a + 10), .ref (a + 11), .int 0, .ref (a + 12), .ref (a + 13), .ref (a + 14), .ref (a + 15), .ref (a + 16), .ref (a + 17), .ref (a + 18), .ref (a + 19), .ref (a + 20), .ref (a + 21), .ref (a + 22), .ref (a + 23), .ref (a + 24), .int 0, .int 0, .ref (a + 25), .ref (a + 26), .int 0, .ref (a + 27), .ref (a + 28), .ref (a + 29), .ref (a + 30), .ref (a + 31), .ref (a + 32), .ref (a + 33), .int 0, .ref (a + 34), .ref (a + 35), .int 0, .int 0, .ref (a + 36), .ref (a + 37), .null, .int 0, .int 0, .null, .null, .int 0, .int 0, .null, .null, .null, .null, .null, .null, .int 0, .null, .null, .null, .null, .null, .int 0, .null, .null, .int 0, .int 0, .int 0, .null, .null, .null, .null, .null, .null, .int 0, .null, .null, .null, .null, .null])) := by rw [rz_up_n _ _ (by omega)]; exact hob
  refine rn_blk' [(.putfield 123, 3, 10, 45)] (by decide +kernel) (by omega) (by omega) (fun K R hK hR => ?_)
  simp only [List.length_cons, List.length_nil, Nat.reduceLT, rf_10_45, ↓rx_nil, ↓rx_putfield, ↓ry_obu, ↓ry_vr, true_and, ↓rh_ob e1, rz_set, rz_nol, rz_clr, List.set_cons_zero, List.set_cons_succ, rz_tr, Nat.reduceAdd, Int.reduceAdd, Int.reduceToNat, Int.reduceSub, Int.reduceNeg, Int.cast_ofNat_Int]
  refine hK _ _ _ _ ?_
  clear e1
  generalize hg : rz_up (rz_up g37 (a + 38) _) a _ = g38
  have hst : ∀ x, x ≠ a → x < a + 38 → g38 x = g37 x := fun x h1 h2 => by rw [← hg, rz_up_n _ _ h1, rz_up_n _ _ (by omega)]
  have hob : g38 a = some (.inr (10, [.int 0, .ref (a + 1), .ref (a + 2), .ref (a + 3), .ref (a + 4), .ref (a + 5), .ref (a + 6), .ref (a + 7), .ref (a + 8), .ref (a + 9), .ref (a + 10), .ref (a + 11), .int 0, .ref (a + 12), .ref (a + 13), .ref (a + 14), .ref (a + 15), .ref (a + 16), .ref (a + 17), .ref (a + 18), .ref (a + 19), .ref (a + 20), .ref (a + 21), .ref (a + 22), .ref (a + 23), .ref (a + 24), .int 0, .int 0, .ref (a + 25), .ref (a + 26), .int 0, .ref (a + 27), .ref (a + 28), .ref (a + 29), .ref (a + 30), .ref (a + 31), .ref (a + 32), .ref (a + 33), .int 0, .ref (a + 34), .ref (a + 35), .int 0, .int 0, .ref (a + 36), .ref (a + 37), .ref (a + 38), .int 0, .int 0, .null, .null, .int 0, .int 0, .null, .null, .null, .null, .null, .null, .int 0, .null, .null, .null, .null, .null, .int 0, .null, .null, .int 0, .int 0, .int 0, .null, .null, .null, .null, .null, .null, .int 0, .null, .null, .null, .null, .null])) := by rw [← hg, rz_up_s]
  have hfr : ∀ x, x < a → g38 x = G x := fun x hx => (hst x (by omega) (by omega)).trans (hfr x hx)
  have hn38 : g38 (a + 38) = some (.inl (3, 4096, .inl (fun _ => 0))) := by rw [← hg, rz_up_n _ _ (by omega), rz_up_s]
  have hce : ∀ o, 1 ≤ o → o < 39 → (True) → g38 (a + o) = some (re_cell a re_I0 re_A0 o) := fun o h1 h2 h3 => by
    by_cases c : o < 38
    · exact (hst _ (by omega) (by omega)).trans (hce o h1 c h3)
    by_cases c38 : o = 38
    · subst c38; exact hn38
    omega
  clear hg hst hn38
  refine rn_blk' [(.aload_n 0, 1, 0, 0), (.sipush 4100, 3, 0, 0)] (by decide +kernel) (by omega) (by omega) (fun K R hK hR => ?_)
  simp only [rw_s4100, ↓rx_aload_n0, ↓rx_nil, ↓rx_sipush, ↓ry_lr0s, ↓ry_lr0z, rz_set, rz_nol, rz_clr, List.set_cons_zero, List.set_cons_succ, rz_tr, Nat.reduceAdd, Int.reduceAdd, Int.reduceToNat, Int.reduceSub, Int.reduceNeg, Int.cast_ofNat_Int]
  refine hK _ _ _ _ ?_
  refine rn_na_i (N := 4100) (by decide) (by decide +kernel) (Or.inr ⟨a + 38, rfl, by rw [hce 38 (by decide) (by decide) trivial]; simp⟩) (by decide) (by decide) ?_
  change rn_T w _ _ _ _ 39 208956 _ _ (.ref (a + 39) :: _) (rz_up g38 (a + 39) _) _
  have e1 : rz_up g38 (a + 39) (.inl (0, 4100, .inl (fun _ => 0))) a = some (.inr (10, [.int 0, .ref (a + 1), .ref (a + 2), .ref (a + 3), .ref (a + 4), .ref (a + 5), .ref (a + 6), .ref (a + 7), .ref (a + 8), .ref (a + 9), .ref (a + 10), .ref (a + 11), .int 0, .ref (a + 12), .ref (a + 13), .ref (a + 14), .ref (a + 15), .ref (a + 16), .ref (a + 17), .ref (a + 18), .ref (a + 19), .ref (a + 20), .ref (a + 21), .ref (a + 22), .ref (a + 23), .ref (a + 24), .int 0, .int 0, .ref (a + 25), .ref (a + 26), .int 0, .ref (a + 27), .ref (a + 28), .ref (a + 29), .ref (a + 30), .ref (a + 31), .ref (a + 32), .ref (a + 33), .int 0, .ref (a + 34), .ref (a + 35), .int 0, .int 0, .ref (a + 36), .ref (a + 37), .ref (a + 38), .int 0, .int 0, .null, .null, .int 0, .int 0, .null, .null, .null, .null, .null, .null, .int 0, .null, .null, .null, .null, .null, .int 0, .null, .null, .int 0, .int 0, .int 0, .null, .null, .null, .null, .null, .null, .int 0, .null, .null, .null, .null, .null])) := by rw [rz_up_n _ _ (by omega)]; exact hob
  refine rn_blk' [(.putfield 126, 3, 10, 48)] (by decide +kernel) (by omega) (by omega) (fun K R hK hR => ?_)
  simp only [List.length_cons, List.length_nil, Nat.reduceLT, rf_10_48, ↓rx_nil, ↓rx_putfield, ↓ry_obu, ↓ry_vr, true_and, ↓rh_ob e1, rz_set, rz_nol, rz_clr, List.set_cons_zero, List.set_cons_succ, rz_tr, Nat.reduceAdd, Int.reduceAdd, Int.reduceToNat, Int.reduceSub, Int.reduceNeg, Int.cast_ofNat_Int]
  refine hK _ _ _ _ ?_
  clear e1
  generalize hg : rz_up (rz_up g38 (a + 39) _) a _ = g39
  have hst : ∀ x, x ≠ a → x < a + 39 → g39 x = g38 x := fun x h1 h2 => by rw [← hg, rz_up_n _ _ h1, rz_up_n _ _ (by omega)]
  have hob : g39 a = some (.inr (10, [.int 0, .ref (a + 1), .ref (a + 2), .ref (a + 3), .ref (a + 4), .ref (a + 5), .ref (a + 6), .ref (a + 7), .ref (a + 8), .ref (a + 9), .ref (a + 10), .ref (a + 11), .int 0, .ref (a + 12), .ref (a + 13), .ref (a + 14), .ref (a + 15), .ref (a + 16), .ref (a + 17), .ref (a + 18), .ref (a + 19), .ref (a + 20), .ref (a + 21), .ref (a + 22), .ref (a + 23), .ref (a + 24), .int 0, .int 0, .ref (a + 25), .ref (a + 26), .int 0, .ref (a + 27), .ref (a + 28), .ref (a + 29), .ref (a + 30), .ref (a + 31), .ref (a + 32), .ref (a + 33), .int 0, .ref (a + 34), .ref (a + 35), .int 0, .int 0, .ref (a + 36), .ref (a + 37), .ref (a + 38), .int 0, .int 0, .ref (a + 39), .null, .int 0, .int 0, .null, .null, .null, .null, .null, .null, .int 0, .null, .null, .null, .null, .null, .int 0, .null, .null, .int 0, .int 0, .int 0, .null, .null, .null, .null, .null, .null, .int 0, .null, .null, .null, .null, .null])) := by rw [← hg, rz_up_s]
  have hfr : ∀ x, x < a → g39 x = G x := fun x hx => (hst x (by omega) (by omega)).trans (hfr x hx)
  have hn39 : g39 (a + 39) = some (.inl (0, 4100, .inl (fun _ => 0))) := by rw [← hg, rz_up_n _ _ (by omega), rz_up_s]
  have hce : ∀ o, 1 ≤ o → o < 40 → (True) → g39 (a + o) = some (re_cell a re_I0 re_A0 o) := fun o h1 h2 h3 => by
    by_cases c : o < 39
    · exact (hst _ (by omega) (by omega)).trans (hce o h1 c h3)
    by_cases c39 : o = 39
    · subst c39; exact hn39
    omega
  clear hg hst hn39
  refine rn_blk' [(.aload_n 0, 1, 0, 0), (.sipush 4100, 3, 0, 0)] (by decide +kernel) (by omega) (by omega) (fun K R hK hR => ?_)
  simp only [rw_s4100, ↓rx_aload_n0, ↓rx_nil, ↓rx_sipush, ↓ry_lr0s, ↓ry_lr0z, rz_set, rz_nol, rz_clr, List.set_cons_zero, List.set_cons_succ, rz_tr, Nat.reduceAdd, Int.reduceAdd, Int.reduceToNat, Int.reduceSub, Int.reduceNeg, Int.cast_ofNat_Int]
  refine hK _ _ _ _ ?_
  refine rn_na_i (N := 4100) (by decide) (by decide +kernel) (Or.inr ⟨a + 39, rfl, by rw [hce 39 (by decide) (by decide) trivial]; simp⟩) (by decide) (by decide) ?_
  change rn_T w _ _ _ _ 40 213056 _ _ (.ref (a + 40) :: _) (rz_up g39 (a + 40) _) _
  have e1 : rz_up g39 (a + 40) (.inl (0, 4100, .inl (fun _ => 0))) a = some (.inr (10, [.int 0, .ref (a + 1), .ref (a + 2), .ref (a + 3), .ref (a + 4), .ref (a + 5), .ref (a + 6), .ref (a + 7), .ref (a + 8), .ref (a + 9), .ref (a + 10), .ref (a + 11), .int 0, .ref (a + 12), .ref (a + 13), .ref (a + 14), .ref (a + 15), .ref (a + 16), .ref (a + 17), .ref (a + 18), .ref (a + 19), .ref (a + 20), .ref (a + 21), .ref (a + 22), .ref (a + 23), .ref (a + 24), .int 0, .int 0, .ref (a + 25), .ref (a + 26), .int 0, .ref (a + 27), .ref (a + 28), .ref (a + 29), .ref (a + 30), .ref (a + 31), .ref (a + 32), .ref (a + 33), .int 0, .ref (a + 34), .ref (a + 35), .int 0, .int 0, .ref (a + 36), .ref (a + 37), .ref (a + 38), .int 0, .int 0, .ref (a + 39), .null, .int 0, .int 0, .null, .null, .null, .null, .null, .null, .int 0, .null, .null, .null, .null, .null, .int 0, .null, .null, .int 0, .int 0, .int 0, .null, .null, .null, .null, .null, .null, .int 0, .null, .null, .null, .null, .null])) := by rw [rz_up_n _ _ (by omega)]; exact hob
  refine rn_blk' [(.putfield 129, 3, 10, 49)] (by decide +kernel) (by omega) (by omega) (fun K R hK hR => ?_)
  simp only [List.length_cons, List.length_nil, Nat.reduceLT, rf_10_49, ↓rx_nil, ↓rx_putfield, ↓ry_obu, ↓ry_vr, true_and, ↓rh_ob e1, rz_set, rz_nol, rz_clr, List.set_cons_zero, List.set_cons_succ, rz_tr, Nat.reduceAdd, Int.reduceAdd, Int.reduceToNat, Int.reduceSub, Int.reduceNeg, Int.cast_ofNat_Int]
  refine hK _ _ _ _ ?_
  clear e1
  generalize hg : rz_up (rz_up g39 (a + 40) _) a _ = g40
  have hst : ∀ x, x ≠ a → x < a + 40 → g40 x = g39 x := fun x h1 h2 => by rw [← hg, rz_up_n _ _ h1, rz_up_n _ _ (by omega)]
  have hob : g40 a = some (.inr (10, [.int 0, .ref (a + 1), .ref (a + 2), .ref (a + 3), .ref (a + 4), .ref (a + 5), .ref (a + 6), .ref (a + 7), .ref (a + 8), .ref (a + 9), .ref (a + 10), .ref (a + 11), .int 0, .ref (a + 12), .ref (a + 13), .ref (a + 14), .ref (a + 15), .ref (a + 16), .ref (a + 17), .ref (a + 18), .ref (a + 19), .ref (a + 20), .ref (a + 21), .ref (a + 22), .ref (a + 23), .ref (a + 24), .int 0, .int 0, .ref (a + 25), .ref (a + 26), .int 0, .ref (a + 27), .ref (a + 28), .ref (a + 29), .ref (a + 30), .ref (a + 31), .ref (a + 32), .ref (a + 33), .int 0, .ref (a + 34), .ref (a + 35), .int 0, .int 0, .ref (a + 36), .ref (a + 37), .ref (a + 38), .int 0, .int 0, .ref (a + 39), .ref (a + 40), .int 0, .int 0, .null, .null, .null, .null, .null, .null, .int 0, .null, .null, .null, .null, .null, .int 0, .null, .null, .int 0, .int 0, .int 0, .null, .null, .null, .null, .null, .null, .int 0, .null, .null, .null, .null, .null])) := by rw [← hg, rz_up_s]
  have hfr : ∀ x, x < a → g40 x = G x := fun x hx => (hst x (by omega) (by omega)).trans (hfr x hx)
  have hn40 : g40 (a + 40) = some (.inl (0, 4100, .inl (fun _ => 0))) := by rw [← hg, rz_up_n _ _ (by omega), rz_up_s]
  have hce : ∀ o, 1 ≤ o → o < 41 → (True) → g40 (a + o) = some (re_cell a re_I0 re_A0 o) := fun o h1 h2 h3 => by
    by_cases c : o < 40
    · exact (hst _ (by omega) (by omega)).trans (hce o h1 c h3)
    by_cases c40 : o = 40
    · subst c40; exact hn40
    omega
  clear hg hst hn40
  refine rn_blk' [(.aload_n 0, 1, 0, 0), (.sipush 210, 3, 0, 0)] (by decide +kernel) (by omega) (by omega) (fun K R hK hR => ?_)
  simp only [rw_s210, ↓rx_aload_n0, ↓rx_nil, ↓rx_sipush, ↓ry_lr0s, ↓ry_lr0z, rz_set, rz_nol, rz_clr, List.set_cons_zero, List.set_cons_succ, rz_tr, Nat.reduceAdd, Int.reduceAdd, Int.reduceToNat, Int.reduceSub, Int.reduceNeg, Int.cast_ofNat_Int]
  refine hK _ _ _ _ ?_
  refine rn_na_i (N := 210) (by decide) (by decide +kernel) (Or.inr ⟨a + 40, rfl, by rw [hce 40 (by decide) (by decide) trivial]; simp⟩) (by decide) (by decide) ?_
  change rn_T w _ _ _ _ 41 213266 _ _ (.ref (a + 41) :: _) (rz_up g40 (a + 41) _) _
  have e1 : rz_up g40 (a + 41) (.inl (0, 210, .inl (fun _ => 0))) a = some (.inr (10, [.int 0, .ref (a + 1), .ref (a + 2), .ref (a + 3), .ref (a + 4), .ref (a + 5), .ref (a + 6), .ref (a + 7), .ref (a + 8), .ref (a + 9), .ref (a + 10), .ref (a + 11), .int 0, .ref (a + 12), .ref (a + 13), .ref (a + 14), .ref (a + 15), .ref (a + 16), .ref (a + 17), .ref (a + 18), .ref (a + 19), .ref (a + 20), .ref (a + 21), .ref (a + 22), .ref (a + 23), .ref (a + 24), .int 0, .int 0, .ref (a + 25), .ref (a + 26), .int 0, .ref (a + 27), .ref (a + 28), .ref (a + 29), .ref (a + 30), .ref (a + 31), .ref (a + 32), .ref (a + 33), .int 0, .ref (a + 34), .ref (a + 35), .int 0, .int 0, .ref (a + 36), .ref (a + 37), .ref (a + 38), .int 0, .int 0, .ref (a + 39), .ref (a + 40), .int 0, .int 0, .null, .null, .null, .null, .null, .null, .int 0, .null, .null, .null, .null, .null, .int 0, .null, .null, .int 0, .int 0, .int 0, .null, .null, .null, .null, .null, .null, .int 0, .null, .null, .null, .null, .null])) := by rw [rz_up_n _ _ (by omega)]; exact hob
  refine rn_blk' [(.putfield 132, 3, 10, 52)] (by decide +kernel) (by omega) (by omega) (fun K R hK hR => ?_)
  simp only [List.length_cons, List.length_nil, Nat.reduceLT, rf_10_52, ↓rx_nil, ↓rx_putfield, ↓ry_obu, ↓ry_vr, true_and, ↓rh_ob e1, rz_set, rz_nol, rz_clr, List.set_cons_zero, List.set_cons_succ, rz_tr, Nat.reduceAdd, Int.reduceAdd, Int.reduceToNat, Int.reduceSub, Int.reduceNeg, Int.cast_ofNat_Int]
  refine hK _ _ _ _ ?_
  clear e1
  generalize hg : rz_up (rz_up g40 (a + 41) _) a _ = g41
  have hst : ∀ x, x ≠ a → x < a + 41 → g41 x = g40 x := fun x h1 h2 => by rw [← hg, rz_up_n _ _ h1, rz_up_n _ _ (by omega)]
  have hob : g41 a = some (.inr (10, [.int 0, .ref (a + 1), .ref (a + 2), .ref (a + 3), .ref (a + 4), .ref (a + 5), .ref (a + 6), .ref (a + 7), .ref (a + 8), .ref (a + 9), .ref (a + 10), .ref (a + 11), .int 0, .ref (a + 12), .ref (a + 13), .ref (a + 14), .ref (a + 15), .ref (a + 16), .ref (a + 17), .ref (a + 18), .ref (a + 19), .ref (a + 20), .ref (a + 21), .ref (a + 22), .ref (a + 23), .ref (a + 24), .int 0, .int 0, .ref (a + 25), .ref (a + 26), .int 0, .ref (a + 27), .ref (a + 28), .ref (a + 29), .ref (a + 30), .ref (a + 31), .ref (a + 32), .ref (a + 33), .int 0, .ref (a + 34), .ref (a + 35), .int 0, .int 0, .ref (a + 36), .ref (a + 37), .ref (a + 38), .int 0, .int 0, .ref (a + 39), .ref (a + 40), .int 0, .int 0, .ref (a + 41), .null, .null, .null, .null, .null, .int 0, .null, .null, .null, .null, .null, .int 0, .null, .null, .int 0, .int 0, .int 0, .null, .null, .null, .null, .null, .null, .int 0, .null, .null, .null, .null, .null])) := by rw [← hg, rz_up_s]
  have hfr : ∀ x, x < a → g41 x = G x := fun x hx => (hst x (by omega) (by omega)).trans (hfr x hx)
  have hn41 : g41 (a + 41) = some (.inl (0, 210, .inl (fun _ => 0))) := by rw [← hg, rz_up_n _ _ (by omega), rz_up_s]
  have hce : ∀ o, 1 ≤ o → o < 42 → (True) → g41 (a + o) = some (re_cell a re_I0 re_A0 o) := fun o h1 h2 h3 => by
    by_cases c : o < 41
    · exact (hst _ (by omega) (by omega)).trans (hce o h1 c h3)
    by_cases c41 : o = 41
    · subst c41; exact hn41
    omega
  clear hg hst hn41
  refine rn_blk' [(.aload_n 0, 1, 0, 0), (.sipush 210, 3, 0, 0)] (by decide +kernel) (by omega) (by omega) (fun K R hK hR => ?_)
  simp only [rw_s210, ↓rx_aload_n0, ↓rx_nil, ↓rx_sipush, ↓ry_lr0s, ↓ry_lr0z, rz_set, rz_nol, rz_clr, List.set_cons_zero, List.set_cons_succ, rz_tr, Nat.reduceAdd, Int.reduceAdd, Int.reduceToNat, Int.reduceSub, Int.reduceNeg, Int.cast_ofNat_Int]
  refine hK _ _ _ _ ?_
  refine rn_na_i (N := 210) (by decide) (by decide +kernel) (Or.inr ⟨a + 41, rfl, by rw [hce 41 (by decide) (by decide) trivial]; simp⟩) (by decide) (by decide) ?_
  change rn_T w _ _ _ _ 42 213476 _ _ (.ref (a + 42) :: _) (rz_up g41 (a + 42) _) _
  have e1 : rz_up g41 (a + 42) (.inl (0, 210, .inl (fun _ => 0))) a = some (.inr (10, [.int 0, .ref (a + 1), .ref (a + 2), .ref (a + 3), .ref (a + 4), .ref (a + 5), .ref (a + 6), .ref (a + 7), .ref (a + 8), .ref (a + 9), .ref (a + 10), .ref (a + 11), .int 0, .ref (a + 12), .ref (a + 13), .ref (a + 14), .ref (a + 15), .ref (a + 16), .ref (a + 17), .ref (a + 18), .ref (a + 19), .ref (a + 20), .ref (a + 21), .ref (a + 22), .ref (a + 23), .ref (a + 24), .int 0, .int 0, .ref (a + 25), .ref (a + 26), .int 0, .ref (a + 27), .ref (a + 28), .ref (a + 29), .ref (a + 30), .ref (a + 31), .ref (a + 32), .ref (a + 33), .int 0, .ref (a + 34), .ref (a + 35), .int 0, .int 0, .ref (a + 36), .ref (a + 37), .ref (a + 38), .int 0, .int 0, .ref (a + 39), .ref (a + 40), .int 0, .int 0, .ref (a + 41), .null, .null, .null, .null, .null, .int 0, .null, .null, .null, .null, .null, .int 0, .null, .null, .int 0, .int 0, .int 0, .null, .null, .null, .null, .null, .null, .int 0, .null, .null, .null, .null, .null])) := by rw [rz_up_n _ _ (by omega)]; exact hob
  refine rn_blk' [(.putfield 135, 3, 10, 53)] (by decide +kernel) (by omega) (by omega) (fun K R hK hR => ?_)
  simp only [List.length_cons, List.length_nil, Nat.reduceLT, rf_10_53, ↓rx_nil, ↓rx_putfield, ↓ry_obu, ↓ry_vr, true_and, ↓rh_ob e1, rz_set, rz_nol, rz_clr, List.set_cons_zero, List.set_cons_succ, rz_tr, Nat.reduceAdd, Int.reduceAdd, Int.reduceToNat, Int.reduceSub, Int.reduceNeg, Int.cast_ofNat_Int]
  refine hK _ _ _ _ ?_
  clear e1
  generalize hg : rz_up (rz_up g41 (a + 42) _) a _ = g42
  have hst : ∀ x, x ≠ a → x < a + 42 → g42 x = g41 x := fun x h1 h2 => by rw [← hg, rz_up_n _ _ h1, rz_up_n _ _ (by omega)]
  have hob : g42 a = some (.inr (10, [.int 0, .ref (a + 1), .ref (a + 2), .ref (a + 3), .ref (a + 4), .ref (a + 5), .ref (a + 6), .ref (a + 7), .ref (a + 8), .ref (a + 9), .ref (a + 10), .ref (a + 11), .int 0, .ref (a + 12), .ref (a + 13), .ref (a + 14), .ref (a + 15), .ref (a + 16), .ref (a + 17), .ref (a + 18), .ref (a + 19), .ref (a + 20), .ref (a + 21), .ref (a + 22), .ref (a + 23), .ref (a + 24), .int 0, .int 0, .ref (a + 25), .ref (a + 26), .int 0, .ref (a + 27), .ref (a + 28), .ref (a + 29), .ref (a + 30), .ref (a + 31), .ref (a + 32), .ref (a + 33), .int 0, .ref (a + 34), .ref (a + 35), .int 0, .int 0, .ref (a + 36), .ref (a + 37), .ref (a + 38), .int 0, .int 0, .ref (a + 39), .ref (a + 40), .int 0, .int 0, .ref (a + 41), .ref (a + 42), .null, .null, .null, .null, .int 0, .null, .null, .null, .null, .null, .int 0, .null, .null, .int 0, .int 0, .int 0, .null, .null, .null, .null, .null, .null, .int 0, .null, .null, .null, .null, .null])) := by rw [← hg, rz_up_s]
  have hfr : ∀ x, x < a → g42 x = G x := fun x hx => (hst x (by omega) (by omega)).trans (hfr x hx)
  have hn42 : g42 (a + 42) = some (.inl (0, 210, .inl (fun _ => 0))) := by rw [← hg, rz_up_n _ _ (by omega), rz_up_s]
  have hce : ∀ o, 1 ≤ o → o < 43 → (True) → g42 (a + o) = some (re_cell a re_I0 re_A0 o) := fun o h1 h2 h3 => by
    by_cases c : o < 42
    · exact (hst _ (by omega) (by omega)).trans (hce o h1 c h3)
    by_cases c42 : o = 42
    · subst c42; exact hn42
    omega
  clear hg hst hn42
  refine rn_blk' [(.aload_n 0, 1, 0, 0), (.sipush 8400, 3, 0, 0)] (by decide +kernel) (by omega) (by omega) (fun K R hK hR => ?_)
  simp only [rw_s8400, ↓rx_aload_n0, ↓rx_nil, ↓rx_sipush, ↓ry_lr0s, ↓ry_lr0z, rz_set, rz_nol, rz_clr, List.set_cons_zero, List.set_cons_succ, rz_tr, Nat.reduceAdd, Int.reduceAdd, Int.reduceToNat, Int.reduceSub, Int.reduceNeg, Int.cast_ofNat_Int]
  refine hK _ _ _ _ ?_
  refine rn_na_i (N := 8400) (by decide) (by decide +kernel) (Or.inr ⟨a + 42, rfl, by rw [hce 42 (by decide) (by decide) trivial]; simp⟩) (by decide) (by decide) ?_
  change rn_T w _ _ _ _ 43 221876 _ _ (.ref (a + 43) :: _) (rz_up g42 (a + 43) _) _
  have e1 : rz_up g42 (a + 43) (.inl (0, 8400, .inl (fun _ => 0))) a = some (.inr (10, [.int 0, .ref (a + 1), .ref (a + 2), .ref (a + 3), .ref (a + 4), .ref (a + 5), .ref (a + 6), .ref (a + 7), .ref (a + 8), .ref (a + 9), .ref (a + 10), .ref (a + 11), .int 0, .ref (a + 12), .ref (a + 13), .ref (a + 14), .ref (a + 15), .ref (a + 16), .ref (a + 17), .ref (a + 18), .ref (a + 19), .ref (a + 20), .ref (a + 21), .ref (a + 22), .ref (a + 23), .ref (a + 24), .int 0, .int 0, .ref (a + 25), .ref (a + 26), .int 0, .ref (a + 27), .ref (a + 28), .ref (a + 29), .ref (a + 30), .ref (a + 31), .ref (a + 32), .ref (a + 33), .int 0, .ref (a + 34), .ref (a + 35), .int 0, .int 0, .ref (a + 36), .ref (a + 37), .ref (a + 38), .int 0, .int 0, .ref (a + 39), .ref (a + 40), .int 0, .int 0, .ref (a + 41), .ref (a + 42), .null, .null, .null, .null, .int 0, .null, .null, .null, .null, .null, .int 0, .null, .null, .int 0, .int 0, .int 0, .null, .null, .null, .null, .null, .null, .int 0, .null, .null, .null, .null, .null])) := by rw [rz_up_n _ _ (by omega)]; exact hob
  refine rn_blk' [(.putfield 138, 3, 10, 54)] (by decide +kernel) (by omega) (by omega) (fun K R hK hR => ?_)
  simp only [List.length_cons, List.length_nil, Nat.reduceLT, rf_10_54, ↓rx_nil, ↓rx_putfield, ↓ry_obu, ↓ry_vr, true_and, ↓rh_ob e1, rz_set, rz_nol, rz_clr, List.set_cons_zero, List.set_cons_succ, rz_tr, Nat.reduceAdd, Int.reduceAdd, Int.reduceToNat, Int.reduceSub, Int.reduceNeg, Int.cast_ofNat_Int]
  refine hK _ _ _ _ ?_
  clear e1
  generalize hg : rz_up (rz_up g42 (a + 43) _) a _ = g43
  have hst : ∀ x, x ≠ a → x < a + 43 → g43 x = g42 x := fun x h1 h2 => by rw [← hg, rz_up_n _ _ h1, rz_up_n _ _ (by omega)]
  have hob : g43 a = some (.inr (10, [.int 0, .ref (a + 1), .ref (a + 2), .ref (a + 3), .ref (a + 4), .ref (a + 5), .ref (a + 6), .ref (a + 7), .ref (a + 8), .ref (a + 9), .ref (a + 10), .ref (a + 11), .int 0, .ref (a + 12), .ref (a + 13), .ref (a + 14), .ref (a + 15), .ref (a + 16), .ref (a + 17), .ref (a + 18), .ref (a + 19), .ref (a + 20), .ref (a + 21), .ref (a + 22), .ref (a + 23), .ref (a + 24), .int 0, .int 0, .ref (a + 25), .ref (a + 26), .int 0, .ref (a + 27), .ref (a + 28), .ref (a + 29), .ref (a + 30), .ref (a + 31), .ref (a + 32), .ref (a + 33), .int 0, .ref (a + 34), .ref (a + 35), .int 0, .int 0, .ref (a + 36), .ref (a + 37), .ref (a + 38), .int 0, .int 0, .ref (a + 39), .ref (a + 40), .int 0, .int 0, .ref (a + 41), .ref (a + 42), .ref (a + 43), .null, .null, .null, .int 0, .null, .null, .null, .null, .null, .int 0, .null, .null, .int 0, .int 0, .int 0, .null, .null, .null, .null, .null, .null, .int 0, .null, .null, .null, .null, .null])) := by rw [← hg, rz_up_s]
  have hfr : ∀ x, x < a → g43 x = G x := fun x hx => (hst x (by omega) (by omega)).trans (hfr x hx)
  have hn43 : g43 (a + 43) = some (.inl (0, 8400, .inl (fun _ => 0))) := by rw [← hg, rz_up_n _ _ (by omega), rz_up_s]
  have hce : ∀ o, 1 ≤ o → o < 44 → (True) → g43 (a + o) = some (re_cell a re_I0 re_A0 o) := fun o h1 h2 h3 => by
    by_cases c : o < 43
    · exact (hst _ (by omega) (by omega)).trans (hce o h1 c h3)
    by_cases c43 : o = 43
    · subst c43; exact hn43
    omega
  clear hg hst hn43
  refine rn_blk' [(.aload_n 0, 1, 0, 0), (.sipush 210, 3, 0, 0)] (by decide +kernel) (by omega) (by omega) (fun K R hK hR => ?_)
  simp only [rw_s210, ↓rx_aload_n0, ↓rx_nil, ↓rx_sipush, ↓ry_lr0s, ↓ry_lr0z, rz_set, rz_nol, rz_clr, List.set_cons_zero, List.set_cons_succ, rz_tr, Nat.reduceAdd, Int.reduceAdd, Int.reduceToNat, Int.reduceSub, Int.reduceNeg, Int.cast_ofNat_Int]
  refine hK _ _ _ _ ?_
  refine rn_na_i (N := 210) (by decide) (by decide +kernel) (Or.inr ⟨a + 43, rfl, by rw [hce 43 (by decide) (by decide) trivial]; simp⟩) (by decide) (by decide) ?_
  change rn_T w _ _ _ _ 44 222086 _ _ (.ref (a + 44) :: _) (rz_up g43 (a + 44) _) _
  have e1 : rz_up g43 (a + 44) (.inl (0, 210, .inl (fun _ => 0))) a = some (.inr (10, [.int 0, .ref (a + 1), .ref (a + 2), .ref (a + 3), .ref (a + 4), .ref (a + 5), .ref (a + 6), .ref (a + 7), .ref (a + 8), .ref (a + 9), .ref (a + 10), .ref (a + 11), .int 0, .ref (a + 12), .ref (a + 13), .ref (a + 14), .ref (a + 15), .ref (a + 16), .ref (a + 17), .ref (a + 18), .ref (a + 19), .ref (a + 20), .ref (a + 21), .ref (a + 22), .ref (a + 23), .ref (a + 24), .int 0, .int 0, .ref (a + 25), .ref (a + 26), .int 0, .ref (a + 27), .ref (a + 28), .ref (a + 29), .ref (a + 30), .ref (a + 31), .ref (a + 32), .ref (a + 33), .int 0, .ref (a + 34), .ref (a + 35), .int 0, .int 0, .ref (a + 36), .ref (a + 37), .ref (a + 38), .int 0, .int 0, .ref (a + 39), .ref (a + 40), .int 0, .int 0, .ref (a + 41), .ref (a + 42), .ref (a + 43), .null, .null, .null, .int 0, .null, .null, .null, .null, .null, .int 0, .null, .null, .int 0, .int 0, .int 0, .null, .null, .null, .null, .null, .null, .int 0, .null, .null, .null, .null, .null])) := by rw [rz_up_n _ _ (by omega)]; exact hob
  refine rn_blk' [(.putfield 141, 3, 10, 55)] (by decide +kernel) (by omega) (by omega) (fun K R hK hR => ?_)
  simp only [List.length_cons, List.length_nil, Nat.reduceLT, rf_10_55, ↓rx_nil, ↓rx_putfield, ↓ry_obu, ↓ry_vr, true_and, ↓rh_ob e1, rz_set, rz_nol, rz_clr, List.set_cons_zero, List.set_cons_succ, rz_tr, Nat.reduceAdd, Int.reduceAdd, Int.reduceToNat, Int.reduceSub, Int.reduceNeg, Int.cast_ofNat_Int]
  refine hK _ _ _ _ ?_
  clear e1
  generalize hg : rz_up (rz_up g43 (a + 44) _) a _ = g44
  have hst : ∀ x, x ≠ a → x < a + 44 → g44 x = g43 x := fun x h1 h2 => by rw [← hg, rz_up_n _ _ h1, rz_up_n _ _ (by omega)]
  have hob : g44 a = some (.inr (10, [.int 0, .ref (a + 1), .ref (a + 2), .ref (a + 3), .ref (a + 4), .ref (a + 5), .ref (a + 6), .ref (a + 7), .ref (a + 8), .ref (a + 9), .ref (a + 10), .ref (a + 11), .int 0, .ref (a + 12), .ref (a + 13), .ref (a + 14), .ref (a + 15), .ref (a + 16), .ref (a + 17), .ref (a + 18), .ref (a + 19), .ref (a + 20), .ref (a + 21), .ref (a + 22), .ref (a + 23), .ref (a + 24), .int 0, .int 0, .ref (a + 25), .ref (a + 26), .int 0, .ref (a + 27), .ref (a + 28), .ref (a + 29), .ref (a + 30), .ref (a + 31), .ref (a + 32), .ref (a + 33), .int 0, .ref (a + 34), .ref (a + 35), .int 0, .int 0, .ref (a + 36), .ref (a + 37), .ref (a + 38), .int 0, .int 0, .ref (a + 39), .ref (a + 40), .int 0, .int 0, .ref (a + 41), .ref (a + 42), .ref (a + 43), .ref (a + 44), .null, .null, .int 0, .null, .null, .null, .null, .null, .int 0, .null, .null, .int 0, .int 0, .int 0, .null, .null, .null, .null, .null, .null, .int 0, .null, .null, .null, .null, .null])) := by rw [← hg, rz_up_s]
  have hfr : ∀ x, x < a → g44 x = G x := fun x hx => (hst x (by omega) (by omega)).trans (hfr x hx)
  have hn44 : g44 (a + 44) = some (.inl (0, 210, .inl (fun _ => 0))) := by rw [← hg, rz_up_n _ _ (by omega), rz_up_s]
  have hce : ∀ o, 1 ≤ o → o < 45 → (True) → g44 (a + o) = some (re_cell a re_I0 re_A0 o) := fun o h1 h2 h3 => by
    by_cases c : o < 44
    · exact (hst _ (by omega) (by omega)).trans (hce o h1 c h3)
    by_cases c44 : o = 44
    · subst c44; exact hn44
    omega
  clear hg hst hn44
  refine rn_blk' [(.aload_n 0, 1, 0, 0), (.sipush 210, 3, 0, 0)] (by decide +kernel) (by omega) (by omega) (fun K R hK hR => ?_)
  simp only [rw_s210, ↓rx_aload_n0, ↓rx_nil, ↓rx_sipush, ↓ry_lr0s, ↓ry_lr0z, rz_set, rz_nol, rz_clr, List.set_cons_zero, List.set_cons_succ, rz_tr, Nat.reduceAdd, Int.reduceAdd, Int.reduceToNat, Int.reduceSub, Int.reduceNeg, Int.cast_ofNat_Int]
  refine hK _ _ _ _ ?_
  refine rn_na_i (N := 210) (by decide) (by decide +kernel) (Or.inr ⟨a + 44, rfl, by rw [hce 44 (by decide) (by decide) trivial]; simp⟩) (by decide) (by decide) ?_
  change rn_T w _ _ _ _ 45 222296 _ _ (.ref (a + 45) :: _) (rz_up g44 (a + 45) _) _
  have e1 : rz_up g44 (a + 45) (.inl (0, 210, .inl (fun _ => 0))) a = some (.inr (10, [.int 0, .ref (a + 1), .ref (a + 2), .ref (a + 3), .ref (a + 4), .ref (a + 5), .ref (a + 6), .ref (a + 7), .ref (a + 8), .ref (a + 9), .ref (a + 10), .ref (a + 11), .int 0, .ref (a + 12), .ref (a + 13), .ref (a + 14), .ref (a + 15), .ref (a + 16), .ref (a + 17), .ref (a + 18), .ref (a + 19), .ref (a + 20), .ref (a + 21), .ref (a + 22), .ref (a + 23), .ref (a + 24), .int 0, .int 0, .ref (a + 25), .ref (a + 26), .int 0, .ref (a + 27), .ref (a + 28), .ref (a + 29), .ref (a + 30), .ref (a + 31), .ref (a + 32), .ref (a + 33), .int 0, .ref (a + 34), .ref (a + 35), .int 0, .int 0, .ref (a + 36), .ref (a + 37), .ref (a + 38), .int 0, .int 0, .ref (a + 39), .ref (a + 40), .int 0, .int 0, .ref (a + 41), .ref (a + 42), .ref (a + 43), .ref (a + 44), .null, .null, .int 0, .null, .null, .null, .null, .null, .int 0, .null, .null, .int 0, .int 0, .int 0, .null, .null, .null, .null, .null, .null, .int 0, .null, .null, .null, .null, .null])) := by rw [rz_up_n _ _ (by omega)]; exact hob
  refine rn_blk' [(.putfield 144, 3, 10, 56)] (by decide +kernel) (by omega) (by omega) (fun K R hK hR => ?_)
  simp only [List.length_cons, List.length_nil, Nat.reduceLT, rf_10_56, ↓rx_nil, ↓rx_putfield, ↓ry_obu, ↓ry_vr, true_and, ↓rh_ob e1, rz_set, rz_nol, rz_clr, List.set_cons_zero, List.set_cons_succ, rz_tr, Nat.reduceAdd, Int.reduceAdd, Int.reduceToNat, Int.reduceSub, Int.reduceNeg, Int.cast_ofNat_Int]
  refine hK _ _ _ _ ?_
  clear e1
  generalize hg : rz_up (rz_up g44 (a + 45) _) a _ = g45
  have hst : ∀ x, x ≠ a → x < a + 45 → g45 x = g44 x := fun x h1 h2 => by rw [← hg, rz_up_n _ _ h1, rz_up_n _ _ (by omega)]
  have hob : g45 a = some (.inr (10, [.int 0, .ref (a + 1), .ref (a + 2), .ref (a + 3), .ref (a + 4), .ref (a + 5), .ref (a + 6), .ref (a + 7), .ref (a + 8), .ref (a + 9), .ref (a + 10), .ref (a + 11), .int 0, .ref (a + 12), .ref (a + 13), .ref (a + 14), .ref (a + 15), .ref (a + 16), .ref (a + 17), .ref (a + 18), .ref (a + 19), .ref (a + 20), .ref (a + 21), .ref (a + 22), .ref (a + 23), .ref (a + 24), .int 0, .int 0, .ref (a + 25), .ref (a + 26), .int 0, .ref (a + 27), .ref (a + 28), .ref (a + 29), .ref (a + 30), .ref (a + 31), .ref (a + 32), .ref (a + 33), .int 0, .ref (a + 34), .ref (a + 35), .int 0, .int 0, .ref (a + 36), .ref (a + 37), .ref (a + 38), .int 0, .int 0, .ref (a + 39), .ref (a + 40), .int 0, .int 0, .ref (a + 41), .ref (a + 42), .ref (a + 43), .ref (a + 44), .ref (a + 45), .null, .int 0, .null, .null, .null, .null, .null, .int 0, .null, .null, .int 0, .int 0, .int 0, .null, .null, .null, .null, .null, .null, .int 0, .null, .null, .null, .null, .null])) := by rw [← hg, rz_up_s]
  have hfr : ∀ x, x < a → g45 x = G x := fun x hx => (hst x (by omega) (by omega)).trans (hfr x hx)
  have hn45 : g45 (a + 45) = some (.inl (0, 210, .inl (fun _ => 0))) := by rw [← hg, rz_up_n _ _ (by omega), rz_up_s]
  have hce : ∀ o, 1 ≤ o → o < 46 → (True) → g45 (a + o) = some (re_cell a re_I0 re_A0 o) := fun o h1 h2 h3 => by
    by_cases c : o < 45
    · exact (hst _ (by omega) (by omega)).trans (hce o h1 c h3)
    by_cases c45 : o = 45
    · subst c45; exact hn45
    omega
  clear hg hst hn45
  refine rn_blk' [(.aload_n 0, 1, 0, 0), (.sipush 8400, 3, 0, 0)] (by decide +kernel) (by omega) (by omega) (fun K R hK hR => ?_)
  simp only [rw_s8400, ↓rx_aload_n0, ↓rx_nil, ↓rx_sipush, ↓ry_lr0s, ↓ry_lr0z, rz_set, rz_nol, rz_clr, List.set_cons_zero, List.set_cons_succ, rz_tr, Nat.reduceAdd, Int.reduceAdd, Int.reduceToNat, Int.reduceSub, Int.reduceNeg, Int.cast_ofNat_Int]
  refine hK _ _ _ _ ?_
  refine rn_na_i (N := 8400) (by decide) (by decide +kernel) (Or.inr ⟨a + 45, rfl, by rw [hce 45 (by decide) (by decide) trivial]; simp⟩) (by decide) (by decide) ?_
  change rn_T w _ _ _ _ 46 230696 _ _ (.ref (a + 46) :: _) (rz_up g45 (a + 46) _) _
  have e1 : rz_up g45 (a + 46) (.inl (0, 8400, .inl (fun _ => 0))) a = some (.inr (10, [.int 0, .ref (a + 1), .ref (a + 2), .ref (a + 3), .ref (a + 4), .ref (a + 5), .ref (a + 6), .ref (a + 7), .ref (a + 8), .ref (a + 9), .ref (a + 10), .ref (a + 11), .int 0, .ref (a + 12), .ref (a + 13), .ref (a + 14), .ref (a + 15), .ref (a + 16), .ref (a + 17), .ref (a + 18), .ref (a + 19), .ref (a + 20), .ref (a + 21), .ref (a + 22), .ref (a + 23), .ref (a + 24), .int 0, .int 0, .ref (a + 25), .ref (a + 26), .int 0, .ref (a + 27), .ref (a + 28), .ref (a + 29), .ref (a + 30), .ref (a + 31), .ref (a + 32), .ref (a + 33), .int 0, .ref (a + 34), .ref (a + 35), .int 0, .int 0, .ref (a + 36), .ref (a + 37), .ref (a + 38), .int 0, .int 0, .ref (a + 39), .ref (a + 40), .int 0, .int 0, .ref (a + 41), .ref (a + 42), .ref (a + 43), .ref (a + 44), .ref (a + 45), .null, .int 0, .null, .null, .null, .null, .null, .int 0, .null, .null, .int 0, .int 0, .int 0, .null, .null, .null, .null, .null, .null, .int 0, .null, .null, .null, .null, .null])) := by rw [rz_up_n _ _ (by omega)]; exact hob
  refine rn_blk' [(.putfield 147, 3, 10, 57)] (by decide +kernel) (by omega) (by omega) (fun K R hK hR => ?_)
  simp only [List.length_cons, List.length_nil, Nat.reduceLT, rf_10_57, ↓rx_nil, ↓rx_putfield, ↓ry_obu, ↓ry_vr, true_and, ↓rh_ob e1, rz_set, rz_nol, rz_clr, List.set_cons_zero, List.set_cons_succ, rz_tr, Nat.reduceAdd, Int.reduceAdd, Int.reduceToNat, Int.reduceSub, Int.reduceNeg, Int.cast_ofNat_Int]
  refine hK _ _ _ _ ?_
  clear e1
  generalize hg : rz_up (rz_up g45 (a + 46) _) a _ = g46
  have hst : ∀ x, x ≠ a → x < a + 46 → g46 x = g45 x := fun x h1 h2 => by rw [← hg, rz_up_n _ _ h1, rz_up_n _ _ (by omega)]
  have hob : g46 a = some (.inr (10, [.int 0, .ref (a + 1), .ref (a + 2), .ref (a + 3), .ref (a + 4), .ref (a + 5), .ref (a + 6), .ref (a + 7), .ref (a + 8), .ref (a + 9), .ref (a + 10), .ref (a + 11), .int 0, .ref (a + 12), .ref (a + 13), .ref (a + 14), .ref (a + 15), .ref (a + 16), .ref (a + 17), .ref (a + 18), .ref (a + 19), .ref (a + 20), .ref (a + 21), .ref (a + 22), .ref (a + 23), .ref (a + 24), .int 0, .int 0, .ref (a + 25), .ref (a + 26), .int 0, .ref (a + 27), .ref (a + 28), .ref (a + 29), .ref (a + 30), .ref (a + 31), .ref (a + 32), .ref (a + 33), .int 0, .ref (a + 34), .ref (a + 35), .int 0, .int 0, .ref (a + 36), .ref (a + 37), .ref (a + 38), .int 0, .int 0, .ref (a + 39), .ref (a + 40), .int 0, .int 0, .ref (a + 41), .ref (a + 42), .ref (a + 43), .ref (a + 44), .ref (a + 45), .ref (a + 46), .int 0, .null, .null, .null, .null, .null, .int 0, .null, .null, .int 0, .int 0, .int 0, .null, .null, .null, .null, .null, .null, .int 0, .null, .null, .null, .null, .null])) := by rw [← hg, rz_up_s]
  have hfr : ∀ x, x < a → g46 x = G x := fun x hx => (hst x (by omega) (by omega)).trans (hfr x hx)
  have hn46 : g46 (a + 46) = some (.inl (0, 8400, .inl (fun _ => 0))) := by rw [← hg, rz_up_n _ _ (by omega), rz_up_s]
  have hce : ∀ o, 1 ≤ o → o < 47 → (True) → g46 (a + o) = some (re_cell a re_I0 re_A0 o) := fun o h1 h2 h3 => by
    by_cases c : o < 46
    · exact (hst _ (by omega) (by omega)).trans (hce o h1 c h3)
    by_cases c46 : o = 46
    · subst c46; exact hn46
    omega
  clear hg hst hn46
  refine rn_blk' [(.aload_n 0, 1, 0, 0), (.sipush 3010, 3, 0, 0)] (by decide +kernel) (by omega) (by omega) (fun K R hK hR => ?_)
  simp only [rw_s3010, ↓rx_aload_n0, ↓rx_nil, ↓rx_sipush, ↓ry_lr0s, ↓ry_lr0z, rz_set, rz_nol, rz_clr, List.set_cons_zero, List.set_cons_succ, rz_tr, Nat.reduceAdd, Int.reduceAdd, Int.reduceToNat, Int.reduceSub, Int.reduceNeg, Int.cast_ofNat_Int]
  refine hK _ _ _ _ ?_
  refine rn_na_i (N := 3010) (by decide) (by decide +kernel) (Or.inr ⟨a + 46, rfl, by rw [hce 46 (by decide) (by decide) trivial]; simp⟩) (by decide) (by decide) ?_
  change rn_T w _ _ _ _ 47 233706 _ _ (.ref (a + 47) :: _) (rz_up g46 (a + 47) _) _
  have e1 : rz_up g46 (a + 47) (.inl (0, 3010, .inl (fun _ => 0))) a = some (.inr (10, [.int 0, .ref (a + 1), .ref (a + 2), .ref (a + 3), .ref (a + 4), .ref (a + 5), .ref (a + 6), .ref (a + 7), .ref (a + 8), .ref (a + 9), .ref (a + 10), .ref (a + 11), .int 0, .ref (a + 12), .ref (a + 13), .ref (a + 14), .ref (a + 15), .ref (a + 16), .ref (a + 17), .ref (a + 18), .ref (a + 19), .ref (a + 20), .ref (a + 21), .ref (a + 22), .ref (a + 23), .ref (a + 24), .int 0, .int 0, .ref (a + 25), .ref (a + 26), .int 0, .ref (a + 27), .ref (a + 28), .ref (a + 29), .ref (a + 30), .ref (a + 31), .ref (a + 32), .ref (a + 33), .int 0, .ref (a + 34), .ref (a + 35), .int 0, .int 0, .ref (a + 36), .ref (a + 37), .ref (a + 38), .int 0, .int 0, .ref (a + 39), .ref (a + 40), .int 0, .int 0, .ref (a + 41), .ref (a + 42), .ref (a + 43), .ref (a + 44), .ref (a + 45), .ref (a + 46), .int 0, .null, .null, .null, .null, .null, .int 0, .null, .null, .int 0, .int 0, .int 0, .null, .null, .null, .null, .null, .null, .int 0, .null, .null, .null, .null, .null])) := by rw [rz_up_n _ _ (by omega)]; exact hob
  refine rn_blk' [(.putfield 150, 3, 10, 59)] (by decide +kernel) (by omega) (by omega) (fun K R hK hR => ?_)
  simp only [List.length_cons, List.length_nil, Nat.reduceLT, rf_10_59, ↓rx_nil, ↓rx_putfield, ↓ry_obu, ↓ry_vr, true_and, ↓rh_ob e1, rz_set, rz_nol, rz_clr, List.set_cons_zero, List.set_cons_succ, rz_tr, Nat.reduceAdd, Int.reduceAdd, Int.reduceToNat, Int.reduceSub, Int.reduceNeg, Int.cast_ofNat_Int]
  refine hK _ _ _ _ ?_
  clear e1
  generalize hg : rz_up (rz_up g46 (a + 47) _) a _ = g47
  have hst : ∀ x, x ≠ a → x < a + 47 → g47 x = g46 x := fun x h1 h2 => by rw [← hg, rz_up_n _ _ h1, rz_up_n _ _ (by omega)]
  have hob : g47 a = some (.inr (10, [.int 0, .ref (a + 1), .ref (a + 2), .ref (a + 3), .ref (a + 4), .ref (a + 5), .ref (a + 6), .ref (a + 7), .ref (a + 8), .ref (a + 9), .ref (a + 10), .ref (a + 11), .int 0, .ref (a + 12), .ref (a + 13), .ref (a + 14), .ref (a + 15), .ref (a + 16), .ref (a + 17), .ref (a + 18), .ref (a + 19), .ref (a + 20), .ref (a + 21), .ref (a + 22), .ref (a + 23), .ref (a + 24), .int 0, .int 0, .ref (a + 25), .ref (a + 26), .int 0, .ref (a + 27), .ref (a + 28), .ref (a + 29), .ref (a + 30), .ref (a + 31), .ref (a + 32), .ref (a + 33), .int 0, .ref (a + 34), .ref (a + 35), .int 0, .int 0, .ref (a + 36), .ref (a + 37), .ref (a + 38), .int 0, .int 0, .ref (a + 39), .ref (a + 40), .int 0, .int 0, .ref (a + 41), .ref (a + 42), .ref (a + 43), .ref (a + 44), .ref (a + 45), .ref (a + 46), .int 0, .ref (a + 47), .null, .null, .null, .null, .int 0, .null, .null, .int 0, .int 0, .int 0, .null, .null, .null, .null, .null, .null, .int 0, .null, .null, .null, .null, .null])) := by rw [← hg, rz_up_s]
  have hfr : ∀ x, x < a → g47 x = G x := fun x hx => (hst x (by omega) (by omega)).trans (hfr x hx)
  have hn47 : g47 (a + 47) = some (.inl (0, 3010, .inl (fun _ => 0))) := by rw [← hg, rz_up_n _ _ (by omega), rz_up_s]
  have hce : ∀ o, 1 ≤ o → o < 48 → (True) → g47 (a + o) = some (re_cell a re_I0 re_A0 o) := fun o h1 h2 h3 => by
    by_cases c : o < 47
    · exact (hst _ (by omega) (by omega)).trans (hce o h1 c h3)
    by_cases c47 : o = 47
    · subst c47; exact hn47
    omega
  clear hg hst hn47
  refine rn_blk' [(.aload_n 0, 1, 0, 0), (.sipush 3010, 3, 0, 0)] (by decide +kernel) (by omega) (by omega) (fun K R hK hR => ?_)
  simp only [rw_s3010, ↓rx_aload_n0, ↓rx_nil, ↓rx_sipush, ↓ry_lr0s, ↓ry_lr0z, rz_set, rz_nol, rz_clr, List.set_cons_zero, List.set_cons_succ, rz_tr, Nat.reduceAdd, Int.reduceAdd, Int.reduceToNat, Int.reduceSub, Int.reduceNeg, Int.cast_ofNat_Int]
  refine hK _ _ _ _ ?_
  refine rn_na_i (N := 3010) (by decide) (by decide +kernel) (Or.inr ⟨a + 47, rfl, by rw [hce 47 (by decide) (by decide) trivial]; simp⟩) (by decide) (by decide) ?_
  change rn_T w _ _ _ _ 48 236716 _ _ (.ref (a + 48) :: _) (rz_up g47 (a + 48) _) _
  have e1 : rz_up g47 (a + 48) (.inl (0, 3010, .inl (fun _ => 0))) a = some (.inr (10, [.int 0, .ref (a + 1), .ref (a + 2), .ref (a + 3), .ref (a + 4), .ref (a + 5), .ref (a + 6), .ref (a + 7), .ref (a + 8), .ref (a + 9), .ref (a + 10), .ref (a + 11), .int 0, .ref (a + 12), .ref (a + 13), .ref (a + 14), .ref (a + 15), .ref (a + 16), .ref (a + 17), .ref (a + 18), .ref (a + 19), .ref (a + 20), .ref (a + 21), .ref (a + 22), .ref (a + 23), .ref (a + 24), .int 0, .int 0, .ref (a + 25), .ref (a + 26), .int 0, .ref (a + 27), .ref (a + 28), .ref (a + 29), .ref (a + 30), .ref (a + 31), .ref (a + 32), .ref (a + 33), .int 0, .ref (a + 34), .ref (a + 35), .int 0, .int 0, .ref (a + 36), .ref (a + 37), .ref (a + 38), .int 0, .int 0, .ref (a + 39), .ref (a + 40), .int 0, .int 0, .ref (a + 41), .ref (a + 42), .ref (a + 43), .ref (a + 44), .ref (a + 45), .ref (a + 46), .int 0, .ref (a + 47), .null, .null, .null, .null, .int 0, .null, .null, .int 0, .int 0, .int 0, .null, .null, .null, .null, .null, .null, .int 0, .null, .null, .null, .null, .null])) := by rw [rz_up_n _ _ (by omega)]; exact hob
  refine rn_blk' [(.putfield 153, 3, 10, 60)] (by decide +kernel) (by omega) (by omega) (fun K R hK hR => ?_)
  simp only [List.length_cons, List.length_nil, Nat.reduceLT, rf_10_60, ↓rx_nil, ↓rx_putfield, ↓ry_obu, ↓ry_vr, true_and, ↓rh_ob e1, rz_set, rz_nol, rz_clr, List.set_cons_zero, List.set_cons_succ, rz_tr, Nat.reduceAdd, Int.reduceAdd, Int.reduceToNat, Int.reduceSub, Int.reduceNeg, Int.cast_ofNat_Int]
  refine hK _ _ _ _ ?_
  clear e1
  generalize hg : rz_up (rz_up g47 (a + 48) _) a _ = g48
  have hst : ∀ x, x ≠ a → x < a + 48 → g48 x = g47 x := fun x h1 h2 => by rw [← hg, rz_up_n _ _ h1, rz_up_n _ _ (by omega)]
  have hob : g48 a = some (.inr (10, [.int 0, .ref (a + 1), .ref (a + 2), .ref (a + 3), .ref (a + 4), .ref (a + 5), .ref (a + 6), .ref (a + 7), .ref (a + 8), .ref (a + 9), .ref (a + 10), .ref (a + 11), .int 0, .ref (a + 12), .ref (a + 13), .ref (a + 14), .ref (a + 15), .ref (a + 16), .ref (a + 17), .ref (a + 18), .ref (a + 19), .ref (a + 20), .ref (a + 21), .ref (a + 22), .ref (a + 23), .ref (a + 24), .int 0, .int 0, .ref (a + 25), .ref (a + 26), .int 0, .ref (a + 27), .ref (a + 28), .ref (a + 29), .ref (a + 30), .ref (a + 31), .ref (a + 32), .ref (a + 33), .int 0, .ref (a + 34), .ref (a + 35), .int 0, .int 0, .ref (a + 36), .ref (a + 37), .ref (a + 38), .int 0, .int 0, .ref (a + 39), .ref (a + 40), .int 0, .int 0, .ref (a + 41), .ref (a + 42), .ref (a + 43), .ref (a + 44), .ref (a + 45), .ref (a + 46), .int 0, .ref (a + 47), .ref (a + 48), .null, .null, .null, .int 0, .null, .null, .int 0, .int 0, .int 0, .null, .null, .null, .null, .null, .null, .int 0, .null, .null, .null, .null, .null])) := by rw [← hg, rz_up_s]
  have hfr : ∀ x, x < a → g48 x = G x := fun x hx => (hst x (by omega) (by omega)).trans (hfr x hx)
  have hn48 : g48 (a + 48) = some (.inl (0, 3010, .inl (fun _ => 0))) := by rw [← hg, rz_up_n _ _ (by omega), rz_up_s]
  have hce : ∀ o, 1 ≤ o → o < 49 → (True) → g48 (a + o) = some (re_cell a re_I0 re_A0 o) := fun o h1 h2 h3 => by
    by_cases c : o < 48
    · exact (hst _ (by omega) (by omega)).trans (hce o h1 c h3)
    by_cases c48 : o = 48
    · subst c48; exact hn48
    omega
  clear hg hst hn48
  refine rn_blk' [(.aload_n 0, 1, 0, 0)] (by decide +kernel) (by omega) (by omega) (fun K R hK hR => ?_)
  simp only [↓rx_aload_n0, ↓rx_nil, ↓ry_lr0s, ↓ry_lr0z, rz_set, rz_nol, rz_clr, List.set_cons_zero, List.set_cons_succ, rz_tr, Nat.reduceAdd, Int.reduceAdd, Int.reduceToNat, Int.reduceSub, Int.reduceNeg, Int.cast_ofNat_Int]
  refine hK _ _ _ _ ?_
  refine rn_ldc (v := 722400) (by decide +kernel) (rz_j5 94 rfl rfl) ?_
  change rn_T w _ _ _ _ _ _ _ _ (.int (nI 722400) :: _) _ _
  refine rn_na_i (N := 722400) (by decide) (by decide +kernel) (Or.inr ⟨a + 48, rfl, by rw [hce 48 (by decide) (by decide) trivial]; simp⟩) (by decide) (by decide) ?_
  change rn_T w _ _ _ _ 49 959116 _ _ (.ref (a + 49) :: _) (rz_up g48 (a + 49) _) _
  have e1 : rz_up g48 (a + 49) (.inl (0, 722400, .inl (fun _ => 0))) a = some (.inr (10, [.int 0, .ref (a + 1), .ref (a + 2), .ref (a + 3), .ref (a + 4), .ref (a + 5), .ref (a + 6), .ref (a + 7), .ref (a + 8), .ref (a + 9), .ref (a + 10), .ref (a + 11), .int 0, .ref (a + 12), .ref (a + 13), .ref (a + 14), .ref (a + 15), .ref (a + 16), .ref (a + 17), .ref (a + 18), .ref (a + 19), .ref (a + 20), .ref (a + 21), .ref (a + 22), .ref (a + 23), .ref (a + 24), .int 0, .int 0, .ref (a + 25), .ref (a + 26), .int 0, .ref (a + 27), .ref (a + 28), .ref (a + 29), .ref (a + 30), .ref (a + 31), .ref (a + 32), .ref (a + 33), .int 0, .ref (a + 34), .ref (a + 35), .int 0, .int 0, .ref (a + 36), .ref (a + 37), .ref (a + 38), .int 0, .int 0, .ref (a + 39), .ref (a + 40), .int 0, .int 0, .ref (a + 41), .ref (a + 42), .ref (a + 43), .ref (a + 44), .ref (a + 45), .ref (a + 46), .int 0, .ref (a + 47), .ref (a + 48), .null, .null, .null, .int 0, .null, .null, .int 0, .int 0, .int 0, .null, .null, .null, .null, .null, .null, .int 0, .null, .null, .null, .null, .null])) := by rw [rz_up_n _ _ (by omega)]; exact hob
  refine rn_blk' [(.putfield 157, 3, 10, 61)] (by decide +kernel) (by omega) (by omega) (fun K R hK hR => ?_)
  simp only [List.length_cons, List.length_nil, Nat.reduceLT, rf_10_61, ↓rx_nil, ↓rx_putfield, ↓ry_obu, ↓ry_vr, true_and, ↓rh_ob e1, rz_set, rz_nol, rz_clr, List.set_cons_zero, List.set_cons_succ, rz_tr, Nat.reduceAdd, Int.reduceAdd, Int.reduceToNat, Int.reduceSub, Int.reduceNeg, Int.cast_ofNat_Int]
  refine hK _ _ _ _ ?_
  clear e1
  generalize hg : rz_up (rz_up g48 (a + 49) _) a _ = g49
  have hst : ∀ x, x ≠ a → x < a + 49 → g49 x = g48 x := fun x h1 h2 => by rw [← hg, rz_up_n _ _ h1, rz_up_n _ _ (by omega)]
  have hob : g49 a = some (.inr (10, [.int 0, .ref (a + 1), .ref (a + 2), .ref (a + 3), .ref (a + 4), .ref (a + 5), .ref (a + 6), .ref (a + 7), .ref (a + 8), .ref (a + 9), .ref (a + 10), .ref (a + 11), .int 0, .ref (a + 12), .ref (a + 13), .ref (a + 14), .ref (a + 15), .ref (a + 16), .ref (a + 17), .ref (a + 18), .ref (a + 19), .ref (a + 20), .ref (a + 21), .ref (a + 22), .ref (a + 23), .ref (a + 24), .int 0, .int 0, .ref (a + 25), .ref (a + 26), .int 0, .ref (a + 27), .ref (a + 28), .ref (a + 29), .ref (a + 30), .ref (a + 31), .ref (a + 32), .ref (a + 33), .int 0, .ref (a + 34), .ref (a + 35), .int 0, .int 0, .ref (a + 36), .ref (a + 37), .ref (a + 38), .int 0, .int 0, .ref (a + 39), .ref (a + 40), .int 0, .int 0, .ref (a + 41), .ref (a + 42), .ref (a + 43), .ref (a + 44), .ref (a + 45), .ref (a + 46), .int 0, .ref (a + 47), .ref (a + 48), .ref (a + 49), .null, .null, .int 0, .null, .null, .int 0, .int 0, .int 0, .null, .null, .null, .null, .null, .null, .int 0, .null, .null, .null, .null, .null])) := by rw [← hg, rz_up_s]
  have hfr : ∀ x, x < a → g49 x = G x := fun x hx => (hst x (by omega) (by omega)).trans (hfr x hx)
  have hn49 : g49 (a + 49) = some (.inl (0, 722400, .inl (fun _ => 0))) := by rw [← hg, rz_up_n _ _ (by omega), rz_up_s]
  have hce : ∀ o, 1 ≤ o → o < 50 → (True) → g49 (a + o) = some (re_cell a re_I0 re_A0 o) := fun o h1 h2 h3 => by
    by_cases c : o < 49
    · exact (hst _ (by omega) (by omega)).trans (hce o h1 c h3)
    by_cases c49 : o = 49
    · subst c49; exact hn49
    omega
  clear hg hst hn49
  refine rn_blk' [(.aload_n 0, 1, 0, 0), (.sipush 3010, 3, 0, 0)] (by decide +kernel) (by omega) (by omega) (fun K R hK hR => ?_)
  simp only [rw_s3010, ↓rx_aload_n0, ↓rx_nil, ↓rx_sipush, ↓ry_lr0s, ↓ry_lr0z, rz_set, rz_nol, rz_clr, List.set_cons_zero, List.set_cons_succ, rz_tr, Nat.reduceAdd, Int.reduceAdd, Int.reduceToNat, Int.reduceSub, Int.reduceNeg, Int.cast_ofNat_Int]
  refine hK _ _ _ _ ?_
  refine rn_na_i (N := 3010) (by decide) (by decide +kernel) (Or.inr ⟨a + 49, rfl, by rw [hce 49 (by decide) (by decide) trivial]; simp⟩) (by decide) (by decide) ?_
  change rn_T w _ _ _ _ 50 962126 _ _ (.ref (a + 50) :: _) (rz_up g49 (a + 50) _) _
  have e1 : rz_up g49 (a + 50) (.inl (0, 3010, .inl (fun _ => 0))) a = some (.inr (10, [.int 0, .ref (a + 1), .ref (a + 2), .ref (a + 3), .ref (a + 4), .ref (a + 5), .ref (a + 6), .ref (a + 7), .ref (a + 8), .ref (a + 9), .ref (a + 10), .ref (a + 11), .int 0, .ref (a + 12), .ref (a + 13), .ref (a + 14), .ref (a + 15), .ref (a + 16), .ref (a + 17), .ref (a + 18), .ref (a + 19), .ref (a + 20), .ref (a + 21), .ref (a + 22), .ref (a + 23), .ref (a + 24), .int 0, .int 0, .ref (a + 25), .ref (a + 26), .int 0, .ref (a + 27), .ref (a + 28), .ref (a + 29), .ref (a + 30), .ref (a + 31), .ref (a + 32), .ref (a + 33), .int 0, .ref (a + 34), .ref (a + 35), .int 0, .int 0, .ref (a + 36), .ref (a + 37), .ref (a + 38), .int 0, .int 0, .ref (a + 39), .ref (a + 40), .int 0, .int 0, .ref (a + 41), .ref (a + 42), .ref (a + 43), .ref (a + 44), .ref (a + 45), .ref (a + 46), .int 0, .ref (a + 47), .ref (a + 48), .ref (a + 49), .null, .null, .int 0, .null, .null, .int 0, .int 0, .int 0, .null, .null, .null, .null, .null, .null, .int 0, .null, .null, .null, .null, .null])) := by rw [rz_up_n _ _ (by omega)]; exact hob
  refine rn_blk' [(.putfield 160, 3, 10, 62)] (by decide +kernel) (by omega) (by omega) (fun K R hK hR => ?_)
  simp only [List.length_cons, List.length_nil, Nat.reduceLT, rf_10_62, ↓rx_nil, ↓rx_putfield, ↓ry_obu, ↓ry_vr, true_and, ↓rh_ob e1, rz_set, rz_nol, rz_clr, List.set_cons_zero, List.set_cons_succ, rz_tr, Nat.reduceAdd, Int.reduceAdd, Int.reduceToNat, Int.reduceSub, Int.reduceNeg, Int.cast_ofNat_Int]
  refine hK _ _ _ _ ?_
  clear e1
  generalize hg : rz_up (rz_up g49 (a + 50) _) a _ = g50
  have hst : ∀ x, x ≠ a → x < a + 50 → g50 x = g49 x := fun x h1 h2 => by rw [← hg, rz_up_n _ _ h1, rz_up_n _ _ (by omega)]
  have hob : g50 a = some (.inr (10, [.int 0, .ref (a + 1), .ref (a + 2), .ref (a + 3), .ref (a + 4), .ref (a + 5), .ref (a + 6), .ref (a + 7), .ref (a + 8), .ref (a + 9), .ref (a + 10), .ref (a + 11), .int 0, .ref (a + 12), .ref (a + 13), .ref (a + 14), .ref (a + 15), .ref (a + 16), .ref (a + 17), .ref (a + 18), .ref (a + 19), .ref (a + 20), .ref (a + 21), .ref (a + 22), .ref (a + 23), .ref (a + 24), .int 0, .int 0, .ref (a + 25), .ref (a + 26), .int 0, .ref (a + 27), .ref (a + 28), .ref (a + 29), .ref (a + 30), .ref (a + 31), .ref (a + 32), .ref (a + 33), .int 0, .ref (a + 34), .ref (a + 35), .int 0, .int 0, .ref (a + 36), .ref (a + 37), .ref (a + 38), .int 0, .int 0, .ref (a + 39), .ref (a + 40), .int 0, .int 0, .ref (a + 41), .ref (a + 42), .ref (a + 43), .ref (a + 44), .ref (a + 45), .ref (a + 46), .int 0, .ref (a + 47), .ref (a + 48), .ref (a + 49), .ref (a + 50), .null, .int 0, .null, .null, .int 0, .int 0, .int 0, .null, .null, .null, .null, .null, .null, .int 0, .null, .null, .null, .null, .null])) := by rw [← hg, rz_up_s]
  have hfr : ∀ x, x < a → g50 x = G x := fun x hx => (hst x (by omega) (by omega)).trans (hfr x hx)
  have hn50 : g50 (a + 50) = some (.inl (0, 3010, .inl (fun _ => 0))) := by rw [← hg, rz_up_n _ _ (by omega), rz_up_s]
  have hce : ∀ o, 1 ≤ o → o < 51 → (True) → g50 (a + o) = some (re_cell a re_I0 re_A0 o) := fun o h1 h2 h3 => by
    by_cases c : o < 50
    · exact (hst _ (by omega) (by omega)).trans (hce o h1 c h3)
    by_cases c50 : o = 50
    · subst c50; exact hn50
    omega
  clear hg hst hn50
  refine rn_blk' [(.aload_n 0, 1, 0, 0), (.sipush 4096, 3, 0, 0)] (by decide +kernel) (by omega) (by omega) (fun K R hK hR => ?_)
  simp only [rw_s4096, ↓rx_aload_n0, ↓rx_nil, ↓rx_sipush, ↓ry_lr0s, ↓ry_lr0z, rz_set, rz_nol, rz_clr, List.set_cons_zero, List.set_cons_succ, rz_tr, Nat.reduceAdd, Int.reduceAdd, Int.reduceToNat, Int.reduceSub, Int.reduceNeg, Int.cast_ofNat_Int]
  refine hK _ _ _ _ ?_
  refine rn_na_i (N := 4096) (by decide) (by decide +kernel) (Or.inr ⟨a + 50, rfl, by rw [hce 50 (by decide) (by decide) trivial]; simp⟩) (by decide) (by decide) ?_
  change rn_T w _ _ _ _ 51 966222 _ _ (.ref (a + 51) :: _) (rz_up g50 (a + 51) _) _
  have e1 : rz_up g50 (a + 51) (.inl (0, 4096, .inl (fun _ => 0))) a = some (.inr (10, [.int 0, .ref (a + 1), .ref (a + 2), .ref (a + 3), .ref (a + 4), .ref (a + 5), .ref (a + 6), .ref (a + 7), .ref (a + 8), .ref (a + 9), .ref (a + 10), .ref (a + 11), .int 0, .ref (a + 12), .ref (a + 13), .ref (a + 14), .ref (a + 15), .ref (a + 16), .ref (a + 17), .ref (a + 18), .ref (a + 19), .ref (a + 20), .ref (a + 21), .ref (a + 22), .ref (a + 23), .ref (a + 24), .int 0, .int 0, .ref (a + 25), .ref (a + 26), .int 0, .ref (a + 27), .ref (a + 28), .ref (a + 29), .ref (a + 30), .ref (a + 31), .ref (a + 32), .ref (a + 33), .int 0, .ref (a + 34), .ref (a + 35), .int 0, .int 0, .ref (a + 36), .ref (a + 37), .ref (a + 38), .int 0, .int 0, .ref (a + 39), .ref (a + 40), .int 0, .int 0, .ref (a + 41), .ref (a + 42), .ref (a + 43), .ref (a + 44), .ref (a + 45), .ref (a + 46), .int 0, .ref (a + 47), .ref (a + 48), .ref (a + 49), .ref (a + 50), .null, .int 0, .null, .null, .int 0, .int 0, .int 0, .null, .null, .null, .null, .null, .null, .int 0, .null, .null, .null, .null, .null])) := by rw [rz_up_n _ _ (by omega)]; exact hob
  refine rn_blk' [(.putfield 163, 3, 10, 63)] (by decide +kernel) (by omega) (by omega) (fun K R hK hR => ?_)
  simp only [List.length_cons, List.length_nil, Nat.reduceLT, rf_10_63, ↓rx_nil, ↓rx_putfield, ↓ry_obu, ↓ry_vr, true_and, ↓rh_ob e1, rz_set, rz_nol, rz_clr, List.set_cons_zero, List.set_cons_succ, rz_tr, Nat.reduceAdd, Int.reduceAdd, Int.reduceToNat, Int.reduceSub, Int.reduceNeg, Int.cast_ofNat_Int]
  refine hK _ _ _ _ ?_
  clear e1
  generalize hg : rz_up (rz_up g50 (a + 51) _) a _ = g51
  have hst : ∀ x, x ≠ a → x < a + 51 → g51 x = g50 x := fun x h1 h2 => by rw [← hg, rz_up_n _ _ h1, rz_up_n _ _ (by omega)]
  have hob : g51 a = some (.inr (10, [.int 0, .ref (a + 1), .ref (a + 2), .ref (a + 3), .ref (a + 4), .ref (a + 5), .ref (a + 6), .ref (a + 7), .ref (a + 8), .ref (a + 9), .ref (a + 10), .ref (a + 11), .int 0, .ref (a + 12), .ref (a + 13), .ref (a + 14), .ref (a + 15), .ref (a + 16), .ref (a + 17), .ref (a + 18), .ref (a + 19), .ref (a + 20), .ref (a + 21), .ref (a + 22), .ref (a + 23), .ref (a + 24), .int 0, .int 0, .ref (a + 25), .ref (a + 26), .int 0, .ref (a + 27), .ref (a + 28), .ref (a + 29), .ref (a + 30), .ref (a + 31), .ref (a + 32), .ref (a + 33), .int 0, .ref (a + 34), .ref (a + 35), .int 0, .int 0, .ref (a + 36), .ref (a + 37), .ref (a + 38), .int 0, .int 0, .ref (a + 39), .ref (a + 40), .int 0, .int 0, .ref (a + 41), .ref (a + 42), .ref (a + 43), .ref (a + 44), .ref (a + 45), .ref (a + 46), .int 0, .ref (a + 47), .ref (a + 48), .ref (a + 49), .ref (a + 50), .ref (a + 51), .int 0, .null, .null, .int 0, .int 0, .int 0, .null, .null, .null, .null, .null, .null, .int 0, .null, .null, .null, .null, .null])) := by rw [← hg, rz_up_s]
  have hfr : ∀ x, x < a → g51 x = G x := fun x hx => (hst x (by omega) (by omega)).trans (hfr x hx)
  have hn51 : g51 (a + 51) = some (.inl (0, 4096, .inl (fun _ => 0))) := by rw [← hg, rz_up_n _ _ (by omega), rz_up_s]
  have hce : ∀ o, 1 ≤ o → o < 52 → (True) → g51 (a + o) = some (re_cell a re_I0 re_A0 o) := fun o h1 h2 h3 => by
    by_cases c : o < 51
    · exact (hst _ (by omega) (by omega)).trans (hce o h1 c h3)
    by_cases c51 : o = 51
    · subst c51; exact hn51
    omega
  clear hg hst hn51
  refine rn_blk' [(.aload_n 0, 1, 0, 0), (.bipush 6, 2, 0, 0)] (by decide +kernel) (by omega) (by omega) (fun K R hK hR => ?_)
  simp only [rw_b6, ↓rx_aload_n0, ↓rx_bipush, ↓rx_nil, ↓ry_lr0s, ↓ry_lr0z, rz_set, rz_nol, rz_clr, List.set_cons_zero, List.set_cons_succ, rz_tr, Nat.reduceAdd, Int.reduceAdd, Int.reduceToNat, Int.reduceSub, Int.reduceNeg, Int.cast_ofNat_Int]
  refine hK _ _ _ _ ?_
  refine rn_na_i (N := 6) (by decide) (by decide +kernel) (Or.inr ⟨a + 51, rfl, by rw [hce 51 (by decide) (by decide) trivial]; simp⟩) (by decide) (by decide) ?_
  change rn_T w _ _ _ _ 52 966228 _ _ (.ref (a + 52) :: _) (rz_up g51 (a + 52) _) _
  have e1 : rz_up g51 (a + 52) (.inl (0, 6, .inl (fun _ => 0))) a = some (.inr (10, [.int 0, .ref (a + 1), .ref (a + 2), .ref (a + 3), .ref (a + 4), .ref (a + 5), .ref (a + 6), .ref (a + 7), .ref (a + 8), .ref (a + 9), .ref (a + 10), .ref (a + 11), .int 0, .ref (a + 12), .ref (a + 13), .ref (a + 14), .ref (a + 15), .ref (a + 16), .ref (a + 17), .ref (a + 18), .ref (a + 19), .ref (a + 20), .ref (a + 21), .ref (a + 22), .ref (a + 23), .ref (a + 24), .int 0, .int 0, .ref (a + 25), .ref (a + 26), .int 0, .ref (a + 27), .ref (a + 28), .ref (a + 29), .ref (a + 30), .ref (a + 31), .ref (a + 32), .ref (a + 33), .int 0, .ref (a + 34), .ref (a + 35), .int 0, .int 0, .ref (a + 36), .ref (a + 37), .ref (a + 38), .int 0, .int 0, .ref (a + 39), .ref (a + 40), .int 0, .int 0, .ref (a + 41), .ref (a + 42), .ref (a + 43), .ref (a + 44), .ref (a + 45), .ref (a + 46), .int 0, .ref (a + 47), .ref (a + 48), .ref (a + 49), .ref (a + 50), .ref (a + 51), .int 0, .null, .null, .int 0, .int 0, .int 0, .null, .null, .null, .null, .null, .null, .int 0, .null, .null, .null, .null, .null])) := by rw [rz_up_n _ _ (by omega)]; exact hob
  refine rn_blk' [(.putfield 166, 3, 10, 65)] (by decide +kernel) (by omega) (by omega) (fun K R hK hR => ?_)
  simp only [List.length_cons, List.length_nil, Nat.reduceLT, rf_10_65, ↓rx_nil, ↓rx_putfield, ↓ry_obu, ↓ry_vr, true_and, ↓rh_ob e1, rz_set, rz_nol, rz_clr, List.set_cons_zero, List.set_cons_succ, rz_tr, Nat.reduceAdd, Int.reduceAdd, Int.reduceToNat, Int.reduceSub, Int.reduceNeg, Int.cast_ofNat_Int]
  refine hK _ _ _ _ ?_
  clear e1
  generalize hg : rz_up (rz_up g51 (a + 52) _) a _ = g52
  have hst : ∀ x, x ≠ a → x < a + 52 → g52 x = g51 x := fun x h1 h2 => by rw [← hg, rz_up_n _ _ h1, rz_up_n _ _ (by omega)]
  have hob : g52 a = some (.inr (10, [.int 0, .ref (a + 1), .ref (a + 2), .ref (a + 3), .ref (a + 4), .ref (a + 5), .ref (a + 6), .ref (a + 7), .ref (a + 8), .ref (a + 9), .ref (a + 10), .ref (a + 11), .int 0, .ref (a + 12), .ref (a + 13), .ref (a + 14), .ref (a + 15), .ref (a + 16), .ref (a + 17), .ref (a + 18), .ref (a + 19), .ref (a + 20), .ref (a + 21), .ref (a + 22), .ref (a + 23), .ref (a + 24), .int 0, .int 0, .ref (a + 25), .ref (a + 26), .int 0, .ref (a + 27), .ref (a + 28), .ref (a + 29), .ref (a + 30), .ref (a + 31), .ref (a + 32), .ref (a + 33), .int 0, .ref (a + 34), .ref (a + 35), .int 0, .int 0, .ref (a + 36), .ref (a + 37), .ref (a + 38), .int 0, .int 0, .ref (a + 39), .ref (a + 40), .int 0, .int 0, .ref (a + 41), .ref (a + 42), .ref (a + 43), .ref (a + 44), .ref (a + 45), .ref (a + 46), .int 0, .ref (a + 47), .ref (a + 48), .ref (a + 49), .ref (a + 50), .ref (a + 51), .int 0, .ref (a + 52), .null, .int 0, .int 0, .int 0, .null, .null, .null, .null, .null, .null, .int 0, .null, .null, .null, .null, .null])) := by rw [← hg, rz_up_s]
  have hfr : ∀ x, x < a → g52 x = G x := fun x hx => (hst x (by omega) (by omega)).trans (hfr x hx)
  have hn52 : g52 (a + 52) = some (.inl (0, 6, .inl (fun _ => 0))) := by rw [← hg, rz_up_n _ _ (by omega), rz_up_s]
  have hce : ∀ o, 1 ≤ o → o < 53 → (True) → g52 (a + o) = some (re_cell a re_I0 re_A0 o) := fun o h1 h2 h3 => by
    by_cases c : o < 52
    · exact (hst _ (by omega) (by omega)).trans (hce o h1 c h3)
    by_cases c52 : o = 52
    · subst c52; exact hn52
    omega
  clear hg hst hn52
  refine rn_blk' [(.aload_n 0, 1, 0, 0), (.sipush 192, 3, 0, 0)] (by decide +kernel) (by omega) (by omega) (fun K R hK hR => ?_)
  simp only [rw_s192, ↓rx_aload_n0, ↓rx_nil, ↓rx_sipush, ↓ry_lr0s, ↓ry_lr0z, rz_set, rz_nol, rz_clr, List.set_cons_zero, List.set_cons_succ, rz_tr, Nat.reduceAdd, Int.reduceAdd, Int.reduceToNat, Int.reduceSub, Int.reduceNeg, Int.cast_ofNat_Int]
  refine hK _ _ _ _ ?_
  refine rn_na_i (N := 192) (by decide) (by decide +kernel) (Or.inr ⟨a + 52, rfl, by rw [hce 52 (by decide) (by decide) trivial]; simp⟩) (by decide) (by decide) ?_
  change rn_T w _ _ _ _ 53 966420 _ _ (.ref (a + 53) :: _) (rz_up g52 (a + 53) _) _
  have e1 : rz_up g52 (a + 53) (.inl (0, 192, .inl (fun _ => 0))) a = some (.inr (10, [.int 0, .ref (a + 1), .ref (a + 2), .ref (a + 3), .ref (a + 4), .ref (a + 5), .ref (a + 6), .ref (a + 7), .ref (a + 8), .ref (a + 9), .ref (a + 10), .ref (a + 11), .int 0, .ref (a + 12), .ref (a + 13), .ref (a + 14), .ref (a + 15), .ref (a + 16), .ref (a + 17), .ref (a + 18), .ref (a + 19), .ref (a + 20), .ref (a + 21), .ref (a + 22), .ref (a + 23), .ref (a + 24), .int 0, .int 0, .ref (a + 25), .ref (a + 26), .int 0, .ref (a + 27), .ref (a + 28), .ref (a + 29), .ref (a + 30), .ref (a + 31), .ref (a + 32), .ref (a + 33), .int 0, .ref (a + 34), .ref (a + 35), .int 0, .int 0, .ref (a + 36), .ref (a + 37), .ref (a + 38), .int 0, .int 0, .ref (a + 39), .ref (a + 40), .int 0, .int 0, .ref (a + 41), .ref (a + 42), .ref (a + 43), .ref (a + 44), .ref (a + 45), .ref (a + 46), .int 0, .ref (a + 47), .ref (a + 48), .ref (a + 49), .ref (a + 50), .ref (a + 51), .int 0, .ref (a + 52), .null, .int 0, .int 0, .int 0, .null, .null, .null, .null, .null, .null, .int 0, .null, .null, .null, .null, .null])) := by rw [rz_up_n _ _ (by omega)]; exact hob
  refine rn_blk' [(.putfield 169, 3, 10, 66)] (by decide +kernel) (by omega) (by omega) (fun K R hK hR => ?_)
  simp only [List.length_cons, List.length_nil, Nat.reduceLT, rf_10_66, ↓rx_nil, ↓rx_putfield, ↓ry_obu, ↓ry_vr, true_and, ↓rh_ob e1, rz_set, rz_nol, rz_clr, List.set_cons_zero, List.set_cons_succ, rz_tr, Nat.reduceAdd, Int.reduceAdd, Int.reduceToNat, Int.reduceSub, Int.reduceNeg, Int.cast_ofNat_Int]
  refine hK _ _ _ _ ?_
  clear e1
  generalize hg : rz_up (rz_up g52 (a + 53) _) a _ = g53
  have hst : ∀ x, x ≠ a → x < a + 53 → g53 x = g52 x := fun x h1 h2 => by rw [← hg, rz_up_n _ _ h1, rz_up_n _ _ (by omega)]
  have hob : g53 a = some (.inr (10, [.int 0, .ref (a + 1), .ref (a + 2), .ref (a + 3), .ref (a + 4), .ref (a + 5), .ref (a + 6), .ref (a + 7), .ref (a + 8), .ref (a + 9), .ref (a + 10), .ref (a + 11), .int 0, .ref (a + 12), .ref (a + 13), .ref (a + 14), .ref (a + 15), .ref (a + 16), .ref (a + 17), .ref (a + 18), .ref (a + 19), .ref (a + 20), .ref (a + 21), .ref (a + 22), .ref (a + 23), .ref (a + 24), .int 0, .int 0, .ref (a + 25), .ref (a + 26), .int 0, .ref (a + 27), .ref (a + 28), .ref (a + 29), .ref (a + 30), .ref (a + 31), .ref (a + 32), .ref (a + 33), .int 0, .ref (a + 34), .ref (a + 35), .int 0, .int 0, .ref (a + 36), .ref (a + 37), .ref (a + 38), .int 0, .int 0, .ref (a + 39), .ref (a + 40), .int 0, .int 0, .ref (a + 41), .ref (a + 42), .ref (a + 43), .ref (a + 44), .ref (a + 45), .ref (a + 46), .int 0, .ref (a + 47), .ref (a + 48), .ref (a + 49), .ref (a + 50), .ref (a + 51), .int 0, .ref (a + 52), .ref (a + 53), .int 0, .int 0, .int 0, .null, .null, .null, .null, .null, .null, .int 0, .null, .null, .null, .null, .null])) := by rw [← hg, rz_up_s]
  have hfr : ∀ x, x < a → g53 x = G x := fun x hx => (hst x (by omega) (by omega)).trans (hfr x hx)
  have hn53 : g53 (a + 53) = some (.inl (0, 192, .inl (fun _ => 0))) := by rw [← hg, rz_up_n _ _ (by omega), rz_up_s]
  have hce : ∀ o, 1 ≤ o → o < 54 → (True) → g53 (a + o) = some (re_cell a re_I0 re_A0 o) := fun o h1 h2 h3 => by
    by_cases c : o < 53
    · exact (hst _ (by omega) (by omega)).trans (hce o h1 c h3)
    by_cases c53 : o = 53
    · subst c53; exact hn53
    omega
  clear hg hst hn53
  refine rn_blk' [(.aload_n 0, 1, 0, 0), (.bipush 64, 2, 0, 0)] (by decide +kernel) (by omega) (by omega) (fun K R hK hR => ?_)
  simp only [rw_b64, ↓rx_aload_n0, ↓rx_bipush, ↓rx_nil, ↓ry_lr0s, ↓ry_lr0z, rz_set, rz_nol, rz_clr, List.set_cons_zero, List.set_cons_succ, rz_tr, Nat.reduceAdd, Int.reduceAdd, Int.reduceToNat, Int.reduceSub, Int.reduceNeg, Int.cast_ofNat_Int]
  refine hK _ _ _ _ ?_
  refine rn_na_i (N := 64) (by decide) (by decide +kernel) (Or.inr ⟨a + 53, rfl, by rw [hce 53 (by decide) (by decide) trivial]; simp⟩) (by decide) (by decide) ?_
  change rn_T w _ _ _ _ 54 966484 _ _ (.ref (a + 54) :: _) (rz_up g53 (a + 54) _) _
  have e1 : rz_up g53 (a + 54) (.inl (0, 64, .inl (fun _ => 0))) a = some (.inr (10, [.int 0, .ref (a + 1), .ref (a + 2), .ref (a + 3), .ref (a + 4), .ref (a + 5), .ref (a + 6), .ref (a + 7), .ref (a + 8), .ref (a + 9), .ref (a + 10), .ref (a + 11), .int 0, .ref (a + 12), .ref (a + 13), .ref (a + 14), .ref (a + 15), .ref (a + 16), .ref (a + 17), .ref (a + 18), .ref (a + 19), .ref (a + 20), .ref (a + 21), .ref (a + 22), .ref (a + 23), .ref (a + 24), .int 0, .int 0, .ref (a + 25), .ref (a + 26), .int 0, .ref (a + 27), .ref (a + 28), .ref (a + 29), .ref (a + 30), .ref (a + 31), .ref (a + 32), .ref (a + 33), .int 0, .ref (a + 34), .ref (a + 35), .int 0, .int 0, .ref (a + 36), .ref (a + 37), .ref (a + 38), .int 0, .int 0, .ref (a + 39), .ref (a + 40), .int 0, .int 0, .ref (a + 41), .ref (a + 42), .ref (a + 43), .ref (a + 44), .ref (a + 45), .ref (a + 46), .int 0, .ref (a + 47), .ref (a + 48), .ref (a + 49), .ref (a + 50), .ref (a + 51), .int 0, .ref (a + 52), .ref (a + 53), .int 0, .int 0, .int 0, .null, .null, .null, .null, .null, .null, .int 0, .null, .null, .null, .null, .null])) := by rw [rz_up_n _ _ (by omega)]; exact hob
  refine rn_blk' [(.putfield 172, 3, 10, 70)] (by decide +kernel) (by omega) (by omega) (fun K R hK hR => ?_)
  simp only [List.length_cons, List.length_nil, Nat.reduceLT, rf_10_70, ↓rx_nil, ↓rx_putfield, ↓ry_obu, ↓ry_vr, true_and, ↓rh_ob e1, rz_set, rz_nol, rz_clr, List.set_cons_zero, List.set_cons_succ, rz_tr, Nat.reduceAdd, Int.reduceAdd, Int.reduceToNat, Int.reduceSub, Int.reduceNeg, Int.cast_ofNat_Int]
  refine hK _ _ _ _ ?_
  clear e1
  generalize hg : rz_up (rz_up g53 (a + 54) _) a _ = g54
  have hst : ∀ x, x ≠ a → x < a + 54 → g54 x = g53 x := fun x h1 h2 => by rw [← hg, rz_up_n _ _ h1, rz_up_n _ _ (by omega)]
  have hob : g54 a = some (.inr (10, [.int 0, .ref (a + 1), .ref (a + 2), .ref (a + 3), .ref (a + 4), .ref (a + 5), .ref (a + 6), .ref (a + 7), .ref (a + 8), .ref (a + 9), .ref (a + 10), .ref (a + 11), .int 0, .ref (a + 12), .ref (a + 13), .ref (a + 14), .ref (a + 15), .ref (a + 16), .ref (a + 17), .ref (a + 18), .ref (a + 19), .ref (a + 20), .ref (a + 21), .ref (a + 22), .ref (a + 23), .ref (a + 24), .int 0, .int 0, .ref (a + 25), .ref (a + 26), .int 0, .ref (a + 27), .ref (a + 28), .ref (a + 29), .ref (a + 30), .ref (a + 31), .ref (a + 32), .ref (a + 33), .int 0, .ref (a + 34), .ref (a + 35), .int 0, .int 0, .ref (a + 36), .ref (a + 37), .ref (a + 38), .int 0, .int 0, .ref (a + 39), .ref (a + 40), .int 0, .int 0, .ref (a + 41), .ref (a + 42), .ref (a + 43), .ref (a + 44), .ref (a + 45), .ref (a + 46), .int 0, .ref (a + 47), .ref (a + 48), .ref (a + 49), .ref (a + 50), .ref (a + 51), .int 0, .ref (a + 52), .ref (a + 53), .int 0, .int 0, .int 0, .ref (a + 54), .null, .null, .null, .null, .null, .int 0, .null, .null, .null, .null, .null])) := by rw [← hg, rz_up_s]
  have hfr : ∀ x, x < a → g54 x = G x := fun x hx => (hst x (by omega) (by omega)).trans (hfr x hx)
  have hn54 : g54 (a + 54) = some (.inl (0, 64, .inl (fun _ => 0))) := by rw [← hg, rz_up_n _ _ (by omega), rz_up_s]
  have hce : ∀ o, 1 ≤ o → o < 55 → (True) → g54 (a + o) = some (re_cell a re_I0 re_A0 o) := fun o h1 h2 h3 => by
    by_cases c : o < 54
    · exact (hst _ (by omega) (by omega)).trans (hce o h1 c h3)
    by_cases c54 : o = 54
    · subst c54; exact hn54
    omega
  clear hg hst hn54
  refine rn_blk' [(.aload_n 0, 1, 0, 0), (.bipush 120, 2, 0, 0)] (by decide +kernel) (by omega) (by omega) (fun K R hK hR => ?_)
  simp only [rw_b120, ↓rx_aload_n0, ↓rx_bipush, ↓rx_nil, ↓ry_lr0s, ↓ry_lr0z, rz_set, rz_nol, rz_clr, List.set_cons_zero, List.set_cons_succ, rz_tr, Nat.reduceAdd, Int.reduceAdd, Int.reduceToNat, Int.reduceSub, Int.reduceNeg, Int.cast_ofNat_Int]
  refine hK _ _ _ _ ?_
  refine rn_na_i (N := 120) (by decide) (by decide +kernel) (Or.inr ⟨a + 54, rfl, by rw [hce 54 (by decide) (by decide) trivial]; simp⟩) (by decide) (by decide) ?_
  change rn_T w _ _ _ _ 55 966604 _ _ (.ref (a + 55) :: _) (rz_up g54 (a + 55) _) _
  have e1 : rz_up g54 (a + 55) (.inl (0, 120, .inl (fun _ => 0))) a = some (.inr (10, [.int 0, .ref (a + 1), .ref (a + 2), .ref (a + 3), .ref (a + 4), .ref (a + 5), .ref (a + 6), .ref (a + 7), .ref (a + 8), .ref (a + 9), .ref (a + 10), .ref (a + 11), .int 0, .ref (a + 12), .ref (a + 13), .ref (a + 14), .ref (a + 15), .ref (a + 16), .ref (a + 17), .ref (a + 18), .ref (a + 19), .ref (a + 20), .ref (a + 21), .ref (a + 22), .ref (a + 23), .ref (a + 24), .int 0, .int 0, .ref (a + 25), .ref (a + 26), .int 0, .ref (a + 27), .ref (a + 28), .ref (a + 29), .ref (a + 30), .ref (a + 31), .ref (a + 32), .ref (a + 33), .int 0, .ref (a + 34), .ref (a + 35), .int 0, .int 0, .ref (a + 36), .ref (a + 37), .ref (a + 38), .int 0, .int 0, .ref (a + 39), .ref (a + 40), .int 0, .int 0, .ref (a + 41), .ref (a + 42), .ref (a + 43), .ref (a + 44), .ref (a + 45), .ref (a + 46), .int 0, .ref (a + 47), .ref (a + 48), .ref (a + 49), .ref (a + 50), .ref (a + 51), .int 0, .ref (a + 52), .ref (a + 53), .int 0, .int 0, .int 0, .ref (a + 54), .null, .null, .null, .null, .null, .int 0, .null, .null, .null, .null, .null])) := by rw [rz_up_n _ _ (by omega)]; exact hob
  refine rn_blk' [(.putfield 175, 3, 10, 71)] (by decide +kernel) (by omega) (by omega) (fun K R hK hR => ?_)
  simp only [List.length_cons, List.length_nil, Nat.reduceLT, rf_10_71, ↓rx_nil, ↓rx_putfield, ↓ry_obu, ↓ry_vr, true_and, ↓rh_ob e1, rz_set, rz_nol, rz_clr, List.set_cons_zero, List.set_cons_succ, rz_tr, Nat.reduceAdd, Int.reduceAdd, Int.reduceToNat, Int.reduceSub, Int.reduceNeg, Int.cast_ofNat_Int]
  refine hK _ _ _ _ ?_
  clear e1
  generalize hg : rz_up (rz_up g54 (a + 55) _) a _ = g55
  have hst : ∀ x, x ≠ a → x < a + 55 → g55 x = g54 x := fun x h1 h2 => by rw [← hg, rz_up_n _ _ h1, rz_up_n _ _ (by omega)]
  have hob : g55 a = some (.inr (10, [.int 0, .ref (a + 1), .ref (a + 2), .ref (a + 3), .ref (a + 4), .ref (a + 5), .ref (a + 6), .ref (a + 7), .ref (a + 8), .ref (a + 9), .ref (a + 10), .ref (a + 11), .int 0, .ref (a + 12), .ref (a + 13), .ref (a + 14), .ref (a + 15), .ref (a + 16), .ref (a + 17), .ref (a + 18), .ref (a + 19), .ref (a + 20), .ref (a + 21), .ref (a + 22), .ref (a + 23), .ref (a + 24), .int 0, .int 0, .ref (a + 25), .ref (a + 26), .int 0, .ref (a + 27), .ref (a + 28), .ref (a + 29), .ref (a + 30), .ref (a + 31), .ref (a + 32), .ref (a + 33), .int 0, .ref (a + 34), .ref (a + 35), .int 0, .int 0, .ref (a + 36), .ref (a + 37), .ref (a + 38), .int 0, .int 0, .ref (a + 39), .ref (a + 40), .int 0, .int 0, .ref (a + 41), .ref (a + 42), .ref (a + 43), .ref (a + 44), .ref (a + 45), .ref (a + 46), .int 0, .ref (a + 47), .ref (a + 48), .ref (a + 49), .ref (a + 50), .ref (a + 51), .int 0, .ref (a + 52), .ref (a + 53), .int 0, .int 0, .int 0, .ref (a + 54), .ref (a + 55), .null, .null, .null, .null, .int 0, .null, .null, .null, .null, .null])) := by rw [← hg, rz_up_s]
  have hfr : ∀ x, x < a → g55 x = G x := fun x hx => (hst x (by omega) (by omega)).trans (hfr x hx)
  have hn55 : g55 (a + 55) = some (.inl (0, 120, .inl (fun _ => 0))) := by rw [← hg, rz_up_n _ _ (by omega), rz_up_s]
  have hce : ∀ o, 1 ≤ o → o < 56 → (True) → g55 (a + o) = some (re_cell a re_I0 re_A0 o) := fun o h1 h2 h3 => by
    by_cases c : o < 55
    · exact (hst _ (by omega) (by omega)).trans (hce o h1 c h3)
    by_cases c55 : o = 55
    · subst c55; exact hn55
    omega
  clear hg hst hn55
  refine rn_blk' [(.aload_n 0, 1, 0, 0), (.bipush 120, 2, 0, 0)] (by decide +kernel) (by omega) (by omega) (fun K R hK hR => ?_)
  simp only [rw_b120, ↓rx_aload_n0, ↓rx_bipush, ↓rx_nil, ↓ry_lr0s, ↓ry_lr0z, rz_set, rz_nol, rz_clr, List.set_cons_zero, List.set_cons_succ, rz_tr, Nat.reduceAdd, Int.reduceAdd, Int.reduceToNat, Int.reduceSub, Int.reduceNeg, Int.cast_ofNat_Int]
  refine hK _ _ _ _ ?_
  refine rn_na_i (N := 120) (by decide) (by decide +kernel) (Or.inr ⟨a + 55, rfl, by rw [hce 55 (by decide) (by decide) trivial]; simp⟩) (by decide) (by decide) ?_
  change rn_T w _ _ _ _ 56 966724 _ _ (.ref (a + 56) :: _) (rz_up g55 (a + 56) _) _
  have e1 : rz_up g55 (a + 56) (.inl (0, 120, .inl (fun _ => 0))) a = some (.inr (10, [.int 0, .ref (a + 1), .ref (a + 2), .ref (a + 3), .ref (a + 4), .ref (a + 5), .ref (a + 6), .ref (a + 7), .ref (a + 8), .ref (a + 9), .ref (a + 10), .ref (a + 11), .int 0, .ref (a + 12), .ref (a + 13), .ref (a + 14), .ref (a + 15), .ref (a + 16), .ref (a + 17), .ref (a + 18), .ref (a + 19), .ref (a + 20), .ref (a + 21), .ref (a + 22), .ref (a + 23), .ref (a + 24), .int 0, .int 0, .ref (a + 25), .ref (a + 26), .int 0, .ref (a + 27), .ref (a + 28), .ref (a + 29), .ref (a + 30), .ref (a + 31), .ref (a + 32), .ref (a + 33), .int 0, .ref (a + 34), .ref (a + 35), .int 0, .int 0, .ref (a + 36), .ref (a + 37), .ref (a + 38), .int 0, .int 0, .ref (a + 39), .ref (a + 40), .int 0, .int 0, .ref (a + 41), .ref (a + 42), .ref (a + 43), .ref (a + 44), .ref (a + 45), .ref (a + 46), .int 0, .ref (a + 47), .ref (a + 48), .ref (a + 49), .ref (a + 50), .ref (a + 51), .int 0, .ref (a + 52), .ref (a + 53), .int 0, .int 0, .int 0, .ref (a + 54), .ref (a + 55), .null, .null, .null, .null, .int 0, .null, .null, .null, .null, .null])) := by rw [rz_up_n _ _ (by omega)]; exact hob
  refine rn_blk' [(.putfield 178, 3, 10, 72)] (by decide +kernel) (by omega) (by omega) (fun K R hK hR => ?_)
  simp only [List.length_cons, List.length_nil, Nat.reduceLT, rf_10_72, ↓rx_nil, ↓rx_putfield, ↓ry_obu, ↓ry_vr, true_and, ↓rh_ob e1, rz_set, rz_nol, rz_clr, List.set_cons_zero, List.set_cons_succ, rz_tr, Nat.reduceAdd, Int.reduceAdd, Int.reduceToNat, Int.reduceSub, Int.reduceNeg, Int.cast_ofNat_Int]
  refine hK _ _ _ _ ?_
  clear e1
  generalize hg : rz_up (rz_up g55 (a + 56) _) a _ = g56
  have hst : ∀ x, x ≠ a → x < a + 56 → g56 x = g55 x := fun x h1 h2 => by rw [← hg, rz_up_n _ _ h1, rz_up_n _ _ (by omega)]
  have hob : g56 a = some (.inr (10, [.int 0, .ref (a + 1), .ref (a + 2), .ref (a + 3), .ref (a + 4), .ref (a + 5), .ref (a + 6), .ref (a + 7), .ref (a + 8), .ref (a + 9), .ref (a + 10), .ref (a + 11), .int 0, .ref (a + 12), .ref (a + 13), .ref (a + 14), .ref (a + 15), .ref (a + 16), .ref (a + 17), .ref (a + 18), .ref (a + 19), .ref (a + 20), .ref (a + 21), .ref (a + 22), .ref (a + 23), .ref (a + 24), .int 0, .int 0, .ref (a + 25), .ref (a + 26), .int 0, .ref (a + 27), .ref (a + 28), .ref (a + 29), .ref (a + 30), .ref (a + 31), .ref (a + 32), .ref (a + 33), .int 0, .ref (a + 34), .ref (a + 35), .int 0, .int 0, .ref (a + 36), .ref (a + 37), .ref (a + 38), .int 0, .int 0, .ref (a + 39), .ref (a + 40), .int 0, .int 0, .ref (a + 41), .ref (a + 42), .ref (a + 43), .ref (a + 44), .ref (a + 45), .ref (a + 46), .int 0, .ref (a + 47), .ref (a + 48), .ref (a + 49), .ref (a + 50), .ref (a + 51), .int 0, .ref (a + 52), .ref (a + 53), .int 0, .int 0, .int 0, .ref (a + 54), .ref (a + 55), .ref (a + 56), .null, .null, .null, .int 0, .null, .null, .null, .null, .null])) := by rw [← hg, rz_up_s]
  have hfr : ∀ x, x < a → g56 x = G x := fun x hx => (hst x (by omega) (by omega)).trans (hfr x hx)
  have hn56 : g56 (a + 56) = some (.inl (0, 120, .inl (fun _ => 0))) := by rw [← hg, rz_up_n _ _ (by omega), rz_up_s]
  have hce : ∀ o, 1 ≤ o → o < 57 → (True) → g56 (a + o) = some (re_cell a re_I0 re_A0 o) := fun o h1 h2 h3 => by
    by_cases c : o < 56
    · exact (hst _ (by omega) (by omega)).trans (hce o h1 c h3)
    by_cases c56 : o = 56
    · subst c56; exact hn56
    omega
  clear hg hst hn56
  refine rn_blk' [(.aload_n 0, 1, 0, 0), (.sipush 19200, 3, 0, 0)] (by decide +kernel) (by omega) (by omega) (fun K R hK hR => ?_)
  simp only [rw_s19200, ↓rx_aload_n0, ↓rx_nil, ↓rx_sipush, ↓ry_lr0s, ↓ry_lr0z, rz_set, rz_nol, rz_clr, List.set_cons_zero, List.set_cons_succ, rz_tr, Nat.reduceAdd, Int.reduceAdd, Int.reduceToNat, Int.reduceSub, Int.reduceNeg, Int.cast_ofNat_Int]
  refine hK _ _ _ _ ?_
  refine rn_na_i (N := 19200) (by decide) (by decide +kernel) (Or.inr ⟨a + 56, rfl, by rw [hce 56 (by decide) (by decide) trivial]; simp⟩) (by decide) (by decide) ?_
  change rn_T w _ _ _ _ 57 985924 _ _ (.ref (a + 57) :: _) (rz_up g56 (a + 57) _) _
  have e1 : rz_up g56 (a + 57) (.inl (0, 19200, .inl (fun _ => 0))) a = some (.inr (10, [.int 0, .ref (a + 1), .ref (a + 2), .ref (a + 3), .ref (a + 4), .ref (a + 5), .ref (a + 6), .ref (a + 7), .ref (a + 8), .ref (a + 9), .ref (a + 10), .ref (a + 11), .int 0, .ref (a + 12), .ref (a + 13), .ref (a + 14), .ref (a + 15), .ref (a + 16), .ref (a + 17), .ref (a + 18), .ref (a + 19), .ref (a + 20), .ref (a + 21), .ref (a + 22), .ref (a + 23), .ref (a + 24), .int 0, .int 0, .ref (a + 25), .ref (a + 26), .int 0, .ref (a + 27), .ref (a + 28), .ref (a + 29), .ref (a + 30), .ref (a + 31), .ref (a + 32), .ref (a + 33), .int 0, .ref (a + 34), .ref (a + 35), .int 0, .int 0, .ref (a + 36), .ref (a + 37), .ref (a + 38), .int 0, .int 0, .ref (a + 39), .ref (a + 40), .int 0, .int 0, .ref (a + 41), .ref (a + 42), .ref (a + 43), .ref (a + 44), .ref (a + 45), .ref (a + 46), .int 0, .ref (a + 47), .ref (a + 48), .ref (a + 49), .ref (a + 50), .ref (a + 51), .int 0, .ref (a + 52), .ref (a + 53), .int 0, .int 0, .int 0, .ref (a + 54), .ref (a + 55), .ref (a + 56), .null, .null, .null, .int 0, .null, .null, .null, .null, .null])) := by rw [rz_up_n _ _ (by omega)]; exact hob
  refine rn_blk' [(.putfield 181, 3, 10, 73)] (by decide +kernel) (by omega) (by omega) (fun K R hK hR => ?_)
  simp only [List.length_cons, List.length_nil, Nat.reduceLT, rf_10_73, ↓rx_nil, ↓rx_putfield, ↓ry_obu, ↓ry_vr, true_and, ↓rh_ob e1, rz_set, rz_nol, rz_clr, List.set_cons_zero, List.set_cons_succ, rz_tr, Nat.reduceAdd, Int.reduceAdd, Int.reduceToNat, Int.reduceSub, Int.reduceNeg, Int.cast_ofNat_Int]
  refine hK _ _ _ _ ?_
  clear e1
  generalize hg : rz_up (rz_up g56 (a + 57) _) a _ = g57
  have hst : ∀ x, x ≠ a → x < a + 57 → g57 x = g56 x := fun x h1 h2 => by rw [← hg, rz_up_n _ _ h1, rz_up_n _ _ (by omega)]
  have hob : g57 a = some (.inr (10, [.int 0, .ref (a + 1), .ref (a + 2), .ref (a + 3), .ref (a + 4), .ref (a + 5), .ref (a + 6), .ref (a + 7), .ref (a + 8), .ref (a + 9), .ref (a + 10), .ref (a + 11), .int 0, .ref (a + 12), .ref (a + 13), .ref (a + 14), .ref (a + 15), .ref (a + 16), .ref (a + 17), .ref (a + 18), .ref (a + 19), .ref (a + 20), .ref (a + 21), .ref (a + 22), .ref (a + 23), .ref (a + 24), .int 0, .int 0, .ref (a + 25), .ref (a + 26), .int 0, .ref (a + 27), .ref (a + 28), .ref (a + 29), .ref (a + 30), .ref (a + 31), .ref (a + 32), .ref (a + 33), .int 0, .ref (a + 34), .ref (a + 35), .int 0, .int 0, .ref (a + 36), .ref (a + 37), .ref (a + 38), .int 0, .int 0, .ref (a + 39), .ref (a + 40), .int 0, .int 0, .ref (a + 41), .ref (a + 42), .ref (a + 43), .ref (a + 44), .ref (a + 45), .ref (a + 46), .int 0, .ref (a + 47), .ref (a + 48), .ref (a + 49), .ref (a + 50), .ref (a + 51), .int 0, .ref (a + 52), .ref (a + 53), .int 0, .int 0, .int 0, .ref (a + 54), .ref (a + 55), .ref (a + 56), .ref (a + 57), .null, .null, .int 0, .null, .null, .null, .null, .null])) := by rw [← hg, rz_up_s]
  have hfr : ∀ x, x < a → g57 x = G x := fun x hx => (hst x (by omega) (by omega)).trans (hfr x hx)
  have hn57 : g57 (a + 57) = some (.inl (0, 19200, .inl (fun _ => 0))) := by rw [← hg, rz_up_n _ _ (by omega), rz_up_s]
  have hce : ∀ o, 1 ≤ o → o < 58 → (True) → g57 (a + o) = some (re_cell a re_I0 re_A0 o) := fun o h1 h2 h3 => by
    by_cases c : o < 57
    · exact (hst _ (by omega) (by omega)).trans (hce o h1 c h3)
    by_cases c57 : o = 57
    · subst c57; exact hn57
    omega
  clear hg hst hn57
  refine rn_blk' [(.aload_n 0, 1, 0, 0), (.bipush 40, 2, 0, 0)] (by decide +kernel) (by omega) (by omega) (fun K R hK hR => ?_)
  simp only [rw_b40, ↓rx_aload_n0, ↓rx_bipush, ↓rx_nil, ↓ry_lr0s, ↓ry_lr0z, rz_set, rz_nol, rz_clr, List.set_cons_zero, List.set_cons_succ, rz_tr, Nat.reduceAdd, Int.reduceAdd, Int.reduceToNat, Int.reduceSub, Int.reduceNeg, Int.cast_ofNat_Int]
  refine hK _ _ _ _ ?_
  refine rn_na_i (N := 40) (by decide) (by decide +kernel) (Or.inr ⟨a + 57, rfl, by rw [hce 57 (by decide) (by decide) trivial]; simp⟩) (by decide) (by decide) ?_
  change rn_T w _ _ _ _ 58 985964 _ _ (.ref (a + 58) :: _) (rz_up g57 (a + 58) _) _
  have e1 : rz_up g57 (a + 58) (.inl (0, 40, .inl (fun _ => 0))) a = some (.inr (10, [.int 0, .ref (a + 1), .ref (a + 2), .ref (a + 3), .ref (a + 4), .ref (a + 5), .ref (a + 6), .ref (a + 7), .ref (a + 8), .ref (a + 9), .ref (a + 10), .ref (a + 11), .int 0, .ref (a + 12), .ref (a + 13), .ref (a + 14), .ref (a + 15), .ref (a + 16), .ref (a + 17), .ref (a + 18), .ref (a + 19), .ref (a + 20), .ref (a + 21), .ref (a + 22), .ref (a + 23), .ref (a + 24), .int 0, .int 0, .ref (a + 25), .ref (a + 26), .int 0, .ref (a + 27), .ref (a + 28), .ref (a + 29), .ref (a + 30), .ref (a + 31), .ref (a + 32), .ref (a + 33), .int 0, .ref (a + 34), .ref (a + 35), .int 0, .int 0, .ref (a + 36), .ref (a + 37), .ref (a + 38), .int 0, .int 0, .ref (a + 39), .ref (a + 40), .int 0, .int 0, .ref (a + 41), .ref (a + 42), .ref (a + 43), .ref (a + 44), .ref (a + 45), .ref (a + 46), .int 0, .ref (a + 47), .ref (a + 48), .ref (a + 49), .ref (a + 50), .ref (a + 51), .int 0, .ref (a + 52), .ref (a + 53), .int 0, .int 0, .int 0, .ref (a + 54), .ref (a + 55), .ref (a + 56), .ref (a + 57), .null, .null, .int 0, .null, .null, .null, .null, .null])) := by rw [rz_up_n _ _ (by omega)]; exact hob
  refine rn_blk' [(.putfield 184, 3, 10, 74)] (by decide +kernel) (by omega) (by omega) (fun K R hK hR => ?_)
  simp only [List.length_cons, List.length_nil, Nat.reduceLT, rf_10_74, ↓rx_nil, ↓rx_putfield, ↓ry_obu, ↓ry_vr, true_and, ↓rh_ob e1, rz_set, rz_nol, rz_clr, List.set_cons_zero, List.set_cons_succ, rz_tr, Nat.reduceAdd, Int.reduceAdd, Int.reduceToNat, Int.reduceSub, Int.reduceNeg, Int.cast_ofNat_Int]
  refine hK _ _ _ _ ?_
  clear e1
  generalize hg : rz_up (rz_up g57 (a + 58) _) a _ = g58
  have hst : ∀ x, x ≠ a → x < a + 58 → g58 x = g57 x := fun x h1 h2 => by rw [← hg, rz_up_n _ _ h1, rz_up_n _ _ (by omega)]
  have hob : g58 a = some (.inr (10, [.int 0, .ref (a + 1), .ref (a + 2), .ref (a + 3), .ref (a + 4), .ref (a + 5), .ref (a + 6), .ref (a + 7), .ref (a + 8), .ref (a + 9), .ref (a + 10), .ref (a + 11), .int 0, .ref (a + 12), .ref (a + 13), .ref (a + 14), .ref (a + 15), .ref (a + 16), .ref (a + 17), .ref (a + 18), .ref (a + 19), .ref (a + 20), .ref (a + 21), .ref (a + 22), .ref (a + 23), .ref (a + 24), .int 0, .int 0, .ref (a + 25), .ref (a + 26), .int 0, .ref (a + 27), .ref (a + 28), .ref (a + 29), .ref (a + 30), .ref (a + 31), .ref (a + 32), .ref (a + 33), .int 0, .ref (a + 34), .ref (a + 35), .int 0, .int 0, .ref (a + 36), .ref (a + 37), .ref (a + 38), .int 0, .int 0, .ref (a + 39), .ref (a + 40), .int 0, .int 0, .ref (a + 41), .ref (a + 42), .ref (a + 43), .ref (a + 44), .ref (a + 45), .ref (a + 46), .int 0, .ref (a + 47), .ref (a + 48), .ref (a + 49), .ref (a + 50), .ref (a + 51), .int 0, .ref (a + 52), .ref (a + 53), .int 0, .int 0, .int 0, .ref (a + 54), .ref (a + 55), .ref (a + 56), .ref (a + 57), .ref (a + 58), .null, .int 0, .null, .null, .null, .null, .null])) := by rw [← hg, rz_up_s]
  have hfr : ∀ x, x < a → g58 x = G x := fun x hx => (hst x (by omega) (by omega)).trans (hfr x hx)
  have hn58 : g58 (a + 58) = some (.inl (0, 40, .inl (fun _ => 0))) := by rw [← hg, rz_up_n _ _ (by omega), rz_up_s]
  have hce : ∀ o, 1 ≤ o → o < 59 → (True) → g58 (a + o) = some (re_cell a re_I0 re_A0 o) := fun o h1 h2 h3 => by
    by_cases c : o < 58
    · exact (hst _ (by omega) (by omega)).trans (hce o h1 c h3)
    by_cases c58 : o = 58
    · subst c58; exact hn58
    omega
  clear hg hst hn58
  refine rn_blk' [(.aload_n 0, 1, 0, 0), (.sipush 7680, 3, 0, 0)] (by decide +kernel) (by omega) (by omega) (fun K R hK hR => ?_)
  simp only [rw_s7680, ↓rx_aload_n0, ↓rx_nil, ↓rx_sipush, ↓ry_lr0s, ↓ry_lr0z, rz_set, rz_nol, rz_clr, List.set_cons_zero, List.set_cons_succ, rz_tr, Nat.reduceAdd, Int.reduceAdd, Int.reduceToNat, Int.reduceSub, Int.reduceNeg, Int.cast_ofNat_Int]
  refine hK _ _ _ _ ?_
  refine rn_na_i (N := 7680) (by decide) (by decide +kernel) (Or.inr ⟨a + 58, rfl, by rw [hce 58 (by decide) (by decide) trivial]; simp⟩) (by decide) (by decide) ?_
  change rn_T w _ _ _ _ 59 993644 _ _ (.ref (a + 59) :: _) (rz_up g58 (a + 59) _) _
  have e1 : rz_up g58 (a + 59) (.inl (0, 7680, .inl (fun _ => 0))) a = some (.inr (10, [.int 0, .ref (a + 1), .ref (a + 2), .ref (a + 3), .ref (a + 4), .ref (a + 5), .ref (a + 6), .ref (a + 7), .ref (a + 8), .ref (a + 9), .ref (a + 10), .ref (a + 11), .int 0, .ref (a + 12), .ref (a + 13), .ref (a + 14), .ref (a + 15), .ref (a + 16), .ref (a + 17), .ref (a + 18), .ref (a + 19), .ref (a + 20), .ref (a + 21), .ref (a + 22), .ref (a + 23), .ref (a + 24), .int 0, .int 0, .ref (a + 25), .ref (a + 26), .int 0, .ref (a + 27), .ref (a + 28), .ref (a + 29), .ref (a + 30), .ref (a + 31), .ref (a + 32), .ref (a + 33), .int 0, .ref (a + 34), .ref (a + 35), .int 0, .int 0, .ref (a + 36), .ref (a + 37), .ref (a + 38), .int 0, .int 0, .ref (a + 39), .ref (a + 40), .int 0, .int 0, .ref (a + 41), .ref (a + 42), .ref (a + 43), .ref (a + 44), .ref (a + 45), .ref (a + 46), .int 0, .ref (a + 47), .ref (a + 48), .ref (a + 49), .ref (a + 50), .ref (a + 51), .int 0, .ref (a + 52), .ref (a + 53), .int 0, .int 0, .int 0, .ref (a + 54), .ref (a + 55), .ref (a + 56), .ref (a + 57), .ref (a + 58), .null, .int 0, .null, .null, .null, .null, .null])) := by rw [rz_up_n _ _ (by omega)]; exact hob
  refine rn_blk' [(.putfield 187, 3, 10, 75)] (by decide +kernel) (by omega) (by omega) (fun K R hK hR => ?_)
  simp only [List.length_cons, List.length_nil, Nat.reduceLT, rf_10_75, ↓rx_nil, ↓rx_putfield, ↓ry_obu, ↓ry_vr, true_and, ↓rh_ob e1, rz_set, rz_nol, rz_clr, List.set_cons_zero, List.set_cons_succ, rz_tr, Nat.reduceAdd, Int.reduceAdd, Int.reduceToNat, Int.reduceSub, Int.reduceNeg, Int.cast_ofNat_Int]
  refine hK _ _ _ _ ?_
  clear e1
  generalize hg : rz_up (rz_up g58 (a + 59) _) a _ = g59
  have hst : ∀ x, x ≠ a → x < a + 59 → g59 x = g58 x := fun x h1 h2 => by rw [← hg, rz_up_n _ _ h1, rz_up_n _ _ (by omega)]
  have hob : g59 a = some (.inr (10, [.int 0, .ref (a + 1), .ref (a + 2), .ref (a + 3), .ref (a + 4), .ref (a + 5), .ref (a + 6), .ref (a + 7), .ref (a + 8), .ref (a + 9), .ref (a + 10), .ref (a + 11), .int 0, .ref (a + 12), .ref (a + 13), .ref (a + 14), .ref (a + 15), .ref (a + 16), .ref (a + 17), .ref (a + 18), .ref (a + 19), .ref (a + 20), .ref (a + 21), .ref (a + 22), .ref (a + 23), .ref (a + 24), .int 0, .int 0, .ref (a + 25), .ref (a + 26), .int 0, .ref (a + 27), .ref (a + 28), .ref (a + 29), .ref (a + 30), .ref (a + 31), .ref (a + 32), .ref (a + 33), .int 0, .ref (a + 34), .ref (a + 35), .int 0, .int 0, .ref (a + 36), .ref (a + 37), .ref (a + 38), .int 0, .int 0, .ref (a + 39), .ref (a + 40), .int 0, .int 0, .ref (a + 41), .ref (a + 42), .ref (a + 43), .ref (a + 44), .ref (a + 45), .ref (a + 46), .int 0, .ref (a + 47), .ref (a + 48), .ref (a + 49), .ref (a + 50), .ref (a + 51), .int 0, .ref (a + 52), .ref (a + 53), .int 0, .int 0, .int 0, .ref (a + 54), .ref (a + 55), .ref (a + 56), .ref (a + 57), .ref (a + 58), .ref (a + 59), .int 0, .null, .null, .null, .null, .null])) := by rw [← hg, rz_up_s]
  have hfr : ∀ x, x < a → g59 x = G x := fun x hx => (hst x (by omega) (by omega)).trans (hfr x hx)
  have hn59 : g59 (a + 59) = some (.inl (0, 7680, .inl (fun _ => 0))) := by rw [← hg, rz_up_n _ _ (by omega), rz_up_s]
  have hce : ∀ o, 1 ≤ o → o < 60 → (True) → g59 (a + o) = some (re_cell a re_I0 re_A0 o) := fun o h1 h2 h3 => by
    by_cases c : o < 59
    · exact (hst _ (by omega) (by omega)).trans (hce o h1 c h3)
    by_cases c59 : o = 59
    · subst c59; exact hn59
    omega
  clear hg hst hn59
  refine rn_blk' [(.aload_n 0, 1, 0, 0), (.sipush 252, 3, 0, 0)] (by decide +kernel) (by omega) (by omega) (fun K R hK hR => ?_)
  simp only [rw_s252, ↓rx_aload_n0, ↓rx_nil, ↓rx_sipush, ↓ry_lr0s, ↓ry_lr0z, rz_set, rz_nol, rz_clr, List.set_cons_zero, List.set_cons_succ, rz_tr, Nat.reduceAdd, Int.reduceAdd, Int.reduceToNat, Int.reduceSub, Int.reduceNeg, Int.cast_ofNat_Int]
  refine hK _ _ _ _ ?_
  refine rn_na_i (N := 252) (by decide) (by decide +kernel) (Or.inr ⟨a + 59, rfl, by rw [hce 59 (by decide) (by decide) trivial]; simp⟩) (by decide) (by decide) ?_
  change rn_T w _ _ _ _ 60 993896 _ _ (.ref (a + 60) :: _) (rz_up g59 (a + 60) _) _
  have e1 : rz_up g59 (a + 60) (.inl (0, 252, .inl (fun _ => 0))) a = some (.inr (10, [.int 0, .ref (a + 1), .ref (a + 2), .ref (a + 3), .ref (a + 4), .ref (a + 5), .ref (a + 6), .ref (a + 7), .ref (a + 8), .ref (a + 9), .ref (a + 10), .ref (a + 11), .int 0, .ref (a + 12), .ref (a + 13), .ref (a + 14), .ref (a + 15), .ref (a + 16), .ref (a + 17), .ref (a + 18), .ref (a + 19), .ref (a + 20), .ref (a + 21), .ref (a + 22), .ref (a + 23), .ref (a + 24), .int 0, .int 0, .ref (a + 25), .ref (a + 26), .int 0, .ref (a + 27), .ref (a + 28), .ref (a + 29), .ref (a + 30), .ref (a + 31), .ref (a + 32), .ref (a + 33), .int 0, .ref (a + 34), .ref (a + 35), .int 0, .int 0, .ref (a + 36), .ref (a + 37), .ref (a + 38), .int 0, .int 0, .ref (a + 39), .ref (a + 40), .int 0, .int 0, .ref (a + 41), .ref (a + 42), .ref (a + 43), .ref (a + 44), .ref (a + 45), .ref (a + 46), .int 0, .ref (a + 47), .ref (a + 48), .ref (a + 49), .ref (a + 50), .ref (a + 51), .int 0, .ref (a + 52), .ref (a + 53), .int 0, .int 0, .int 0, .ref (a + 54), .ref (a + 55), .ref (a + 56), .ref (a + 57), .ref (a + 58), .ref (a + 59), .int 0, .null, .null, .null, .null, .null])) := by rw [rz_up_n _ _ (by omega)]; exact hob
  refine rn_blk' [(.putfield 190, 3, 10, 77)] (by decide +kernel) (by omega) (by omega) (fun K R hK hR => ?_)
  simp only [List.length_cons, List.length_nil, Nat.reduceLT, rf_10_77, ↓rx_nil, ↓rx_putfield, ↓ry_obu, ↓ry_vr, true_and, ↓rh_ob e1, rz_set, rz_nol, rz_clr, List.set_cons_zero, List.set_cons_succ, rz_tr, Nat.reduceAdd, Int.reduceAdd, Int.reduceToNat, Int.reduceSub, Int.reduceNeg, Int.cast_ofNat_Int]
  refine hK _ _ _ _ ?_
  clear e1
  generalize hg : rz_up (rz_up g59 (a + 60) _) a _ = g60
  have hst : ∀ x, x ≠ a → x < a + 60 → g60 x = g59 x := fun x h1 h2 => by rw [← hg, rz_up_n _ _ h1, rz_up_n _ _ (by omega)]
  have hob : g60 a = some (.inr (10, [.int 0, .ref (a + 1), .ref (a + 2), .ref (a + 3), .ref (a + 4), .ref (a + 5), .ref (a + 6), .ref (a + 7), .ref (a + 8), .ref (a + 9), .ref (a + 10), .ref (a + 11), .int 0, .ref (a + 12), .ref (a + 13), .ref (a + 14), .ref (a + 15), .ref (a + 16), .ref (a + 17), .ref (a + 18), .ref (a + 19), .ref (a + 20), .ref (a + 21), .ref (a + 22), .ref (a + 23), .ref (a + 24), .int 0, .int 0, .ref (a + 25), .ref (a + 26), .int 0, .ref (a + 27), .ref (a + 28), .ref (a + 29), .ref (a + 30), .ref (a + 31), .ref (a + 32), .ref (a + 33), .int 0, .ref (a + 34), .ref (a + 35), .int 0, .int 0, .ref (a + 36), .ref (a + 37), .ref (a + 38), .int 0, .int 0, .ref (a + 39), .ref (a + 40), .int 0, .int 0, .ref (a + 41), .ref (a + 42), .ref (a + 43), .ref (a + 44), .ref (a + 45), .ref (a + 46), .int 0, .ref (a + 47), .ref (a + 48), .ref (a + 49), .ref (a + 50), .ref (a + 51), .int 0, .ref (a + 52), .ref (a + 53), .int 0, .int 0, .int 0, .ref (a + 54), .ref (a + 55), .ref (a + 56), .ref (a + 57), .ref (a + 58), .ref (a + 59), .int 0, .ref (a + 60), .null, .null, .null, .null])) := by rw [← hg, rz_up_s]
  have hfr : ∀ x, x < a → g60 x = G x := fun x hx => (hst x (by omega) (by omega)).trans (hfr x hx)
  have hn60 : g60 (a + 60) = some (.inl (0, 252, .inl (fun _ => 0))) := by rw [← hg, rz_up_n _ _ (by omega), rz_up_s]
  have hce : ∀ o, 1 ≤ o → o < 61 → (True) → g60 (a + o) = some (re_cell a re_I0 re_A0 o) := fun o h1 h2 h3 => by
    by_cases c : o < 60
    · exact (hst _ (by omega) (by omega)).trans (hce o h1 c h3)
    by_cases c60 : o = 60
    · subst c60; exact hn60
    omega
  clear hg hst hn60
  refine rn_blk' [(.aload_n 0, 1, 0, 0)] (by decide +kernel) (by omega) (by omega) (fun K R hK hR => ?_)
  simp only [↓rx_aload_n0, ↓rx_nil, ↓ry_lr0s, ↓ry_lr0z, rz_set, rz_nol, rz_clr, List.set_cons_zero, List.set_cons_succ, rz_tr, Nat.reduceAdd, Int.reduceAdd, Int.reduceToNat, Int.reduceSub, Int.reduceNeg, Int.cast_ofNat_Int]
  refine hK _ _ _ _ ?_
  refine rn_ldc (v := 40320) (by decide +kernel) (rz_j5 95 rfl rfl) ?_
  change rn_T w _ _ _ _ _ _ _ _ (.int (nI 40320) :: _) _ _
  refine rn_na_i (N := 40320) (by decide) (by decide +kernel) (Or.inr ⟨a + 60, rfl, by rw [hce 60 (by decide) (by decide) trivial]; simp⟩) (by decide) (by decide) ?_
  change rn_T w _ _ _ _ 61 1034216 _ _ (.ref (a + 61) :: _) (rz_up g60 (a + 61) _) _
  have e1 : rz_up g60 (a + 61) (.inl (0, 40320, .inl (fun _ => 0))) a = some (.inr (10, [.int 0, .ref (a + 1), .ref (a + 2), .ref (a + 3), .ref (a + 4), .ref (a + 5), .ref (a + 6), .ref (a + 7), .ref (a + 8), .ref (a + 9), .ref (a + 10), .ref (a + 11), .int 0, .ref (a + 12), .ref (a + 13), .ref (a + 14), .ref (a + 15), .ref (a + 16), .ref (a + 17), .ref (a + 18), .ref (a + 19), .ref (a + 20), .ref (a + 21), .ref (a + 22), .ref (a + 23), .ref (a + 24), .int 0, .int 0, .ref (a + 25), .ref (a + 26), .int 0, .ref (a + 27), .ref (a + 28), .ref (a + 29), .ref (a + 30), .ref (a + 31), .ref (a + 32), .ref (a + 33), .int 0, .ref (a + 34), .ref (a + 35), .int 0, .int 0, .ref (a + 36), .ref (a + 37), .ref (a + 38), .int 0, .int 0, .ref (a + 39), .ref (a + 40), .int 0, .int 0, .ref (a + 41), .ref (a + 42), .ref (a + 43), .ref (a + 44), .ref (a + 45), .ref (a + 46), .int 0, .ref (a + 47), .ref (a + 48), .ref (a + 49), .ref (a + 50), .ref (a + 51), .int 0, .ref (a + 52), .ref (a + 53), .int 0, .int 0, .int 0, .ref (a + 54), .ref (a + 55), .ref (a + 56), .ref (a + 57), .ref (a + 58), .ref (a + 59), .int 0, .ref (a + 60), .null, .null, .null, .null])) := by rw [rz_up_n _ _ (by omega)]; exact hob
  refine rn_blk' [(.putfield 194, 3, 10, 78)] (by decide +kernel) (by omega) (by omega) (fun K R hK hR => ?_)
  simp only [List.length_cons, List.length_nil, Nat.reduceLT, rf_10_78, ↓rx_nil, ↓rx_putfield, ↓ry_obu, ↓ry_vr, true_and, ↓rh_ob e1, rz_set, rz_nol, rz_clr, List.set_cons_zero, List.set_cons_succ, rz_tr, Nat.reduceAdd, Int.reduceAdd, Int.reduceToNat, Int.reduceSub, Int.reduceNeg, Int.cast_ofNat_Int]
  refine hK _ _ _ _ ?_
  clear e1
  generalize hg : rz_up (rz_up g60 (a + 61) _) a _ = g61
  have hst : ∀ x, x ≠ a → x < a + 61 → g61 x = g60 x := fun x h1 h2 => by rw [← hg, rz_up_n _ _ h1, rz_up_n _ _ (by omega)]
  have hob : g61 a = some (.inr (10, [.int 0, .ref (a + 1), .ref (a + 2), .ref (a + 3), .ref (a + 4), .ref (a + 5), .ref (a + 6), .ref (a + 7), .ref (a + 8), .ref (a + 9), .ref (a + 10), .ref (a + 11), .int 0, .ref (a + 12), .ref (a + 13), .ref (a + 14), .ref (a + 15), .ref (a + 16), .ref (a + 17), .ref (a + 18), .ref (a + 19), .ref (a + 20), .ref (a + 21), .ref (a + 22), .ref (a + 23), .ref (a + 24), .int 0, .int 0, .ref (a + 25), .ref (a + 26), .int 0, .ref (a + 27), .ref (a + 28), .ref (a + 29), .ref (a + 30), .ref (a + 31), .ref (a + 32), .ref (a + 33), .int 0, .ref (a + 34), .ref (a + 35), .int 0, .int 0, .ref (a + 36), .ref (a + 37), .ref (a + 38), .int 0, .int 0, .ref (a + 39), .ref (a + 40), .int 0, .int 0, .ref (a + 41), .ref (a + 42), .ref (a + 43), .ref (a + 44), .ref (a + 45), .ref (a + 46), .int 0, .ref (a + 47), .ref (a + 48), .ref (a + 49), .ref (a + 50), .ref (a + 51), .int 0, .ref (a + 52), .ref (a + 53), .int 0, .int 0, .int 0, .ref (a + 54), .ref (a + 55), .ref (a + 56), .ref (a + 57), .ref (a + 58), .ref (a + 59), .int 0, .ref (a + 60), .ref (a + 61), .null, .null, .null])) := by rw [← hg, rz_up_s]
  have hfr : ∀ x, x < a → g61 x = G x := fun x hx => (hst x (by omega) (by omega)).trans (hfr x hx)
  have hn61 : g61 (a + 61) = some (.inl (0, 40320, .inl (fun _ => 0))) := by rw [← hg, rz_up_n _ _ (by omega), rz_up_s]
  have hce : ∀ o, 1 ≤ o → o < 62 → (True) → g61 (a + o) = some (re_cell a re_I0 re_A0 o) := fun o h1 h2 h3 => by
    by_cases c : o < 61
    · exact (hst _ (by omega) (by omega)).trans (hce o h1 c h3)
    by_cases c61 : o = 61
    · subst c61; exact hn61
    omega
  clear hg hst hn61
  refine rn_blk' [(.aload_n 0, 1, 0, 0), (.bipush 126, 2, 0, 0)] (by decide +kernel) (by omega) (by omega) (fun K R hK hR => ?_)
  simp only [rw_b126, ↓rx_aload_n0, ↓rx_bipush, ↓rx_nil, ↓ry_lr0s, ↓ry_lr0z, rz_set, rz_nol, rz_clr, List.set_cons_zero, List.set_cons_succ, rz_tr, Nat.reduceAdd, Int.reduceAdd, Int.reduceToNat, Int.reduceSub, Int.reduceNeg, Int.cast_ofNat_Int]
  refine hK _ _ _ _ ?_
  refine rn_na_i (N := 126) (by decide) (by decide +kernel) (Or.inr ⟨a + 61, rfl, by rw [hce 61 (by decide) (by decide) trivial]; simp⟩) (by decide) (by decide) ?_
  change rn_T w _ _ _ _ 62 1034342 _ _ (.ref (a + 62) :: _) (rz_up g61 (a + 62) _) _
  have e1 : rz_up g61 (a + 62) (.inl (0, 126, .inl (fun _ => 0))) a = some (.inr (10, [.int 0, .ref (a + 1), .ref (a + 2), .ref (a + 3), .ref (a + 4), .ref (a + 5), .ref (a + 6), .ref (a + 7), .ref (a + 8), .ref (a + 9), .ref (a + 10), .ref (a + 11), .int 0, .ref (a + 12), .ref (a + 13), .ref (a + 14), .ref (a + 15), .ref (a + 16), .ref (a + 17), .ref (a + 18), .ref (a + 19), .ref (a + 20), .ref (a + 21), .ref (a + 22), .ref (a + 23), .ref (a + 24), .int 0, .int 0, .ref (a + 25), .ref (a + 26), .int 0, .ref (a + 27), .ref (a + 28), .ref (a + 29), .ref (a + 30), .ref (a + 31), .ref (a + 32), .ref (a + 33), .int 0, .ref (a + 34), .ref (a + 35), .int 0, .int 0, .ref (a + 36), .ref (a + 37), .ref (a + 38), .int 0, .int 0, .ref (a + 39), .ref (a + 40), .int 0, .int 0, .ref (a + 41), .ref (a + 42), .ref (a + 43), .ref (a + 44), .ref (a + 45), .ref (a + 46), .int 0, .ref (a + 47), .ref (a + 48), .ref (a + 49), .ref (a + 50), .ref (a + 51), .int 0, .ref (a + 52), .ref (a + 53), .int 0, .int 0, .int 0, .ref (a + 54), .ref (a + 55), .ref (a + 56), .ref (a + 57), .ref (a + 58), .ref (a + 59), .int 0, .ref (a + 60), .ref (a + 61), .null, .null, .null])) := by rw [rz_up_n _ _ (by omega)]; exact hob
  refine rn_blk' [(.putfield 197, 3, 10, 79)] (by decide +kernel) (by omega) (by omega) (fun K R hK hR => ?_)
  simp only [List.length_cons, List.length_nil, Nat.reduceLT, rf_10_79, ↓rx_nil, ↓rx_putfield, ↓ry_obu, ↓ry_vr, true_and, ↓rh_ob e1, rz_set, rz_nol, rz_clr, List.set_cons_zero, List.set_cons_succ, rz_tr, Nat.reduceAdd, Int.reduceAdd, Int.reduceToNat, Int.reduceSub, Int.reduceNeg, Int.cast_ofNat_Int]
  refine hK _ _ _ _ ?_
  clear e1
  generalize hg : rz_up (rz_up g61 (a + 62) _) a _ = g62
  have hst : ∀ x, x ≠ a → x < a + 62 → g62 x = g61 x := fun x h1 h2 => by rw [← hg, rz_up_n _ _ h1, rz_up_n _ _ (by omega)]
  have hob : g62 a = some (.inr (10, [.int 0, .ref (a + 1), .ref (a + 2), .ref (a + 3), .ref (a + 4), .ref (a + 5), .ref (a + 6), .ref (a + 7), .ref (a + 8), .ref (a + 9), .ref (a + 10), .ref (a + 11), .int 0, .ref (a + 12), .ref (a + 13), .ref (a + 14), .ref (a + 15), .ref (a + 16), .ref (a + 17), .ref (a + 18), .ref (a + 19), .ref (a + 20), .ref (a + 21), .ref (a + 22), .ref (a + 23), .ref (a + 24), .int 0, .int 0, .ref (a + 25), .ref (a + 26), .int 0, .ref (a + 27), .ref (a + 28), .ref (a + 29), .ref (a + 30), .ref (a + 31), .ref (a + 32), .ref (a + 33), .int 0, .ref (a + 34), .ref (a + 35), .int 0, .int 0, .ref (a + 36), .ref (a + 37), .ref (a + 38), .int 0, .int 0, .ref (a + 39), .ref (a + 40), .int 0, .int 0, .ref (a + 41), .ref (a + 42), .ref (a + 43), .ref (a + 44), .ref (a + 45), .ref (a + 46), .int 0, .ref (a + 47), .ref (a + 48), .ref (a + 49), .ref (a + 50), .ref (a + 51), .int 0, .ref (a + 52), .ref (a + 53), .int 0, .int 0, .int 0, .ref (a + 54), .ref (a + 55), .ref (a + 56), .ref (a + 57), .ref (a + 58), .ref (a + 59), .int 0, .ref (a + 60), .ref (a + 61), .ref (a + 62), .null, .null])) := by rw [← hg, rz_up_s]
  have hfr : ∀ x, x < a → g62 x = G x := fun x hx => (hst x (by omega) (by omega)).trans (hfr x hx)
  have hn62 : g62 (a + 62) = some (.inl (0, 126, .inl (fun _ => 0))) := by rw [← hg, rz_up_n _ _ (by omega), rz_up_s]
  have hce : ∀ o, 1 ≤ o → o < 63 → (True) → g62 (a + o) = some (re_cell a re_I0 re_A0 o) := fun o h1 h2 h3 => by
    by_cases c : o < 62
    · exact (hst _ (by omega) (by omega)).trans (hce o h1 c h3)
    by_cases c62 : o = 62
    · subst c62; exact hn62
    omega
  clear hg hst hn62
  refine rn_blk' [(.aload_n 0, 1, 0, 0), (.bipush 126, 2, 0, 0)] (by decide +kernel) (by omega) (by omega) (fun K R hK hR => ?_)
  simp only [rw_b126, ↓rx_aload_n0, ↓rx_bipush, ↓rx_nil, ↓ry_lr0s, ↓ry_lr0z, rz_set, rz_nol, rz_clr, List.set_cons_zero, List.set_cons_succ, rz_tr, Nat.reduceAdd, Int.reduceAdd, Int.reduceToNat, Int.reduceSub, Int.reduceNeg, Int.cast_ofNat_Int]
  refine hK _ _ _ _ ?_
  refine rn_na_i (N := 126) (by decide) (by decide +kernel) (Or.inr ⟨a + 62, rfl, by rw [hce 62 (by decide) (by decide) trivial]; simp⟩) (by decide) (by decide) ?_
  change rn_T w _ _ _ _ 63 1034468 _ _ (.ref (a + 63) :: _) (rz_up g62 (a + 63) _) _
  have e1 : rz_up g62 (a + 63) (.inl (0, 126, .inl (fun _ => 0))) a = some (.inr (10, [.int 0, .ref (a + 1), .ref (a + 2), .ref (a + 3), .ref (a + 4), .ref (a + 5), .ref (a + 6), .ref (a + 7), .ref (a + 8), .ref (a + 9), .ref (a + 10), .ref (a + 11), .int 0, .ref (a + 12), .ref (a + 13), .ref (a + 14), .ref (a + 15), .ref (a + 16), .ref (a + 17), .ref (a + 18), .ref (a + 19), .ref (a + 20), .ref (a + 21), .ref (a + 22), .ref (a + 23), .ref (a + 24), .int 0, .int 0, .ref (a + 25), .ref (a + 26), .int 0, .ref (a + 27), .ref (a + 28), .ref (a + 29), .ref (a + 30), .ref (a + 31), .ref (a + 32), .ref (a + 33), .int 0, .ref (a + 34), .ref (a + 35), .int 0, .int 0, .ref (a + 36), .ref (a + 37), .ref (a + 38), .int 0, .int 0, .ref (a + 39), .ref (a + 40), .int 0, .int 0, .ref (a + 41), .ref (a + 42), .ref (a + 43), .ref (a + 44), .ref (a + 45), .ref (a + 46), .int 0, .ref (a + 47), .ref (a + 48), .ref (a + 49), .ref (a + 50), .ref (a + 51), .int 0, .ref (a + 52), .ref (a + 53), .int 0, .int 0, .int 0, .ref (a + 54), .ref (a + 55), .ref (a + 56), .ref (a + 57), .ref (a + 58), .ref (a + 59), .int 0, .ref (a + 60), .ref (a + 61), .ref (a + 62), .null, .null])) := by rw [rz_up_n _ _ (by omega)]; exact hob
  refine rn_blk' [(.putfield 200, 3, 10, 80)] (by decide +kernel) (by omega) (by omega) (fun K R hK hR => ?_)
  simp only [List.length_cons, List.length_nil, Nat.reduceLT, rf_10_80, ↓rx_nil, ↓rx_putfield, ↓ry_obu, ↓ry_vr, true_and, ↓rh_ob e1, rz_set, rz_nol, rz_clr, List.set_cons_zero, List.set_cons_succ, rz_tr, Nat.reduceAdd, Int.reduceAdd, Int.reduceToNat, Int.reduceSub, Int.reduceNeg, Int.cast_ofNat_Int]
  refine hK _ _ _ _ ?_
  clear e1
  generalize hg : rz_up (rz_up g62 (a + 63) _) a _ = g63
  have hst : ∀ x, x ≠ a → x < a + 63 → g63 x = g62 x := fun x h1 h2 => by rw [← hg, rz_up_n _ _ h1, rz_up_n _ _ (by omega)]
  have hob : g63 a = some (.inr (10, [.int 0, .ref (a + 1), .ref (a + 2), .ref (a + 3), .ref (a + 4), .ref (a + 5), .ref (a + 6), .ref (a + 7), .ref (a + 8), .ref (a + 9), .ref (a + 10), .ref (a + 11), .int 0, .ref (a + 12), .ref (a + 13), .ref (a + 14), .ref (a + 15), .ref (a + 16), .ref (a + 17), .ref (a + 18), .ref (a + 19), .ref (a + 20), .ref (a + 21), .ref (a + 22), .ref (a + 23), .ref (a + 24), .int 0, .int 0, .ref (a + 25), .ref (a + 26), .int 0, .ref (a + 27), .ref (a + 28), .ref (a + 29), .ref (a + 30), .ref (a + 31), .ref (a + 32), .ref (a + 33), .int 0, .ref (a + 34), .ref (a + 35), .int 0, .int 0, .ref (a + 36), .ref (a + 37), .ref (a + 38), .int 0, .int 0, .ref (a + 39), .ref (a + 40), .int 0, .int 0, .ref (a + 41), .ref (a + 42), .ref (a + 43), .ref (a + 44), .ref (a + 45), .ref (a + 46), .int 0, .ref (a + 47), .ref (a + 48), .ref (a + 49), .ref (a + 50), .ref (a + 51), .int 0, .ref (a + 52), .ref (a + 53), .int 0, .int 0, .int 0, .ref (a + 54), .ref (a + 55), .ref (a + 56), .ref (a + 57), .ref (a + 58), .ref (a + 59), .int 0, .ref (a + 60), .ref (a + 61), .ref (a + 62), .ref (a + 63), .null])) := by rw [← hg, rz_up_s]
  have hfr : ∀ x, x < a → g63 x = G x := fun x hx => (hst x (by omega) (by omega)).trans (hfr x hx)
  have hn63 : g63 (a + 63) = some (.inl (0, 126, .inl (fun _ => 0))) := by rw [← hg, rz_up_n _ _ (by omega), rz_up_s]
  have hce : ∀ o, 1 ≤ o → o < 64 → (True) → g63 (a + o) = some (re_cell a re_I0 re_A0 o) := fun o h1 h2 h3 => by
    by_cases c : o < 63
    · exact (hst _ (by omega) (by omega)).trans (hce o h1 c h3)
    by_cases c63 : o = 63
    · subst c63; exact hn63
    omega
  clear hg hst hn63
  refine rn_blk' [(.aload_n 0, 1, 0, 0), (.sipush 20160, 3, 0, 0)] (by decide +kernel) (by omega) (by omega) (fun K R hK hR => ?_)
  simp only [rw_s20160, ↓rx_aload_n0, ↓rx_nil, ↓rx_sipush, ↓ry_lr0s, ↓ry_lr0z, rz_set, rz_nol, rz_clr, List.set_cons_zero, List.set_cons_succ, rz_tr, Nat.reduceAdd, Int.reduceAdd, Int.reduceToNat, Int.reduceSub, Int.reduceNeg, Int.cast_ofNat_Int]
  refine hK _ _ _ _ ?_
  refine rn_na_i (N := 20160) (by decide) (by decide +kernel) (Or.inr ⟨a + 63, rfl, by rw [hce 63 (by decide) (by decide) trivial]; simp⟩) (by decide) (by decide) ?_
  change rn_T w _ _ _ _ 64 1054628 _ _ (.ref (a + 64) :: _) (rz_up g63 (a + 64) _) _
  have e1 : rz_up g63 (a + 64) (.inl (0, 20160, .inl (fun _ => 0))) a = some (.inr (10, [.int 0, .ref (a + 1), .ref (a + 2), .ref (a + 3), .ref (a + 4), .ref (a + 5), .ref (a + 6), .ref (a + 7), .ref (a + 8), .ref (a + 9), .ref (a + 10), .ref (a + 11), .int 0, .ref (a + 12), .ref (a + 13), .ref (a + 14), .ref (a + 15), .ref (a + 16), .ref (a + 17), .ref (a + 18), .ref (a + 19), .ref (a + 20), .ref (a + 21), .ref (a + 22), .ref (a + 23), .ref (a + 24), .int 0, .int 0, .ref (a + 25), .ref (a + 26), .int 0, .ref (a + 27), .ref (a + 28), .ref (a + 29), .ref (a + 30), .ref (a + 31), .ref (a + 32), .ref (a + 33), .int 0, .ref (a + 34), .ref (a + 35), .int 0, .int 0, .ref (a + 36), .ref (a + 37), .ref (a + 38), .int 0, .int 0, .ref (a + 39), .ref (a + 40), .int 0, .int 0, .ref (a + 41), .ref (a + 42), .ref (a + 43), .ref (a + 44), .ref (a + 45), .ref (a + 46), .int 0, .ref (a + 47), .ref (a + 48), .ref (a + 49), .ref (a + 50), .ref (a + 51), .int 0, .ref (a + 52), .ref (a + 53), .int 0, .int 0, .int 0, .ref (a + 54), .ref (a + 55), .ref (a + 56), .ref (a + 57), .ref (a + 58), .ref (a + 59), .int 0, .ref (a + 60), .ref (a + 61), .ref (a + 62), .ref (a + 63), .null])) := by rw [rz_up_n _ _ (by omega)]; exact hob
  refine rn_blk' [(.putfield 203, 3, 10, 81)] (by decide +kernel) (by omega) (by omega) (fun K R hK hR => ?_)
  simp only [List.length_cons, List.length_nil, Nat.reduceLT, rf_10_81, ↓rx_nil, ↓rx_putfield, ↓ry_obu, ↓ry_vr, true_and, ↓rh_ob e1, rz_set, rz_nol, rz_clr, List.set_cons_zero, List.set_cons_succ, rz_tr, Nat.reduceAdd, Int.reduceAdd, Int.reduceToNat, Int.reduceSub, Int.reduceNeg, Int.cast_ofNat_Int]
  refine hK _ _ _ _ ?_
  clear e1
  generalize hg : rz_up (rz_up g63 (a + 64) _) a _ = g64
  have hst : ∀ x, x ≠ a → x < a + 64 → g64 x = g63 x := fun x h1 h2 => by rw [← hg, rz_up_n _ _ h1, rz_up_n _ _ (by omega)]
  have hob : g64 a = some (.inr (10, [.int 0, .ref (a + 1), .ref (a + 2), .ref (a + 3), .ref (a + 4), .ref (a + 5), .ref (a + 6), .ref (a + 7), .ref (a + 8), .ref (a + 9), .ref (a + 10), .ref (a + 11), .int 0, .ref (a + 12), .ref (a + 13), .ref (a + 14), .ref (a + 15), .ref (a + 16), .ref (a + 17), .ref (a + 18), .ref (a + 19), .ref (a + 20), .ref (a + 21), .ref (a + 22), .ref (a + 23), .ref (a + 24), .int 0, .int 0, .ref (a + 25), .ref (a + 26), .int 0, .ref (a + 27), .ref (a + 28), .ref (a + 29), .ref (a + 30), .ref (a + 31), .ref (a + 32), .ref (a + 33), .int 0, .ref (a + 34), .ref (a + 35), .int 0, .int 0, .ref (a + 36), .ref (a + 37), .ref (a + 38), .int 0, .int 0, .ref (a + 39), .ref (a + 40), .int 0, .int 0, .ref (a + 41), .ref (a + 42), .ref (a + 43), .ref (a + 44), .ref (a + 45), .ref (a + 46), .int 0, .ref (a + 47), .ref (a + 48), .ref (a + 49), .ref (a + 50), .ref (a + 51), .int 0, .ref (a + 52), .ref (a + 53), .int 0, .int 0, .int 0, .ref (a + 54), .ref (a + 55), .ref (a + 56), .ref (a + 57), .ref (a + 58), .ref (a + 59), .int 0, .ref (a + 60), .ref (a + 61), .ref (a + 62), .ref (a + 63), .ref (a + 64)])) := by rw [← hg, rz_up_s]
  have hfr : ∀ x, x < a → g64 x = G x := fun x hx => (hst x (by omega) (by omega)).trans (hfr x hx)
  have hn64 : g64 (a + 64) = some (.inl (0, 20160, .inl (fun _ => 0))) := by rw [← hg, rz_up_n _ _ (by omega), rz_up_s]
  have hce : ∀ o, 1 ≤ o → o < 65 → (True) → g64 (a + o) = some (re_cell a re_I0 re_A0 o) := fun o h1 h2 h3 => by
    by_cases c : o < 64
    · exact (hst _ (by omega) (by omega)).trans (hce o h1 c h3)
    by_cases c64 : o = 64
    · subst c64; exact hn64
    omega
  clear hg hst hn64
  refine rn_blk' [(.return_, 1, 0, 0)] (by decide +kernel) (by omega) (by omega) (fun K R hK hR => ?_)
  simp only [↓rx_nil, ↓rx_return_, rz_set, rz_nol, rz_clr, List.set_cons_zero, List.set_cons_succ, rz_tr, Nat.reduceAdd, Int.reduceAdd, Int.reduceToNat, Int.reduceSub, Int.reduceNeg, Int.cast_ofNat_Int]
  refine hR _ _ (rz_nb_i (by decide)) ⟨rfl, hfr, fun o ho => ?_⟩
  by_cases c : o = 0
  · subst c; exact hob
  · exact hce o (by omega) ho trivial
