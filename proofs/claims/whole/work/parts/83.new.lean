/-! constructors: WriterDesk -/
def dk_ne0 (z o : Nat) : rz_E := match o with
  | 0 => .inr (9, dk_fs z false)
  | 1 => .inl (5, 6, .inr (.inr (.inr (.inr (fun i => some (z + (1582 + 70 * i)))))))
  | 2 => wd_o (z + 2) []
  | 3 => wd_a 257 []
  | 4 => wd_o (z + 4) []
  | 5 => wd_a 5 []
  | _ => .inr (0, [])
def dk_neu (z o : Nat) : rz_E := if o < 6 then dk_ne0 z o else if o < 18 then rd_new (z + 6) (o - 6) else if o < 322 then ps_neu (z + 18) (o - 18) else if o < 327 then dm_cell (z + 322) (fun _ => 0) (fun _ _ => 0) (fun _ _ => 0) (fun _ => []) (fun _ => 0) (o - 322) else if o < 340 then rs_new (z + 327) (o - 327) else if o < 928 then bo_neu (z + 340) (o - 340) else if o < 1255 then sm_cell (z + 928) (fun _ => 0) (fun _ _ => 0) (fun _ _ => 0) (fun _ => []) (fun _ => 0) (o - 928) else if o < 1582 then sm_cell (z + 1255) (fun _ => 0) (fun _ _ => 0) (fun _ _ => 0) (fun _ => []) (fun _ => 0) (o - 1255) else mc_cell (z + (1582 + 70 * ((o - 1582) / 70))) (upd (fun _ => 0) 0 (nI 1)) (fun _ _ => 0) (fun _ _ => 0) (fun _ => []) (fun _ => 0) ((o - 1582) % 70)
theorem dk_nem {z k o : Nat} (ho : o < 70) : dk_neu z (1582 + 70 * k + o) = mc_cell (z + (1582 + 70 * k)) (upd (fun _ => 0) 0 (nI 1)) (fun _ _ => 0) (fun _ _ => 0) (fun _ => []) (fun _ => 0) o := by
  rw [dk_neu, if_neg (by omega), if_neg (by omega), if_neg (by omega), if_neg (by omega), if_neg (by omega), if_neg (by omega), if_neg (by omega), if_neg (by omega), show (1582 + 70 * k + o - 1582) / 70 = k by omega, show (1582 + 70 * k + o - 1582) % 70 = o by omega]
set_option maxRecDepth 100000 in
set_option maxHeartbeats 8000000 in
theorem c_Desk_init {w : rz_w} {d : Nat} {G : rz_G} {a : Nat} (hG : G a = some (.inr (9, [.null, .null, .null, .null, .null, .null, .null, .null, .null, .null]))) : rn_C w (d + 4) 2001 88314 y_Desk_init m_Desk_init [.ref a] G (a + 1) (fun r G' => r = none ∧ (∀ x, x < a → G' x = G x) ∧ ∀ o, o < 2002 → G' (a + o) = some (dk_neu a o)) := by
  refine rn_enter [some (.ref a), none] (by decide +kernel) rfl rfl (Nat.le_of_ble_eq_true rfl) rfl ?_
  refine rn_blk' [(.aload_n 0, 1, 0, 0)] (by decide +kernel) (by omega) (by omega) (fun K R hK hR => ?_)
  simp only [↓rx_aload_n0, ↓rx_nil, ↓ry_lr0s, ↓ry_lr0z, rz_set, rz_nol, rz_clr, List.set_cons_zero, List.set_cons_succ, rz_tr, Nat.reduceAdd, Int.reduceAdd, Int.reduceToNat, Int.reduceSub, Int.reduceNeg, Int.cast_ofNat_Int]
  refine hK _ _ _ _ ?_
  refine rn_obj (rz_j1 28 rfl rfl) rn_o1 rn_o2 (Nat.le_of_ble_eq_true rfl) (by decide +kernel) ?_
  have hfr : ∀ x, x < a → G x = G x := fun _ _ => rfl
  have hob := hG
  have hce : ∀ o, 1 ≤ o → o < 1 → (o ≠ 1) → G (a + o) = some (dk_neu a o) := fun o h1 h2 => by omega
  refine rn_blk' [(.aload_n 0, 1, 0, 0), (.bipush 6, 2, 0, 0)] (by decide +kernel) (by omega) (by omega) (fun K R hK hR => ?_)
  simp only [rw_b6, ↓rx_aload_n0, ↓rx_bipush, ↓rx_nil, ↓ry_lr0s, ↓ry_lr0z, rz_set, rz_nol, rz_clr, List.set_cons_zero, List.set_cons_succ, rz_tr, Nat.reduceAdd, Int.reduceAdd, Int.reduceToNat, Int.reduceSub, Int.reduceNeg, Int.cast_ofNat_Int]
  refine hK _ _ _ _ ?_
  refine rn_newq (ti := 5) (N := 6) (C := "WriterDesk$Machine") rfl (rz_j1 31 rfl rfl) (fun s q => q.2.2) (by decide) (by decide +kernel) (Or.inl rfl) (by decide) (by decide) ?_
  change rn_T w _ _ _ _ 1 6 _ _ (.ref (a + 1) :: _) (rz_up G (a + 1) _) _
  have e1 : rz_up G (a + 1) (.inl (5, 6, .inr (.inr (.inr (.inr (fun _ => none)))))) a = some (.inr (9, [.null, .null, .null, .null, .null, .null, .null, .null, .null, .null])) := by rw [rz_up_n _ _ (by omega)]; exact hob
  refine rn_blk' [(.putfield 11, 3, 9, 0)] (by decide +kernel) (by omega) (by omega) (fun K R hK hR => ?_)
  simp only [List.length_cons, List.length_nil, Nat.reduceLT, rf_9_0, ↓rx_nil, ↓rx_putfield, ↓ry_obu, ↓ry_vr, true_and, ↓rh_ob e1, rz_set, rz_nol, rz_clr, List.set_cons_zero, List.set_cons_succ, rz_tr, Nat.reduceAdd, Int.reduceAdd, Int.reduceToNat, Int.reduceSub, Int.reduceNeg, Int.cast_ofNat_Int]
  refine hK _ _ _ _ ?_
  clear e1
  generalize hg : rz_up (rz_up G (a + 1) _) a _ = g1
  have hst : ∀ x, x ≠ a → x < a + 1 → g1 x = G x := fun x h1 h2 => by rw [← hg, rz_up_n _ _ h1, rz_up_n _ _ (by omega)]
  have hob : g1 a = some (.inr (9, [.ref (a + 1), .null, .null, .null, .null, .null, .null, .null, .null, .null])) := by rw [← hg, rz_up_s]
  have hfr : ∀ x, x < a → g1 x = G x := fun x hx => (hst x (by omega) (by omega)).trans (hfr x hx)
  have hn1 : g1 (a + 1) = some (.inl (5, 6, .inr (.inr (.inr (.inr (fun _ => none)))))) := by rw [← hg, rz_up_n _ _ (by omega), rz_up_s]
  have hce : ∀ o, 1 ≤ o → o < 2 → (o ≠ 1) → g1 (a + o) = some (dk_neu a o) := fun o h1 h2 h3 => by
    by_cases c : o < 1
    · exact (hst _ (by omega) (by omega)).trans (hce o h1 c h3)
    by_cases c1 : o = 1
    · exact absurd c1 (by omega)
    omega
  have hs1 := hn1
  clear hg hst hn1
  refine rn_blk' [(.aload_n 0, 1, 0, 0)] (by decide +kernel) (by omega) (by omega) (fun K R hK hR => ?_)
  simp only [↓rx_aload_n0, ↓rx_nil, ↓ry_lr0s, ↓ry_lr0z, rz_set, rz_nol, rz_clr, List.set_cons_zero, List.set_cons_succ, rz_tr, Nat.reduceAdd, Int.reduceAdd, Int.reduceToNat, Int.reduceSub, Int.reduceNeg, Int.cast_ofNat_Int]
  refine hK _ _ _ _ ?_
  refine rn_new (ci := 0) (r := ("WriterDesk$Word", F_Word, 2)) (fs := [.null, .int 0]) rfl (rz_j1 33 rfl rfl) (rz_j1 34 rfl rfl) (rz_j1 2 rfl rfl) (by decide +kernel) (by decide) (Or.inr ⟨a + 1, rfl, by rw [hs1]; simp⟩) (by decide) (by decide) ?_
  change rn_T w _ _ _ _ (1 + 1) (6 + 2) _ _ (.ref (a + 2) :: _) (rz_up g1 (a + 2) _) _
  refine rn_blk' [(.dup, 1, 0, 0), (.sipush 4096, 3, 0, 0)] (by decide +kernel) (by omega) (by omega) (fun K R hK hR => ?_)
  simp only [rw_s4096, ↓rx_dup, ↓rx_nil, ↓rx_sipush, ↓ry_v1i, ↓ry_v1r, rz_set, rz_nol, rz_clr, List.set_cons_zero, List.set_cons_succ, rz_tr, Nat.reduceAdd, Int.reduceAdd, Int.reduceToNat, Int.reduceSub, Int.reduceNeg, Int.cast_ofNat_Int]
  refine hK _ _ _ _ ?_
  refine rn_cI (As := [.int (nI 4096)]) (b := a + 2) (S := [.ref (a + 2), .ref a]) (mc' := 1) (ms' := 257) l_Desk_17 (by decide +kernel) rfl (Nat.le_of_ble_eq_true rfl) (Or.inr ⟨a + 2, by rfl, by rw [rz_up_s]; simp⟩) (by decide) (by decide) (by
    have := c_Word_init (w := w) (d := d + 2) (G := rz_up g1 (a + 2) (.inr (0, [.null, .int 0]))) (a := a + 2) (rm := 4096) (by decide) (by decide) (rz_up_s _ _ _) rfl
    exact this) (fun r G' hr => ?_)
  obtain ⟨rfl, rfl⟩ := hr
  simp only [Option.toList, List.nil_append]
  change rn_T w _ _ _ _ 3 265 _ _ _ (wd_put _ _ 257 []) _
  have e1 : wd_put (rz_up g1 (a + 2) (.inr (0, [.null, .int 0]))) (a + 2) 257 [] a = some (.inr (9, [.ref (a + 1), .null, .null, .null, .null, .null, .null, .null, .null, .null])) := by rw [wd_pout (by omega) (by omega), rz_up_n _ _ (by omega)]; exact hob
  refine rn_blk' [(.putfield 20, 3, 9, 1)] (by decide +kernel) (by omega) (by omega) (fun K R hK hR => ?_)
  simp only [List.length_cons, List.length_nil, Nat.reduceLT, rf_9_1, ↓rx_nil, ↓rx_putfield, ↓ry_obu, ↓ry_vr, true_and, ↓rh_ob e1, rz_set, rz_nol, rz_clr, List.set_cons_zero, List.set_cons_succ, rz_tr, Nat.reduceAdd, Int.reduceAdd, Int.reduceToNat, Int.reduceSub, Int.reduceNeg, Int.cast_ofNat_Int]
  refine hK _ _ _ _ ?_
  clear e1
  generalize hg : rz_up (wd_put (rz_up g1 (a + 2) _) (a + 2) 257 []) a _ = g2
  have hst : ∀ x, x ≠ a → x < a + 2 → g2 x = g1 x := fun x h1 h2 => by rw [← hg, rz_up_n _ _ h1, wd_pout (by omega) (by omega), rz_up_n _ _ (by omega)]
  have hob : g2 a = some (.inr (9, [.ref (a + 1), .ref (a + 2), .null, .null, .null, .null, .null, .null, .null, .null])) := by rw [← hg, rz_up_s]
  have hfr : ∀ x, x < a → g2 x = G x := fun x hx => (hst x (by omega) (by omega)).trans (hfr x hx)
  have hs1 := (hst (a + 1) (by omega) (by omega)).trans hs1
  have hn2 : g2 (a + 2) = some (wd_o (a + 2) []) := by rw [← hg, rz_up_n _ _ (by omega)]; exact (wd_pis (wd_ok_nil (by decide))).1
  have hn3 : g2 (a + 3) = some (wd_a 257 []) := by rw [← hg, rz_up_n _ _ (by omega)]; exact (wd_pis (wd_ok_nil (by decide))).2.1
  have hce : ∀ o, 1 ≤ o → o < 4 → (o ≠ 1) → g2 (a + o) = some (dk_neu a o) := fun o h1 h2 h3 => by
    by_cases c : o < 2
    · exact (hst _ (by omega) (by omega)).trans (hce o h1 c h3)
    by_cases c2 : o = 2
    · subst c2; exact hn2
    by_cases c3 : o = 3
    · subst c3; exact hn3
    omega
  clear hg hst hn2 hn3
  refine rn_blk' [(.aload_n 0, 1, 0, 0)] (by decide +kernel) (by omega) (by omega) (fun K R hK hR => ?_)
  simp only [↓rx_aload_n0, ↓rx_nil, ↓ry_lr0s, ↓ry_lr0z, rz_set, rz_nol, rz_clr, List.set_cons_zero, List.set_cons_succ, rz_tr, Nat.reduceAdd, Int.reduceAdd, Int.reduceToNat, Int.reduceSub, Int.reduceNeg, Int.cast_ofNat_Int]
  refine hK _ _ _ _ ?_
  refine rn_new (ci := 0) (r := ("WriterDesk$Word", F_Word, 2)) (fs := [.null, .int 0]) rfl (rz_j1 33 rfl rfl) (rz_j1 34 rfl rfl) (rz_j1 2 rfl rfl) (by decide +kernel) (by decide) (Or.inr ⟨a + 3, rfl, by rw [hce 3 (by decide) (by decide) (by decide)]; simp⟩) (by decide) (by decide) ?_
  change rn_T w _ _ _ _ (3 + 1) (265 + 2) _ _ (.ref (a + 4) :: _) (rz_up g2 (a + 4) _) _
  refine rn_blk' [(.dup, 1, 0, 0), (.bipush 72, 2, 0, 0)] (by decide +kernel) (by omega) (by omega) (fun K R hK hR => ?_)
  simp only [rw_b72, ↓rx_bipush, ↓rx_dup, ↓rx_nil, ↓ry_v1i, ↓ry_v1r, rz_set, rz_nol, rz_clr, List.set_cons_zero, List.set_cons_succ, rz_tr, Nat.reduceAdd, Int.reduceAdd, Int.reduceToNat, Int.reduceSub, Int.reduceNeg, Int.cast_ofNat_Int]
  refine hK _ _ _ _ ?_
  refine rn_cI (As := [.int (nI 72)]) (b := a + 4) (S := [.ref (a + 4), .ref a]) (mc' := 1) (ms' := 5) l_Desk_17 (by decide +kernel) rfl (Nat.le_of_ble_eq_true rfl) (Or.inr ⟨a + 4, by rfl, by rw [rz_up_s]; simp⟩) (by decide) (by decide) (by
    have := c_Word_init (w := w) (d := d + 2) (G := rz_up g2 (a + 4) (.inr (0, [.null, .int 0]))) (a := a + 4) (rm := 72) (by decide) (by decide) (rz_up_s _ _ _) rfl
    exact this) (fun r G' hr => ?_)
  obtain ⟨rfl, rfl⟩ := hr
  simp only [Option.toList, List.nil_append]
  change rn_T w _ _ _ _ 5 272 _ _ _ (wd_put _ _ 5 []) _
  have e1 : wd_put (rz_up g2 (a + 4) (.inr (0, [.null, .int 0]))) (a + 4) 5 [] a = some (.inr (9, [.ref (a + 1), .ref (a + 2), .null, .null, .null, .null, .null, .null, .null, .null])) := by rw [wd_pout (by omega) (by omega), rz_up_n _ _ (by omega)]; exact hob
  refine rn_blk' [(.putfield 24, 3, 9, 2)] (by decide +kernel) (by omega) (by omega) (fun K R hK hR => ?_)
  simp only [List.length_cons, List.length_nil, Nat.reduceLT, rf_9_2, ↓rx_nil, ↓rx_putfield, ↓ry_obu, ↓ry_vr, true_and, ↓rh_ob e1, rz_set, rz_nol, rz_clr, List.set_cons_zero, List.set_cons_succ, rz_tr, Nat.reduceAdd, Int.reduceAdd, Int.reduceToNat, Int.reduceSub, Int.reduceNeg, Int.cast_ofNat_Int]
  refine hK _ _ _ _ ?_
  clear e1
  generalize hg : rz_up (wd_put (rz_up g2 (a + 4) _) (a + 4) 5 []) a _ = g3
  have hst : ∀ x, x ≠ a → x < a + 4 → g3 x = g2 x := fun x h1 h2 => by rw [← hg, rz_up_n _ _ h1, wd_pout (by omega) (by omega), rz_up_n _ _ (by omega)]
  have hob : g3 a = some (.inr (9, [.ref (a + 1), .ref (a + 2), .ref (a + 4), .null, .null, .null, .null, .null, .null, .null])) := by rw [← hg, rz_up_s]
  have hfr : ∀ x, x < a → g3 x = G x := fun x hx => (hst x (by omega) (by omega)).trans (hfr x hx)
  have hs1 := (hst (a + 1) (by omega) (by omega)).trans hs1
  have hn4 : g3 (a + 4) = some (wd_o (a + 4) []) := by rw [← hg, rz_up_n _ _ (by omega)]; exact (wd_pis (wd_ok_nil (by decide))).1
  have hn5 : g3 (a + 5) = some (wd_a 5 []) := by rw [← hg, rz_up_n _ _ (by omega)]; exact (wd_pis (wd_ok_nil (by decide))).2.1
  have hce : ∀ o, 1 ≤ o → o < 6 → (o ≠ 1) → g3 (a + o) = some (dk_neu a o) := fun o h1 h2 h3 => by
    by_cases c : o < 4
    · exact (hst _ (by omega) (by omega)).trans (hce o h1 c h3)
    by_cases c4 : o = 4
    · subst c4; exact hn4
    by_cases c5 : o = 5
    · subst c5; exact hn5
    omega
  clear hg hst hn4 hn5
  refine rn_blk' [(.aload_n 0, 1, 0, 0)] (by decide +kernel) (by omega) (by omega) (fun K R hK hR => ?_)
  simp only [↓rx_aload_n0, ↓rx_nil, ↓ry_lr0s, ↓ry_lr0z, rz_set, rz_nol, rz_clr, List.set_cons_zero, List.set_cons_succ, rz_tr, Nat.reduceAdd, Int.reduceAdd, Int.reduceToNat, Int.reduceSub, Int.reduceNeg, Int.cast_ofNat_Int]
  refine hK _ _ _ _ ?_
  refine rn_new (ci := 3) (r := ("WriterDesk$Reading", F_Read, 5)) (fs := [.null, .null, .null, .null, .null]) rfl (rz_j1 53 rfl rfl) (rz_j1 54 rfl rfl) (rz_j1 3 rfl rfl) (by decide +kernel) (by decide) (Or.inr ⟨a + 5, rfl, by rw [hce 5 (by decide) (by decide) (by decide)]; simp⟩) (by decide) (by decide) ?_
  change rn_T w _ _ _ _ (5 + 1) (272 + 5) _ _ (.ref (a + 6) :: _) (rz_up g3 (a + 6) _) _
  refine rn_blk' [(.dup, 1, 0, 0)] (by decide +kernel) (by omega) (by omega) (fun K R hK hR => ?_)
  simp only [↓rx_dup, ↓rx_nil, ↓ry_v1i, ↓ry_v1r, rz_set, rz_nol, rz_clr, List.set_cons_zero, List.set_cons_succ, rz_tr, Nat.reduceAdd, Int.reduceAdd, Int.reduceToNat, Int.reduceSub, Int.reduceNeg, Int.cast_ofNat_Int]
  refine hK _ _ _ _ ?_
  refine rn_cIN (As := []) (b := a + 6) (S := [.ref (a + 6), .ref a]) (mc' := 11) (ms' := 2650) l_Desk_29 (by decide +kernel) rfl (Nat.le_of_ble_eq_true rfl) (Or.inr ⟨a + 6, rfl, by rw [rz_up_s]; simp⟩) (by decide) (by decide) (by
    have := c_Read_init (w := w) (d := d + 1) (G := rz_up g3 (a + 6) (.inr (3, [.null, .null, .null, .null, .null]))) (a := a + 6) (rz_up_s _ _ _)
    exact this) (fun r G' hr => ?_)
  obtain ⟨rfl, r1, r2⟩ := hr
  simp only [Option.toList, List.nil_append]
  change rn_T w _ _ _ _ 17 2927 _ _ _ _ _
  have e1 : G' a = some (.inr (9, [.ref (a + 1), .ref (a + 2), .ref (a + 4), .null, .null, .null, .null, .null, .null, .null])) := by rw [r1 _ (by omega), rz_up_n _ _ (by omega)]; exact hob
  refine rn_blk' [(.putfield 30, 3, 9, 3)] (by decide +kernel) (by omega) (by omega) (fun K R hK hR => ?_)
  simp only [List.length_cons, List.length_nil, Nat.reduceLT, rf_9_3, ↓rx_nil, ↓rx_putfield, ↓ry_obu, ↓ry_vr, true_and, ↓rh_ob e1, rz_set, rz_nol, rz_clr, List.set_cons_zero, List.set_cons_succ, rz_tr, Nat.reduceAdd, Int.reduceAdd, Int.reduceToNat, Int.reduceSub, Int.reduceNeg, Int.cast_ofNat_Int]
  refine hK _ _ _ _ ?_
  clear e1
  generalize hg : rz_up G' a _ = g4
  have hst : ∀ x, x ≠ a → x < a + 6 → g4 x = g3 x := fun x h1 h2 => by rw [← hg, rz_up_n _ _ h1, r1 _ (by omega), rz_up_n _ _ (by omega)]
  have hob : g4 a = some (.inr (9, [.ref (a + 1), .ref (a + 2), .ref (a + 4), .ref (a + 6), .null, .null, .null, .null, .null, .null])) := by rw [← hg, rz_up_s]
  have hfr : ∀ x, x < a → g4 x = G x := fun x hx => (hst x (by omega) (by omega)).trans (hfr x hx)
  have hs1 := (hst (a + 1) (by omega) (by omega)).trans hs1
  have hce : ∀ o, 1 ≤ o → o < 18 → (o ≠ 1) → g4 (a + o) = some (dk_neu a o) := fun o h1 h2 h3 => by
    by_cases c : o < 6
    · exact (hst _ (by omega) (by omega)).trans (hce o h1 c h3)
    · rw [← hg, rz_up_n _ _ (by omega), show a + o = a + 6 + (o - 6) by omega, r2 (o - 6) (by omega)]
      rw [dk_neu, if_neg (by omega), if_pos (by omega)]
  clear hg hst r1 r2
  refine rn_blk' [(.aload_n 0, 1, 0, 0)] (by decide +kernel) (by omega) (by omega) (fun K R hK hR => ?_)
  simp only [↓rx_aload_n0, ↓rx_nil, ↓ry_lr0s, ↓ry_lr0z, rz_set, rz_nol, rz_clr, List.set_cons_zero, List.set_cons_succ, rz_tr, Nat.reduceAdd, Int.reduceAdd, Int.reduceToNat, Int.reduceSub, Int.reduceNeg, Int.cast_ofNat_Int]
  refine hK _ _ _ _ ?_
  refine rn_new (ci := 4) (r := ("WriterDesk$PairSearch", F_Pair, 18)) (fs := [.null, .null, .int 0, .null, .null, .null, .null, .null, .null, .null, .int 0, .null, .null, .null, .null, .int 0, .null, .null]) rfl (rz_j1 106 rfl rfl) (rz_j1 107 rfl rfl) (rz_j1 5 rfl rfl) (by decide +kernel) (by decide) (Or.inr ⟨a + 17, rfl, by rw [hce 17 (by decide) (by decide) (by decide)]; simp⟩) (by decide) (by decide) ?_
  change rn_T w _ _ _ _ (17 + 1) (2927 + 18) _ _ (.ref (a + 18) :: _) (rz_up g4 (a + 18) _) _
  refine rn_blk' [(.dup, 1, 0, 0)] (by decide +kernel) (by omega) (by omega) (fun K R hK hR => ?_)
  simp only [↓rx_dup, ↓rx_nil, ↓ry_v1i, ↓ry_v1r, rz_set, rz_nol, rz_clr, List.set_cons_zero, List.set_cons_succ, rz_tr, Nat.reduceAdd, Int.reduceAdd, Int.reduceToNat, Int.reduceSub, Int.reduceNeg, Int.cast_ofNat_Int]
  refine hK _ _ _ _ ?_
  refine rn_cI (As := []) (b := a + 18) (S := [.ref (a + 18), .ref a]) (mc' := 303) (ms' := 4812) l_Desk_36 (by decide +kernel) rfl (Nat.le_of_ble_eq_true rfl) (Or.inr ⟨a + 18, rfl, by rw [rz_up_s]; simp⟩) (by decide) (by decide) (by
    have := c_Pair_init (w := w) (d := d + 1) (G := rz_up g4 (a + 18) (.inr (4, [.null, .null, .int 0, .null, .null, .null, .null, .null, .null, .null, .int 0, .null, .null, .null, .null, .int 0, .null, .null]))) (a := a + 18) (rz_up_s _ _ _)
    exact this) (fun r G' hr => ?_)
  obtain ⟨rfl, r1, r2⟩ := hr
  simp only [Option.toList, List.nil_append]
  change rn_T w _ _ _ _ 321 7757 _ _ _ _ _
  have e1 : G' a = some (.inr (9, [.ref (a + 1), .ref (a + 2), .ref (a + 4), .ref (a + 6), .null, .null, .null, .null, .null, .null])) := by rw [r1 _ (by omega), rz_up_n _ _ (by omega)]; exact hob
  refine rn_blk' [(.putfield 37, 3, 9, 4)] (by decide +kernel) (by omega) (by omega) (fun K R hK hR => ?_)
  simp only [List.length_cons, List.length_nil, Nat.reduceLT, rf_9_4, ↓rx_nil, ↓rx_putfield, ↓ry_obu, ↓ry_vr, true_and, ↓rh_ob e1, rz_set, rz_nol, rz_clr, List.set_cons_zero, List.set_cons_succ, rz_tr, Nat.reduceAdd, Int.reduceAdd, Int.reduceToNat, Int.reduceSub, Int.reduceNeg, Int.cast_ofNat_Int]
  refine hK _ _ _ _ ?_
  clear e1
  generalize hg : rz_up G' a _ = g5
  have hst : ∀ x, x ≠ a → x < a + 18 → g5 x = g4 x := fun x h1 h2 => by rw [← hg, rz_up_n _ _ h1, r1 _ (by omega), rz_up_n _ _ (by omega)]
  have hob : g5 a = some (.inr (9, [.ref (a + 1), .ref (a + 2), .ref (a + 4), .ref (a + 6), .ref (a + 18), .null, .null, .null, .null, .null])) := by rw [← hg, rz_up_s]
  have hfr : ∀ x, x < a → g5 x = G x := fun x hx => (hst x (by omega) (by omega)).trans (hfr x hx)
  have hs1 := (hst (a + 1) (by omega) (by omega)).trans hs1
  have hce : ∀ o, 1 ≤ o → o < 322 → (o ≠ 1) → g5 (a + o) = some (dk_neu a o) := fun o h1 h2 h3 => by
    by_cases c : o < 18
    · exact (hst _ (by omega) (by omega)).trans (hce o h1 c h3)
    · rw [← hg, rz_up_n _ _ (by omega), show a + o = a + 18 + (o - 18) by omega, r2 (o - 18) (by omega)]
      rw [dk_neu, if_neg (by omega), if_neg (by omega), if_pos (by omega)]
  clear hg hst r1 r2
  refine rn_blk' [(.aload_n 0, 1, 0, 0)] (by decide +kernel) (by omega) (by omega) (fun K R hK hR => ?_)
  simp only [↓rx_aload_n0, ↓rx_nil, ↓ry_lr0s, ↓ry_lr0z, rz_set, rz_nol, rz_clr, List.set_cons_zero, List.set_cons_succ, rz_tr, Nat.reduceAdd, Int.reduceAdd, Int.reduceToNat, Int.reduceSub, Int.reduceNeg, Int.cast_ofNat_Int]
  refine hK _ _ _ _ ?_
  refine rn_new (ci := 5) (r := ("WriterDesk$DomainSearch", F_Dom, 6)) (fs := [.null, .null, .null, .null, .int 0, .int 0]) rfl (rz_j1 171 rfl rfl) (rz_j1 172 rfl rfl) (rz_j1 6 rfl rfl) (by decide +kernel) (by decide) (Or.inr ⟨a + 321, rfl, by rw [hce 321 (by decide) (by decide) (by decide)]; simp⟩) (by decide) (by decide) ?_
  change rn_T w _ _ _ _ (321 + 1) (7757 + 6) _ _ (.ref (a + 322) :: _) (rz_up g5 (a + 322) _) _
  refine rn_blk' [(.dup, 1, 0, 0)] (by decide +kernel) (by omega) (by omega) (fun K R hK hR => ?_)
  simp only [↓rx_dup, ↓rx_nil, ↓ry_v1i, ↓ry_v1r, rz_set, rz_nol, rz_clr, List.set_cons_zero, List.set_cons_succ, rz_tr, Nat.reduceAdd, Int.reduceAdd, Int.reduceToNat, Int.reduceSub, Int.reduceNeg, Int.cast_ofNat_Int]
  refine hK _ _ _ _ ?_
  refine rn_cIN (As := []) (b := a + 322) (S := [.ref (a + 322), .ref a]) (mc' := 4) (ms' := 16384) l_Desk_43 (by decide +kernel) rfl (Nat.le_of_ble_eq_true rfl) (Or.inr ⟨a + 322, rfl, by rw [rz_up_s]; simp⟩) (by decide) (by decide) (by
    have := c_Dom_init (w := w) (d := d + 2) (G := rz_up g5 (a + 322) (.inr (5, [.null, .null, .null, .null, .int 0, .int 0]))) (a := a + 322) (rz_up_s _ _ _)
    exact this) (fun r G' hr => ?_)
  obtain ⟨rfl, r1, r2⟩ := hr
  simp only [Option.toList, List.nil_append]
  change rn_T w _ _ _ _ 326 24147 _ _ _ _ _
  have e1 : G' a = some (.inr (9, [.ref (a + 1), .ref (a + 2), .ref (a + 4), .ref (a + 6), .ref (a + 18), .null, .null, .null, .null, .null])) := by rw [r1 _ (by omega), rz_up_n _ _ (by omega)]; exact hob
  refine rn_blk' [(.putfield 44, 3, 9, 5)] (by decide +kernel) (by omega) (by omega) (fun K R hK hR => ?_)
  simp only [List.length_cons, List.length_nil, Nat.reduceLT, rf_9_5, ↓rx_nil, ↓rx_putfield, ↓ry_obu, ↓ry_vr, true_and, ↓rh_ob e1, rz_set, rz_nol, rz_clr, List.set_cons_zero, List.set_cons_succ, rz_tr, Nat.reduceAdd, Int.reduceAdd, Int.reduceToNat, Int.reduceSub, Int.reduceNeg, Int.cast_ofNat_Int]
  refine hK _ _ _ _ ?_
  clear e1
  generalize hg : rz_up G' a _ = g6
  have hst : ∀ x, x ≠ a → x < a + 322 → g6 x = g5 x := fun x h1 h2 => by rw [← hg, rz_up_n _ _ h1, r1 _ (by omega), rz_up_n _ _ (by omega)]
  have hob : g6 a = some (.inr (9, [.ref (a + 1), .ref (a + 2), .ref (a + 4), .ref (a + 6), .ref (a + 18), .ref (a + 322), .null, .null, .null, .null])) := by rw [← hg, rz_up_s]
  have hfr : ∀ x, x < a → g6 x = G x := fun x hx => (hst x (by omega) (by omega)).trans (hfr x hx)
  have hs1 := (hst (a + 1) (by omega) (by omega)).trans hs1
  have hce : ∀ o, 1 ≤ o → o < 327 → (o ≠ 1) → g6 (a + o) = some (dk_neu a o) := fun o h1 h2 h3 => by
    by_cases c : o < 322
    · exact (hst _ (by omega) (by omega)).trans (hce o h1 c h3)
    · rw [← hg, rz_up_n _ _ (by omega), show a + o = a + 322 + (o - 322) by omega, r2 (o - 322) (by omega)]
      rw [dk_neu, if_neg (by omega), if_neg (by omega), if_neg (by omega), if_pos (by omega)]
  clear hg hst r1 r2
  refine rn_blk' [(.aload_n 0, 1, 0, 0)] (by decide +kernel) (by omega) (by omega) (fun K R hK hR => ?_)
  simp only [↓rx_aload_n0, ↓rx_nil, ↓ry_lr0s, ↓ry_lr0z, rz_set, rz_nol, rz_clr, List.set_cons_zero, List.set_cons_succ, rz_tr, Nat.reduceAdd, Int.reduceAdd, Int.reduceToNat, Int.reduceSub, Int.reduceNeg, Int.cast_ofNat_Int]
  refine hK _ _ _ _ ?_
  refine rn_new (ci := 6) (r := ("WriterDesk$ResidualSearch", F_Res, 10)) (fs := [.null, .null, .null, .null, .null, .null, .null, .int 0, .int 0, .int 0]) rfl (rz_j1 197 rfl rfl) (rz_j1 198 rfl rfl) (rz_j1 7 rfl rfl) (by decide +kernel) (by decide) (Or.inr ⟨a + 326, rfl, by rw [hce 326 (by decide) (by decide) (by decide)]; simp⟩) (by decide) (by decide) ?_
  change rn_T w _ _ _ _ (326 + 1) (24147 + 10) _ _ (.ref (a + 327) :: _) (rz_up g6 (a + 327) _) _
  refine rn_blk' [(.dup, 1, 0, 0)] (by decide +kernel) (by omega) (by omega) (fun K R hK hR => ?_)
  simp only [↓rx_dup, ↓rx_nil, ↓ry_v1i, ↓ry_v1r, rz_set, rz_nol, rz_clr, List.set_cons_zero, List.set_cons_succ, rz_tr, Nat.reduceAdd, Int.reduceAdd, Int.reduceToNat, Int.reduceSub, Int.reduceNeg, Int.cast_ofNat_Int]
  refine hK _ _ _ _ ?_
  refine rn_cIN (As := []) (b := a + 327) (S := [.ref (a + 327), .ref a]) (mc' := 12) (ms' := 53252) l_Desk_50 (by decide +kernel) rfl (Nat.le_of_ble_eq_true rfl) (Or.inr ⟨a + 327, rfl, by rw [rz_up_s]; simp⟩) (by decide) (by decide) (by
    have := c_Res_init (w := w) (d := d + 1) (G := rz_up g6 (a + 327) (.inr (6, [.null, .null, .null, .null, .null, .null, .null, .int 0, .int 0, .int 0]))) (a := a + 327) (rz_up_s _ _ _)
    exact this) (fun r G' hr => ?_)
  obtain ⟨rfl, r1, r2⟩ := hr
  simp only [Option.toList, List.nil_append]
  change rn_T w _ _ _ _ 339 77409 _ _ _ _ _
  have e1 : G' a = some (.inr (9, [.ref (a + 1), .ref (a + 2), .ref (a + 4), .ref (a + 6), .ref (a + 18), .ref (a + 322), .null, .null, .null, .null])) := by rw [r1 _ (by omega), rz_up_n _ _ (by omega)]; exact hob
  refine rn_blk' [(.putfield 51, 3, 9, 6)] (by decide +kernel) (by omega) (by omega) (fun K R hK hR => ?_)
  simp only [List.length_cons, List.length_nil, Nat.reduceLT, rf_9_6, ↓rx_nil, ↓rx_putfield, ↓ry_obu, ↓ry_vr, true_and, ↓rh_ob e1, rz_set, rz_nol, rz_clr, List.set_cons_zero, List.set_cons_succ, rz_tr, Nat.reduceAdd, Int.reduceAdd, Int.reduceToNat, Int.reduceSub, Int.reduceNeg, Int.cast_ofNat_Int]
  refine hK _ _ _ _ ?_
  clear e1
  generalize hg : rz_up G' a _ = g7
  have hst : ∀ x, x ≠ a → x < a + 327 → g7 x = g6 x := fun x h1 h2 => by rw [← hg, rz_up_n _ _ h1, r1 _ (by omega), rz_up_n _ _ (by omega)]
  have hob : g7 a = some (.inr (9, [.ref (a + 1), .ref (a + 2), .ref (a + 4), .ref (a + 6), .ref (a + 18), .ref (a + 322), .ref (a + 327), .null, .null, .null])) := by rw [← hg, rz_up_s]
  have hfr : ∀ x, x < a → g7 x = G x := fun x hx => (hst x (by omega) (by omega)).trans (hfr x hx)
  have hs1 := (hst (a + 1) (by omega) (by omega)).trans hs1
  have hce : ∀ o, 1 ≤ o → o < 340 → (o ≠ 1) → g7 (a + o) = some (dk_neu a o) := fun o h1 h2 h3 => by
    by_cases c : o < 327
    · exact (hst _ (by omega) (by omega)).trans (hce o h1 c h3)
    · rw [← hg, rz_up_n _ _ (by omega), show a + o = a + 327 + (o - 327) by omega, r2 (o - 327) (by omega)]
      rw [dk_neu, if_neg (by omega), if_neg (by omega), if_neg (by omega), if_neg (by omega), if_pos (by omega)]
  clear hg hst r1 r2
  refine rn_blk' [(.aload_n 0, 1, 0, 0)] (by decide +kernel) (by omega) (by omega) (fun K R hK hR => ?_)
  simp only [↓rx_aload_n0, ↓rx_nil, ↓ry_lr0s, ↓ry_lr0z, rz_set, rz_nol, rz_clr, List.set_cons_zero, List.set_cons_succ, rz_tr, Nat.reduceAdd, Int.reduceAdd, Int.reduceToNat, Int.reduceSub, Int.reduceNeg, Int.cast_ofNat_Int]
  refine hK _ _ _ _ ?_
  refine rn_new (ci := 8) (r := ("WriterDesk$Builder", F_Bld, 13)) (fs := [.null, .null, .int 0, .null, .null, .null, .null, .null, .null, .null, .int 0, .null, .null]) rfl (rz_j1 238 rfl rfl) (rz_j1 239 rfl rfl) (rz_j1 8 rfl rfl) (by decide +kernel) (by decide) (Or.inr ⟨a + 339, rfl, by rw [hce 339 (by decide) (by decide) (by decide)]; simp⟩) (by decide) (by decide) ?_
  change rn_T w _ _ _ _ (339 + 1) (77409 + 13) _ _ (.ref (a + 340) :: _) (rz_up g7 (a + 340) _) _
  refine rn_blk' [(.dup, 1, 0, 0)] (by decide +kernel) (by omega) (by omega) (fun K R hK hR => ?_)
  simp only [↓rx_dup, ↓rx_nil, ↓ry_v1i, ↓ry_v1r, rz_set, rz_nol, rz_clr, List.set_cons_zero, List.set_cons_succ, rz_tr, Nat.reduceAdd, Int.reduceAdd, Int.reduceToNat, Int.reduceSub, Int.reduceNeg, Int.cast_ofNat_Int]
  refine hK _ _ _ _ ?_
  refine rn_cI (As := []) (b := a + 340) (S := [.ref (a + 340), .ref a]) (mc' := 587) (ms' := 4176) l_Desk_57 (by decide +kernel) rfl (Nat.le_of_ble_eq_true rfl) (Or.inr ⟨a + 340, rfl, by rw [rz_up_s]; simp⟩) (by decide) (by decide) (by
    have := c_Bld_init (w := w) (d := d + 0) (G := rz_up g7 (a + 340) (.inr (8, [.null, .null, .int 0, .null, .null, .null, .null, .null, .null, .null, .int 0, .null, .null]))) (a := a + 340) (rz_up_s _ _ _)
    exact this) (fun r G' hr => ?_)
  obtain ⟨rfl, r1, r2⟩ := hr
  simp only [Option.toList, List.nil_append]
  change rn_T w _ _ _ _ 927 81598 _ _ _ _ _
  have e1 : G' a = some (.inr (9, [.ref (a + 1), .ref (a + 2), .ref (a + 4), .ref (a + 6), .ref (a + 18), .ref (a + 322), .ref (a + 327), .null, .null, .null])) := by rw [r1 _ (by omega), rz_up_n _ _ (by omega)]; exact hob
  refine rn_blk' [(.putfield 58, 3, 9, 7)] (by decide +kernel) (by omega) (by omega) (fun K R hK hR => ?_)
  simp only [List.length_cons, List.length_nil, Nat.reduceLT, rf_9_7, ↓rx_nil, ↓rx_putfield, ↓ry_obu, ↓ry_vr, true_and, ↓rh_ob e1, rz_set, rz_nol, rz_clr, List.set_cons_zero, List.set_cons_succ, rz_tr, Nat.reduceAdd, Int.reduceAdd, Int.reduceToNat, Int.reduceSub, Int.reduceNeg, Int.cast_ofNat_Int]
  refine hK _ _ _ _ ?_
  clear e1
  generalize hg : rz_up G' a _ = g8
  have hst : ∀ x, x ≠ a → x < a + 340 → g8 x = g7 x := fun x h1 h2 => by rw [← hg, rz_up_n _ _ h1, r1 _ (by omega), rz_up_n _ _ (by omega)]
  have hob : g8 a = some (.inr (9, [.ref (a + 1), .ref (a + 2), .ref (a + 4), .ref (a + 6), .ref (a + 18), .ref (a + 322), .ref (a + 327), .ref (a + 340), .null, .null])) := by rw [← hg, rz_up_s]
  have hfr : ∀ x, x < a → g8 x = G x := fun x hx => (hst x (by omega) (by omega)).trans (hfr x hx)
  have hs1 := (hst (a + 1) (by omega) (by omega)).trans hs1
  have hce : ∀ o, 1 ≤ o → o < 928 → (o ≠ 1) → g8 (a + o) = some (dk_neu a o) := fun o h1 h2 h3 => by
    by_cases c : o < 340
    · exact (hst _ (by omega) (by omega)).trans (hce o h1 c h3)
    · rw [← hg, rz_up_n _ _ (by omega), show a + o = a + 340 + (o - 340) by omega, r2 (o - 340) (by omega)]
      rw [dk_neu, if_neg (by omega), if_neg (by omega), if_neg (by omega), if_neg (by omega), if_neg (by omega), if_pos (by omega)]
  clear hg hst r1 r2
  refine rn_blk' [(.aload_n 0, 1, 0, 0)] (by decide +kernel) (by omega) (by omega) (fun K R hK hR => ?_)
  simp only [↓rx_aload_n0, ↓rx_nil, ↓ry_lr0s, ↓ry_lr0z, rz_set, rz_nol, rz_clr, List.set_cons_zero, List.set_cons_succ, rz_tr, Nat.reduceAdd, Int.reduceAdd, Int.reduceToNat, Int.reduceSub, Int.reduceNeg, Int.cast_ofNat_Int]
  refine hK _ _ _ _ ?_
  refine rn_new (ci := 7) (r := ("WriterDesk$SmallMachine", F_Small, 6)) (fs := [.int 0, .null, .null, .null, .null, .null]) rfl (rz_j2 127 rfl rfl) (rz_j2 128 rfl rfl) (rz_j1 10 rfl rfl) (by decide +kernel) (by decide) (Or.inr ⟨a + 927, rfl, by rw [hce 927 (by decide) (by decide) (by decide)]; simp⟩) (by decide) (by decide) ?_
  change rn_T w _ _ _ _ (927 + 1) (81598 + 6) _ _ (.ref (a + 928) :: _) (rz_up g8 (a + 928) _) _
  refine rn_blk' [(.dup, 1, 0, 0)] (by decide +kernel) (by omega) (by omega) (fun K R hK hR => ?_)
  simp only [↓rx_dup, ↓rx_nil, ↓ry_v1i, ↓ry_v1r, rz_set, rz_nol, rz_clr, List.set_cons_zero, List.set_cons_succ, rz_tr, Nat.reduceAdd, Int.reduceAdd, Int.reduceToNat, Int.reduceSub, Int.reduceNeg, Int.cast_ofNat_Int]
  refine hK _ _ _ _ ?_
  refine rn_cI (As := []) (b := a + 928) (S := [.ref (a + 928), .ref a]) (mc' := 326) (ms' := 2413) l_Desk_64 (by decide +kernel) rfl (Nat.le_of_ble_eq_true rfl) (Or.inr ⟨a + 928, rfl, by rw [rz_up_s]; simp⟩) (by decide) (by decide) (by
    have := c_Small_init (w := w) (d := d + 1) (G := rz_up g8 (a + 928) (.inr (7, [.int 0, .null, .null, .null, .null, .null]))) (a := a + 928) (rz_up_s _ _ _)
    exact this) (fun r G' hr => ?_)
  obtain ⟨rfl, r1, r2⟩ := hr
  simp only [Option.toList, List.nil_append]
  change rn_T w _ _ _ _ 1254 84017 _ _ _ _ _
  have e1 : G' a = some (.inr (9, [.ref (a + 1), .ref (a + 2), .ref (a + 4), .ref (a + 6), .ref (a + 18), .ref (a + 322), .ref (a + 327), .ref (a + 340), .null, .null])) := by rw [r1 _ (by omega), rz_up_n _ _ (by omega)]; exact hob
  refine rn_blk' [(.putfield 65, 3, 9, 8)] (by decide +kernel) (by omega) (by omega) (fun K R hK hR => ?_)
  simp only [List.length_cons, List.length_nil, Nat.reduceLT, rf_9_8, ↓rx_nil, ↓rx_putfield, ↓ry_obu, ↓ry_vr, true_and, ↓rh_ob e1, rz_set, rz_nol, rz_clr, List.set_cons_zero, List.set_cons_succ, rz_tr, Nat.reduceAdd, Int.reduceAdd, Int.reduceToNat, Int.reduceSub, Int.reduceNeg, Int.cast_ofNat_Int]
  refine hK _ _ _ _ ?_
  clear e1
  generalize hg : rz_up G' a _ = g9
  have hst : ∀ x, x ≠ a → x < a + 928 → g9 x = g8 x := fun x h1 h2 => by rw [← hg, rz_up_n _ _ h1, r1 _ (by omega), rz_up_n _ _ (by omega)]
  have hob : g9 a = some (.inr (9, [.ref (a + 1), .ref (a + 2), .ref (a + 4), .ref (a + 6), .ref (a + 18), .ref (a + 322), .ref (a + 327), .ref (a + 340), .ref (a + 928), .null])) := by rw [← hg, rz_up_s]
  have hfr : ∀ x, x < a → g9 x = G x := fun x hx => (hst x (by omega) (by omega)).trans (hfr x hx)
  have hs1 := (hst (a + 1) (by omega) (by omega)).trans hs1
  have hce : ∀ o, 1 ≤ o → o < 1255 → (o ≠ 1) → g9 (a + o) = some (dk_neu a o) := fun o h1 h2 h3 => by
    by_cases c : o < 928
    · exact (hst _ (by omega) (by omega)).trans (hce o h1 c h3)
    · rw [← hg, rz_up_n _ _ (by omega), show a + o = a + 928 + (o - 928) by omega, r2 (o - 928) (by omega)]
      rw [dk_neu, if_neg (by omega), if_neg (by omega), if_neg (by omega), if_neg (by omega), if_neg (by omega), if_neg (by omega), if_pos (by omega)]
  clear hg hst r1 r2
  refine rn_blk' [(.aload_n 0, 1, 0, 0)] (by decide +kernel) (by omega) (by omega) (fun K R hK hR => ?_)
  simp only [↓rx_aload_n0, ↓rx_nil, ↓ry_lr0s, ↓ry_lr0z, rz_set, rz_nol, rz_clr, List.set_cons_zero, List.set_cons_succ, rz_tr, Nat.reduceAdd, Int.reduceAdd, Int.reduceToNat, Int.reduceSub, Int.reduceNeg, Int.cast_ofNat_Int]
  refine hK _ _ _ _ ?_
  refine rn_new (ci := 7) (r := ("WriterDesk$SmallMachine", F_Small, 6)) (fs := [.int 0, .null, .null, .null, .null, .null]) rfl (rz_j2 127 rfl rfl) (rz_j2 128 rfl rfl) (rz_j1 10 rfl rfl) (by decide +kernel) (by decide) (Or.inr ⟨a + 1254, rfl, by rw [hce 1254 (by decide) (by decide) (by decide)]; simp⟩) (by decide) (by decide) ?_
  change rn_T w _ _ _ _ (1254 + 1) (84017 + 6) _ _ (.ref (a + 1255) :: _) (rz_up g9 (a + 1255) _) _
  refine rn_blk' [(.dup, 1, 0, 0)] (by decide +kernel) (by omega) (by omega) (fun K R hK hR => ?_)
  simp only [↓rx_dup, ↓rx_nil, ↓ry_v1i, ↓ry_v1r, rz_set, rz_nol, rz_clr, List.set_cons_zero, List.set_cons_succ, rz_tr, Nat.reduceAdd, Int.reduceAdd, Int.reduceToNat, Int.reduceSub, Int.reduceNeg, Int.cast_ofNat_Int]
  refine hK _ _ _ _ ?_
  refine rn_cI (As := []) (b := a + 1255) (S := [.ref (a + 1255), .ref a]) (mc' := 326) (ms' := 2413) l_Desk_64 (by decide +kernel) rfl (Nat.le_of_ble_eq_true rfl) (Or.inr ⟨a + 1255, rfl, by rw [rz_up_s]; simp⟩) (by decide) (by decide) (by
    have := c_Small_init (w := w) (d := d + 1) (G := rz_up g9 (a + 1255) (.inr (7, [.int 0, .null, .null, .null, .null, .null]))) (a := a + 1255) (rz_up_s _ _ _)
    exact this) (fun r G' hr => ?_)
  obtain ⟨rfl, r1, r2⟩ := hr
  simp only [Option.toList, List.nil_append]
  change rn_T w _ _ _ _ 1581 86436 _ _ _ _ _
  have e1 : G' a = some (.inr (9, [.ref (a + 1), .ref (a + 2), .ref (a + 4), .ref (a + 6), .ref (a + 18), .ref (a + 322), .ref (a + 327), .ref (a + 340), .ref (a + 928), .null])) := by rw [r1 _ (by omega), rz_up_n _ _ (by omega)]; exact hob
  refine rn_blk' [(.putfield 69, 3, 9, 9)] (by decide +kernel) (by omega) (by omega) (fun K R hK hR => ?_)
  simp only [List.length_cons, List.length_nil, Nat.reduceLT, rf_9_9, ↓rx_nil, ↓rx_putfield, ↓ry_obu, ↓ry_vr, true_and, ↓rh_ob e1, rz_set, rz_nol, rz_clr, List.set_cons_zero, List.set_cons_succ, rz_tr, Nat.reduceAdd, Int.reduceAdd, Int.reduceToNat, Int.reduceSub, Int.reduceNeg, Int.cast_ofNat_Int]
  refine hK _ _ _ _ ?_
  clear e1
  generalize hg : rz_up G' a _ = g10
  have hst : ∀ x, x ≠ a → x < a + 1255 → g10 x = g9 x := fun x h1 h2 => by rw [← hg, rz_up_n _ _ h1, r1 _ (by omega), rz_up_n _ _ (by omega)]
  have hob : g10 a = some (.inr (9, [.ref (a + 1), .ref (a + 2), .ref (a + 4), .ref (a + 6), .ref (a + 18), .ref (a + 322), .ref (a + 327), .ref (a + 340), .ref (a + 928), .ref (a + 1255)])) := by rw [← hg, rz_up_s]
  have hfr : ∀ x, x < a → g10 x = G x := fun x hx => (hst x (by omega) (by omega)).trans (hfr x hx)
  have hs1 := (hst (a + 1) (by omega) (by omega)).trans hs1
  have hce : ∀ o, 1 ≤ o → o < 1582 → (o ≠ 1) → g10 (a + o) = some (dk_neu a o) := fun o h1 h2 h3 => by
    by_cases c : o < 1255
    · exact (hst _ (by omega) (by omega)).trans (hce o h1 c h3)
    · rw [← hg, rz_up_n _ _ (by omega), show a + o = a + 1255 + (o - 1255) by omega, r2 (o - 1255) (by omega)]
      rw [dk_neu, if_neg (by omega), if_neg (by omega), if_neg (by omega), if_neg (by omega), if_neg (by omega), if_neg (by omega), if_neg (by omega), if_pos (by omega)]
  clear hg hst r1 r2
  have lp : ∀ (k i : Nat) (g : rz_G) (f1 : Nat → Option Nat), i + k = 6 → (∀ x, x < a → g x = G x) → g a = some (.inr (9, [.ref (a + 1), .ref (a + 2), .ref (a + 4), .ref (a + 6), .ref (a + 18), .ref (a + 322), .ref (a + 327), .ref (a + 340), .ref (a + 928), .ref (a + 1255)])) → (∀ o, 1 ≤ o → o < 1582 + 70 * i → (o ≠ 1) → g (a + o) = some (dk_neu a o)) → g (a + 1) = some (.inl (5, 6, .inr (.inr (.inr (.inr f1))))) → (∀ k, k < i → f1 k = some (a + (1582 + 70 * k))) → rn_T w (d + 4) 2001 88314 m_Desk_init (1581 + 70 * i) (86436 + 313 * i) 119 [some (.ref a), some (.int (nI i))] [] g ((a + 1, (fun r G' => r = none ∧ (∀ x, x < a → G' x = G x) ∧ ∀ o, o < 2002 → G' (a + o) = some (dk_neu a o))) : rn_P) := by
    intro k
    induction k with
    | zero =>
      intro i g f1 hik hfr hob hce hs1 hf1
      have hi : i = 6 := by omega
      subst hi
      refine rn_blk' [(.iload_n 1, 1, 0, 0), (.bipush 6, 2, 0, 0), (.if_icmp .ge 22, 3, 0, 0)] (by decide +kernel) (by omega) (by omega) (fun K R hK hR => ?_)
      simp only [rw_b6, ↓rx_bipush, ↓rx_if_icmp_ge, ↓rx_iload_n1, ↓rx_nil, ↓ry_i2, ↓ry_li0s, ↓ry_li0z, ↓rh_ob hob, rz_set, rz_nol, rz_clr, List.set_cons_zero, List.set_cons_succ, rz_tr, Nat.reduceAdd, Int.reduceAdd, Int.reduceToNat, Int.reduceSub, Int.reduceNeg, Int.cast_ofNat_Int]
      refine ⟨fun _ => hK _ _ _ _ ?_, fun q => absurd (Int32.le_refl _) q⟩
      refine rn_ext (f' := fun k => some (a + (1582 + 70 * k))) hs1 hf1 ?_
      generalize hg : rz_up g (a + 1) _ = h0
      have hst : ∀ x, x ≠ a + 1 → h0 x = g x := fun x hx => by rw [← hg, rz_up_n _ _ hx]
      have he1 : h0 (a + 1) = some (.inl (5, 6, .inr (.inr (.inr (.inr (fun k => some (a + (1582 + 70 * k)))))))) := by rw [← hg, rz_up_s]
      have hfr : ∀ x, x < a → h0 x = G x := fun x hx => (hst x (by omega)).trans (hfr x hx)
      have hob := (hst a (by omega)).trans hob
      clear hg
      refine rn_blk' [(.return_, 1, 0, 0)] (by decide +kernel) (by omega) (by omega) (fun K R hK hR => ?_)
      simp only [↓rx_nil, ↓rx_return_, rz_set, rz_nol, rz_clr, List.set_cons_zero, List.set_cons_succ, rz_tr, Nat.reduceAdd, Int.reduceAdd, Int.reduceToNat, Int.reduceSub, Int.reduceNeg, Int.cast_ofNat_Int]
      refine hR _ _ (rz_nb_i (by decide)) ⟨rfl, hfr, fun o ho => ?_⟩
      by_cases c : o = 0
      · subst c; exact hob
      by_cases c1 : o = 1
      · subst c1; exact he1
      exact (hst _ (by omega)).trans (hce o (by omega) ho c1)
    | succ k ih =>
      intro i g f1 hik hfr hob hce hs1 hf1
      refine rn_blk' [(.iload_n 1, 1, 0, 0), (.bipush 6, 2, 0, 0), (.if_icmp .ge 22, 3, 0, 0), (.aload_n 0, 1, 0, 0), (.getfield 11, 3, 9, 0), (.iload_n 1, 1, 0, 0)] (by decide +kernel) (by omega) (by omega) (fun K R hK hR => ?_)
      simp only [rw_b6, ↓rx_aload_n0, ↓rx_bipush, ↓rx_getfield, ↓rx_if_icmp_ge, ↓rx_iload_n1, ↓rx_nil, ↓ry_fvs, ↓ry_fvz, ↓ry_i2, ↓ry_li0s, ↓ry_li0z, ↓ry_lr0s, ↓ry_lr0z, ↓ry_obu, ↓ry_r1, ↓rh_ob hob, rz_set, rz_nol, rz_clr, List.set_cons_zero, List.set_cons_succ, rz_tr, Nat.reduceAdd, Int.reduceAdd, Int.reduceToNat, Int.reduceSub, Int.reduceNeg, Int.cast_ofNat_Int]
      rw [nI_leI (by decide) (by omega)]
      refine ⟨fun q => by omega, fun _ => hK _ _ _ _ ?_⟩
      refine rn_new (ci := 2) (r := ("WriterDesk$Machine", F_Mach, 13)) (fs := [.int 0, .int 0, .null, .null, .null, .null, .null, .null, .int 0, .int 0, .int 0, .null, .null]) rfl (rz_j1 31 rfl rfl) (rz_j2 5 rfl rfl) (rz_j1 9 rfl rfl) (by decide +kernel) (by decide) (Or.inr ⟨a + (1581 + 70 * i), by show _ = a + 1 + _; omega, by rw [hce (1581 + 70 * i) (by omega) (by omega) (by omega)]; simp⟩) (by omega) (by show _ + 13 ≤ _; omega) ?_
      show rn_T w _ _ _ _ (1581 + 70 * i + 1) (86436 + 313 * i + 13) _ _ (.ref (a + 1 + (1581 + 70 * i)) :: _) (rz_up g (a + 1 + (1581 + 70 * i)) _) _
      rw [show a + 1 + (1581 + 70 * i) = a + (1582 + 70 * i) from by omega]
      refine rn_blk' [(.dup, 1, 0, 0)] (by decide +kernel) (by omega) (by omega) (fun K R hK hR => ?_)
      simp only [↓rx_dup, ↓rx_nil, ↓ry_v1i, ↓ry_v1r, rz_set, rz_nol, rz_clr, List.set_cons_zero, List.set_cons_succ, rz_tr, Nat.reduceAdd, Int.reduceAdd, Int.reduceToNat, Int.reduceSub, Int.reduceNeg, Int.cast_ofNat_Int]
      refine hK _ _ _ _ ?_
      refine rn_cI (As := []) (b := a + (1582 + 70 * i)) (S := [.ref (a + (1582 + 70 * i)), .int (nI i), .ref (a + 1)]) (mc' := 69) (ms' := 300) l_Desk_72 (by decide +kernel) rfl (Nat.le_of_ble_eq_true rfl) (Or.inr ⟨a + (1582 + 70 * i), by show _ = a + 1 + _; omega, by rw [rz_up_s]; simp⟩) (by omega) (by omega) (by
        have := c_Mach_init (w := w) (d := d + 1) (G := rz_up g (a + (1582 + 70 * i)) (.inr (2, [.int 0, .int 0, .null, .null, .null, .null, .null, .null, .int 0, .int 0, .int 0, .null, .null]))) (a := a + (1582 + 70 * i)) (rz_up_s _ _ _)
        rw [show (a + 1) + (1581 + 70 * i + 1) = a + (1582 + 70 * i) + 1 from by omega]; exact this) (fun r G' hr => ?_)
      obtain ⟨rfl, r1, r2⟩ := hr
      simp only [Option.toList, List.nil_append]
      have hG4 : G' (a + 1) = some (.inl (5, 6, .inr (.inr (.inr (.inr f1))))) := by rw [r1 _ (by omega), rz_up_n _ _ (by omega)]; exact hs1
      refine rn_aastoreM (by decide +kernel) hG4 (r2 0 (by decide)) (vp_in_nI (by omega) (by decide)) ?_
      rw [nI_clamp (by omega)]
      generalize hg : rz_up G' (a + 1) _ = q0
      have hst : ∀ x, x ≠ a + 1 → x < a + (1582 + 70 * i) → q0 x = g x := fun x h1 h2 => by rw [← hg, rz_up_n _ _ h1, r1 _ (by omega), rz_up_n _ _ (by omega)]
      have hs1' : q0 (a + 1) = some (.inl (5, 6, .inr (.inr (.inr (.inr (va_up f1 i (some (a + (1582 + 70 * i))))))))) := by rw [← hg, rz_up_s]
      have hf1' : ∀ k, k < i + 1 → va_up f1 i (some (a + (1582 + 70 * i))) k = some (a + (1582 + 70 * k)) := fun k hk => by
        by_cases c : k = i
        · subst c; rw [va_up_self]
        · rw [va_up_ne _ _ c]; exact hf1 k (by omega)
      have hfr : ∀ x, x < a → q0 x = G x := fun x hx => (hst x (by omega) (by omega)).trans (hfr x hx)
      have hob := (hst a (by omega) (by omega)).trans hob
      have hce : ∀ o, 1 ≤ o → o < 1582 + 70 * (i + 1) → (o ≠ 1) → q0 (a + o) = some (dk_neu a o) := fun o h1 h2 h3 => by
        by_cases c1 : o < 1582 + 70 * i
        · exact (hst _ (by omega) (by omega)).trans (hce o h1 c1 h3)
        · obtain ⟨j, rfl⟩ : ∃ j, o = 1582 + 70 * i + j := ⟨o - (1582 + 70 * i), by omega⟩
          rw [dk_nem (by omega), ← hg, rz_up_n _ _ (by omega), show a + (1582 + 70 * i + j) = a + (1582 + 70 * i) + j by omega]
          exact r2 j (by omega)
      clear hg hst hG4 r1 r2
      generalize va_up f1 i (some (a + (1582 + 70 * i))) = f2 at hs1' hf1'
      refine rn_blk' [(.iinc 1 1, 3, 0, 0), (.goto (-22), 3, 0, 0)] (by decide +kernel) (by omega) (by omega) (fun K R hK hR => ?_)
      simp only [rw_c1, ↓rx_goto, ↓rx_iinc, ↓rx_nil, ↓ry_li0s, ↓ry_li0z, nI_add, rz_set, rz_nol, rz_clr, List.set_cons_zero, List.set_cons_succ, rz_tr, Nat.reduceAdd, Int.reduceAdd, Int.reduceToNat, Int.reduceSub, Int.reduceNeg, Int.cast_ofNat_Int]
      have ih' := ih (i + 1) q0 f2 (by omega) hfr hob hce hs1' hf1'
      rw [show 1581 + 70 * (i + 1) = 1581 + 70 * i + 1 + 69 from by omega, show 86436 + 313 * (i + 1) = 86436 + 313 * i + 13 + 300 from by omega] at ih'
      exact hK _ _ _ _ ih'
  refine rn_blk' [(.iconst 0, 1, 0, 0), (.istore_n 1, 1, 0, 0)] (by decide +kernel) (by omega) (by omega) (fun K R hK hR => ?_)
  simp only [rw_c0, ↓rx_iconst, ↓rx_istore_n1, ↓rx_nil, ↓ry_i1, rz_set, rz_nol, rz_clr, List.set_cons_zero, List.set_cons_succ, rz_tr, Nat.reduceAdd, Int.reduceAdd, Int.reduceToNat, Int.reduceSub, Int.reduceNeg, Int.cast_ofNat_Int]
  refine hK _ _ _ _ ?_
  exact lp 6 0 g10 (fun _ => none) rfl hfr hob hce hs1 (fun k hk => absurd hk (Nat.not_lt_zero _))
