/-! constructors: Builder -/
def bo_neu (a o : Nat) : rz_E := if 1 ≤ o ∧ o < 71 then mc_cell (a + 1) (upd (fun _ => 0) 0 (nI 1)) (fun _ _ => 0) (fun _ _ => 0) (fun _ => []) (fun _ => 0) (o - 1) else bo_cell a (fun _ => 0) (fun _ _ => 0) (fun _ _ => 0) (fun _ => []) (fun i => a + (77 + i)) o
theorem bo_n1 {a : Nat} : ∀ i, i < 6 → bo_neu a (84 + 4 * i) = wd_o (a + (84 + 4 * i)) [] ∧ bo_neu a (85 + 4 * i) = wd_a 3 [] ∧ bo_neu a (86 + 4 * i) = wd_o (a + (86 + 4 * i)) [] ∧ bo_neu a (87 + 4 * i) = wd_a 11 []
  | 0, _ => ⟨rfl, rfl, rfl, rfl⟩
  | 1, _ => ⟨rfl, rfl, rfl, rfl⟩
  | 2, _ => ⟨rfl, rfl, rfl, rfl⟩
  | 3, _ => ⟨rfl, rfl, rfl, rfl⟩
  | 4, _ => ⟨rfl, rfl, rfl, rfl⟩
  | 5, _ => ⟨rfl, rfl, rfl, rfl⟩
  | n + 6, h => absurd h (by omega)
theorem bo_nj0 {a j : Nat} : bo_neu a (108 + 2 * j) = wd_o (a + (108 + 2 * j)) [] := by
  rw [bo_neu, if_neg (by omega), show 108 + 2 * j = (2 * j + 0) + 108 by omega]
  show (if (2 * j + 0 + 108 - 108) % 2 = 0 then _ else _) = _
  rw [if_pos (by omega)]
theorem bo_nj1 {a j : Nat} : bo_neu a (109 + 2 * j) = wd_a 11 [] := by
  rw [bo_neu, if_neg (by omega), show 109 + 2 * j = (2 * j + 1 + 0) + 108 by omega]
  show (if (2 * j + 1 + 0 + 108 - 108) % 2 = 0 then _ else _) = _
  rw [if_neg (by omega)]
set_option maxRecDepth 100000 in
set_option maxHeartbeats 8000000 in
theorem c_Bld_init {w : rz_w} {d : Nat} {G : rz_G} {a : Nat} (hG : G a = some (.inr (8, [.null, .null, .int 0, .null, .null, .null, .null, .null, .null, .null, .int 0, .null, .null]))) : rn_C w (d + 3) 587 4176 y_Bld_init m_Bld_init [.ref a] G (a + 1) (fun r G' => r = none ∧ (∀ x, x < a → G' x = G x) ∧ ∀ o, o < 588 → G' (a + o) = some (bo_neu a o)) := by
  refine rn_enter [some (.ref a), none] (by decide +kernel) rfl rfl (Nat.le_of_ble_eq_true rfl) rfl ?_
  refine rn_blk' [(.aload_n 0, 1, 0, 0)] (by decide +kernel) (by omega) (by omega) (fun K R hK hR => ?_)
  simp only [↓rx_aload_n0, ↓rx_nil, ↓ry_lr0s, ↓ry_lr0z, rz_set, rz_nol, rz_clr, List.set_cons_zero, List.set_cons_succ, rz_tr, Nat.reduceAdd, Int.reduceAdd, Int.reduceToNat, Int.reduceSub, Int.reduceNeg, Int.cast_ofNat_Int]
  refine hK _ _ _ _ ?_
  refine rn_obj (rz_j2 3 rfl rfl) rn_o1 rn_o2 (Nat.le_of_ble_eq_true rfl) (by decide +kernel) ?_
  have hfr : ∀ x, x < a → G x = G x := fun _ _ => rfl
  have hob := hG
  have hce : ∀ o, 1 ≤ o → o < 1 → (o ≠ 71 ∧ o ≠ 80 ∧ o ≠ 81) → G (a + o) = some (bo_neu a o) := fun o h1 h2 => by omega
  refine rn_blk' [(.aload_n 0, 1, 0, 0)] (by decide +kernel) (by omega) (by omega) (fun K R hK hR => ?_)
  simp only [↓rx_aload_n0, ↓rx_nil, ↓ry_lr0s, ↓ry_lr0z, rz_set, rz_nol, rz_clr, List.set_cons_zero, List.set_cons_succ, rz_tr, Nat.reduceAdd, Int.reduceAdd, Int.reduceToNat, Int.reduceSub, Int.reduceNeg, Int.cast_ofNat_Int]
  refine hK _ _ _ _ ?_
  refine rn_new (ci := 2) (r := ("WriterDesk$Machine", F_Mach, 13)) (fs := [.int 0, .int 0, .null, .null, .null, .null, .null, .null, .int 0, .int 0, .int 0, .null, .null]) rfl (rz_j2 4 rfl rfl) (rz_j2 5 rfl rfl) (rz_j1 9 rfl rfl) (by decide +kernel) (by decide) (Or.inl rfl) (by decide) (by decide) ?_
  change rn_T w _ _ _ _ (0 + 1) (0 + 13) _ _ (.ref (a + 1) :: _) (rz_up G (a + 1) _) _
  refine rn_blk' [(.dup, 1, 0, 0)] (by decide +kernel) (by omega) (by omega) (fun K R hK hR => ?_)
  simp only [↓rx_dup, ↓rx_nil, ↓ry_v1i, ↓ry_v1r, rz_set, rz_nol, rz_clr, List.set_cons_zero, List.set_cons_succ, rz_tr, Nat.reduceAdd, Int.reduceAdd, Int.reduceToNat, Int.reduceSub, Int.reduceNeg, Int.cast_ofNat_Int]
  refine hK _ _ _ _ ?_
  refine rn_cI (As := []) (b := a + 1) (S := [.ref (a + 1), .ref a]) (mc' := 69) (ms' := 300) l_Bld_11 (by decide +kernel) rfl (Nat.le_of_ble_eq_true rfl) (Or.inr ⟨a + 1, rfl, by rw [rz_up_s]; simp⟩) (by decide) (by decide) (by
    have := c_Mach_init (w := w) (d := d) (G := rz_up G (a + 1) (.inr (2, [.int 0, .int 0, .null, .null, .null, .null, .null, .null, .int 0, .int 0, .int 0, .null, .null]))) (a := a + 1) (rz_up_s _ _ _)
    exact this) (fun r G' hr => ?_)
  obtain ⟨rfl, r1, r2⟩ := hr
  simp only [Option.toList, List.nil_append]
  change rn_T w _ _ _ _ 70 313 _ _ _ _ _
  have e1 : G' a = some (.inr (8, [.null, .null, .int 0, .null, .null, .null, .null, .null, .null, .null, .int 0, .null, .null])) := by rw [r1 _ (by omega), rz_up_n _ _ (by omega)]; exact hob
  refine rn_blk' [(.putfield 12, 3, 8, 0)] (by decide +kernel) (by omega) (by omega) (fun K R hK hR => ?_)
  simp only [List.length_cons, List.length_nil, Nat.reduceLT, rf_8_0, ↓rx_nil, ↓rx_putfield, ↓ry_obu, ↓ry_vr, true_and, ↓rh_ob e1, rz_set, rz_nol, rz_clr, List.set_cons_zero, List.set_cons_succ, rz_tr, Nat.reduceAdd, Int.reduceAdd, Int.reduceToNat, Int.reduceSub, Int.reduceNeg, Int.cast_ofNat_Int]
  refine hK _ _ _ _ ?_
  clear e1
  generalize hg : rz_up G' a _ = g1
  have hst : ∀ x, x ≠ a → x < a + 1 → g1 x = G x := fun x h1 h2 => by rw [← hg, rz_up_n _ _ h1, r1 _ (by omega), rz_up_n _ _ (by omega)]
  have hob : g1 a = some (.inr (8, [.ref (a + 1), .null, .int 0, .null, .null, .null, .null, .null, .null, .null, .int 0, .null, .null])) := by rw [← hg, rz_up_s]
  have hfr : ∀ x, x < a → g1 x = G x := fun x hx => (hst x (by omega) (by omega)).trans (hfr x hx)
  have hce : ∀ o, 1 ≤ o → o < 71 → (o ≠ 71 ∧ o ≠ 80 ∧ o ≠ 81) → g1 (a + o) = some (bo_neu a o) := fun o h1 h2 h3 => by
    by_cases c : o < 1
    · exact (hst _ (by omega) (by omega)).trans (hce o h1 c h3)
    · rw [← hg, rz_up_n _ _ (by omega), show a + o = a + 1 + (o - 1) by omega, r2 (o - 1) (by omega)]
      rw [bo_neu, if_pos (by omega)]
  clear hg hst r1 r2
  refine rn_blk' [(.aload_n 0, 1, 0, 0), (.bipush 6, 2, 0, 0)] (by decide +kernel) (by omega) (by omega) (fun K R hK hR => ?_)
  simp only [rw_b6, ↓rx_aload_n0, ↓rx_bipush, ↓rx_nil, ↓ry_lr0s, ↓ry_lr0z, rz_set, rz_nol, rz_clr, List.set_cons_zero, List.set_cons_succ, rz_tr, Nat.reduceAdd, Int.reduceAdd, Int.reduceToNat, Int.reduceSub, Int.reduceNeg, Int.cast_ofNat_Int]
  refine hK _ _ _ _ ?_
  refine rn_newq (ti := 4) (N := 6) (C := "WriterDesk$Word") rfl (rz_j2 85 rfl rfl) (fun s q => q.2.1) (by decide) (by decide +kernel) (Or.inr ⟨a + 70, rfl, by rw [hce 70 (by decide) (by decide) ⟨by decide, by decide, by decide⟩]; simp⟩) (by decide) (by decide) ?_
  change rn_T w _ _ _ _ 71 319 _ _ (.ref (a + 71) :: _) (rz_up g1 (a + 71) _) _
  have e1 : rz_up g1 (a + 71) (.inl (4, 6, .inr (.inr (.inr (.inr (fun _ => none)))))) a = some (.inr (8, [.ref (a + 1), .null, .int 0, .null, .null, .null, .null, .null, .null, .null, .int 0, .null, .null])) := by rw [rz_up_n _ _ (by omega)]; exact hob
  refine rn_blk' [(.putfield 20, 3, 8, 1)] (by decide +kernel) (by omega) (by omega) (fun K R hK hR => ?_)
  simp only [List.length_cons, List.length_nil, Nat.reduceLT, rf_8_1, ↓rx_nil, ↓rx_putfield, ↓ry_obu, ↓ry_vr, true_and, ↓rh_ob e1, rz_set, rz_nol, rz_clr, List.set_cons_zero, List.set_cons_succ, rz_tr, Nat.reduceAdd, Int.reduceAdd, Int.reduceToNat, Int.reduceSub, Int.reduceNeg, Int.cast_ofNat_Int]
  refine hK _ _ _ _ ?_
  clear e1
  generalize hg : rz_up (rz_up g1 (a + 71) _) a _ = g2
  have hst : ∀ x, x ≠ a → x < a + 71 → g2 x = g1 x := fun x h1 h2 => by rw [← hg, rz_up_n _ _ h1, rz_up_n _ _ (by omega)]
  have hob : g2 a = some (.inr (8, [.ref (a + 1), .ref (a + 71), .int 0, .null, .null, .null, .null, .null, .null, .null, .int 0, .null, .null])) := by rw [← hg, rz_up_s]
  have hfr : ∀ x, x < a → g2 x = G x := fun x hx => (hst x (by omega) (by omega)).trans (hfr x hx)
  have hn71 : g2 (a + 71) = some (.inl (4, 6, .inr (.inr (.inr (.inr (fun _ => none)))))) := by rw [← hg, rz_up_n _ _ (by omega), rz_up_s]
  have hce : ∀ o, 1 ≤ o → o < 72 → (o ≠ 71 ∧ o ≠ 80 ∧ o ≠ 81) → g2 (a + o) = some (bo_neu a o) := fun o h1 h2 h3 => by
    by_cases c : o < 71
    · exact (hst _ (by omega) (by omega)).trans (hce o h1 c h3)
    by_cases c71 : o = 71
    · exact absurd c71 (by omega)
    omega
  have hs71 := hn71
  clear hg hst hn71
  refine rn_blk' [(.aload_n 0, 1, 0, 0)] (by decide +kernel) (by omega) (by omega) (fun K R hK hR => ?_)
  simp only [↓rx_aload_n0, ↓rx_nil, ↓ry_lr0s, ↓ry_lr0z, rz_set, rz_nol, rz_clr, List.set_cons_zero, List.set_cons_succ, rz_tr, Nat.reduceAdd, Int.reduceAdd, Int.reduceToNat, Int.reduceSub, Int.reduceNeg, Int.cast_ofNat_Int]
  refine hK _ _ _ _ ?_
  refine rn_new (ci := 0) (r := ("WriterDesk$Word", F_Word, 2)) (fs := [.null, .int 0]) rfl (rz_j2 85 rfl rfl) (rz_j1 34 rfl rfl) (rz_j1 2 rfl rfl) (by decide +kernel) (by decide) (Or.inr ⟨a + 71, rfl, by rw [hs71]; simp⟩) (by decide) (by decide) ?_
  change rn_T w _ _ _ _ (71 + 1) (319 + 2) _ _ (.ref (a + 72) :: _) (rz_up g2 (a + 72) _) _
  refine rn_blk' [(.dup, 1, 0, 0), (.bipush 32, 2, 0, 0)] (by decide +kernel) (by omega) (by omega) (fun K R hK hR => ?_)
  simp only [rw_b32, ↓rx_bipush, ↓rx_dup, ↓rx_nil, ↓ry_v1i, ↓ry_v1r, rz_set, rz_nol, rz_clr, List.set_cons_zero, List.set_cons_succ, rz_tr, Nat.reduceAdd, Int.reduceAdd, Int.reduceToNat, Int.reduceSub, Int.reduceNeg, Int.cast_ofNat_Int]
  refine hK _ _ _ _ ?_
  refine rn_cI (As := [.int (nI 32)]) (b := a + 72) (S := [.ref (a + 72), .ref a]) (mc' := 1) (ms' := 3) l_Bld_24 (by decide +kernel) rfl (Nat.le_of_ble_eq_true rfl) (Or.inr ⟨a + 72, by rfl, by rw [rz_up_s]; simp⟩) (by decide) (by decide) (by
    have := c_Word_init (w := w) (d := d + 1) (G := rz_up g2 (a + 72) (.inr (0, [.null, .int 0]))) (a := a + 72) (rm := 32) (by decide) (by decide) (rz_up_s _ _ _) rfl
    exact this) (fun r G' hr => ?_)
  obtain ⟨rfl, rfl⟩ := hr
  simp only [Option.toList, List.nil_append]
  change rn_T w _ _ _ _ 73 324 _ _ _ (wd_put _ _ 3 []) _
  have e1 : wd_put (rz_up g2 (a + 72) (.inr (0, [.null, .int 0]))) (a + 72) 3 [] a = some (.inr (8, [.ref (a + 1), .ref (a + 71), .int 0, .null, .null, .null, .null, .null, .null, .null, .int 0, .null, .null])) := by rw [wd_pout (by omega) (by omega), rz_up_n _ _ (by omega)]; exact hob
  refine rn_blk' [(.putfield 27, 3, 8, 3)] (by decide +kernel) (by omega) (by omega) (fun K R hK hR => ?_)
  simp only [List.length_cons, List.length_nil, Nat.reduceLT, rf_8_3, ↓rx_nil, ↓rx_putfield, ↓ry_obu, ↓ry_vr, true_and, ↓rh_ob e1, rz_set, rz_nol, rz_clr, List.set_cons_zero, List.set_cons_succ, rz_tr, Nat.reduceAdd, Int.reduceAdd, Int.reduceToNat, Int.reduceSub, Int.reduceNeg, Int.cast_ofNat_Int]
  refine hK _ _ _ _ ?_
  clear e1
  generalize hg : rz_up (wd_put (rz_up g2 (a + 72) _) (a + 72) 3 []) a _ = g3
  have hst : ∀ x, x ≠ a → x < a + 72 → g3 x = g2 x := fun x h1 h2 => by rw [← hg, rz_up_n _ _ h1, wd_pout (by omega) (by omega), rz_up_n _ _ (by omega)]
  have hob : g3 a = some (.inr (8, [.ref (a + 1), .ref (a + 71), .int 0, .ref (a + 72), .null, .null, .null, .null, .null, .null, .int 0, .null, .null])) := by rw [← hg, rz_up_s]
  have hfr : ∀ x, x < a → g3 x = G x := fun x hx => (hst x (by omega) (by omega)).trans (hfr x hx)
  have hs71 := (hst (a + 71) (by omega) (by omega)).trans hs71
  have hn72 : g3 (a + 72) = some (wd_o (a + 72) []) := by rw [← hg, rz_up_n _ _ (by omega)]; exact (wd_pis (wd_ok_nil (by decide))).1
  have hn73 : g3 (a + 73) = some (wd_a 3 []) := by rw [← hg, rz_up_n _ _ (by omega)]; exact (wd_pis (wd_ok_nil (by decide))).2.1
  have hce : ∀ o, 1 ≤ o → o < 74 → (o ≠ 71 ∧ o ≠ 80 ∧ o ≠ 81) → g3 (a + o) = some (bo_neu a o) := fun o h1 h2 h3 => by
    by_cases c : o < 72
    · exact (hst _ (by omega) (by omega)).trans (hce o h1 c h3)
    by_cases c72 : o = 72
    · subst c72; exact hn72
    by_cases c73 : o = 73
    · subst c73; exact hn73
    omega
  clear hg hst hn72 hn73
  refine rn_blk' [(.aload_n 0, 1, 0, 0)] (by decide +kernel) (by omega) (by omega) (fun K R hK hR => ?_)
  simp only [↓rx_aload_n0, ↓rx_nil, ↓ry_lr0s, ↓ry_lr0z, rz_set, rz_nol, rz_clr, List.set_cons_zero, List.set_cons_succ, rz_tr, Nat.reduceAdd, Int.reduceAdd, Int.reduceToNat, Int.reduceSub, Int.reduceNeg, Int.cast_ofNat_Int]
  refine hK _ _ _ _ ?_
  refine rn_new (ci := 0) (r := ("WriterDesk$Word", F_Word, 2)) (fs := [.null, .int 0]) rfl (rz_j2 85 rfl rfl) (rz_j1 34 rfl rfl) (rz_j1 2 rfl rfl) (by decide +kernel) (by decide) (Or.inr ⟨a + 73, rfl, by rw [hce 73 (by decide) (by decide) ⟨by decide, by decide, by decide⟩]; simp⟩) (by decide) (by decide) ?_
  change rn_T w _ _ _ _ (73 + 1) (324 + 2) _ _ (.ref (a + 74) :: _) (rz_up g3 (a + 74) _) _
  refine rn_blk' [(.dup, 1, 0, 0), (.bipush 32, 2, 0, 0)] (by decide +kernel) (by omega) (by omega) (fun K R hK hR => ?_)
  simp only [rw_b32, ↓rx_bipush, ↓rx_dup, ↓rx_nil, ↓ry_v1i, ↓ry_v1r, rz_set, rz_nol, rz_clr, List.set_cons_zero, List.set_cons_succ, rz_tr, Nat.reduceAdd, Int.reduceAdd, Int.reduceToNat, Int.reduceSub, Int.reduceNeg, Int.cast_ofNat_Int]
  refine hK _ _ _ _ ?_
  refine rn_cI (As := [.int (nI 32)]) (b := a + 74) (S := [.ref (a + 74), .ref a]) (mc' := 1) (ms' := 3) l_Bld_24 (by decide +kernel) rfl (Nat.le_of_ble_eq_true rfl) (Or.inr ⟨a + 74, by rfl, by rw [rz_up_s]; simp⟩) (by decide) (by decide) (by
    have := c_Word_init (w := w) (d := d + 1) (G := rz_up g3 (a + 74) (.inr (0, [.null, .int 0]))) (a := a + 74) (rm := 32) (by decide) (by decide) (rz_up_s _ _ _) rfl
    exact this) (fun r G' hr => ?_)
  obtain ⟨rfl, rfl⟩ := hr
  simp only [Option.toList, List.nil_append]
  change rn_T w _ _ _ _ 75 329 _ _ _ (wd_put _ _ 3 []) _
  have e1 : wd_put (rz_up g3 (a + 74) (.inr (0, [.null, .int 0]))) (a + 74) 3 [] a = some (.inr (8, [.ref (a + 1), .ref (a + 71), .int 0, .ref (a + 72), .null, .null, .null, .null, .null, .null, .int 0, .null, .null])) := by rw [wd_pout (by omega) (by omega), rz_up_n _ _ (by omega)]; exact hob
  refine rn_blk' [(.putfield 31, 3, 8, 4)] (by decide +kernel) (by omega) (by omega) (fun K R hK hR => ?_)
  simp only [List.length_cons, List.length_nil, Nat.reduceLT, rf_8_4, ↓rx_nil, ↓rx_putfield, ↓ry_obu, ↓ry_vr, true_and, ↓rh_ob e1, rz_set, rz_nol, rz_clr, List.set_cons_zero, List.set_cons_succ, rz_tr, Nat.reduceAdd, Int.reduceAdd, Int.reduceToNat, Int.reduceSub, Int.reduceNeg, Int.cast_ofNat_Int]
  refine hK _ _ _ _ ?_
  clear e1
  generalize hg : rz_up (wd_put (rz_up g3 (a + 74) _) (a + 74) 3 []) a _ = g4
  have hst : ∀ x, x ≠ a → x < a + 74 → g4 x = g3 x := fun x h1 h2 => by rw [← hg, rz_up_n _ _ h1, wd_pout (by omega) (by omega), rz_up_n _ _ (by omega)]
  have hob : g4 a = some (.inr (8, [.ref (a + 1), .ref (a + 71), .int 0, .ref (a + 72), .ref (a + 74), .null, .null, .null, .null, .null, .int 0, .null, .null])) := by rw [← hg, rz_up_s]
  have hfr : ∀ x, x < a → g4 x = G x := fun x hx => (hst x (by omega) (by omega)).trans (hfr x hx)
  have hs71 := (hst (a + 71) (by omega) (by omega)).trans hs71
  have hn74 : g4 (a + 74) = some (wd_o (a + 74) []) := by rw [← hg, rz_up_n _ _ (by omega)]; exact (wd_pis (wd_ok_nil (by decide))).1
  have hn75 : g4 (a + 75) = some (wd_a 3 []) := by rw [← hg, rz_up_n _ _ (by omega)]; exact (wd_pis (wd_ok_nil (by decide))).2.1
  have hce : ∀ o, 1 ≤ o → o < 76 → (o ≠ 71 ∧ o ≠ 80 ∧ o ≠ 81) → g4 (a + o) = some (bo_neu a o) := fun o h1 h2 h3 => by
    by_cases c : o < 74
    · exact (hst _ (by omega) (by omega)).trans (hce o h1 c h3)
    by_cases c74 : o = 74
    · subst c74; exact hn74
    by_cases c75 : o = 75
    · subst c75; exact hn75
    omega
  clear hg hst hn74 hn75
  refine rn_blk' [(.aload_n 0, 1, 0, 0), (.sipush 192, 3, 0, 0)] (by decide +kernel) (by omega) (by omega) (fun K R hK hR => ?_)
  simp only [rw_s192, ↓rx_aload_n0, ↓rx_nil, ↓rx_sipush, ↓ry_lr0s, ↓ry_lr0z, rz_set, rz_nol, rz_clr, List.set_cons_zero, List.set_cons_succ, rz_tr, Nat.reduceAdd, Int.reduceAdd, Int.reduceToNat, Int.reduceSub, Int.reduceNeg, Int.cast_ofNat_Int]
  refine hK _ _ _ _ ?_
  refine rn_na_i (N := 192) (by decide) (by decide +kernel) (Or.inr ⟨a + 75, rfl, by rw [hce 75 (by decide) (by decide) ⟨by decide, by decide, by decide⟩]; simp⟩) (by decide) (by decide) ?_
  change rn_T w _ _ _ _ 76 521 _ _ (.ref (a + 76) :: _) (rz_up g4 (a + 76) _) _
  have e1 : rz_up g4 (a + 76) (.inl (0, 192, .inl (fun _ => 0))) a = some (.inr (8, [.ref (a + 1), .ref (a + 71), .int 0, .ref (a + 72), .ref (a + 74), .null, .null, .null, .null, .null, .int 0, .null, .null])) := by rw [rz_up_n _ _ (by omega)]; exact hob
  refine rn_blk' [(.putfield 34, 3, 8, 5)] (by decide +kernel) (by omega) (by omega) (fun K R hK hR => ?_)
  simp only [List.length_cons, List.length_nil, Nat.reduceLT, rf_8_5, ↓rx_nil, ↓rx_putfield, ↓ry_obu, ↓ry_vr, true_and, ↓rh_ob e1, rz_set, rz_nol, rz_clr, List.set_cons_zero, List.set_cons_succ, rz_tr, Nat.reduceAdd, Int.reduceAdd, Int.reduceToNat, Int.reduceSub, Int.reduceNeg, Int.cast_ofNat_Int]
  refine hK _ _ _ _ ?_
  clear e1
  generalize hg : rz_up (rz_up g4 (a + 76) _) a _ = g5
  have hst : ∀ x, x ≠ a → x < a + 76 → g5 x = g4 x := fun x h1 h2 => by rw [← hg, rz_up_n _ _ h1, rz_up_n _ _ (by omega)]
  have hob : g5 a = some (.inr (8, [.ref (a + 1), .ref (a + 71), .int 0, .ref (a + 72), .ref (a + 74), .ref (a + 76), .null, .null, .null, .null, .int 0, .null, .null])) := by rw [← hg, rz_up_s]
  have hfr : ∀ x, x < a → g5 x = G x := fun x hx => (hst x (by omega) (by omega)).trans (hfr x hx)
  have hs71 := (hst (a + 71) (by omega) (by omega)).trans hs71
  have hn76 : g5 (a + 76) = some (.inl (0, 192, .inl (fun _ => 0))) := by rw [← hg, rz_up_n _ _ (by omega), rz_up_s]
  have hce : ∀ o, 1 ≤ o → o < 77 → (o ≠ 71 ∧ o ≠ 80 ∧ o ≠ 81) → g5 (a + o) = some (bo_neu a o) := fun o h1 h2 h3 => by
    by_cases c : o < 76
    · exact (hst _ (by omega) (by omega)).trans (hce o h1 c h3)
    by_cases c76 : o = 76
    · subst c76; exact hn76
    omega
  clear hg hst hn76
  refine rn_blk' [(.aload_n 0, 1, 0, 0), (.bipush 64, 2, 0, 0)] (by decide +kernel) (by omega) (by omega) (fun K R hK hR => ?_)
  simp only [rw_b64, ↓rx_aload_n0, ↓rx_bipush, ↓rx_nil, ↓ry_lr0s, ↓ry_lr0z, rz_set, rz_nol, rz_clr, List.set_cons_zero, List.set_cons_succ, rz_tr, Nat.reduceAdd, Int.reduceAdd, Int.reduceToNat, Int.reduceSub, Int.reduceNeg, Int.cast_ofNat_Int]
  refine hK _ _ _ _ ?_
  refine rn_na_i (N := 64) (by decide) (by decide +kernel) (Or.inr ⟨a + 76, rfl, by rw [hce 76 (by decide) (by decide) ⟨by decide, by decide, by decide⟩]; simp⟩) (by decide) (by decide) ?_
  change rn_T w _ _ _ _ 77 585 _ _ (.ref (a + 77) :: _) (rz_up g5 (a + 77) _) _
  have e1 : rz_up g5 (a + 77) (.inl (0, 64, .inl (fun _ => 0))) a = some (.inr (8, [.ref (a + 1), .ref (a + 71), .int 0, .ref (a + 72), .ref (a + 74), .ref (a + 76), .null, .null, .null, .null, .int 0, .null, .null])) := by rw [rz_up_n _ _ (by omega)]; exact hob
  refine rn_blk' [(.putfield 38, 3, 8, 6)] (by decide +kernel) (by omega) (by omega) (fun K R hK hR => ?_)
  simp only [List.length_cons, List.length_nil, Nat.reduceLT, rf_8_6, ↓rx_nil, ↓rx_putfield, ↓ry_obu, ↓ry_vr, true_and, ↓rh_ob e1, rz_set, rz_nol, rz_clr, List.set_cons_zero, List.set_cons_succ, rz_tr, Nat.reduceAdd, Int.reduceAdd, Int.reduceToNat, Int.reduceSub, Int.reduceNeg, Int.cast_ofNat_Int]
  refine hK _ _ _ _ ?_
  clear e1
  generalize hg : rz_up (rz_up g5 (a + 77) _) a _ = g6
  have hst : ∀ x, x ≠ a → x < a + 77 → g6 x = g5 x := fun x h1 h2 => by rw [← hg, rz_up_n _ _ h1, rz_up_n _ _ (by omega)]
  have hob : g6 a = some (.inr (8, [.ref (a + 1), .ref (a + 71), .int 0, .ref (a + 72), .ref (a + 74), .ref (a + 76), .ref (a + 77), .null, .null, .null, .int 0, .null, .null])) := by rw [← hg, rz_up_s]
  have hfr : ∀ x, x < a → g6 x = G x := fun x hx => (hst x (by omega) (by omega)).trans (hfr x hx)
  have hs71 := (hst (a + 71) (by omega) (by omega)).trans hs71
  have hn77 : g6 (a + 77) = some (.inl (0, 64, .inl (fun _ => 0))) := by rw [← hg, rz_up_n _ _ (by omega), rz_up_s]
  have hce : ∀ o, 1 ≤ o → o < 78 → (o ≠ 71 ∧ o ≠ 80 ∧ o ≠ 81) → g6 (a + o) = some (bo_neu a o) := fun o h1 h2 h3 => by
    by_cases c : o < 77
    · exact (hst _ (by omega) (by omega)).trans (hce o h1 c h3)
    by_cases c77 : o = 77
    · subst c77; exact hn77
    omega
  clear hg hst hn77
  refine rn_blk' [(.aload_n 0, 1, 0, 0), (.bipush 64, 2, 0, 0)] (by decide +kernel) (by omega) (by omega) (fun K R hK hR => ?_)
  simp only [rw_b64, ↓rx_aload_n0, ↓rx_bipush, ↓rx_nil, ↓ry_lr0s, ↓ry_lr0z, rz_set, rz_nol, rz_clr, List.set_cons_zero, List.set_cons_succ, rz_tr, Nat.reduceAdd, Int.reduceAdd, Int.reduceToNat, Int.reduceSub, Int.reduceNeg, Int.cast_ofNat_Int]
  refine hK _ _ _ _ ?_
  refine rn_na_i (N := 64) (by decide) (by decide +kernel) (Or.inr ⟨a + 77, rfl, by rw [hce 77 (by decide) (by decide) ⟨by decide, by decide, by decide⟩]; simp⟩) (by decide) (by decide) ?_
  change rn_T w _ _ _ _ 78 649 _ _ (.ref (a + 78) :: _) (rz_up g6 (a + 78) _) _
  have e1 : rz_up g6 (a + 78) (.inl (0, 64, .inl (fun _ => 0))) a = some (.inr (8, [.ref (a + 1), .ref (a + 71), .int 0, .ref (a + 72), .ref (a + 74), .ref (a + 76), .ref (a + 77), .null, .null, .null, .int 0, .null, .null])) := by rw [rz_up_n _ _ (by omega)]; exact hob
  refine rn_blk' [(.putfield 41, 3, 8, 7)] (by decide +kernel) (by omega) (by omega) (fun K R hK hR => ?_)
  simp only [List.length_cons, List.length_nil, Nat.reduceLT, rf_8_7, ↓rx_nil, ↓rx_putfield, ↓ry_obu, ↓ry_vr, true_and, ↓rh_ob e1, rz_set, rz_nol, rz_clr, List.set_cons_zero, List.set_cons_succ, rz_tr, Nat.reduceAdd, Int.reduceAdd, Int.reduceToNat, Int.reduceSub, Int.reduceNeg, Int.cast_ofNat_Int]
  refine hK _ _ _ _ ?_
  clear e1
  generalize hg : rz_up (rz_up g6 (a + 78) _) a _ = g7
  have hst : ∀ x, x ≠ a → x < a + 78 → g7 x = g6 x := fun x h1 h2 => by rw [← hg, rz_up_n _ _ h1, rz_up_n _ _ (by omega)]
  have hob : g7 a = some (.inr (8, [.ref (a + 1), .ref (a + 71), .int 0, .ref (a + 72), .ref (a + 74), .ref (a + 76), .ref (a + 77), .ref (a + 78), .null, .null, .int 0, .null, .null])) := by rw [← hg, rz_up_s]
  have hfr : ∀ x, x < a → g7 x = G x := fun x hx => (hst x (by omega) (by omega)).trans (hfr x hx)
  have hs71 := (hst (a + 71) (by omega) (by omega)).trans hs71
  have hn78 : g7 (a + 78) = some (.inl (0, 64, .inl (fun _ => 0))) := by rw [← hg, rz_up_n _ _ (by omega), rz_up_s]
  have hce : ∀ o, 1 ≤ o → o < 79 → (o ≠ 71 ∧ o ≠ 80 ∧ o ≠ 81) → g7 (a + o) = some (bo_neu a o) := fun o h1 h2 h3 => by
    by_cases c : o < 78
    · exact (hst _ (by omega) (by omega)).trans (hce o h1 c h3)
    by_cases c78 : o = 78
    · subst c78; exact hn78
    omega
  clear hg hst hn78
  refine rn_blk' [(.aload_n 0, 1, 0, 0), (.bipush 40, 2, 0, 0)] (by decide +kernel) (by omega) (by omega) (fun K R hK hR => ?_)
  simp only [rw_b40, ↓rx_aload_n0, ↓rx_bipush, ↓rx_nil, ↓ry_lr0s, ↓ry_lr0z, rz_set, rz_nol, rz_clr, List.set_cons_zero, List.set_cons_succ, rz_tr, Nat.reduceAdd, Int.reduceAdd, Int.reduceToNat, Int.reduceSub, Int.reduceNeg, Int.cast_ofNat_Int]
  refine hK _ _ _ _ ?_
  refine rn_na_i (N := 40) (by decide) (by decide +kernel) (Or.inr ⟨a + 78, rfl, by rw [hce 78 (by decide) (by decide) ⟨by decide, by decide, by decide⟩]; simp⟩) (by decide) (by decide) ?_
  change rn_T w _ _ _ _ 79 689 _ _ (.ref (a + 79) :: _) (rz_up g7 (a + 79) _) _
  have e1 : rz_up g7 (a + 79) (.inl (0, 40, .inl (fun _ => 0))) a = some (.inr (8, [.ref (a + 1), .ref (a + 71), .int 0, .ref (a + 72), .ref (a + 74), .ref (a + 76), .ref (a + 77), .ref (a + 78), .null, .null, .int 0, .null, .null])) := by rw [rz_up_n _ _ (by omega)]; exact hob
  refine rn_blk' [(.putfield 44, 3, 8, 8)] (by decide +kernel) (by omega) (by omega) (fun K R hK hR => ?_)
  simp only [List.length_cons, List.length_nil, Nat.reduceLT, rf_8_8, ↓rx_nil, ↓rx_putfield, ↓ry_obu, ↓ry_vr, true_and, ↓rh_ob e1, rz_set, rz_nol, rz_clr, List.set_cons_zero, List.set_cons_succ, rz_tr, Nat.reduceAdd, Int.reduceAdd, Int.reduceToNat, Int.reduceSub, Int.reduceNeg, Int.cast_ofNat_Int]
  refine hK _ _ _ _ ?_
  clear e1
  generalize hg : rz_up (rz_up g7 (a + 79) _) a _ = g8
  have hst : ∀ x, x ≠ a → x < a + 79 → g8 x = g7 x := fun x h1 h2 => by rw [← hg, rz_up_n _ _ h1, rz_up_n _ _ (by omega)]
  have hob : g8 a = some (.inr (8, [.ref (a + 1), .ref (a + 71), .int 0, .ref (a + 72), .ref (a + 74), .ref (a + 76), .ref (a + 77), .ref (a + 78), .ref (a + 79), .null, .int 0, .null, .null])) := by rw [← hg, rz_up_s]
  have hfr : ∀ x, x < a → g8 x = G x := fun x hx => (hst x (by omega) (by omega)).trans (hfr x hx)
  have hs71 := (hst (a + 71) (by omega) (by omega)).trans hs71
  have hn79 : g8 (a + 79) = some (.inl (0, 40, .inl (fun _ => 0))) := by rw [← hg, rz_up_n _ _ (by omega), rz_up_s]
  have hce : ∀ o, 1 ≤ o → o < 80 → (o ≠ 71 ∧ o ≠ 80 ∧ o ≠ 81) → g8 (a + o) = some (bo_neu a o) := fun o h1 h2 h3 => by
    by_cases c : o < 79
    · exact (hst _ (by omega) (by omega)).trans (hce o h1 c h3)
    by_cases c79 : o = 79
    · subst c79; exact hn79
    omega
  clear hg hst hn79
  refine rn_blk' [(.aload_n 0, 1, 0, 0), (.sipush 240, 3, 0, 0)] (by decide +kernel) (by omega) (by omega) (fun K R hK hR => ?_)
  simp only [rw_s240, ↓rx_aload_n0, ↓rx_nil, ↓rx_sipush, ↓ry_lr0s, ↓ry_lr0z, rz_set, rz_nol, rz_clr, List.set_cons_zero, List.set_cons_succ, rz_tr, Nat.reduceAdd, Int.reduceAdd, Int.reduceToNat, Int.reduceSub, Int.reduceNeg, Int.cast_ofNat_Int]
  refine hK _ _ _ _ ?_
  refine rn_newq (ti := 4) (N := 240) (C := "WriterDesk$Word") rfl (rz_j2 85 rfl rfl) (fun s q => q.2.1) (by decide) (by decide +kernel) (Or.inr ⟨a + 79, rfl, by rw [hce 79 (by decide) (by decide) ⟨by decide, by decide, by decide⟩]; simp⟩) (by decide) (by decide) ?_
  change rn_T w _ _ _ _ 80 929 _ _ (.ref (a + 80) :: _) (rz_up g8 (a + 80) _) _
  have e1 : rz_up g8 (a + 80) (.inl (4, 240, .inr (.inr (.inr (.inr (fun _ => none)))))) a = some (.inr (8, [.ref (a + 1), .ref (a + 71), .int 0, .ref (a + 72), .ref (a + 74), .ref (a + 76), .ref (a + 77), .ref (a + 78), .ref (a + 79), .null, .int 0, .null, .null])) := by rw [rz_up_n _ _ (by omega)]; exact hob
  refine rn_blk' [(.putfield 47, 3, 8, 9)] (by decide +kernel) (by omega) (by omega) (fun K R hK hR => ?_)
  simp only [List.length_cons, List.length_nil, Nat.reduceLT, rf_8_9, ↓rx_nil, ↓rx_putfield, ↓ry_obu, ↓ry_vr, true_and, ↓rh_ob e1, rz_set, rz_nol, rz_clr, List.set_cons_zero, List.set_cons_succ, rz_tr, Nat.reduceAdd, Int.reduceAdd, Int.reduceToNat, Int.reduceSub, Int.reduceNeg, Int.cast_ofNat_Int]
  refine hK _ _ _ _ ?_
  clear e1
  generalize hg : rz_up (rz_up g8 (a + 80) _) a _ = g9
  have hst : ∀ x, x ≠ a → x < a + 80 → g9 x = g8 x := fun x h1 h2 => by rw [← hg, rz_up_n _ _ h1, rz_up_n _ _ (by omega)]
  have hob : g9 a = some (.inr (8, [.ref (a + 1), .ref (a + 71), .int 0, .ref (a + 72), .ref (a + 74), .ref (a + 76), .ref (a + 77), .ref (a + 78), .ref (a + 79), .ref (a + 80), .int 0, .null, .null])) := by rw [← hg, rz_up_s]
  have hfr : ∀ x, x < a → g9 x = G x := fun x hx => (hst x (by omega) (by omega)).trans (hfr x hx)
  have hs71 := (hst (a + 71) (by omega) (by omega)).trans hs71
  have hn80 : g9 (a + 80) = some (.inl (4, 240, .inr (.inr (.inr (.inr (fun _ => none)))))) := by rw [← hg, rz_up_n _ _ (by omega), rz_up_s]
  have hce : ∀ o, 1 ≤ o → o < 81 → (o ≠ 71 ∧ o ≠ 80 ∧ o ≠ 81) → g9 (a + o) = some (bo_neu a o) := fun o h1 h2 h3 => by
    by_cases c : o < 80
    · exact (hst _ (by omega) (by omega)).trans (hce o h1 c h3)
    by_cases c80 : o = 80
    · exact absurd c80 (by omega)
    omega
  have hs80 := hn80
  clear hg hst hn80
  refine rn_blk' [(.aload_n 0, 1, 0, 0), (.bipush 6, 2, 0, 0)] (by decide +kernel) (by omega) (by omega) (fun K R hK hR => ?_)
  simp only [rw_b6, ↓rx_aload_n0, ↓rx_bipush, ↓rx_nil, ↓ry_lr0s, ↓ry_lr0z, rz_set, rz_nol, rz_clr, List.set_cons_zero, List.set_cons_succ, rz_tr, Nat.reduceAdd, Int.reduceAdd, Int.reduceToNat, Int.reduceSub, Int.reduceNeg, Int.cast_ofNat_Int]
  refine hK _ _ _ _ ?_
  refine rn_newq (ti := 4) (N := 6) (C := "WriterDesk$Word") rfl (rz_j2 85 rfl rfl) (fun s q => q.2.1) (by decide) (by decide +kernel) (Or.inr ⟨a + 80, rfl, by rw [hs80]; simp⟩) (by decide) (by decide) ?_
  change rn_T w _ _ _ _ 81 935 _ _ (.ref (a + 81) :: _) (rz_up g9 (a + 81) _) _
  have e1 : rz_up g9 (a + 81) (.inl (4, 6, .inr (.inr (.inr (.inr (fun _ => none)))))) a = some (.inr (8, [.ref (a + 1), .ref (a + 71), .int 0, .ref (a + 72), .ref (a + 74), .ref (a + 76), .ref (a + 77), .ref (a + 78), .ref (a + 79), .ref (a + 80), .int 0, .null, .null])) := by rw [rz_up_n _ _ (by omega)]; exact hob
  refine rn_blk' [(.putfield 50, 3, 8, 11)] (by decide +kernel) (by omega) (by omega) (fun K R hK hR => ?_)
  simp only [List.length_cons, List.length_nil, Nat.reduceLT, rf_8_11, ↓rx_nil, ↓rx_putfield, ↓ry_obu, ↓ry_vr, true_and, ↓rh_ob e1, rz_set, rz_nol, rz_clr, List.set_cons_zero, List.set_cons_succ, rz_tr, Nat.reduceAdd, Int.reduceAdd, Int.reduceToNat, Int.reduceSub, Int.reduceNeg, Int.cast_ofNat_Int]
  refine hK _ _ _ _ ?_
  clear e1
  generalize hg : rz_up (rz_up g9 (a + 81) _) a _ = g10
  have hst : ∀ x, x ≠ a → x < a + 81 → g10 x = g9 x := fun x h1 h2 => by rw [← hg, rz_up_n _ _ h1, rz_up_n _ _ (by omega)]
  have hob : g10 a = some (.inr (8, [.ref (a + 1), .ref (a + 71), .int 0, .ref (a + 72), .ref (a + 74), .ref (a + 76), .ref (a + 77), .ref (a + 78), .ref (a + 79), .ref (a + 80), .int 0, .ref (a + 81), .null])) := by rw [← hg, rz_up_s]
  have hfr : ∀ x, x < a → g10 x = G x := fun x hx => (hst x (by omega) (by omega)).trans (hfr x hx)
  have hs71 := (hst (a + 71) (by omega) (by omega)).trans hs71
  have hs80 := (hst (a + 80) (by omega) (by omega)).trans hs80
  have hn81 : g10 (a + 81) = some (.inl (4, 6, .inr (.inr (.inr (.inr (fun _ => none)))))) := by rw [← hg, rz_up_n _ _ (by omega), rz_up_s]
  have hce : ∀ o, 1 ≤ o → o < 82 → (o ≠ 71 ∧ o ≠ 80 ∧ o ≠ 81) → g10 (a + o) = some (bo_neu a o) := fun o h1 h2 h3 => by
    by_cases c : o < 81
    · exact (hst _ (by omega) (by omega)).trans (hce o h1 c h3)
    by_cases c81 : o = 81
    · exact absurd c81 (by omega)
    omega
  have hs81 := hn81
  clear hg hst hn81
  refine rn_blk' [(.aload_n 0, 1, 0, 0)] (by decide +kernel) (by omega) (by omega) (fun K R hK hR => ?_)
  simp only [↓rx_aload_n0, ↓rx_nil, ↓ry_lr0s, ↓ry_lr0z, rz_set, rz_nol, rz_clr, List.set_cons_zero, List.set_cons_succ, rz_tr, Nat.reduceAdd, Int.reduceAdd, Int.reduceToNat, Int.reduceSub, Int.reduceNeg, Int.cast_ofNat_Int]
  refine hK _ _ _ _ ?_
  refine rn_new (ci := 0) (r := ("WriterDesk$Word", F_Word, 2)) (fs := [.null, .int 0]) rfl (rz_j2 85 rfl rfl) (rz_j1 34 rfl rfl) (rz_j1 2 rfl rfl) (by decide +kernel) (by decide) (Or.inr ⟨a + 81, rfl, by rw [hs81]; simp⟩) (by decide) (by decide) ?_
  change rn_T w _ _ _ _ (81 + 1) (935 + 2) _ _ (.ref (a + 82) :: _) (rz_up g10 (a + 82) _) _
  refine rn_blk' [(.dup, 1, 0, 0), (.sipush 160, 3, 0, 0)] (by decide +kernel) (by omega) (by omega) (fun K R hK hR => ?_)
  simp only [rw_s160, ↓rx_dup, ↓rx_nil, ↓rx_sipush, ↓ry_v1i, ↓ry_v1r, rz_set, rz_nol, rz_clr, List.set_cons_zero, List.set_cons_succ, rz_tr, Nat.reduceAdd, Int.reduceAdd, Int.reduceToNat, Int.reduceSub, Int.reduceNeg, Int.cast_ofNat_Int]
  refine hK _ _ _ _ ?_
  refine rn_cI (As := [.int (nI 160)]) (b := a + 82) (S := [.ref (a + 82), .ref a]) (mc' := 1) (ms' := 11) l_Bld_24 (by decide +kernel) rfl (Nat.le_of_ble_eq_true rfl) (Or.inr ⟨a + 82, by rfl, by rw [rz_up_s]; simp⟩) (by decide) (by decide) (by
    have := c_Word_init (w := w) (d := d + 1) (G := rz_up g10 (a + 82) (.inr (0, [.null, .int 0]))) (a := a + 82) (rm := 160) (by decide) (by decide) (rz_up_s _ _ _) rfl
    exact this) (fun r G' hr => ?_)
  obtain ⟨rfl, rfl⟩ := hr
  simp only [Option.toList, List.nil_append]
  change rn_T w _ _ _ _ 83 948 _ _ _ (wd_put _ _ 11 []) _
  have e1 : wd_put (rz_up g10 (a + 82) (.inr (0, [.null, .int 0]))) (a + 82) 11 [] a = some (.inr (8, [.ref (a + 1), .ref (a + 71), .int 0, .ref (a + 72), .ref (a + 74), .ref (a + 76), .ref (a + 77), .ref (a + 78), .ref (a + 79), .ref (a + 80), .int 0, .ref (a + 81), .null])) := by rw [wd_pout (by omega) (by omega), rz_up_n _ _ (by omega)]; exact hob
  refine rn_blk' [(.putfield 53, 3, 8, 12)] (by decide +kernel) (by omega) (by omega) (fun K R hK hR => ?_)
  simp only [List.length_cons, List.length_nil, Nat.reduceLT, rf_8_12, ↓rx_nil, ↓rx_putfield, ↓ry_obu, ↓ry_vr, true_and, ↓rh_ob e1, rz_set, rz_nol, rz_clr, List.set_cons_zero, List.set_cons_succ, rz_tr, Nat.reduceAdd, Int.reduceAdd, Int.reduceToNat, Int.reduceSub, Int.reduceNeg, Int.cast_ofNat_Int]
  refine hK _ _ _ _ ?_
  clear e1
  generalize hg : rz_up (wd_put (rz_up g10 (a + 82) _) (a + 82) 11 []) a _ = g11
  have hst : ∀ x, x ≠ a → x < a + 82 → g11 x = g10 x := fun x h1 h2 => by rw [← hg, rz_up_n _ _ h1, wd_pout (by omega) (by omega), rz_up_n _ _ (by omega)]
  have hob : g11 a = some (.inr (8, [.ref (a + 1), .ref (a + 71), .int 0, .ref (a + 72), .ref (a + 74), .ref (a + 76), .ref (a + 77), .ref (a + 78), .ref (a + 79), .ref (a + 80), .int 0, .ref (a + 81), .ref (a + 82)])) := by rw [← hg, rz_up_s]
  have hfr : ∀ x, x < a → g11 x = G x := fun x hx => (hst x (by omega) (by omega)).trans (hfr x hx)
  have hs71 := (hst (a + 71) (by omega) (by omega)).trans hs71
  have hs80 := (hst (a + 80) (by omega) (by omega)).trans hs80
  have hs81 := (hst (a + 81) (by omega) (by omega)).trans hs81
  have hn82 : g11 (a + 82) = some (wd_o (a + 82) []) := by rw [← hg, rz_up_n _ _ (by omega)]; exact (wd_pis (wd_ok_nil (by decide))).1
  have hn83 : g11 (a + 83) = some (wd_a 11 []) := by rw [← hg, rz_up_n _ _ (by omega)]; exact (wd_pis (wd_ok_nil (by decide))).2.1
  have hce : ∀ o, 1 ≤ o → o < 84 → (o ≠ 71 ∧ o ≠ 80 ∧ o ≠ 81) → g11 (a + o) = some (bo_neu a o) := fun o h1 h2 h3 => by
    by_cases c : o < 82
    · exact (hst _ (by omega) (by omega)).trans (hce o h1 c h3)
    by_cases c82 : o = 82
    · subst c82; exact hn82
    by_cases c83 : o = 83
    · subst c83; exact hn83
    omega
  clear hg hst hn82 hn83
  have fin : ∀ (g : rz_G) (f71 : Nat → Option Nat) (f80 : Nat → Option Nat) (f81 : Nat → Option Nat) (z1 : Option Value), (∀ x, x < a → g x = G x) → g a = some (.inr (8, [.ref (a + 1), .ref (a + 71), .int 0, .ref (a + 72), .ref (a + 74), .ref (a + 76), .ref (a + 77), .ref (a + 78), .ref (a + 79), .ref (a + 80), .int 0, .ref (a + 81), .ref (a + 82)])) → (∀ o, 1 ≤ o → o < 588 → (o ≠ 71 ∧ o ≠ 80 ∧ o ≠ 81) → g (a + o) = some (bo_neu a o)) → g (a + 71) = some (.inl (4, 6, .inr (.inr (.inr (.inr f71))))) → (∀ k, k < 6 → f71 k = some (a + (84 + 4 * k))) → g (a + 80) = some (.inl (4, 240, .inr (.inr (.inr (.inr f80))))) → (∀ k, k < 240 → f80 k = some (a + (108 + 2 * k))) → g (a + 81) = some (.inl (4, 6, .inr (.inr (.inr (.inr f81))))) → (∀ k, k < 6 → f81 k = some (a + (86 + 4 * k))) → rn_T w (d + 3) 587 4176 m_Bld_init 587 4176 194 [some (.ref a), z1] [] g ((a + 1, (fun r G' => r = none ∧ (∀ x, x < a → G' x = G x) ∧ ∀ o, o < 588 → G' (a + o) = some (bo_neu a o))) : rn_P) := by
    intro g f71 f80 f81 z1 hfr hob hce hs71 hf71 hs80 hf80 hs81 hf81
    refine rn_ext (f' := fun k => some (a + (84 + 4 * k))) hs71 hf71 ?_
    generalize hg : rz_up g (a + 71) _ = h0
    have hst : ∀ x, x ≠ a + 71 → h0 x = g x := fun x hx => by rw [← hg, rz_up_n _ _ hx]
    have he71 : h0 (a + 71) = some (.inl (4, 6, .inr (.inr (.inr (.inr (fun k => some (a + (84 + 4 * k)))))))) := by rw [← hg, rz_up_s]
    have hfr : ∀ x, x < a → h0 x = G x := fun x hx => (hst x (by omega)).trans (hfr x hx)
    have hob := (hst a (by omega)).trans hob
    have hce : ∀ o, 1 ≤ o → o < 588 → (o ≠ 71 ∧ o ≠ 80 ∧ o ≠ 81) → h0 (a + o) = some (bo_neu a o) := fun o h1 h2 h3 => (hst _ (by omega)).trans (hce o h1 h2 h3)
    have hs80 := (hst (a + 80) (by omega)).trans hs80
    have hs81 := (hst (a + 81) (by omega)).trans hs81
    clear hg hst
    refine rn_ext (f' := fun k => some (a + (108 + 2 * k))) hs80 hf80 ?_
    generalize hg : rz_up h0 (a + 80) _ = h1
    have hst : ∀ x, x ≠ a + 80 → h1 x = h0 x := fun x hx => by rw [← hg, rz_up_n _ _ hx]
    have he80 : h1 (a + 80) = some (.inl (4, 240, .inr (.inr (.inr (.inr (fun k => some (a + (108 + 2 * k)))))))) := by rw [← hg, rz_up_s]
    have hfr : ∀ x, x < a → h1 x = G x := fun x hx => (hst x (by omega)).trans (hfr x hx)
    have hob := (hst a (by omega)).trans hob
    have hce : ∀ o, 1 ≤ o → o < 588 → (o ≠ 71 ∧ o ≠ 80 ∧ o ≠ 81) → h1 (a + o) = some (bo_neu a o) := fun o h1 h2 h3 => (hst _ (by omega)).trans (hce o h1 h2 h3)
    have hs81 := (hst (a + 81) (by omega)).trans hs81
    have he71 := (hst (a + 71) (by omega)).trans he71
    clear hg hst
    refine rn_ext (f' := fun k => some (a + (86 + 4 * k))) hs81 hf81 ?_
    generalize hg : rz_up h1 (a + 81) _ = h2
    have hst : ∀ x, x ≠ a + 81 → h2 x = h1 x := fun x hx => by rw [← hg, rz_up_n _ _ hx]
    have he81 : h2 (a + 81) = some (.inl (4, 6, .inr (.inr (.inr (.inr (fun k => some (a + (86 + 4 * k)))))))) := by rw [← hg, rz_up_s]
    have hfr : ∀ x, x < a → h2 x = G x := fun x hx => (hst x (by omega)).trans (hfr x hx)
    have hob := (hst a (by omega)).trans hob
    have hce : ∀ o, 1 ≤ o → o < 588 → (o ≠ 71 ∧ o ≠ 80 ∧ o ≠ 81) → h2 (a + o) = some (bo_neu a o) := fun o h1 h2 h3 => (hst _ (by omega)).trans (hce o h1 h2 h3)
    have he71 := (hst (a + 71) (by omega)).trans he71
    have he80 := (hst (a + 80) (by omega)).trans he80
    clear hg hst
    refine rn_blk' [(.return_, 1, 0, 0)] (by decide +kernel) (by omega) (by omega) (fun K R hK hR => ?_)
    simp only [↓rx_nil, ↓rx_return_, rz_set, rz_nol, rz_clr, List.set_cons_zero, List.set_cons_succ, rz_tr, Nat.reduceAdd, Int.reduceAdd, Int.reduceToNat, Int.reduceSub, Int.reduceNeg, Int.cast_ofNat_Int]
    refine hR _ _ (rz_nb_i (by decide)) ⟨rfl, hfr, fun o ho => ?_⟩
    by_cases c : o = 0
    · subst c; exact hob
    by_cases c71 : o = 71
    · subst c71; exact he71
    by_cases c80 : o = 80
    · subst c80; exact he80
    by_cases c81 : o = 81
    · subst c81; exact he81
    exact hce o (by omega) ho ⟨c71, c80, c81⟩
  have lp1 : ∀ (k i : Nat) (g : rz_G) (f71 : Nat → Option Nat) (f80 : Nat → Option Nat) (f81 : Nat → Option Nat), i + k = 240 → (∀ x, x < a → g x = G x) → g a = some (.inr (8, [.ref (a + 1), .ref (a + 71), .int 0, .ref (a + 72), .ref (a + 74), .ref (a + 76), .ref (a + 77), .ref (a + 78), .ref (a + 79), .ref (a + 80), .int 0, .ref (a + 81), .ref (a + 82)])) → (∀ o, 1 ≤ o → o < 108 + 2 * i → (o ≠ 71 ∧ o ≠ 80 ∧ o ≠ 81) → g (a + o) = some (bo_neu a o)) → g (a + 71) = some (.inl (4, 6, .inr (.inr (.inr (.inr f71))))) → (∀ k, k < 6 → f71 k = some (a + (84 + 4 * k))) → g (a + 80) = some (.inl (4, 240, .inr (.inr (.inr (.inr f80))))) → (∀ k, k < i → f80 k = some (a + (108 + 2 * k))) → g (a + 81) = some (.inl (4, 6, .inr (.inr (.inr (.inr f81))))) → (∀ k, k < 6 → f81 k = some (a + (86 + 4 * k))) → rn_T w (d + 3) 587 4176 m_Bld_init (107 + 2 * i) (1056 + 13 * i) 163 [some (.ref a), some (.int (nI i))] [] g ((a + 1, (fun r G' => r = none ∧ (∀ x, x < a → G' x = G x) ∧ ∀ o, o < 588 → G' (a + o) = some (bo_neu a o))) : rn_P) := by
    intro k
    induction k with
    | zero =>
      intro i g f71 f80 f81 hik hfr hob hce hs71 hf71 hs80 hf80 hs81 hf81
      have hi : i = 240 := by omega
      subst hi
      refine rn_blk' [(.iload_n 1, 1, 0, 0), (.aload_n 0, 1, 0, 0), (.getfield 47, 3, 8, 9), (.arraylength, 1, 0, 0), (.if_icmp .ge 25, 3, 0, 0)] (by decide +kernel) (by omega) (by omega) (fun K R hK hR => ?_)
      simp only [Nat.reduceLT, ↓rx_aload_n0, ↓rx_arraylength, ↓rx_getfield, ↓rx_if_icmp_ge, ↓rx_iload_n1, ↓rx_nil, ↓ry_fvs, ↓ry_fvz, ↓ry_i2, ↓ry_li0s, ↓ry_li0z, ↓ry_lr0s, ↓ry_lr0z, ↓ry_obu, ↓ry_r1, true_and, ↓rh_ob hob, ↓rh_aa hs80, rz_set, rz_nol, rz_clr, List.set_cons_zero, List.set_cons_succ, rz_tr, Nat.reduceAdd, Int.reduceAdd, Int.reduceToNat, Int.reduceSub, Int.reduceNeg, Int.cast_ofNat_Int]
      refine ⟨fun _ => hK _ _ _ _ ?_, fun q => absurd (Int32.le_refl _) q⟩
      exact fin g f71 f80 f81 _ hfr hob hce hs71 hf71 hs80 hf80 hs81 hf81
    | succ k ih =>
      intro i g f71 f80 f81 hik hfr hob hce hs71 hf71 hs80 hf80 hs81 hf81
      refine rn_blk' [(.iload_n 1, 1, 0, 0), (.aload_n 0, 1, 0, 0), (.getfield 47, 3, 8, 9), (.arraylength, 1, 0, 0), (.if_icmp .ge 25, 3, 0, 0), (.aload_n 0, 1, 0, 0), (.getfield 47, 3, 8, 9), (.iload_n 1, 1, 0, 0)] (by decide +kernel) (by omega) (by omega) (fun K R hK hR => ?_)
      simp only [Nat.reduceLT, ↓rx_aload_n0, ↓rx_arraylength, ↓rx_getfield, ↓rx_if_icmp_ge, ↓rx_iload_n1, ↓rx_nil, ↓ry_fvs, ↓ry_fvz, ↓ry_i2, ↓ry_li0s, ↓ry_li0z, ↓ry_lr0s, ↓ry_lr0z, ↓ry_obu, ↓ry_r1, true_and, ↓rh_ob hob, ↓rh_aa hs80, rz_set, rz_nol, rz_clr, List.set_cons_zero, List.set_cons_succ, rz_tr, Nat.reduceAdd, Int.reduceAdd, Int.reduceToNat, Int.reduceSub, Int.reduceNeg, Int.cast_ofNat_Int]
      rw [nI_leI (by decide) (by omega)]
      refine ⟨fun q => by omega, fun _ => hK _ _ _ _ ?_⟩
      refine rn_new (ci := 0) (r := ("WriterDesk$Word", F_Word, 2)) (fs := [.null, .int 0]) rfl (rz_j2 85 rfl rfl) (rz_j1 34 rfl rfl) (rz_j1 2 rfl rfl) (by decide +kernel) (by decide) (Or.inr ⟨a + (107 + 2 * i), by show _ = a + 1 + _; omega, by rw [hce (107 + 2 * i) (by omega) (by omega) ⟨by omega, by omega, by omega⟩]; simp⟩) (by omega) (by show _ + 2 ≤ _; omega) ?_
      show rn_T w _ _ _ _ (107 + 2 * i + 1) (1056 + 13 * i + 2) _ _ (.ref (a + 1 + (107 + 2 * i)) :: _) (rz_up g (a + 1 + (107 + 2 * i)) _) _
      rw [show a + 1 + (107 + 2 * i) = a + (108 + 2 * i) from by omega]
      refine rn_blk' [(.dup, 1, 0, 0), (.sipush 160, 3, 0, 0)] (by decide +kernel) (by omega) (by omega) (fun K R hK hR => ?_)
      simp only [rw_s160, ↓rx_dup, ↓rx_nil, ↓rx_sipush, ↓ry_v1i, ↓ry_v1r, rz_set, rz_nol, rz_clr, List.set_cons_zero, List.set_cons_succ, rz_tr, Nat.reduceAdd, Int.reduceAdd, Int.reduceToNat, Int.reduceSub, Int.reduceNeg, Int.cast_ofNat_Int]
      refine hK _ _ _ _ ?_
      refine rn_cI (As := [.int (nI 160)]) (b := a + (108 + 2 * i)) (S := [.ref (a + (108 + 2 * i)), .int (nI i), .ref (a + 80)]) (mc' := 1) (ms' := 11) l_Bld_24 (by decide +kernel) rfl (Nat.le_of_ble_eq_true rfl) (Or.inr ⟨a + (108 + 2 * i), by show _ = a + 1 + _; omega, by rw [rz_up_s]; simp⟩) (by omega) (by omega) (by
        have := c_Word_init (w := w) (d := d + 1) (G := rz_up g (a + (108 + 2 * i)) (.inr (0, [.null, .int 0]))) (a := a + (108 + 2 * i)) (rm := 160) (by decide) (by decide) (rz_up_s _ _ _) rfl
        rw [show (a + 1) + (107 + 2 * i + 1) = a + (108 + 2 * i) + 1 from by omega]; exact this) (fun r G' hr => ?_)
      obtain ⟨rfl, rfl⟩ := hr
      simp only [Option.toList, List.nil_append]
      have hG4 : wd_put (rz_up g (a + (108 + 2 * i)) (.inr (0, [.null, .int 0]))) (a + (108 + 2 * i)) 11 [] (a + 80) = some (.inl (4, 240, .inr (.inr (.inr (.inr f80))))) := by rw [wd_pout (by omega) (by omega), rz_up_n _ _ (by omega)]; exact hs80
      refine rn_aastoreW (by decide +kernel) hG4 (wd_pis (wd_ok_nil (by decide))).1 (vp_in_nI (by omega) (by decide)) ?_
      rw [nI_clamp (by omega)]
      generalize hg : rz_up (wd_put (rz_up g (a + (108 + 2 * i)) _) (a + (108 + 2 * i)) 11 []) (a + 80) _ = q0
      have hst : ∀ x, x ≠ a + 80 → x < a + (108 + 2 * i) → q0 x = g x := fun x h1 h2 => by rw [← hg, rz_up_n _ _ h1, wd_pout (by omega) (by omega), rz_up_n _ _ (by omega)]
      have hw0 : q0 (a + (108 + 2 * i)) = some (wd_o (a + (108 + 2 * i)) []) := by rw [← hg, rz_up_n _ _ (by omega)]; exact (wd_pis (wd_ok_nil (by decide))).1
      have hlast : q0 (a + (109 + 2 * i)) = some (wd_a 11 []) := by rw [← hg, rz_up_n _ _ (by omega), show a + (109 + 2 * i) = a + (108 + 2 * i) + 1 from by omega]; exact (wd_pis (wd_ok_nil (by decide))).2.1
      have hsN : q0 (a + 80) = some (.inl (4, 240, .inr (.inr (.inr (.inr (va_up f80 i (some (a + (108 + 2 * i))))))))) := by rw [← hg, rz_up_s]
      have hfN : ∀ k, k < i + 1 → va_up f80 i (some (a + (108 + 2 * i))) k = some (a + (108 + 2 * k)) := fun k hk => by
        by_cases c : k = i
        · subst c; rw [va_up_self]
        · rw [va_up_ne _ _ c]; exact hf80 k (by omega)
      have hfr : ∀ x, x < a → q0 x = G x := fun x hx => (hst x (by omega) (by omega)).trans (hfr x hx)
      have hob := (hst a (by omega) (by omega)).trans hob
      have hs71 := (hst (a + 71) (by omega) (by omega)).trans hs71
      have hs81 := (hst (a + 81) (by omega) (by omega)).trans hs81
      have hs80 := hsN
      have hf80 := hfN
      have hce : ∀ o, 1 ≤ o → o < 110 + 2 * i → (o ≠ 71 ∧ o ≠ 80 ∧ o ≠ 81) → q0 (a + o) = some (bo_neu a o) := fun o h1 h2 h3 => by
        by_cases c1 : o < 108 + 2 * i
        · exact (hst _ (by omega) (by omega)).trans (hce o h1 c1 h3)
        by_cases c2 : o = 108 + 2 * i
        · subst c2
          rw [hw0]
          rw [bo_nj0]
        · have c3 : o = 109 + 2 * i := by omega
          subst c3
          rw [hlast]
          rw [bo_nj1]
      clear hg hst hsN hfN hG4 hw0
      generalize va_up f80 i (some (a + (108 + 2 * i))) = f80 at *
      refine rn_blk' [(.iinc 1 1, 3, 0, 0), (.goto (-28), 3, 0, 0)] (by decide +kernel) (by omega) (by omega) (fun K R hK hR => ?_)
      simp only [rw_c1, ↓rx_goto, ↓rx_iinc, ↓rx_nil, ↓ry_li0s, ↓ry_li0z, nI_add, rz_set, rz_nol, rz_clr, List.set_cons_zero, List.set_cons_succ, rz_tr, Nat.reduceAdd, Int.reduceAdd, Int.reduceToNat, Int.reduceSub, Int.reduceNeg, Int.cast_ofNat_Int]
      have ih' := ih (i + 1) q0 f71 f80 f81 (by omega) hfr hob (fun o h1 h2 h3 => hce o h1 (by omega) h3) hs71 hf71 hs80 hf80 hs81 hf81
      rw [show 107 + 2 * (i + 1) = 107 + 2 * i + 1 + 1 from by omega, show 1056 + 13 * (i + 1) = 1056 + 13 * i + 2 + 11 from by omega] at ih'
      exact hK _ _ _ _ ih'
  have lp0 : ∀ (k i : Nat) (g : rz_G) (f71 : Nat → Option Nat) (f80 : Nat → Option Nat) (f81 : Nat → Option Nat), i + k = 6 → (∀ x, x < a → g x = G x) → g a = some (.inr (8, [.ref (a + 1), .ref (a + 71), .int 0, .ref (a + 72), .ref (a + 74), .ref (a + 76), .ref (a + 77), .ref (a + 78), .ref (a + 79), .ref (a + 80), .int 0, .ref (a + 81), .ref (a + 82)])) → (∀ o, 1 ≤ o → o < 84 + 4 * i → (o ≠ 71 ∧ o ≠ 80 ∧ o ≠ 81) → g (a + o) = some (bo_neu a o)) → g (a + 71) = some (.inl (4, 6, .inr (.inr (.inr (.inr f71))))) → (∀ k, k < i → f71 k = some (a + (84 + 4 * k))) → g (a + 80) = some (.inl (4, 240, .inr (.inr (.inr (.inr f80))))) → (∀ k, k < 0 → f80 k = some (a + (108 + 2 * k))) → g (a + 81) = some (.inl (4, 6, .inr (.inr (.inr (.inr f81))))) → (∀ k, k < i → f81 k = some (a + (86 + 4 * k))) → rn_T w (d + 3) 587 4176 m_Bld_init (83 + 4 * i) (948 + 18 * i) 118 [some (.ref a), some (.int (nI i))] [] g ((a + 1, (fun r G' => r = none ∧ (∀ x, x < a → G' x = G x) ∧ ∀ o, o < 588 → G' (a + o) = some (bo_neu a o))) : rn_P) := by
    intro k
    induction k with
    | zero =>
      intro i g f71 f80 f81 hik hfr hob hce hs71 hf71 hs80 hf80 hs81 hf81
      have hi : i = 6 := by omega
      subst hi
      refine rn_blk' [(.iload_n 1, 1, 0, 0), (.bipush 6, 2, 0, 0), (.if_icmp .ge 40, 3, 0, 0)] (by decide +kernel) (by omega) (by omega) (fun K R hK hR => ?_)
      simp only [rw_b6, ↓rx_bipush, ↓rx_if_icmp_ge, ↓rx_iload_n1, ↓rx_nil, ↓ry_i2, ↓ry_li0s, ↓ry_li0z, ↓rh_ob hob, rz_set, rz_nol, rz_clr, List.set_cons_zero, List.set_cons_succ, rz_tr, Nat.reduceAdd, Int.reduceAdd, Int.reduceToNat, Int.reduceSub, Int.reduceNeg, Int.cast_ofNat_Int]
      refine ⟨fun _ => hK _ _ _ _ ?_, fun q => absurd (Int32.le_refl _) q⟩
      refine rn_blk' [(.iconst 0, 1, 0, 0), (.istore_n 1, 1, 0, 0)] (by decide +kernel) (by omega) (by omega) (fun K R hK hR => ?_)
      simp only [rw_c0, ↓rx_iconst, ↓rx_istore_n1, ↓rx_nil, ↓ry_i1, rz_set, rz_nol, rz_clr, List.set_cons_zero, List.set_cons_succ, rz_tr, Nat.reduceAdd, Int.reduceAdd, Int.reduceToNat, Int.reduceSub, Int.reduceNeg, Int.cast_ofNat_Int]
      refine hK _ _ _ _ ?_
      exact lp1 240 0 g f71 f80 f81 rfl hfr hob hce hs71 hf71 hs80 (fun k hk => absurd hk (Nat.not_lt_zero _)) hs81 hf81
    | succ k ih =>
      intro i g f71 f80 f81 hik hfr hob hce hs71 hf71 hs80 hf80 hs81 hf81
      refine rn_blk' [(.iload_n 1, 1, 0, 0), (.bipush 6, 2, 0, 0), (.if_icmp .ge 40, 3, 0, 0), (.aload_n 0, 1, 0, 0), (.getfield 20, 3, 8, 1), (.iload_n 1, 1, 0, 0)] (by decide +kernel) (by omega) (by omega) (fun K R hK hR => ?_)
      simp only [rw_b6, ↓rx_aload_n0, ↓rx_bipush, ↓rx_getfield, ↓rx_if_icmp_ge, ↓rx_iload_n1, ↓rx_nil, ↓ry_fvs, ↓ry_fvz, ↓ry_i2, ↓ry_li0s, ↓ry_li0z, ↓ry_lr0s, ↓ry_lr0z, ↓ry_obu, ↓ry_r1, ↓rh_ob hob, rz_set, rz_nol, rz_clr, List.set_cons_zero, List.set_cons_succ, rz_tr, Nat.reduceAdd, Int.reduceAdd, Int.reduceToNat, Int.reduceSub, Int.reduceNeg, Int.cast_ofNat_Int]
      rw [nI_leI (by decide) (by omega)]
      refine ⟨fun q => by omega, fun _ => hK _ _ _ _ ?_⟩
      refine rn_new (ci := 0) (r := ("WriterDesk$Word", F_Word, 2)) (fs := [.null, .int 0]) rfl (rz_j2 85 rfl rfl) (rz_j1 34 rfl rfl) (rz_j1 2 rfl rfl) (by decide +kernel) (by decide) (Or.inr ⟨a + (83 + 4 * i), by show _ = a + 1 + _; omega, by rw [hce (83 + 4 * i) (by omega) (by omega) ⟨by omega, by omega, by omega⟩]; simp⟩) (by omega) (by show _ + 2 ≤ _; omega) ?_
      show rn_T w _ _ _ _ (83 + 4 * i + 1) (948 + 18 * i + 2) _ _ (.ref (a + 1 + (83 + 4 * i)) :: _) (rz_up g (a + 1 + (83 + 4 * i)) _) _
      rw [show a + 1 + (83 + 4 * i) = a + (84 + 4 * i) from by omega]
      refine rn_blk' [(.dup, 1, 0, 0), (.bipush 32, 2, 0, 0)] (by decide +kernel) (by omega) (by omega) (fun K R hK hR => ?_)
      simp only [rw_b32, ↓rx_bipush, ↓rx_dup, ↓rx_nil, ↓ry_v1i, ↓ry_v1r, rz_set, rz_nol, rz_clr, List.set_cons_zero, List.set_cons_succ, rz_tr, Nat.reduceAdd, Int.reduceAdd, Int.reduceToNat, Int.reduceSub, Int.reduceNeg, Int.cast_ofNat_Int]
      refine hK _ _ _ _ ?_
      refine rn_cI (As := [.int (nI 32)]) (b := a + (84 + 4 * i)) (S := [.ref (a + (84 + 4 * i)), .int (nI i), .ref (a + 71)]) (mc' := 1) (ms' := 3) l_Bld_24 (by decide +kernel) rfl (Nat.le_of_ble_eq_true rfl) (Or.inr ⟨a + (84 + 4 * i), by show _ = a + 1 + _; omega, by rw [rz_up_s]; simp⟩) (by omega) (by omega) (by
        have := c_Word_init (w := w) (d := d + 1) (G := rz_up g (a + (84 + 4 * i)) (.inr (0, [.null, .int 0]))) (a := a + (84 + 4 * i)) (rm := 32) (by decide) (by decide) (rz_up_s _ _ _) rfl
        rw [show (a + 1) + (83 + 4 * i + 1) = a + (84 + 4 * i) + 1 from by omega]; exact this) (fun r G' hr => ?_)
      obtain ⟨rfl, rfl⟩ := hr
      simp only [Option.toList, List.nil_append]
      have hG4 : wd_put (rz_up g (a + (84 + 4 * i)) (.inr (0, [.null, .int 0]))) (a + (84 + 4 * i)) 3 [] (a + 71) = some (.inl (4, 6, .inr (.inr (.inr (.inr f71))))) := by rw [wd_pout (by omega) (by omega), rz_up_n _ _ (by omega)]; exact hs71
      refine rn_aastoreW (by decide +kernel) hG4 (wd_pis (wd_ok_nil (by decide))).1 (vp_in_nI (by omega) (by decide)) ?_
      rw [nI_clamp (by omega)]
      generalize hg : rz_up (wd_put (rz_up g (a + (84 + 4 * i)) _) (a + (84 + 4 * i)) 3 []) (a + 71) _ = q0
      have hst : ∀ x, x ≠ a + 71 → x < a + (84 + 4 * i) → q0 x = g x := fun x h1 h2 => by rw [← hg, rz_up_n _ _ h1, wd_pout (by omega) (by omega), rz_up_n _ _ (by omega)]
      have hw0 : q0 (a + (84 + 4 * i)) = some (wd_o (a + (84 + 4 * i)) []) := by rw [← hg, rz_up_n _ _ (by omega)]; exact (wd_pis (wd_ok_nil (by decide))).1
      have hlast : q0 (a + (85 + 4 * i)) = some (wd_a 3 []) := by rw [← hg, rz_up_n _ _ (by omega), show a + (85 + 4 * i) = a + (84 + 4 * i) + 1 from by omega]; exact (wd_pis (wd_ok_nil (by decide))).2.1
      have hsN : q0 (a + 71) = some (.inl (4, 6, .inr (.inr (.inr (.inr (va_up f71 i (some (a + (84 + 4 * i))))))))) := by rw [← hg, rz_up_s]
      have hfN : ∀ k, k < i + 1 → va_up f71 i (some (a + (84 + 4 * i))) k = some (a + (84 + 4 * k)) := fun k hk => by
        by_cases c : k = i
        · subst c; rw [va_up_self]
        · rw [va_up_ne _ _ c]; exact hf71 k (by omega)
      have hfr : ∀ x, x < a → q0 x = G x := fun x hx => (hst x (by omega) (by omega)).trans (hfr x hx)
      have hob := (hst a (by omega) (by omega)).trans hob
      have hs80 := (hst (a + 80) (by omega) (by omega)).trans hs80
      have hs81 := (hst (a + 81) (by omega) (by omega)).trans hs81
      have hs71 := hsN
      have hf71 := hfN
      have hce : ∀ o, 1 ≤ o → o < 86 + 4 * i → (o ≠ 71 ∧ o ≠ 80 ∧ o ≠ 81) → q0 (a + o) = some (bo_neu a o) := fun o h1 h2 h3 => by
        by_cases c1 : o < 84 + 4 * i
        · exact (hst _ (by omega) (by omega)).trans (hce o h1 c1 h3)
        by_cases c2 : o = 84 + 4 * i
        · subst c2
          rw [hw0]
          rw [(bo_n1 i (by omega)).1]
        · have c3 : o = 85 + 4 * i := by omega
          subst c3
          rw [hlast]
          rw [(bo_n1 i (by omega)).2.1]
      clear hg hst hsN hfN hG4 hw0
      generalize va_up f71 i (some (a + (84 + 4 * i))) = f71 at *
      refine rn_blk' [(.aload_n 0, 1, 0, 0), (.getfield 50, 3, 8, 11), (.iload_n 1, 1, 0, 0)] (by decide +kernel) (by omega) (by omega) (fun K R hK hR => ?_)
      simp only [↓rx_aload_n0, ↓rx_getfield, ↓rx_iload_n1, ↓rx_nil, ↓ry_fvs, ↓ry_fvz, ↓ry_li0s, ↓ry_li0z, ↓ry_lr0s, ↓ry_lr0z, ↓ry_obu, ↓ry_r1, ↓rh_ob hob, rz_set, rz_nol, rz_clr, List.set_cons_zero, List.set_cons_succ, rz_tr, Nat.reduceAdd, Int.reduceAdd, Int.reduceToNat, Int.reduceSub, Int.reduceNeg, Int.cast_ofNat_Int]
      refine hK _ _ _ _ ?_
      refine rn_new (ci := 0) (r := ("WriterDesk$Word", F_Word, 2)) (fs := [.null, .int 0]) rfl (rz_j2 85 rfl rfl) (rz_j1 34 rfl rfl) (rz_j1 2 rfl rfl) (by decide +kernel) (by decide) (Or.inr ⟨a + (85 + 4 * i), by show _ = a + 1 + _; omega, by rw [hlast]; simp⟩) (by omega) (by show _ + 2 ≤ _; omega) ?_
      show rn_T w _ _ _ _ (83 + 4 * i + 1 + 1 + 1) (948 + 18 * i + 2 + 3 + 2) _ _ (.ref (a + 1 + (83 + 4 * i + 1 + 1)) :: _) (rz_up q0 (a + 1 + (83 + 4 * i + 1 + 1)) _) _
      rw [show a + 1 + (83 + 4 * i + 1 + 1) = a + (86 + 4 * i) from by omega]
      refine rn_blk' [(.dup, 1, 0, 0), (.sipush 160, 3, 0, 0)] (by decide +kernel) (by omega) (by omega) (fun K R hK hR => ?_)
      simp only [rw_s160, ↓rx_dup, ↓rx_nil, ↓rx_sipush, ↓ry_v1i, ↓ry_v1r, rz_set, rz_nol, rz_clr, List.set_cons_zero, List.set_cons_succ, rz_tr, Nat.reduceAdd, Int.reduceAdd, Int.reduceToNat, Int.reduceSub, Int.reduceNeg, Int.cast_ofNat_Int]
      refine hK _ _ _ _ ?_
      refine rn_cI (As := [.int (nI 160)]) (b := a + (86 + 4 * i)) (S := [.ref (a + (86 + 4 * i)), .int (nI i), .ref (a + 81)]) (mc' := 1) (ms' := 11) l_Bld_24 (by decide +kernel) rfl (Nat.le_of_ble_eq_true rfl) (Or.inr ⟨a + (86 + 4 * i), by show _ = a + 1 + _; omega, by rw [rz_up_s]; simp⟩) (by omega) (by omega) (by
        have := c_Word_init (w := w) (d := d + 1) (G := rz_up q0 (a + (86 + 4 * i)) (.inr (0, [.null, .int 0]))) (a := a + (86 + 4 * i)) (rm := 160) (by decide) (by decide) (rz_up_s _ _ _) rfl
        rw [show (a + 1) + (83 + 4 * i + 1 + 1 + 1) = a + (86 + 4 * i) + 1 from by omega]; exact this) (fun r G' hr => ?_)
      obtain ⟨rfl, rfl⟩ := hr
      simp only [Option.toList, List.nil_append]
      have hG4 : wd_put (rz_up q0 (a + (86 + 4 * i)) (.inr (0, [.null, .int 0]))) (a + (86 + 4 * i)) 11 [] (a + 81) = some (.inl (4, 6, .inr (.inr (.inr (.inr f81))))) := by rw [wd_pout (by omega) (by omega), rz_up_n _ _ (by omega)]; exact hs81
      refine rn_aastoreW (by decide +kernel) hG4 (wd_pis (wd_ok_nil (by decide))).1 (vp_in_nI (by omega) (by decide)) ?_
      rw [nI_clamp (by omega)]
      generalize hg : rz_up (wd_put (rz_up q0 (a + (86 + 4 * i)) _) (a + (86 + 4 * i)) 11 []) (a + 81) _ = q1
      have hst : ∀ x, x ≠ a + 81 → x < a + (86 + 4 * i) → q1 x = q0 x := fun x h1 h2 => by rw [← hg, rz_up_n _ _ h1, wd_pout (by omega) (by omega), rz_up_n _ _ (by omega)]
      have hw0 : q1 (a + (86 + 4 * i)) = some (wd_o (a + (86 + 4 * i)) []) := by rw [← hg, rz_up_n _ _ (by omega)]; exact (wd_pis (wd_ok_nil (by decide))).1
      have hlast : q1 (a + (87 + 4 * i)) = some (wd_a 11 []) := by rw [← hg, rz_up_n _ _ (by omega), show a + (87 + 4 * i) = a + (86 + 4 * i) + 1 from by omega]; exact (wd_pis (wd_ok_nil (by decide))).2.1
      have hsN : q1 (a + 81) = some (.inl (4, 6, .inr (.inr (.inr (.inr (va_up f81 i (some (a + (86 + 4 * i))))))))) := by rw [← hg, rz_up_s]
      have hfN : ∀ k, k < i + 1 → va_up f81 i (some (a + (86 + 4 * i))) k = some (a + (86 + 4 * k)) := fun k hk => by
        by_cases c : k = i
        · subst c; rw [va_up_self]
        · rw [va_up_ne _ _ c]; exact hf81 k (by omega)
      have hfr : ∀ x, x < a → q1 x = G x := fun x hx => (hst x (by omega) (by omega)).trans (hfr x hx)
      have hob := (hst a (by omega) (by omega)).trans hob
      have hs71 := (hst (a + 71) (by omega) (by omega)).trans hs71
      have hs80 := (hst (a + 80) (by omega) (by omega)).trans hs80
      have hs81 := hsN
      have hf81 := hfN
      have hce : ∀ o, 1 ≤ o → o < 88 + 4 * i → (o ≠ 71 ∧ o ≠ 80 ∧ o ≠ 81) → q1 (a + o) = some (bo_neu a o) := fun o h1 h2 h3 => by
        by_cases c1 : o < 86 + 4 * i
        · exact (hst _ (by omega) (by omega)).trans (hce o h1 c1 h3)
        by_cases c2 : o = 86 + 4 * i
        · subst c2
          rw [hw0]
          rw [(bo_n1 i (by omega)).2.2.1]
        · have c3 : o = 87 + 4 * i := by omega
          subst c3
          rw [hlast]
          rw [(bo_n1 i (by omega)).2.2.2]
      clear hg hst hsN hfN hG4 hw0
      generalize va_up f81 i (some (a + (86 + 4 * i))) = f81 at *
      refine rn_blk' [(.iinc 1 1, 3, 0, 0), (.goto (-40), 3, 0, 0)] (by decide +kernel) (by omega) (by omega) (fun K R hK hR => ?_)
      simp only [rw_c1, ↓rx_goto, ↓rx_iinc, ↓rx_nil, ↓ry_li0s, ↓ry_li0z, nI_add, rz_set, rz_nol, rz_clr, List.set_cons_zero, List.set_cons_succ, rz_tr, Nat.reduceAdd, Int.reduceAdd, Int.reduceToNat, Int.reduceSub, Int.reduceNeg, Int.cast_ofNat_Int]
      have ih' := ih (i + 1) q1 f71 f80 f81 (by omega) hfr hob (fun o h1 h2 h3 => hce o h1 (by omega) h3) hs71 hf71 hs80 hf80 hs81 hf81
      rw [show 83 + 4 * (i + 1) = 83 + 4 * i + 1 + 1 + 1 + 1 from by omega, show 948 + 18 * (i + 1) = 948 + 18 * i + 2 + 3 + 2 + 11 from by omega] at ih'
      exact hK _ _ _ _ ih'
  refine rn_blk' [(.iconst 0, 1, 0, 0), (.istore_n 1, 1, 0, 0)] (by decide +kernel) (by omega) (by omega) (fun K R hK hR => ?_)
  simp only [rw_c0, ↓rx_iconst, ↓rx_istore_n1, ↓rx_nil, ↓ry_i1, rz_set, rz_nol, rz_clr, List.set_cons_zero, List.set_cons_succ, rz_tr, Nat.reduceAdd, Int.reduceAdd, Int.reduceToNat, Int.reduceSub, Int.reduceNeg, Int.cast_ofNat_Int]
  refine hK _ _ _ _ ?_
  exact lp0 6 0 g11 (fun _ => none) (fun _ => none) (fun _ => none) rfl hfr hob hce hs71 (fun k hk => absurd hk (Nat.not_lt_zero _)) hs80 (fun k hk => absurd hk (Nat.not_lt_zero _)) hs81 (fun k hk => absurd hk (Nat.not_lt_zero _))
