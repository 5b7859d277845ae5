/-! constructors: PairSearch, SmallMachine -/
def ps_neu (a o : Nat) : rz_E := if o = 0 then .inr (4, [.null, .null, .int 0, .ref (a + 1), .ref (a + 2), .ref (a + 3), .ref (a + 4), .ref (a + 5), .ref (a + 6), .ref (a + 7), .int 0, .ref (a + 8), .ref (a + 9), .ref (a + 10), .ref (a + 11), .int 0, .ref (a + 12), .ref (a + 14)]) else ps_cell a (fun _ => 0) (fun _ _ => 0) (fun _ _ => 0) (fun _ => []) (fun _ => 0) o
theorem ps_nj0 {a j : Nat} : ps_neu a (16 + 2 * j) = wd_o (a + (16 + 2 * j)) [] := by
  rw [ps_neu, if_neg (by omega), show 16 + 2 * j = (2 * j + 0) + 16 by omega]
  show (if (2 * j + 0 + 16 - 16) % 2 = 0 then _ else _) = _
  rw [if_pos (by omega)]
theorem ps_nj1 {a j : Nat} : ps_neu a (16 + 2 * j + 1) = wd_a 26 [] := by
  rw [ps_neu, if_neg (by omega), show 16 + 2 * j + 1 = (2 * j + 1 + 0) + 16 by omega]
  show (if (2 * j + 1 + 0 + 16 - 16) % 2 = 0 then _ else _) = _
  rw [if_neg (by omega)]
theorem sm_nj0 {a j : Nat} : sm_cell a (fun _ => 0) (fun _ _ => 0) (fun _ _ => 0) (fun _ => []) (fun _ => 0) (7 + 2 * j) = wd_o (a + (7 + 2 * j)) [] := by
  rw [show 7 + 2 * j = (2 * j + 0) + 7 by omega]
  show (if (2 * j + 0 + 7 - 7) % 2 = 0 then _ else _) = _
  rw [if_pos (by omega)]
theorem sm_nj1 {a j : Nat} : sm_cell a (fun _ => 0) (fun _ _ => 0) (fun _ _ => 0) (fun _ => []) (fun _ => 0) (7 + 2 * j + 1) = wd_a 11 [] := by
  rw [show 7 + 2 * j + 1 = (2 * j + 1 + 0) + 7 by omega]
  show (if (2 * j + 1 + 0 + 7 - 7) % 2 = 0 then _ else _) = _
  rw [if_neg (by omega)]
set_option maxRecDepth 100000 in
set_option maxHeartbeats 8000000 in
theorem c_Pair_init {w : rz_w} {d : Nat} {G : rz_G} {a : Nat} (hG : G a = some (.inr (4, [.null, .null, .int 0, .null, .null, .null, .null, .null, .null, .null, .int 0, .null, .null, .null, .null, .int 0, .null, .null]))) : rn_C w (d + 2) 303 4812 y_Pair_init m_Pair_init [.ref a] G (a + 1) (fun r G' => r = none ∧ (∀ x, x < a → G' x = G x) ∧ ∀ o, o < 304 → G' (a + o) = some (ps_neu a o)) := by
  refine rn_enter [some (.ref a), none] (by decide +kernel) rfl rfl (Nat.le_of_ble_eq_true rfl) rfl ?_
  refine rn_blk' [(.aload_n 0, 1, 0, 0)] (by decide +kernel) (by omega) (by omega) (fun K R hK hR => ?_)
  simp only [↓rx_aload_n0, ↓rx_nil, ↓ry_lr0s, ↓ry_lr0z, rz_set, rz_nol, rz_clr, List.set_cons_zero, List.set_cons_succ, rz_tr, Nat.reduceAdd, Int.reduceAdd, Int.reduceToNat, Int.reduceSub, Int.reduceNeg, Int.cast_ofNat_Int]
  refine hK _ _ _ _ ?_
  refine rn_obj (rz_j1 111 rfl rfl) rn_o1 rn_o2 (Nat.le_of_ble_eq_true rfl) (by decide +kernel) ?_
  have hfr : ∀ x, x < a → G x = G x := fun _ _ => rfl
  have hob := hG
  have hce : ∀ o, 1 ≤ o → o < 1 → (o ≠ 4 ∧ o ≠ 5) → G (a + o) = some (ps_neu a o) := fun o h1 h2 => by omega
  refine rn_blk' [(.aload_n 0, 1, 0, 0), (.bipush 72, 2, 0, 0)] (by decide +kernel) (by omega) (by omega) (fun K R hK hR => ?_)
  simp only [rw_b72, ↓rx_aload_n0, ↓rx_bipush, ↓rx_nil, ↓ry_lr0s, ↓ry_lr0z, rz_set, rz_nol, rz_clr, List.set_cons_zero, List.set_cons_succ, rz_tr, Nat.reduceAdd, Int.reduceAdd, Int.reduceToNat, Int.reduceSub, Int.reduceNeg, Int.cast_ofNat_Int]
  refine hK _ _ _ _ ?_
  refine rn_na_i (N := 72) (by decide) (by decide +kernel) (Or.inl rfl) (by decide) (by decide) ?_
  change rn_T w _ _ _ _ 1 72 _ _ (.ref (a + 1) :: _) (rz_up G (a + 1) _) _
  have e1 : rz_up G (a + 1) (.inl (0, 72, .inl (fun _ => 0))) a = some (.inr (4, [.null, .null, .int 0, .null, .null, .null, .null, .null, .null, .null, .int 0, .null, .null, .null, .null, .int 0, .null, .null])) := by rw [rz_up_n _ _ (by omega)]; exact hob
  refine rn_blk' [(.putfield 11, 3, 4, 3)] (by decide +kernel) (by omega) (by omega) (fun K R hK hR => ?_)
  simp only [List.length_cons, List.length_nil, Nat.reduceLT, rf_4_3, ↓rx_nil, ↓rx_putfield, ↓ry_obu, ↓ry_vr, true_and, ↓rh_ob e1, rz_set, rz_nol, rz_clr, List.set_cons_zero, List.set_cons_succ, rz_tr, Nat.reduceAdd, Int.reduceAdd, Int.reduceToNat, Int.reduceSub, Int.reduceNeg, Int.cast_ofNat_Int]
  refine hK _ _ _ _ ?_
  clear e1
  generalize hg : rz_up (rz_up G (a + 1) _) a _ = g1
  have hst : ∀ x, x ≠ a → x < a + 1 → g1 x = G x := fun x h1 h2 => by rw [← hg, rz_up_n _ _ h1, rz_up_n _ _ (by omega)]
  have hob : g1 a = some (.inr (4, [.null, .null, .int 0, .ref (a + 1), .null, .null, .null, .null, .null, .null, .int 0, .null, .null, .null, .null, .int 0, .null, .null])) := by rw [← hg, rz_up_s]
  have hfr : ∀ x, x < a → g1 x = G x := fun x hx => (hst x (by omega) (by omega)).trans (hfr x hx)
  have hn1 : g1 (a + 1) = some (.inl (0, 72, .inl (fun _ => 0))) := by rw [← hg, rz_up_n _ _ (by omega), rz_up_s]
  have hce : ∀ o, 1 ≤ o → o < 2 → (o ≠ 4 ∧ o ≠ 5) → g1 (a + o) = some (ps_neu a o) := fun o h1 h2 h3 => by
    by_cases c : o < 1
    · exact (hst _ (by omega) (by omega)).trans (hce o h1 c h3)
    by_cases c1 : o = 1
    · subst c1; exact hn1
    omega
  clear hg hst hn1
  refine rn_blk' [(.aload_n 0, 1, 0, 0), (.bipush 72, 2, 0, 0)] (by decide +kernel) (by omega) (by omega) (fun K R hK hR => ?_)
  simp only [rw_b72, ↓rx_aload_n0, ↓rx_bipush, ↓rx_nil, ↓ry_lr0s, ↓ry_lr0z, rz_set, rz_nol, rz_clr, List.set_cons_zero, List.set_cons_succ, rz_tr, Nat.reduceAdd, Int.reduceAdd, Int.reduceToNat, Int.reduceSub, Int.reduceNeg, Int.cast_ofNat_Int]
  refine hK _ _ _ _ ?_
  refine rn_na_i (N := 72) (by decide) (by decide +kernel) (Or.inr ⟨a + 1, rfl, by rw [hce 1 (by decide) (by decide) ⟨by decide, by decide⟩]; simp⟩) (by decide) (by decide) ?_
  change rn_T w _ _ _ _ 2 144 _ _ (.ref (a + 2) :: _) (rz_up g1 (a + 2) _) _
  have e1 : rz_up g1 (a + 2) (.inl (0, 72, .inl (fun _ => 0))) a = some (.inr (4, [.null, .null, .int 0, .ref (a + 1), .null, .null, .null, .null, .null, .null, .int 0, .null, .null, .null, .null, .int 0, .null, .null])) := by rw [rz_up_n _ _ (by omega)]; exact hob
  refine rn_blk' [(.putfield 15, 3, 4, 4)] (by decide +kernel) (by omega) (by omega) (fun K R hK hR => ?_)
  simp only [List.length_cons, List.length_nil, Nat.reduceLT, rf_4_4, ↓rx_nil, ↓rx_putfield, ↓ry_obu, ↓ry_vr, true_and, ↓rh_ob e1, rz_set, rz_nol, rz_clr, List.set_cons_zero, List.set_cons_succ, rz_tr, Nat.reduceAdd, Int.reduceAdd, Int.reduceToNat, Int.reduceSub, Int.reduceNeg, Int.cast_ofNat_Int]
  refine hK _ _ _ _ ?_
  clear e1
  generalize hg : rz_up (rz_up g1 (a + 2) _) a _ = g2
  have hst : ∀ x, x ≠ a → x < a + 2 → g2 x = g1 x := fun x h1 h2 => by rw [← hg, rz_up_n _ _ h1, rz_up_n _ _ (by omega)]
  have hob : g2 a = some (.inr (4, [.null, .null, .int 0, .ref (a + 1), .ref (a + 2), .null, .null, .null, .null, .null, .int 0, .null, .null, .null, .null, .int 0, .null, .null])) := by rw [← hg, rz_up_s]
  have hfr : ∀ x, x < a → g2 x = G x := fun x hx => (hst x (by omega) (by omega)).trans (hfr x hx)
  have hn2 : g2 (a + 2) = some (.inl (0, 72, .inl (fun _ => 0))) := by rw [← hg, rz_up_n _ _ (by omega), rz_up_s]
  have hce : ∀ o, 1 ≤ o → o < 3 → (o ≠ 4 ∧ o ≠ 5) → g2 (a + o) = some (ps_neu a o) := fun o h1 h2 h3 => by
    by_cases c : o < 2
    · exact (hst _ (by omega) (by omega)).trans (hce o h1 c h3)
    by_cases c2 : o = 2
    · subst c2; exact hn2
    omega
  clear hg hst hn2
  refine rn_blk' [(.aload_n 0, 1, 0, 0), (.bipush 72, 2, 0, 0)] (by decide +kernel) (by omega) (by omega) (fun K R hK hR => ?_)
  simp only [rw_b72, ↓rx_aload_n0, ↓rx_bipush, ↓rx_nil, ↓ry_lr0s, ↓ry_lr0z, rz_set, rz_nol, rz_clr, List.set_cons_zero, List.set_cons_succ, rz_tr, Nat.reduceAdd, Int.reduceAdd, Int.reduceToNat, Int.reduceSub, Int.reduceNeg, Int.cast_ofNat_Int]
  refine hK _ _ _ _ ?_
  refine rn_na_z (N := 72) (by decide) (by decide +kernel) (Or.inr ⟨a + 2, rfl, by rw [hce 2 (by decide) (by decide) ⟨by decide, by decide⟩]; simp⟩) (by decide) (by decide) ?_
  change rn_T w _ _ _ _ 3 216 _ _ (.ref (a + 3) :: _) (rz_up g2 (a + 3) _) _
  have e1 : rz_up g2 (a + 3) (.inl (3, 72, .inl (fun _ => 0))) a = some (.inr (4, [.null, .null, .int 0, .ref (a + 1), .ref (a + 2), .null, .null, .null, .null, .null, .int 0, .null, .null, .null, .null, .int 0, .null, .null])) := by rw [rz_up_n _ _ (by omega)]; exact hob
  refine rn_blk' [(.putfield 18, 3, 4, 5)] (by decide +kernel) (by omega) (by omega) (fun K R hK hR => ?_)
  simp only [List.length_cons, List.length_nil, Nat.reduceLT, rf_4_5, ↓rx_nil, ↓rx_putfield, ↓ry_obu, ↓ry_vr, true_and, ↓rh_ob e1, rz_set, rz_nol, rz_clr, List.set_cons_zero, List.set_cons_succ, rz_tr, Nat.reduceAdd, Int.reduceAdd, Int.reduceToNat, Int.reduceSub, Int.reduceNeg, Int.cast_ofNat_Int]
  refine hK _ _ _ _ ?_
  clear e1
  generalize hg : rz_up (rz_up g2 (a + 3) _) a _ = g3
  have hst : ∀ x, x ≠ a → x < a + 3 → g3 x = g2 x := fun x h1 h2 => by rw [← hg, rz_up_n _ _ h1, rz_up_n _ _ (by omega)]
  have hob : g3 a = some (.inr (4, [.null, .null, .int 0, .ref (a + 1), .ref (a + 2), .ref (a + 3), .null, .null, .null, .null, .int 0, .null, .null, .null, .null, .int 0, .null, .null])) := by rw [← hg, rz_up_s]
  have hfr : ∀ x, x < a → g3 x = G x := fun x hx => (hst x (by omega) (by omega)).trans (hfr x hx)
  have hn3 : g3 (a + 3) = some (.inl (3, 72, .inl (fun _ => 0))) := by rw [← hg, rz_up_n _ _ (by omega), rz_up_s]
  have hce : ∀ o, 1 ≤ o → o < 4 → (o ≠ 4 ∧ o ≠ 5) → g3 (a + o) = some (ps_neu a o) := fun o h1 h2 h3 => by
    by_cases c : o < 3
    · exact (hst _ (by omega) (by omega)).trans (hce o h1 c h3)
    by_cases c3 : o = 3
    · subst c3; exact hn3
    omega
  clear hg hst hn3
  refine rn_blk' [(.aload_n 0, 1, 0, 0), (.bipush 72, 2, 0, 0)] (by decide +kernel) (by omega) (by omega) (fun K R hK hR => ?_)
  simp only [rw_b72, ↓rx_aload_n0, ↓rx_bipush, ↓rx_nil, ↓ry_lr0s, ↓ry_lr0z, rz_set, rz_nol, rz_clr, List.set_cons_zero, List.set_cons_succ, rz_tr, Nat.reduceAdd, Int.reduceAdd, Int.reduceToNat, Int.reduceSub, Int.reduceNeg, Int.cast_ofNat_Int]
  refine hK _ _ _ _ ?_
  refine rn_newq (ti := 4) (N := 72) (C := "WriterDesk$Word") rfl (rz_j1 112 rfl rfl) (fun s q => q.2.1) (by decide) (by decide +kernel) (Or.inr ⟨a + 3, rfl, by rw [hce 3 (by decide) (by decide) ⟨by decide, by decide⟩]; simp⟩) (by decide) (by decide) ?_
  change rn_T w _ _ _ _ 4 288 _ _ (.ref (a + 4) :: _) (rz_up g3 (a + 4) _) _
  have e1 : rz_up g3 (a + 4) (.inl (4, 72, .inr (.inr (.inr (.inr (fun _ => none)))))) a = some (.inr (4, [.null, .null, .int 0, .ref (a + 1), .ref (a + 2), .ref (a + 3), .null, .null, .null, .null, .int 0, .null, .null, .null, .null, .int 0, .null, .null])) := by rw [rz_up_n _ _ (by omega)]; exact hob
  refine rn_blk' [(.putfield 24, 3, 4, 6)] (by decide +kernel) (by omega) (by omega) (fun K R hK hR => ?_)
  simp only [List.length_cons, List.length_nil, Nat.reduceLT, rf_4_6, ↓rx_nil, ↓rx_putfield, ↓ry_obu, ↓ry_vr, true_and, ↓rh_ob e1, rz_set, rz_nol, rz_clr, List.set_cons_zero, List.set_cons_succ, rz_tr, Nat.reduceAdd, Int.reduceAdd, Int.reduceToNat, Int.reduceSub, Int.reduceNeg, Int.cast_ofNat_Int]
  refine hK _ _ _ _ ?_
  clear e1
  generalize hg : rz_up (rz_up g3 (a + 4) _) a _ = g4
  have hst : ∀ x, x ≠ a → x < a + 4 → g4 x = g3 x := fun x h1 h2 => by rw [← hg, rz_up_n _ _ h1, rz_up_n _ _ (by omega)]
  have hob : g4 a = some (.inr (4, [.null, .null, .int 0, .ref (a + 1), .ref (a + 2), .ref (a + 3), .ref (a + 4), .null, .null, .null, .int 0, .null, .null, .null, .null, .int 0, .null, .null])) := by rw [← hg, rz_up_s]
  have hfr : ∀ x, x < a → g4 x = G x := fun x hx => (hst x (by omega) (by omega)).trans (hfr x hx)
  have hn4 : g4 (a + 4) = some (.inl (4, 72, .inr (.inr (.inr (.inr (fun _ => none)))))) := by rw [← hg, rz_up_n _ _ (by omega), rz_up_s]
  have hce : ∀ o, 1 ≤ o → o < 5 → (o ≠ 4 ∧ o ≠ 5) → g4 (a + o) = some (ps_neu a o) := fun o h1 h2 h3 => by
    by_cases c : o < 4
    · exact (hst _ (by omega) (by omega)).trans (hce o h1 c h3)
    by_cases c4 : o = 4
    · exact absurd c4 (by omega)
    omega
  have hs4 := hn4
  clear hg hst hn4
  refine rn_blk' [(.aload_n 0, 1, 0, 0), (.bipush 72, 2, 0, 0)] (by decide +kernel) (by omega) (by omega) (fun K R hK hR => ?_)
  simp only [rw_b72, ↓rx_aload_n0, ↓rx_bipush, ↓rx_nil, ↓ry_lr0s, ↓ry_lr0z, rz_set, rz_nol, rz_clr, List.set_cons_zero, List.set_cons_succ, rz_tr, Nat.reduceAdd, Int.reduceAdd, Int.reduceToNat, Int.reduceSub, Int.reduceNeg, Int.cast_ofNat_Int]
  refine hK _ _ _ _ ?_
  refine rn_newq (ti := 4) (N := 72) (C := "WriterDesk$Word") rfl (rz_j1 112 rfl rfl) (fun s q => q.2.1) (by decide) (by decide +kernel) (Or.inr ⟨a + 4, rfl, by rw [hs4]; simp⟩) (by decide) (by decide) ?_
  change rn_T w _ _ _ _ 5 360 _ _ (.ref (a + 5) :: _) (rz_up g4 (a + 5) _) _
  have e1 : rz_up g4 (a + 5) (.inl (4, 72, .inr (.inr (.inr (.inr (fun _ => none)))))) a = some (.inr (4, [.null, .null, .int 0, .ref (a + 1), .ref (a + 2), .ref (a + 3), .ref (a + 4), .null, .null, .null, .int 0, .null, .null, .null, .null, .int 0, .null, .null])) := by rw [rz_up_n _ _ (by omega)]; exact hob
  refine rn_blk' [(.putfield 28, 3, 4, 7)] (by decide +kernel) (by omega) (by omega) (fun K R hK hR => ?_)
  simp only [List.length_cons, List.length_nil, Nat.reduceLT, rf_4_7, ↓rx_nil, ↓rx_putfield, ↓ry_obu, ↓ry_vr, true_and, ↓rh_ob e1, rz_set, rz_nol, rz_clr, List.set_cons_zero, List.set_cons_succ, rz_tr, Nat.reduceAdd, Int.reduceAdd, Int.reduceToNat, Int.reduceSub, Int.reduceNeg, Int.cast_ofNat_Int]
  refine hK _ _ _ _ ?_
  clear e1
  generalize hg : rz_up (rz_up g4 (a + 5) _) a _ = g5
  have hst : ∀ x, x ≠ a → x < a + 5 → g5 x = g4 x := fun x h1 h2 => by rw [← hg, rz_up_n _ _ h1, rz_up_n _ _ (by omega)]
  have hob : g5 a = some (.inr (4, [.null, .null, .int 0, .ref (a + 1), .ref (a + 2), .ref (a + 3), .ref (a + 4), .ref (a + 5), .null, .null, .int 0, .null, .null, .null, .null, .int 0, .null, .null])) := by rw [← hg, rz_up_s]
  have hfr : ∀ x, x < a → g5 x = G x := fun x hx => (hst x (by omega) (by omega)).trans (hfr x hx)
  have hs4 := (hst (a + 4) (by omega) (by omega)).trans hs4
  have hn5 : g5 (a + 5) = some (.inl (4, 72, .inr (.inr (.inr (.inr (fun _ => none)))))) := by rw [← hg, rz_up_n _ _ (by omega), rz_up_s]
  have hce : ∀ o, 1 ≤ o → o < 6 → (o ≠ 4 ∧ o ≠ 5) → g5 (a + o) = some (ps_neu a o) := fun o h1 h2 h3 => by
    by_cases c : o < 5
    · exact (hst _ (by omega) (by omega)).trans (hce o h1 c h3)
    by_cases c5 : o = 5
    · exact absurd c5 (by omega)
    omega
  have hs5 := hn5
  clear hg hst hn5
  refine rn_blk' [(.aload_n 0, 1, 0, 0), (.bipush 36, 2, 0, 0)] (by decide +kernel) (by omega) (by omega) (fun K R hK hR => ?_)
  simp only [rw_b36, ↓rx_aload_n0, ↓rx_bipush, ↓rx_nil, ↓ry_lr0s, ↓ry_lr0z, rz_set, rz_nol, rz_clr, List.set_cons_zero, List.set_cons_succ, rz_tr, Nat.reduceAdd, Int.reduceAdd, Int.reduceToNat, Int.reduceSub, Int.reduceNeg, Int.cast_ofNat_Int]
  refine hK _ _ _ _ ?_
  refine rn_na_i (N := 36) (by decide) (by decide +kernel) (Or.inr ⟨a + 5, rfl, by rw [hs5]; simp⟩) (by decide) (by decide) ?_
  change rn_T w _ _ _ _ 6 396 _ _ (.ref (a + 6) :: _) (rz_up g5 (a + 6) _) _
  have e1 : rz_up g5 (a + 6) (.inl (0, 36, .inl (fun _ => 0))) a = some (.inr (4, [.null, .null, .int 0, .ref (a + 1), .ref (a + 2), .ref (a + 3), .ref (a + 4), .ref (a + 5), .null, .null, .int 0, .null, .null, .null, .null, .int 0, .null, .null])) := by rw [rz_up_n _ _ (by omega)]; exact hob
  refine rn_blk' [(.putfield 31, 3, 4, 8)] (by decide +kernel) (by omega) (by omega) (fun K R hK hR => ?_)
  simp only [List.length_cons, List.length_nil, Nat.reduceLT, rf_4_8, ↓rx_nil, ↓rx_putfield, ↓ry_obu, ↓ry_vr, true_and, ↓rh_ob e1, rz_set, rz_nol, rz_clr, List.set_cons_zero, List.set_cons_succ, rz_tr, Nat.reduceAdd, Int.reduceAdd, Int.reduceToNat, Int.reduceSub, Int.reduceNeg, Int.cast_ofNat_Int]
  refine hK _ _ _ _ ?_
  clear e1
  generalize hg : rz_up (rz_up g5 (a + 6) _) a _ = g6
  have hst : ∀ x, x ≠ a → x < a + 6 → g6 x = g5 x := fun x h1 h2 => by rw [← hg, rz_up_n _ _ h1, rz_up_n _ _ (by omega)]
  have hob : g6 a = some (.inr (4, [.null, .null, .int 0, .ref (a + 1), .ref (a + 2), .ref (a + 3), .ref (a + 4), .ref (a + 5), .ref (a + 6), .null, .int 0, .null, .null, .null, .null, .int 0, .null, .null])) := by rw [← hg, rz_up_s]
  have hfr : ∀ x, x < a → g6 x = G x := fun x hx => (hst x (by omega) (by omega)).trans (hfr x hx)
  have hs4 := (hst (a + 4) (by omega) (by omega)).trans hs4
  have hs5 := (hst (a + 5) (by omega) (by omega)).trans hs5
  have hn6 : g6 (a + 6) = some (.inl (0, 36, .inl (fun _ => 0))) := by rw [← hg, rz_up_n _ _ (by omega), rz_up_s]
  have hce : ∀ o, 1 ≤ o → o < 7 → (o ≠ 4 ∧ o ≠ 5) → g6 (a + o) = some (ps_neu a o) := fun o h1 h2 h3 => by
    by_cases c : o < 6
    · exact (hst _ (by omega) (by omega)).trans (hce o h1 c h3)
    by_cases c6 : o = 6
    · subst c6; exact hn6
    omega
  clear hg hst hn6
  refine rn_blk' [(.aload_n 0, 1, 0, 0), (.bipush 36, 2, 0, 0)] (by decide +kernel) (by omega) (by omega) (fun K R hK hR => ?_)
  simp only [rw_b36, ↓rx_aload_n0, ↓rx_bipush, ↓rx_nil, ↓ry_lr0s, ↓ry_lr0z, rz_set, rz_nol, rz_clr, List.set_cons_zero, List.set_cons_succ, rz_tr, Nat.reduceAdd, Int.reduceAdd, Int.reduceToNat, Int.reduceSub, Int.reduceNeg, Int.cast_ofNat_Int]
  refine hK _ _ _ _ ?_
  refine rn_na_i (N := 36) (by decide) (by decide +kernel) (Or.inr ⟨a + 6, rfl, by rw [hce 6 (by decide) (by decide) ⟨by decide, by decide⟩]; simp⟩) (by decide) (by decide) ?_
  change rn_T w _ _ _ _ 7 432 _ _ (.ref (a + 7) :: _) (rz_up g6 (a + 7) _) _
  have e1 : rz_up g6 (a + 7) (.inl (0, 36, .inl (fun _ => 0))) a = some (.inr (4, [.null, .null, .int 0, .ref (a + 1), .ref (a + 2), .ref (a + 3), .ref (a + 4), .ref (a + 5), .ref (a + 6), .null, .int 0, .null, .null, .null, .null, .int 0, .null, .null])) := by rw [rz_up_n _ _ (by omega)]; exact hob
  refine rn_blk' [(.putfield 34, 3, 4, 9)] (by decide +kernel) (by omega) (by omega) (fun K R hK hR => ?_)
  simp only [List.length_cons, List.length_nil, Nat.reduceLT, rf_4_9, ↓rx_nil, ↓rx_putfield, ↓ry_obu, ↓ry_vr, true_and, ↓rh_ob e1, rz_set, rz_nol, rz_clr, List.set_cons_zero, List.set_cons_succ, rz_tr, Nat.reduceAdd, Int.reduceAdd, Int.reduceToNat, Int.reduceSub, Int.reduceNeg, Int.cast_ofNat_Int]
  refine hK _ _ _ _ ?_
  clear e1
  generalize hg : rz_up (rz_up g6 (a + 7) _) a _ = g7
  have hst : ∀ x, x ≠ a → x < a + 7 → g7 x = g6 x := fun x h1 h2 => by rw [← hg, rz_up_n _ _ h1, rz_up_n _ _ (by omega)]
  have hob : g7 a = some (.inr (4, [.null, .null, .int 0, .ref (a + 1), .ref (a + 2), .ref (a + 3), .ref (a + 4), .ref (a + 5), .ref (a + 6), .ref (a + 7), .int 0, .null, .null, .null, .null, .int 0, .null, .null])) := by rw [← hg, rz_up_s]
  have hfr : ∀ x, x < a → g7 x = G x := fun x hx => (hst x (by omega) (by omega)).trans (hfr x hx)
  have hs4 := (hst (a + 4) (by omega) (by omega)).trans hs4
  have hs5 := (hst (a + 5) (by omega) (by omega)).trans hs5
  have hn7 : g7 (a + 7) = some (.inl (0, 36, .inl (fun _ => 0))) := by rw [← hg, rz_up_n _ _ (by omega), rz_up_s]
  have hce : ∀ o, 1 ≤ o → o < 8 → (o ≠ 4 ∧ o ≠ 5) → g7 (a + o) = some (ps_neu a o) := fun o h1 h2 h3 => by
    by_cases c : o < 7
    · exact (hst _ (by omega) (by omega)).trans (hce o h1 c h3)
    by_cases c7 : o = 7
    · subst c7; exact hn7
    omega
  clear hg hst hn7
  refine rn_blk' [(.aload_n 0, 1, 0, 0), (.bipush 73, 2, 0, 0)] (by decide +kernel) (by omega) (by omega) (fun K R hK hR => ?_)
  simp only [rw_b73, ↓rx_aload_n0, ↓rx_bipush, ↓rx_nil, ↓ry_lr0s, ↓ry_lr0z, rz_set, rz_nol, rz_clr, List.set_cons_zero, List.set_cons_succ, rz_tr, Nat.reduceAdd, Int.reduceAdd, Int.reduceToNat, Int.reduceSub, Int.reduceNeg, Int.cast_ofNat_Int]
  refine hK _ _ _ _ ?_
  refine rn_na_i (N := 73) (by decide) (by decide +kernel) (Or.inr ⟨a + 7, rfl, by rw [hce 7 (by decide) (by decide) ⟨by decide, by decide⟩]; simp⟩) (by decide) (by decide) ?_
  change rn_T w _ _ _ _ 8 505 _ _ (.ref (a + 8) :: _) (rz_up g7 (a + 8) _) _
  have e1 : rz_up g7 (a + 8) (.inl (0, 73, .inl (fun _ => 0))) a = some (.inr (4, [.null, .null, .int 0, .ref (a + 1), .ref (a + 2), .ref (a + 3), .ref (a + 4), .ref (a + 5), .ref (a + 6), .ref (a + 7), .int 0, .null, .null, .null, .null, .int 0, .null, .null])) := by rw [rz_up_n _ _ (by omega)]; exact hob
  refine rn_blk' [(.putfield 37, 3, 4, 11)] (by decide +kernel) (by omega) (by omega) (fun K R hK hR => ?_)
  simp only [List.length_cons, List.length_nil, Nat.reduceLT, rf_4_11, ↓rx_nil, ↓rx_putfield, ↓ry_obu, ↓ry_vr, true_and, ↓rh_ob e1, rz_set, rz_nol, rz_clr, List.set_cons_zero, List.set_cons_succ, rz_tr, Nat.reduceAdd, Int.reduceAdd, Int.reduceToNat, Int.reduceSub, Int.reduceNeg, Int.cast_ofNat_Int]
  refine hK _ _ _ _ ?_
  clear e1
  generalize hg : rz_up (rz_up g7 (a + 8) _) a _ = g8
  have hst : ∀ x, x ≠ a → x < a + 8 → g8 x = g7 x := fun x h1 h2 => by rw [← hg, rz_up_n _ _ h1, rz_up_n _ _ (by omega)]
  have hob : g8 a = some (.inr (4, [.null, .null, .int 0, .ref (a + 1), .ref (a + 2), .ref (a + 3), .ref (a + 4), .ref (a + 5), .ref (a + 6), .ref (a + 7), .int 0, .ref (a + 8), .null, .null, .null, .int 0, .null, .null])) := by rw [← hg, rz_up_s]
  have hfr : ∀ x, x < a → g8 x = G x := fun x hx => (hst x (by omega) (by omega)).trans (hfr x hx)
  have hs4 := (hst (a + 4) (by omega) (by omega)).trans hs4
  have hs5 := (hst (a + 5) (by omega) (by omega)).trans hs5
  have hn8 : g8 (a + 8) = some (.inl (0, 73, .inl (fun _ => 0))) := by rw [← hg, rz_up_n _ _ (by omega), rz_up_s]
  have hce : ∀ o, 1 ≤ o → o < 9 → (o ≠ 4 ∧ o ≠ 5) → g8 (a + o) = some (ps_neu a o) := fun o h1 h2 h3 => by
    by_cases c : o < 8
    · exact (hst _ (by omega) (by omega)).trans (hce o h1 c h3)
    by_cases c8 : o = 8
    · subst c8; exact hn8
    omega
  clear hg hst hn8
  refine rn_blk' [(.aload_n 0, 1, 0, 0), (.bipush 73, 2, 0, 0)] (by decide +kernel) (by omega) (by omega) (fun K R hK hR => ?_)
  simp only [rw_b73, ↓rx_aload_n0, ↓rx_bipush, ↓rx_nil, ↓ry_lr0s, ↓ry_lr0z, rz_set, rz_nol, rz_clr, List.set_cons_zero, List.set_cons_succ, rz_tr, Nat.reduceAdd, Int.reduceAdd, Int.reduceToNat, Int.reduceSub, Int.reduceNeg, Int.cast_ofNat_Int]
  refine hK _ _ _ _ ?_
  refine rn_na_i (N := 73) (by decide) (by decide +kernel) (Or.inr ⟨a + 8, rfl, by rw [hce 8 (by decide) (by decide) ⟨by decide, by decide⟩]; simp⟩) (by decide) (by decide) ?_
  change rn_T w _ _ _ _ 9 578 _ _ (.ref (a + 9) :: _) (rz_up g8 (a + 9) _) _
  have e1 : rz_up g8 (a + 9) (.inl (0, 73, .inl (fun _ => 0))) a = some (.inr (4, [.null, .null, .int 0, .ref (a + 1), .ref (a + 2), .ref (a + 3), .ref (a + 4), .ref (a + 5), .ref (a + 6), .ref (a + 7), .int 0, .ref (a + 8), .null, .null, .null, .int 0, .null, .null])) := by rw [rz_up_n _ _ (by omega)]; exact hob
  refine rn_blk' [(.putfield 40, 3, 4, 12)] (by decide +kernel) (by omega) (by omega) (fun K R hK hR => ?_)
  simp only [List.length_cons, List.length_nil, Nat.reduceLT, rf_4_12, ↓rx_nil, ↓rx_putfield, ↓ry_obu, ↓ry_vr, true_and, ↓rh_ob e1, rz_set, rz_nol, rz_clr, List.set_cons_zero, List.set_cons_succ, rz_tr, Nat.reduceAdd, Int.reduceAdd, Int.reduceToNat, Int.reduceSub, Int.reduceNeg, Int.cast_ofNat_Int]
  refine hK _ _ _ _ ?_
  clear e1
  generalize hg : rz_up (rz_up g8 (a + 9) _) a _ = g9
  have hst : ∀ x, x ≠ a → x < a + 9 → g9 x = g8 x := fun x h1 h2 => by rw [← hg, rz_up_n _ _ h1, rz_up_n _ _ (by omega)]
  have hob : g9 a = some (.inr (4, [.null, .null, .int 0, .ref (a + 1), .ref (a + 2), .ref (a + 3), .ref (a + 4), .ref (a + 5), .ref (a + 6), .ref (a + 7), .int 0, .ref (a + 8), .ref (a + 9), .null, .null, .int 0, .null, .null])) := by rw [← hg, rz_up_s]
  have hfr : ∀ x, x < a → g9 x = G x := fun x hx => (hst x (by omega) (by omega)).trans (hfr x hx)
  have hs4 := (hst (a + 4) (by omega) (by omega)).trans hs4
  have hs5 := (hst (a + 5) (by omega) (by omega)).trans hs5
  have hn9 : g9 (a + 9) = some (.inl (0, 73, .inl (fun _ => 0))) := by rw [← hg, rz_up_n _ _ (by omega), rz_up_s]
  have hce : ∀ o, 1 ≤ o → o < 10 → (o ≠ 4 ∧ o ≠ 5) → g9 (a + o) = some (ps_neu a o) := fun o h1 h2 h3 => by
    by_cases c : o < 9
    · exact (hst _ (by omega) (by omega)).trans (hce o h1 c h3)
    by_cases c9 : o = 9
    · subst c9; exact hn9
    omega
  clear hg hst hn9
  refine rn_blk' [(.aload_n 0, 1, 0, 0), (.bipush 73, 2, 0, 0)] (by decide +kernel) (by omega) (by omega) (fun K R hK hR => ?_)
  simp only [rw_b73, ↓rx_aload_n0, ↓rx_bipush, ↓rx_nil, ↓ry_lr0s, ↓ry_lr0z, rz_set, rz_nol, rz_clr, List.set_cons_zero, List.set_cons_succ, rz_tr, Nat.reduceAdd, Int.reduceAdd, Int.reduceToNat, Int.reduceSub, Int.reduceNeg, Int.cast_ofNat_Int]
  refine hK _ _ _ _ ?_
  refine rn_na_i (N := 73) (by decide) (by decide +kernel) (Or.inr ⟨a + 9, rfl, by rw [hce 9 (by decide) (by decide) ⟨by decide, by decide⟩]; simp⟩) (by decide) (by decide) ?_
  change rn_T w _ _ _ _ 10 651 _ _ (.ref (a + 10) :: _) (rz_up g9 (a + 10) _) _
  have e1 : rz_up g9 (a + 10) (.inl (0, 73, .inl (fun _ => 0))) a = some (.inr (4, [.null, .null, .int 0, .ref (a + 1), .ref (a + 2), .ref (a + 3), .ref (a + 4), .ref (a + 5), .ref (a + 6), .ref (a + 7), .int 0, .ref (a + 8), .ref (a + 9), .null, .null, .int 0, .null, .null])) := by rw [rz_up_n _ _ (by omega)]; exact hob
  refine rn_blk' [(.putfield 43, 3, 4, 13)] (by decide +kernel) (by omega) (by omega) (fun K R hK hR => ?_)
  simp only [List.length_cons, List.length_nil, Nat.reduceLT, rf_4_13, ↓rx_nil, ↓rx_putfield, ↓ry_obu, ↓ry_vr, true_and, ↓rh_ob e1, rz_set, rz_nol, rz_clr, List.set_cons_zero, List.set_cons_succ, rz_tr, Nat.reduceAdd, Int.reduceAdd, Int.reduceToNat, Int.reduceSub, Int.reduceNeg, Int.cast_ofNat_Int]
  refine hK _ _ _ _ ?_
  clear e1
  generalize hg : rz_up (rz_up g9 (a + 10) _) a _ = g10
  have hst : ∀ x, x ≠ a → x < a + 10 → g10 x = g9 x := fun x h1 h2 => by rw [← hg, rz_up_n _ _ h1, rz_up_n _ _ (by omega)]
  have hob : g10 a = some (.inr (4, [.null, .null, .int 0, .ref (a + 1), .ref (a + 2), .ref (a + 3), .ref (a + 4), .ref (a + 5), .ref (a + 6), .ref (a + 7), .int 0, .ref (a + 8), .ref (a + 9), .ref (a + 10), .null, .int 0, .null, .null])) := by rw [← hg, rz_up_s]
  have hfr : ∀ x, x < a → g10 x = G x := fun x hx => (hst x (by omega) (by omega)).trans (hfr x hx)
  have hs4 := (hst (a + 4) (by omega) (by omega)).trans hs4
  have hs5 := (hst (a + 5) (by omega) (by omega)).trans hs5
  have hn10 : g10 (a + 10) = some (.inl (0, 73, .inl (fun _ => 0))) := by rw [← hg, rz_up_n _ _ (by omega), rz_up_s]
  have hce : ∀ o, 1 ≤ o → o < 11 → (o ≠ 4 ∧ o ≠ 5) → g10 (a + o) = some (ps_neu a o) := fun o h1 h2 h3 => by
    by_cases c : o < 10
    · exact (hst _ (by omega) (by omega)).trans (hce o h1 c h3)
    by_cases c10 : o = 10
    · subst c10; exact hn10
    omega
  clear hg hst hn10
  refine rn_blk' [(.aload_n 0, 1, 0, 0), (.bipush 73, 2, 0, 0)] (by decide +kernel) (by omega) (by omega) (fun K R hK hR => ?_)
  simp only [rw_b73, ↓rx_aload_n0, ↓rx_bipush, ↓rx_nil, ↓ry_lr0s, ↓ry_lr0z, rz_set, rz_nol, rz_clr, List.set_cons_zero, List.set_cons_succ, rz_tr, Nat.reduceAdd, Int.reduceAdd, Int.reduceToNat, Int.reduceSub, Int.reduceNeg, Int.cast_ofNat_Int]
  refine hK _ _ _ _ ?_
  refine rn_na_i (N := 73) (by decide) (by decide +kernel) (Or.inr ⟨a + 10, rfl, by rw [hce 10 (by decide) (by decide) ⟨by decide, by decide⟩]; simp⟩) (by decide) (by decide) ?_
  change rn_T w _ _ _ _ 11 724 _ _ (.ref (a + 11) :: _) (rz_up g10 (a + 11) _) _
  have e1 : rz_up g10 (a + 11) (.inl (0, 73, .inl (fun _ => 0))) a = some (.inr (4, [.null, .null, .int 0, .ref (a + 1), .ref (a + 2), .ref (a + 3), .ref (a + 4), .ref (a + 5), .ref (a + 6), .ref (a + 7), .int 0, .ref (a + 8), .ref (a + 9), .ref (a + 10), .null, .int 0, .null, .null])) := by rw [rz_up_n _ _ (by omega)]; exact hob
  refine rn_blk' [(.putfield 46, 3, 4, 14)] (by decide +kernel) (by omega) (by omega) (fun K R hK hR => ?_)
  simp only [List.length_cons, List.length_nil, Nat.reduceLT, rf_4_14, ↓rx_nil, ↓rx_putfield, ↓ry_obu, ↓ry_vr, true_and, ↓rh_ob e1, rz_set, rz_nol, rz_clr, List.set_cons_zero, List.set_cons_succ, rz_tr, Nat.reduceAdd, Int.reduceAdd, Int.reduceToNat, Int.reduceSub, Int.reduceNeg, Int.cast_ofNat_Int]
  refine hK _ _ _ _ ?_
  clear e1
  generalize hg : rz_up (rz_up g10 (a + 11) _) a _ = g11
  have hst : ∀ x, x ≠ a → x < a + 11 → g11 x = g10 x := fun x h1 h2 => by rw [← hg, rz_up_n _ _ h1, rz_up_n _ _ (by omega)]
  have hob : g11 a = some (.inr (4, [.null, .null, .int 0, .ref (a + 1), .ref (a + 2), .ref (a + 3), .ref (a + 4), .ref (a + 5), .ref (a + 6), .ref (a + 7), .int 0, .ref (a + 8), .ref (a + 9), .ref (a + 10), .ref (a + 11), .int 0, .null, .null])) := by rw [← hg, rz_up_s]
  have hfr : ∀ x, x < a → g11 x = G x := fun x hx => (hst x (by omega) (by omega)).trans (hfr x hx)
  have hs4 := (hst (a + 4) (by omega) (by omega)).trans hs4
  have hs5 := (hst (a + 5) (by omega) (by omega)).trans hs5
  have hn11 : g11 (a + 11) = some (.inl (0, 73, .inl (fun _ => 0))) := by rw [← hg, rz_up_n _ _ (by omega), rz_up_s]
  have hce : ∀ o, 1 ≤ o → o < 12 → (o ≠ 4 ∧ o ≠ 5) → g11 (a + o) = some (ps_neu a o) := fun o h1 h2 h3 => by
    by_cases c : o < 11
    · exact (hst _ (by omega) (by omega)).trans (hce o h1 c h3)
    by_cases c11 : o = 11
    · subst c11; exact hn11
    omega
  clear hg hst hn11
  refine rn_blk' [(.aload_n 0, 1, 0, 0)] (by decide +kernel) (by omega) (by omega) (fun K R hK hR => ?_)
  simp only [↓rx_aload_n0, ↓rx_nil, ↓ry_lr0s, ↓ry_lr0z, rz_set, rz_nol, rz_clr, List.set_cons_zero, List.set_cons_succ, rz_tr, Nat.reduceAdd, Int.reduceAdd, Int.reduceToNat, Int.reduceSub, Int.reduceNeg, Int.cast_ofNat_Int]
  refine hK _ _ _ _ ?_
  refine rn_new (ci := 0) (r := ("WriterDesk$Word", F_Word, 2)) (fs := [.null, .int 0]) rfl (rz_j1 112 rfl rfl) (rz_j1 34 rfl rfl) (rz_j1 2 rfl rfl) (by decide +kernel) (by decide) (Or.inr ⟨a + 11, rfl, by rw [hce 11 (by decide) (by decide) ⟨by decide, by decide⟩]; simp⟩) (by decide) (by decide) ?_
  change rn_T w _ _ _ _ (11 + 1) (724 + 2) _ _ (.ref (a + 12) :: _) (rz_up g11 (a + 12) _) _
  refine rn_blk' [(.dup, 1, 0, 0), (.sipush 400, 3, 0, 0)] (by decide +kernel) (by omega) (by omega) (fun K R hK hR => ?_)
  simp only [rw_s400, ↓rx_dup, ↓rx_nil, ↓rx_sipush, ↓ry_v1i, ↓ry_v1r, rz_set, rz_nol, rz_clr, List.set_cons_zero, List.set_cons_succ, rz_tr, Nat.reduceAdd, Int.reduceAdd, Int.reduceToNat, Int.reduceSub, Int.reduceNeg, Int.cast_ofNat_Int]
  refine hK _ _ _ _ ?_
  refine rn_cI (As := [.int (nI 400)]) (b := a + 12) (S := [.ref (a + 12), .ref a]) (mc' := 1) (ms' := 26) l_Pair_49 (by decide +kernel) rfl (Nat.le_of_ble_eq_true rfl) (Or.inr ⟨a + 12, by rfl, by rw [rz_up_s]; simp⟩) (by decide) (by decide) (by
    have := c_Word_init (w := w) (d := d) (G := rz_up g11 (a + 12) (.inr (0, [.null, .int 0]))) (a := a + 12) (rm := 400) (by decide) (by decide) (rz_up_s _ _ _) rfl
    exact this) (fun r G' hr => ?_)
  obtain ⟨rfl, rfl⟩ := hr
  simp only [Option.toList, List.nil_append]
  change rn_T w _ _ _ _ 13 752 _ _ _ (wd_put _ _ 26 []) _
  have e1 : wd_put (rz_up g11 (a + 12) (.inr (0, [.null, .int 0]))) (a + 12) 26 [] a = some (.inr (4, [.null, .null, .int 0, .ref (a + 1), .ref (a + 2), .ref (a + 3), .ref (a + 4), .ref (a + 5), .ref (a + 6), .ref (a + 7), .int 0, .ref (a + 8), .ref (a + 9), .ref (a + 10), .ref (a + 11), .int 0, .null, .null])) := by rw [wd_pout (by omega) (by omega), rz_up_n _ _ (by omega)]; exact hob
  refine rn_blk' [(.putfield 52, 3, 4, 16)] (by decide +kernel) (by omega) (by omega) (fun K R hK hR => ?_)
  simp only [List.length_cons, List.length_nil, Nat.reduceLT, rf_4_16, ↓rx_nil, ↓rx_putfield, ↓ry_obu, ↓ry_vr, true_and, ↓rh_ob e1, rz_set, rz_nol, rz_clr, List.set_cons_zero, List.set_cons_succ, rz_tr, Nat.reduceAdd, Int.reduceAdd, Int.reduceToNat, Int.reduceSub, Int.reduceNeg, Int.cast_ofNat_Int]
  refine hK _ _ _ _ ?_
  clear e1
  generalize hg : rz_up (wd_put (rz_up g11 (a + 12) _) (a + 12) 26 []) a _ = g12
  have hst : ∀ x, x ≠ a → x < a + 12 → g12 x = g11 x := fun x h1 h2 => by rw [← hg, rz_up_n _ _ h1, wd_pout (by omega) (by omega), rz_up_n _ _ (by omega)]
  have hob : g12 a = some (.inr (4, [.null, .null, .int 0, .ref (a + 1), .ref (a + 2), .ref (a + 3), .ref (a + 4), .ref (a + 5), .ref (a + 6), .ref (a + 7), .int 0, .ref (a + 8), .ref (a + 9), .ref (a + 10), .ref (a + 11), .int 0, .ref (a + 12), .null])) := by rw [← hg, rz_up_s]
  have hfr : ∀ x, x < a → g12 x = G x := fun x hx => (hst x (by omega) (by omega)).trans (hfr x hx)
  have hs4 := (hst (a + 4) (by omega) (by omega)).trans hs4
  have hs5 := (hst (a + 5) (by omega) (by omega)).trans hs5
  have hn12 : g12 (a + 12) = some (wd_o (a + 12) []) := by rw [← hg, rz_up_n _ _ (by omega)]; exact (wd_pis (wd_ok_nil (by decide))).1
  have hn13 : g12 (a + 13) = some (wd_a 26 []) := by rw [← hg, rz_up_n _ _ (by omega)]; exact (wd_pis (wd_ok_nil (by decide))).2.1
  have hce : ∀ o, 1 ≤ o → o < 14 → (o ≠ 4 ∧ o ≠ 5) → g12 (a + o) = some (ps_neu a o) := fun o h1 h2 h3 => by
    by_cases c : o < 12
    · exact (hst _ (by omega) (by omega)).trans (hce o h1 c h3)
    by_cases c12 : o = 12
    · subst c12; exact hn12
    by_cases c13 : o = 13
    · subst c13; exact hn13
    omega
  clear hg hst hn12 hn13
  refine rn_blk' [(.aload_n 0, 1, 0, 0)] (by decide +kernel) (by omega) (by omega) (fun K R hK hR => ?_)
  simp only [↓rx_aload_n0, ↓rx_nil, ↓ry_lr0s, ↓ry_lr0z, rz_set, rz_nol, rz_clr, List.set_cons_zero, List.set_cons_succ, rz_tr, Nat.reduceAdd, Int.reduceAdd, Int.reduceToNat, Int.reduceSub, Int.reduceNeg, Int.cast_ofNat_Int]
  refine hK _ _ _ _ ?_
  refine rn_new (ci := 0) (r := ("WriterDesk$Word", F_Word, 2)) (fs := [.null, .int 0]) rfl (rz_j1 112 rfl rfl) (rz_j1 34 rfl rfl) (rz_j1 2 rfl rfl) (by decide +kernel) (by decide) (Or.inr ⟨a + 13, rfl, by rw [hce 13 (by decide) (by decide) ⟨by decide, by decide⟩]; simp⟩) (by decide) (by decide) ?_
  change rn_T w _ _ _ _ (13 + 1) (752 + 2) _ _ (.ref (a + 14) :: _) (rz_up g12 (a + 14) _) _
  refine rn_blk' [(.dup, 1, 0, 0), (.sipush 400, 3, 0, 0)] (by decide +kernel) (by omega) (by omega) (fun K R hK hR => ?_)
  simp only [rw_s400, ↓rx_dup, ↓rx_nil, ↓rx_sipush, ↓ry_v1i, ↓ry_v1r, rz_set, rz_nol, rz_clr, List.set_cons_zero, List.set_cons_succ, rz_tr, Nat.reduceAdd, Int.reduceAdd, Int.reduceToNat, Int.reduceSub, Int.reduceNeg, Int.cast_ofNat_Int]
  refine hK _ _ _ _ ?_
  refine rn_cI (As := [.int (nI 400)]) (b := a + 14) (S := [.ref (a + 14), .ref a]) (mc' := 1) (ms' := 26) l_Pair_49 (by decide +kernel) rfl (Nat.le_of_ble_eq_true rfl) (Or.inr ⟨a + 14, by rfl, by rw [rz_up_s]; simp⟩) (by decide) (by decide) (by
    have := c_Word_init (w := w) (d := d) (G := rz_up g12 (a + 14) (.inr (0, [.null, .int 0]))) (a := a + 14) (rm := 400) (by decide) (by decide) (rz_up_s _ _ _) rfl
    exact this) (fun r G' hr => ?_)
  obtain ⟨rfl, rfl⟩ := hr
  simp only [Option.toList, List.nil_append]
  change rn_T w _ _ _ _ 15 780 _ _ _ (wd_put _ _ 26 []) _
  have e1 : wd_put (rz_up g12 (a + 14) (.inr (0, [.null, .int 0]))) (a + 14) 26 [] a = some (.inr (4, [.null, .null, .int 0, .ref (a + 1), .ref (a + 2), .ref (a + 3), .ref (a + 4), .ref (a + 5), .ref (a + 6), .ref (a + 7), .int 0, .ref (a + 8), .ref (a + 9), .ref (a + 10), .ref (a + 11), .int 0, .ref (a + 12), .null])) := by rw [wd_pout (by omega) (by omega), rz_up_n _ _ (by omega)]; exact hob
  refine rn_blk' [(.putfield 56, 3, 4, 17)] (by decide +kernel) (by omega) (by omega) (fun K R hK hR => ?_)
  simp only [List.length_cons, List.length_nil, Nat.reduceLT, rf_4_17, ↓rx_nil, ↓rx_putfield, ↓ry_obu, ↓ry_vr, true_and, ↓rh_ob e1, rz_set, rz_nol, rz_clr, List.set_cons_zero, List.set_cons_succ, rz_tr, Nat.reduceAdd, Int.reduceAdd, Int.reduceToNat, Int.reduceSub, Int.reduceNeg, Int.cast_ofNat_Int]
  refine hK _ _ _ _ ?_
  clear e1
  generalize hg : rz_up (wd_put (rz_up g12 (a + 14) _) (a + 14) 26 []) a _ = g13
  have hst : ∀ x, x ≠ a → x < a + 14 → g13 x = g12 x := fun x h1 h2 => by rw [← hg, rz_up_n _ _ h1, wd_pout (by omega) (by omega), rz_up_n _ _ (by omega)]
  have hob : g13 a = some (.inr (4, [.null, .null, .int 0, .ref (a + 1), .ref (a + 2), .ref (a + 3), .ref (a + 4), .ref (a + 5), .ref (a + 6), .ref (a + 7), .int 0, .ref (a + 8), .ref (a + 9), .ref (a + 10), .ref (a + 11), .int 0, .ref (a + 12), .ref (a + 14)])) := by rw [← hg, rz_up_s]
  have hfr : ∀ x, x < a → g13 x = G x := fun x hx => (hst x (by omega) (by omega)).trans (hfr x hx)
  have hs4 := (hst (a + 4) (by omega) (by omega)).trans hs4
  have hs5 := (hst (a + 5) (by omega) (by omega)).trans hs5
  have hn14 : g13 (a + 14) = some (wd_o (a + 14) []) := by rw [← hg, rz_up_n _ _ (by omega)]; exact (wd_pis (wd_ok_nil (by decide))).1
  have hn15 : g13 (a + 15) = some (wd_a 26 []) := by rw [← hg, rz_up_n _ _ (by omega)]; exact (wd_pis (wd_ok_nil (by decide))).2.1
  have hce : ∀ o, 1 ≤ o → o < 16 → (o ≠ 4 ∧ o ≠ 5) → g13 (a + o) = some (ps_neu a o) := fun o h1 h2 h3 => by
    by_cases c : o < 14
    · exact (hst _ (by omega) (by omega)).trans (hce o h1 c h3)
    by_cases c14 : o = 14
    · subst c14; exact hn14
    by_cases c15 : o = 15
    · subst c15; exact hn15
    omega
  clear hg hst hn14 hn15
  have fin : ∀ (g : rz_G) (f4 : Nat → Option Nat) (f5 : Nat → Option Nat) (z1 : Option Value), (∀ x, x < a → g x = G x) → g a = some (.inr (4, [.null, .null, .int 0, .ref (a + 1), .ref (a + 2), .ref (a + 3), .ref (a + 4), .ref (a + 5), .ref (a + 6), .ref (a + 7), .int 0, .ref (a + 8), .ref (a + 9), .ref (a + 10), .ref (a + 11), .int 0, .ref (a + 12), .ref (a + 14)])) → (∀ o, 1 ≤ o → o < 304 → (o ≠ 4 ∧ o ≠ 5) → g (a + o) = some (ps_neu a o)) → g (a + 4) = some (.inl (4, 72, .inr (.inr (.inr (.inr f4))))) → (∀ k, k < 72 → f4 k = some (a + (16 + 2 * (2 * k)))) → g (a + 5) = some (.inl (4, 72, .inr (.inr (.inr (.inr f5))))) → (∀ k, k < 72 → f5 k = some (a + (16 + 2 * (2 * k + 1)))) → rn_T w (d + 2) 303 4812 m_Pair_init 303 4812 168 [some (.ref a), z1] [] g ((a + 1, (fun r G' => r = none ∧ (∀ x, x < a → G' x = G x) ∧ ∀ o, o < 304 → G' (a + o) = some (ps_neu a o))) : rn_P) := by
    intro g f4 f5 z1 hfr hob hce hs4 hf4 hs5 hf5
    refine rn_ext (f' := fun k => some (a + (16 + 2 * (2 * k)))) hs4 hf4 ?_
    generalize hg : rz_up g (a + 4) _ = h0
    have hst : ∀ x, x ≠ a + 4 → h0 x = g x := fun x hx => by rw [← hg, rz_up_n _ _ hx]
    have he4 : h0 (a + 4) = some (.inl (4, 72, .inr (.inr (.inr (.inr (fun k => some (a + (16 + 2 * (2 * k))))))))) := by rw [← hg, rz_up_s]
    have hfr : ∀ x, x < a → h0 x = G x := fun x hx => (hst x (by omega)).trans (hfr x hx)
    have hob := (hst a (by omega)).trans hob
    have hce : ∀ o, 1 ≤ o → o < 304 → (o ≠ 4 ∧ o ≠ 5) → h0 (a + o) = some (ps_neu a o) := fun o h1 h2 h3 => (hst _ (by omega)).trans (hce o h1 h2 h3)
    have hs5 := (hst (a + 5) (by omega)).trans hs5
    clear hg hst
    refine rn_ext (f' := fun k => some (a + (16 + 2 * (2 * k + 1)))) hs5 hf5 ?_
    generalize hg : rz_up h0 (a + 5) _ = h1
    have hst : ∀ x, x ≠ a + 5 → h1 x = h0 x := fun x hx => by rw [← hg, rz_up_n _ _ hx]
    have he5 : h1 (a + 5) = some (.inl (4, 72, .inr (.inr (.inr (.inr (fun k => some (a + (16 + 2 * (2 * k + 1))))))))) := by rw [← hg, rz_up_s]
    have hfr : ∀ x, x < a → h1 x = G x := fun x hx => (hst x (by omega)).trans (hfr x hx)
    have hob := (hst a (by omega)).trans hob
    have hce : ∀ o, 1 ≤ o → o < 304 → (o ≠ 4 ∧ o ≠ 5) → h1 (a + o) = some (ps_neu a o) := fun o h1 h2 h3 => (hst _ (by omega)).trans (hce o h1 h2 h3)
    have he4 := (hst (a + 4) (by omega)).trans he4
    clear hg hst
    refine rn_blk' [(.return_, 1, 0, 0)] (by decide +kernel) (by omega) (by omega) (fun K R hK hR => ?_)
    simp only [↓rx_nil, ↓rx_return_, rz_set, rz_nol, rz_clr, List.set_cons_zero, List.set_cons_succ, rz_tr, Nat.reduceAdd, Int.reduceAdd, Int.reduceToNat, Int.reduceSub, Int.reduceNeg, Int.cast_ofNat_Int]
    refine hR _ _ (rz_nb_i (by decide)) ⟨rfl, hfr, fun o ho => ?_⟩
    by_cases c : o = 0
    · subst c; exact hob
    by_cases c4 : o = 4
    · subst c4; exact he4
    by_cases c5 : o = 5
    · subst c5; exact he5
    exact hce o (by omega) ho ⟨c4, c5⟩
  have lp0 : ∀ (k i : Nat) (g : rz_G) (f4 : Nat → Option Nat) (f5 : Nat → Option Nat), i + k = 72 → (∀ x, x < a → g x = G x) → g a = some (.inr (4, [.null, .null, .int 0, .ref (a + 1), .ref (a + 2), .ref (a + 3), .ref (a + 4), .ref (a + 5), .ref (a + 6), .ref (a + 7), .int 0, .ref (a + 8), .ref (a + 9), .ref (a + 10), .ref (a + 11), .int 0, .ref (a + 12), .ref (a + 14)])) → (∀ o, 1 ≤ o → o < 16 + 4 * i → (o ≠ 4 ∧ o ≠ 5) → g (a + o) = some (ps_neu a o)) → g (a + 4) = some (.inl (4, 72, .inr (.inr (.inr (.inr f4))))) → (∀ k, k < i → f4 k = some (a + (16 + 2 * (2 * k)))) → g (a + 5) = some (.inl (4, 72, .inr (.inr (.inr (.inr f5))))) → (∀ k, k < i → f5 k = some (a + (16 + 2 * (2 * k + 1)))) → rn_T w (d + 2) 303 4812 m_Pair_init (15 + 4 * i) (780 + 56 * i) 124 [some (.ref a), some (.int (nI i))] [] g ((a + 1, (fun r G' => r = none ∧ (∀ x, x < a → G' x = G x) ∧ ∀ o, o < 304 → G' (a + o) = some (ps_neu a o))) : rn_P) := by
    intro k
    induction k with
    | zero =>
      intro i g f4 f5 hik hfr hob hce hs4 hf4 hs5 hf5
      have hi : i = 72 := by omega
      subst hi
      refine rn_blk' [(.iload_n 1, 1, 0, 0), (.bipush 72, 2, 0, 0), (.if_icmp .ge 41, 3, 0, 0)] (by decide +kernel) (by omega) (by omega) (fun K R hK hR => ?_)
      simp only [rw_b72, ↓rx_bipush, ↓rx_if_icmp_ge, ↓rx_iload_n1, ↓rx_nil, ↓ry_i2, ↓ry_li0s, ↓ry_li0z, ↓rh_ob hob, rz_set, rz_nol, rz_clr, List.set_cons_zero, List.set_cons_succ, rz_tr, Nat.reduceAdd, Int.reduceAdd, Int.reduceToNat, Int.reduceSub, Int.reduceNeg, Int.cast_ofNat_Int]
      refine ⟨fun _ => hK _ _ _ _ ?_, fun q => absurd (Int32.le_refl _) q⟩
      exact fin g f4 f5 _ hfr hob hce hs4 hf4 hs5 hf5
    | succ k ih =>
      intro i g f4 f5 hik hfr hob hce hs4 hf4 hs5 hf5
      refine rn_blk' [(.iload_n 1, 1, 0, 0), (.bipush 72, 2, 0, 0), (.if_icmp .ge 41, 3, 0, 0), (.aload_n 0, 1, 0, 0), (.getfield 24, 3, 4, 6), (.iload_n 1, 1, 0, 0)] (by decide +kernel) (by omega) (by omega) (fun K R hK hR => ?_)
      simp only [rw_b72, ↓rx_aload_n0, ↓rx_bipush, ↓rx_getfield, ↓rx_if_icmp_ge, ↓rx_iload_n1, ↓rx_nil, ↓ry_fvs, ↓ry_fvz, ↓ry_i2, ↓ry_li0s, ↓ry_li0z, ↓ry_lr0s, ↓ry_lr0z, ↓ry_obu, ↓ry_r1, ↓rh_ob hob, rz_set, rz_nol, rz_clr, List.set_cons_zero, List.set_cons_succ, rz_tr, Nat.reduceAdd, Int.reduceAdd, Int.reduceToNat, Int.reduceSub, Int.reduceNeg, Int.cast_ofNat_Int]
      rw [nI_leI (by decide) (by omega)]
      refine ⟨fun q => by omega, fun _ => hK _ _ _ _ ?_⟩
      refine rn_new (ci := 0) (r := ("WriterDesk$Word", F_Word, 2)) (fs := [.null, .int 0]) rfl (rz_j1 112 rfl rfl) (rz_j1 34 rfl rfl) (rz_j1 2 rfl rfl) (by decide +kernel) (by decide) (Or.inr ⟨a + (15 + 4 * i), by show _ = a + 1 + _; omega, by rw [hce (15 + 4 * i) (by omega) (by omega) ⟨by omega, by omega⟩]; simp⟩) (by omega) (by show _ + 2 ≤ _; omega) ?_
      show rn_T w _ _ _ _ (15 + 4 * i + 1) (780 + 56 * i + 2) _ _ (.ref (a + 1 + (15 + 4 * i)) :: _) (rz_up g (a + 1 + (15 + 4 * i)) _) _
      rw [show a + 1 + (15 + 4 * i) = a + (16 + 4 * i) from by omega]
      refine rn_blk' [(.dup, 1, 0, 0), (.sipush 400, 3, 0, 0)] (by decide +kernel) (by omega) (by omega) (fun K R hK hR => ?_)
      simp only [rw_s400, ↓rx_dup, ↓rx_nil, ↓rx_sipush, ↓ry_v1i, ↓ry_v1r, rz_set, rz_nol, rz_clr, List.set_cons_zero, List.set_cons_succ, rz_tr, Nat.reduceAdd, Int.reduceAdd, Int.reduceToNat, Int.reduceSub, Int.reduceNeg, Int.cast_ofNat_Int]
      refine hK _ _ _ _ ?_
      refine rn_cI (As := [.int (nI 400)]) (b := a + (16 + 4 * i)) (S := [.ref (a + (16 + 4 * i)), .int (nI i), .ref (a + 4)]) (mc' := 1) (ms' := 26) l_Pair_49 (by decide +kernel) rfl (Nat.le_of_ble_eq_true rfl) (Or.inr ⟨a + (16 + 4 * i), by show _ = a + 1 + _; omega, by rw [rz_up_s]; simp⟩) (by omega) (by omega) (by
        have := c_Word_init (w := w) (d := d) (G := rz_up g (a + (16 + 4 * i)) (.inr (0, [.null, .int 0]))) (a := a + (16 + 4 * i)) (rm := 400) (by decide) (by decide) (rz_up_s _ _ _) rfl
        rw [show (a + 1) + (15 + 4 * i + 1) = a + (16 + 4 * i) + 1 from by omega]; exact this) (fun r G' hr => ?_)
      obtain ⟨rfl, rfl⟩ := hr
      simp only [Option.toList, List.nil_append]
      have hG4 : wd_put (rz_up g (a + (16 + 4 * i)) (.inr (0, [.null, .int 0]))) (a + (16 + 4 * i)) 26 [] (a + 4) = some (.inl (4, 72, .inr (.inr (.inr (.inr f4))))) := by rw [wd_pout (by omega) (by omega), rz_up_n _ _ (by omega)]; exact hs4
      refine rn_aastoreW (by decide +kernel) hG4 (wd_pis (wd_ok_nil (by decide))).1 (vp_in_nI (by omega) (by decide)) ?_
      rw [nI_clamp (by omega)]
      generalize hg : rz_up (wd_put (rz_up g (a + (16 + 4 * i)) _) (a + (16 + 4 * i)) 26 []) (a + 4) _ = q0
      have hst : ∀ x, x ≠ a + 4 → x < a + (16 + 4 * i) → q0 x = g x := fun x h1 h2 => by rw [← hg, rz_up_n _ _ h1, wd_pout (by omega) (by omega), rz_up_n _ _ (by omega)]
      have hw0 : q0 (a + (16 + 4 * i)) = some (wd_o (a + (16 + 4 * i)) []) := by rw [← hg, rz_up_n _ _ (by omega)]; exact (wd_pis (wd_ok_nil (by decide))).1
      have hlast : q0 (a + (17 + 4 * i)) = some (wd_a 26 []) := by rw [← hg, rz_up_n _ _ (by omega), show a + (17 + 4 * i) = a + (16 + 4 * i) + 1 from by omega]; exact (wd_pis (wd_ok_nil (by decide))).2.1
      have hsN : q0 (a + 4) = some (.inl (4, 72, .inr (.inr (.inr (.inr (va_up f4 i (some (a + (16 + 4 * i))))))))) := by rw [← hg, rz_up_s]
      have hfN : ∀ k, k < i + 1 → va_up f4 i (some (a + (16 + 4 * i))) k = some (a + (16 + 2 * (2 * k))) := fun k hk => by
        by_cases c : k = i
        · subst c; rw [va_up_self]; congr 1; omega
        · rw [va_up_ne _ _ c]; exact hf4 k (by omega)
      have hfr : ∀ x, x < a → q0 x = G x := fun x hx => (hst x (by omega) (by omega)).trans (hfr x hx)
      have hob := (hst a (by omega) (by omega)).trans hob
      have hs5 := (hst (a + 5) (by omega) (by omega)).trans hs5
      have hs4 := hsN
      have hf4 := hfN
      have hce : ∀ o, 1 ≤ o → o < 18 + 4 * i → (o ≠ 4 ∧ o ≠ 5) → q0 (a + o) = some (ps_neu a o) := fun o h1 h2 h3 => by
        by_cases c1 : o < 16 + 4 * i
        · exact (hst _ (by omega) (by omega)).trans (hce o h1 c1 h3)
        by_cases c2 : o = 16 + 4 * i
        · subst c2
          rw [hw0]
          rw [show 16 + 4 * i = 16 + 2 * (2 * i + 0) by omega, ps_nj0]
        · have c3 : o = 17 + 4 * i := by omega
          subst c3
          rw [hlast]
          rw [show 17 + 4 * i = 16 + 2 * (2 * i + 0) + 1 by omega, ps_nj1]
      clear hg hst hsN hfN hG4 hw0
      generalize va_up f4 i (some (a + (16 + 4 * i))) = f4 at *
      refine rn_blk' [(.aload_n 0, 1, 0, 0), (.getfield 28, 3, 4, 7), (.iload_n 1, 1, 0, 0)] (by decide +kernel) (by omega) (by omega) (fun K R hK hR => ?_)
      simp only [↓rx_aload_n0, ↓rx_getfield, ↓rx_iload_n1, ↓rx_nil, ↓ry_fvs, ↓ry_fvz, ↓ry_li0s, ↓ry_li0z, ↓ry_lr0s, ↓ry_lr0z, ↓ry_obu, ↓ry_r1, ↓rh_ob hob, rz_set, rz_nol, rz_clr, List.set_cons_zero, List.set_cons_succ, rz_tr, Nat.reduceAdd, Int.reduceAdd, Int.reduceToNat, Int.reduceSub, Int.reduceNeg, Int.cast_ofNat_Int]
      refine hK _ _ _ _ ?_
      refine rn_new (ci := 0) (r := ("WriterDesk$Word", F_Word, 2)) (fs := [.null, .int 0]) rfl (rz_j1 112 rfl rfl) (rz_j1 34 rfl rfl) (rz_j1 2 rfl rfl) (by decide +kernel) (by decide) (Or.inr ⟨a + (17 + 4 * i), by show _ = a + 1 + _; omega, by rw [hlast]; simp⟩) (by omega) (by show _ + 2 ≤ _; omega) ?_
      show rn_T w _ _ _ _ (15 + 4 * i + 1 + 1 + 1) (780 + 56 * i + 2 + 26 + 2) _ _ (.ref (a + 1 + (15 + 4 * i + 1 + 1)) :: _) (rz_up q0 (a + 1 + (15 + 4 * i + 1 + 1)) _) _
      rw [show a + 1 + (15 + 4 * i + 1 + 1) = a + (18 + 4 * i) from by omega]
      refine rn_blk' [(.dup, 1, 0, 0), (.sipush 400, 3, 0, 0)] (by decide +kernel) (by omega) (by omega) (fun K R hK hR => ?_)
      simp only [rw_s400, ↓rx_dup, ↓rx_nil, ↓rx_sipush, ↓ry_v1i, ↓ry_v1r, rz_set, rz_nol, rz_clr, List.set_cons_zero, List.set_cons_succ, rz_tr, Nat.reduceAdd, Int.reduceAdd, Int.reduceToNat, Int.reduceSub, Int.reduceNeg, Int.cast_ofNat_Int]
      refine hK _ _ _ _ ?_
      refine rn_cI (As := [.int (nI 400)]) (b := a + (18 + 4 * i)) (S := [.ref (a + (18 + 4 * i)), .int (nI i), .ref (a + 5)]) (mc' := 1) (ms' := 26) l_Pair_49 (by decide +kernel) rfl (Nat.le_of_ble_eq_true rfl) (Or.inr ⟨a + (18 + 4 * i), by show _ = a + 1 + _; omega, by rw [rz_up_s]; simp⟩) (by omega) (by omega) (by
        have := c_Word_init (w := w) (d := d) (G := rz_up q0 (a + (18 + 4 * i)) (.inr (0, [.null, .int 0]))) (a := a + (18 + 4 * i)) (rm := 400) (by decide) (by decide) (rz_up_s _ _ _) rfl
        rw [show (a + 1) + (15 + 4 * i + 1 + 1 + 1) = a + (18 + 4 * i) + 1 from by omega]; exact this) (fun r G' hr => ?_)
      obtain ⟨rfl, rfl⟩ := hr
      simp only [Option.toList, List.nil_append]
      have hG4 : wd_put (rz_up q0 (a + (18 + 4 * i)) (.inr (0, [.null, .int 0]))) (a + (18 + 4 * i)) 26 [] (a + 5) = some (.inl (4, 72, .inr (.inr (.inr (.inr f5))))) := by rw [wd_pout (by omega) (by omega), rz_up_n _ _ (by omega)]; exact hs5
      refine rn_aastoreW (by decide +kernel) hG4 (wd_pis (wd_ok_nil (by decide))).1 (vp_in_nI (by omega) (by decide)) ?_
      rw [nI_clamp (by omega)]
      generalize hg : rz_up (wd_put (rz_up q0 (a + (18 + 4 * i)) _) (a + (18 + 4 * i)) 26 []) (a + 5) _ = q1
      have hst : ∀ x, x ≠ a + 5 → x < a + (18 + 4 * i) → q1 x = q0 x := fun x h1 h2 => by rw [← hg, rz_up_n _ _ h1, wd_pout (by omega) (by omega), rz_up_n _ _ (by omega)]
      have hw0 : q1 (a + (18 + 4 * i)) = some (wd_o (a + (18 + 4 * i)) []) := by rw [← hg, rz_up_n _ _ (by omega)]; exact (wd_pis (wd_ok_nil (by decide))).1
      have hlast : q1 (a + (19 + 4 * i)) = some (wd_a 26 []) := by rw [← hg, rz_up_n _ _ (by omega), show a + (19 + 4 * i) = a + (18 + 4 * i) + 1 from by omega]; exact (wd_pis (wd_ok_nil (by decide))).2.1
      have hsN : q1 (a + 5) = some (.inl (4, 72, .inr (.inr (.inr (.inr (va_up f5 i (some (a + (18 + 4 * i))))))))) := by rw [← hg, rz_up_s]
      have hfN : ∀ k, k < i + 1 → va_up f5 i (some (a + (18 + 4 * i))) k = some (a + (16 + 2 * (2 * k + 1))) := fun k hk => by
        by_cases c : k = i
        · subst c; rw [va_up_self]; congr 1; omega
        · rw [va_up_ne _ _ c]; exact hf5 k (by omega)
      have hfr : ∀ x, x < a → q1 x = G x := fun x hx => (hst x (by omega) (by omega)).trans (hfr x hx)
      have hob := (hst a (by omega) (by omega)).trans hob
      have hs4 := (hst (a + 4) (by omega) (by omega)).trans hs4
      have hs5 := hsN
      have hf5 := hfN
      have hce : ∀ o, 1 ≤ o → o < 20 + 4 * i → (o ≠ 4 ∧ o ≠ 5) → q1 (a + o) = some (ps_neu a o) := fun o h1 h2 h3 => by
        by_cases c1 : o < 18 + 4 * i
        · exact (hst _ (by omega) (by omega)).trans (hce o h1 c1 h3)
        by_cases c2 : o = 18 + 4 * i
        · subst c2
          rw [hw0]
          rw [show 18 + 4 * i = 16 + 2 * (2 * i + 1) by omega, ps_nj0]
        · have c3 : o = 19 + 4 * i := by omega
          subst c3
          rw [hlast]
          rw [show 19 + 4 * i = 16 + 2 * (2 * i + 1) + 1 by omega, ps_nj1]
      clear hg hst hsN hfN hG4 hw0
      generalize va_up f5 i (some (a + (18 + 4 * i))) = f5 at *
      refine rn_blk' [(.iinc 1 1, 3, 0, 0), (.goto (-41), 3, 0, 0)] (by decide +kernel) (by omega) (by omega) (fun K R hK hR => ?_)
      simp only [rw_c1, ↓rx_goto, ↓rx_iinc, ↓rx_nil, ↓ry_li0s, ↓ry_li0z, nI_add, rz_set, rz_nol, rz_clr, List.set_cons_zero, List.set_cons_succ, rz_tr, Nat.reduceAdd, Int.reduceAdd, Int.reduceToNat, Int.reduceSub, Int.reduceNeg, Int.cast_ofNat_Int]
      have ih' := ih (i + 1) q1 f4 f5 (by omega) hfr hob (fun o h1 h2 h3 => hce o h1 (by omega) h3) hs4 hf4 hs5 hf5
      rw [show 15 + 4 * (i + 1) = 15 + 4 * i + 1 + 1 + 1 + 1 from by omega, show 780 + 56 * (i + 1) = 780 + 56 * i + 2 + 26 + 2 + 26 from by omega] at ih'
      exact hK _ _ _ _ ih'
  refine rn_blk' [(.iconst 0, 1, 0, 0), (.istore_n 1, 1, 0, 0)] (by decide +kernel) (by omega) (by omega) (fun K R hK hR => ?_)
  simp only [rw_c0, ↓rx_iconst, ↓rx_istore_n1, ↓rx_nil, ↓ry_i1, rz_set, rz_nol, rz_clr, List.set_cons_zero, List.set_cons_succ, rz_tr, Nat.reduceAdd, Int.reduceAdd, Int.reduceToNat, Int.reduceSub, Int.reduceNeg, Int.cast_ofNat_Int]
  refine hK _ _ _ _ ?_
  exact lp0 72 0 g13 (fun _ => none) (fun _ => none) rfl hfr hob hce hs4 (fun k hk => absurd hk (Nat.not_lt_zero _)) hs5 (fun k hk => absurd hk (Nat.not_lt_zero _))
set_option maxRecDepth 100000 in
set_option maxHeartbeats 8000000 in
theorem c_Small_init {w : rz_w} {d : Nat} {G : rz_G} {a : Nat} (hG : G a = some (.inr (7, [.int 0, .null, .null, .null, .null, .null]))) : rn_C w (d + 2) 326 2413 y_Small_init m_Small_init [.ref a] G (a + 1) (fun r G' => r = none ∧ (∀ x, x < a → G' x = G x) ∧ sm_is G' a (fun _ => 0) (fun _ _ => 0) (fun _ _ => 0) (fun _ => []) (fun _ => 0)) := by
  refine rn_enter [some (.ref a), none] (by decide +kernel) rfl rfl (Nat.le_of_ble_eq_true rfl) rfl ?_
  refine rn_blk' [(.aload_n 0, 1, 0, 0)] (by decide +kernel) (by omega) (by omega) (fun K R hK hR => ?_)
  simp only [↓rx_aload_n0, ↓rx_nil, ↓ry_lr0s, ↓ry_lr0z, rz_set, rz_nol, rz_clr, List.set_cons_zero, List.set_cons_succ, rz_tr, Nat.reduceAdd, Int.reduceAdd, Int.reduceToNat, Int.reduceSub, Int.reduceNeg, Int.cast_ofNat_Int]
  refine hK _ _ _ _ ?_
  refine rn_obj (rz_j2 132 rfl rfl) rn_o1 rn_o2 (Nat.le_of_ble_eq_true rfl) (by decide +kernel) ?_
  have hfr : ∀ x, x < a → G x = G x := fun _ _ => rfl
  have hob := hG
  have hce : ∀ o, 1 ≤ o → o < 1 → (o ≠ 2 ∧ o ≠ 4) → G (a + o) = some (sm_cell a (fun _ => 0) (fun _ _ => 0) (fun _ _ => 0) (fun _ => []) (fun _ => 0) o) := fun o h1 h2 => by omega
  refine rn_blk' [(.aload_n 0, 1, 0, 0), (.iconst 0, 1, 0, 0), (.putfield 9, 3, 7, 0)] (by decide +kernel) (by omega) (by omega) (fun K R hK hR => ?_)
  simp only [List.length_cons, List.length_nil, Nat.reduceLT, rf_7_0, rw_c0, ↓rx_aload_n0, ↓rx_iconst, ↓rx_nil, ↓rx_putfield, ↓ry_lr0s, ↓ry_lr0z, ↓ry_obu, ↓ry_vr, true_and, ↓rh_ob hob, rz_set, rz_nol, rz_clr, List.set_cons_zero, List.set_cons_succ, rz_tr, Nat.reduceAdd, Int.reduceAdd, Int.reduceToNat, Int.reduceSub, Int.reduceNeg, Int.cast_ofNat_Int]
  refine hK _ _ _ _ ?_
  generalize hg : rz_up G a _ = g1
  have hst : ∀ x, x ≠ a → x < a + 1 → g1 x = G x := fun x h1 h2 => by rw [← hg, rz_up_n _ _ h1]
  have hob : g1 a = some (.inr (7, [.int (nI 0), .null, .null, .null, .null, .null])) := by rw [← hg, rz_up_s]
  have hfr : ∀ x, x < a → g1 x = G x := fun x hx => (hst x (by omega) (by omega)).trans (hfr x hx)
  have hce : ∀ o, 1 ≤ o → o < 1 → (o ≠ 2 ∧ o ≠ 4) → g1 (a + o) = some (sm_cell a (fun _ => 0) (fun _ _ => 0) (fun _ _ => 0) (fun _ => []) (fun _ => 0) o) := fun o h1 h2 h3 => (hst _ (by omega) (by omega)).trans (hce o h1 h2 h3)
  clear hg hst
  refine rn_blk' [(.aload_n 0, 1, 0, 0), (.bipush 120, 2, 0, 0)] (by decide +kernel) (by omega) (by omega) (fun K R hK hR => ?_)
  simp only [rw_b120, ↓rx_aload_n0, ↓rx_bipush, ↓rx_nil, ↓ry_lr0s, ↓ry_lr0z, rz_set, rz_nol, rz_clr, List.set_cons_zero, List.set_cons_succ, rz_tr, Nat.reduceAdd, Int.reduceAdd, Int.reduceToNat, Int.reduceSub, Int.reduceNeg, Int.cast_ofNat_Int]
  refine hK _ _ _ _ ?_
  refine rn_na_i (N := 120) (by decide) (by decide +kernel) (Or.inl rfl) (by decide) (by decide) ?_
  change rn_T w _ _ _ _ 1 120 _ _ (.ref (a + 1) :: _) (rz_up g1 (a + 1) _) _
  have e1 : rz_up g1 (a + 1) (.inl (0, 120, .inl (fun _ => 0))) a = some (.inr (7, [.int (nI 0), .null, .null, .null, .null, .null])) := by rw [rz_up_n _ _ (by omega)]; exact hob
  refine rn_blk' [(.putfield 15, 3, 7, 1)] (by decide +kernel) (by omega) (by omega) (fun K R hK hR => ?_)
  simp only [List.length_cons, List.length_nil, Nat.reduceLT, rf_7_1, ↓rx_nil, ↓rx_putfield, ↓ry_obu, ↓ry_vr, true_and, ↓rh_ob e1, rz_set, rz_nol, rz_clr, List.set_cons_zero, List.set_cons_succ, rz_tr, Nat.reduceAdd, Int.reduceAdd, Int.reduceToNat, Int.reduceSub, Int.reduceNeg, Int.cast_ofNat_Int]
  refine hK _ _ _ _ ?_
  clear e1
  generalize hg : rz_up (rz_up g1 (a + 1) _) a _ = g2
  have hst : ∀ x, x ≠ a → x < a + 1 → g2 x = g1 x := fun x h1 h2 => by rw [← hg, rz_up_n _ _ h1, rz_up_n _ _ (by omega)]
  have hob : g2 a = some (.inr (7, [.int (nI 0), .ref (a + 1), .null, .null, .null, .null])) := by rw [← hg, rz_up_s]
  have hfr : ∀ x, x < a → g2 x = G x := fun x hx => (hst x (by omega) (by omega)).trans (hfr x hx)
  have hn1 : g2 (a + 1) = some (.inl (0, 120, .inl (fun _ => 0))) := by rw [← hg, rz_up_n _ _ (by omega), rz_up_s]
  have hce : ∀ o, 1 ≤ o → o < 2 → (o ≠ 2 ∧ o ≠ 4) → g2 (a + o) = some (sm_cell a (fun _ => 0) (fun _ _ => 0) (fun _ _ => 0) (fun _ => []) (fun _ => 0) o) := fun o h1 h2 h3 => by
    by_cases c : o < 1
    · exact (hst _ (by omega) (by omega)).trans (hce o h1 c h3)
    by_cases c1 : o = 1
    · subst c1; exact hn1
    omega
  clear hg hst hn1
  refine rn_blk' [(.aload_n 0, 1, 0, 0), (.bipush 120, 2, 0, 0)] (by decide +kernel) (by omega) (by omega) (fun K R hK hR => ?_)
  simp only [rw_b120, ↓rx_aload_n0, ↓rx_bipush, ↓rx_nil, ↓ry_lr0s, ↓ry_lr0z, rz_set, rz_nol, rz_clr, List.set_cons_zero, List.set_cons_succ, rz_tr, Nat.reduceAdd, Int.reduceAdd, Int.reduceToNat, Int.reduceSub, Int.reduceNeg, Int.cast_ofNat_Int]
  refine hK _ _ _ _ ?_
  refine rn_newq (ti := 4) (N := 120) (C := "WriterDesk$Word") rfl (rz_j2 133 rfl rfl) (fun s q => q.2.1) (by decide) (by decide +kernel) (Or.inr ⟨a + 1, rfl, by rw [hce 1 (by decide) (by decide) ⟨by decide, by decide⟩]; simp⟩) (by decide) (by decide) ?_
  change rn_T w _ _ _ _ 2 240 _ _ (.ref (a + 2) :: _) (rz_up g2 (a + 2) _) _
  have e1 : rz_up g2 (a + 2) (.inl (4, 120, .inr (.inr (.inr (.inr (fun _ => none)))))) a = some (.inr (7, [.int (nI 0), .ref (a + 1), .null, .null, .null, .null])) := by rw [rz_up_n _ _ (by omega)]; exact hob
  refine rn_blk' [(.putfield 21, 3, 7, 2)] (by decide +kernel) (by omega) (by omega) (fun K R hK hR => ?_)
  simp only [List.length_cons, List.length_nil, Nat.reduceLT, rf_7_2, ↓rx_nil, ↓rx_putfield, ↓ry_obu, ↓ry_vr, true_and, ↓rh_ob e1, rz_set, rz_nol, rz_clr, List.set_cons_zero, List.set_cons_succ, rz_tr, Nat.reduceAdd, Int.reduceAdd, Int.reduceToNat, Int.reduceSub, Int.reduceNeg, Int.cast_ofNat_Int]
  refine hK _ _ _ _ ?_
  clear e1
  generalize hg : rz_up (rz_up g2 (a + 2) _) a _ = g3
  have hst : ∀ x, x ≠ a → x < a + 2 → g3 x = g2 x := fun x h1 h2 => by rw [← hg, rz_up_n _ _ h1, rz_up_n _ _ (by omega)]
  have hob : g3 a = some (.inr (7, [.int (nI 0), .ref (a + 1), .ref (a + 2), .null, .null, .null])) := by rw [← hg, rz_up_s]
  have hfr : ∀ x, x < a → g3 x = G x := fun x hx => (hst x (by omega) (by omega)).trans (hfr x hx)
  have hn2 : g3 (a + 2) = some (.inl (4, 120, .inr (.inr (.inr (.inr (fun _ => none)))))) := by rw [← hg, rz_up_n _ _ (by omega), rz_up_s]
  have hce : ∀ o, 1 ≤ o → o < 3 → (o ≠ 2 ∧ o ≠ 4) → g3 (a + o) = some (sm_cell a (fun _ => 0) (fun _ _ => 0) (fun _ _ => 0) (fun _ => []) (fun _ => 0) o) := fun o h1 h2 h3 => by
    by_cases c : o < 2
    · exact (hst _ (by omega) (by omega)).trans (hce o h1 c h3)
    by_cases c2 : o = 2
    · exact absurd c2 (by omega)
    omega
  have hs2 := hn2
  clear hg hst hn2
  refine rn_blk' [(.aload_n 0, 1, 0, 0), (.bipush 40, 2, 0, 0)] (by decide +kernel) (by omega) (by omega) (fun K R hK hR => ?_)
  simp only [rw_b40, ↓rx_aload_n0, ↓rx_bipush, ↓rx_nil, ↓ry_lr0s, ↓ry_lr0z, rz_set, rz_nol, rz_clr, List.set_cons_zero, List.set_cons_succ, rz_tr, Nat.reduceAdd, Int.reduceAdd, Int.reduceToNat, Int.reduceSub, Int.reduceNeg, Int.cast_ofNat_Int]
  refine hK _ _ _ _ ?_
  refine rn_na_z (N := 40) (by decide) (by decide +kernel) (Or.inr ⟨a + 2, rfl, by rw [hs2]; simp⟩) (by decide) (by decide) ?_
  change rn_T w _ _ _ _ 3 280 _ _ (.ref (a + 3) :: _) (rz_up g3 (a + 3) _) _
  have e1 : rz_up g3 (a + 3) (.inl (3, 40, .inl (fun _ => 0))) a = some (.inr (7, [.int (nI 0), .ref (a + 1), .ref (a + 2), .null, .null, .null])) := by rw [rz_up_n _ _ (by omega)]; exact hob
  refine rn_blk' [(.putfield 25, 3, 7, 3)] (by decide +kernel) (by omega) (by omega) (fun K R hK hR => ?_)
  simp only [List.length_cons, List.length_nil, Nat.reduceLT, rf_7_3, ↓rx_nil, ↓rx_putfield, ↓ry_obu, ↓ry_vr, true_and, ↓rh_ob e1, rz_set, rz_nol, rz_clr, List.set_cons_zero, List.set_cons_succ, rz_tr, Nat.reduceAdd, Int.reduceAdd, Int.reduceToNat, Int.reduceSub, Int.reduceNeg, Int.cast_ofNat_Int]
  refine hK _ _ _ _ ?_
  clear e1
  generalize hg : rz_up (rz_up g3 (a + 3) _) a _ = g4
  have hst : ∀ x, x ≠ a → x < a + 3 → g4 x = g3 x := fun x h1 h2 => by rw [← hg, rz_up_n _ _ h1, rz_up_n _ _ (by omega)]
  have hob : g4 a = some (.inr (7, [.int (nI 0), .ref (a + 1), .ref (a + 2), .ref (a + 3), .null, .null])) := by rw [← hg, rz_up_s]
  have hfr : ∀ x, x < a → g4 x = G x := fun x hx => (hst x (by omega) (by omega)).trans (hfr x hx)
  have hs2 := (hst (a + 2) (by omega) (by omega)).trans hs2
  have hn3 : g4 (a + 3) = some (.inl (3, 40, .inl (fun _ => 0))) := by rw [← hg, rz_up_n _ _ (by omega), rz_up_s]
  have hce : ∀ o, 1 ≤ o → o < 4 → (o ≠ 2 ∧ o ≠ 4) → g4 (a + o) = some (sm_cell a (fun _ => 0) (fun _ _ => 0) (fun _ _ => 0) (fun _ => []) (fun _ => 0) o) := fun o h1 h2 h3 => by
    by_cases c : o < 3
    · exact (hst _ (by omega) (by omega)).trans (hce o h1 c h3)
    by_cases c3 : o = 3
    · subst c3; exact hn3
    omega
  clear hg hst hn3
  refine rn_blk' [(.aload_n 0, 1, 0, 0), (.bipush 40, 2, 0, 0)] (by decide +kernel) (by omega) (by omega) (fun K R hK hR => ?_)
  simp only [rw_b40, ↓rx_aload_n0, ↓rx_bipush, ↓rx_nil, ↓ry_lr0s, ↓ry_lr0z, rz_set, rz_nol, rz_clr, List.set_cons_zero, List.set_cons_succ, rz_tr, Nat.reduceAdd, Int.reduceAdd, Int.reduceToNat, Int.reduceSub, Int.reduceNeg, Int.cast_ofNat_Int]
  refine hK _ _ _ _ ?_
  refine rn_newq (ti := 4) (N := 40) (C := "WriterDesk$Word") rfl (rz_j2 133 rfl rfl) (fun s q => q.2.1) (by decide) (by decide +kernel) (Or.inr ⟨a + 3, rfl, by rw [hce 3 (by decide) (by decide) ⟨by decide, by decide⟩]; simp⟩) (by decide) (by decide) ?_
  change rn_T w _ _ _ _ 4 320 _ _ (.ref (a + 4) :: _) (rz_up g4 (a + 4) _) _
  have e1 : rz_up g4 (a + 4) (.inl (4, 40, .inr (.inr (.inr (.inr (fun _ => none)))))) a = some (.inr (7, [.int (nI 0), .ref (a + 1), .ref (a + 2), .ref (a + 3), .null, .null])) := by rw [rz_up_n _ _ (by omega)]; exact hob
  refine rn_blk' [(.putfield 29, 3, 7, 4)] (by decide +kernel) (by omega) (by omega) (fun K R hK hR => ?_)
  simp only [List.length_cons, List.length_nil, Nat.reduceLT, rf_7_4, ↓rx_nil, ↓rx_putfield, ↓ry_obu, ↓ry_vr, true_and, ↓rh_ob e1, rz_set, rz_nol, rz_clr, List.set_cons_zero, List.set_cons_succ, rz_tr, Nat.reduceAdd, Int.reduceAdd, Int.reduceToNat, Int.reduceSub, Int.reduceNeg, Int.cast_ofNat_Int]
  refine hK _ _ _ _ ?_
  clear e1
  generalize hg : rz_up (rz_up g4 (a + 4) _) a _ = g5
  have hst : ∀ x, x ≠ a → x < a + 4 → g5 x = g4 x := fun x h1 h2 => by rw [← hg, rz_up_n _ _ h1, rz_up_n _ _ (by omega)]
  have hob : g5 a = some (.inr (7, [.int (nI 0), .ref (a + 1), .ref (a + 2), .ref (a + 3), .ref (a + 4), .null])) := by rw [← hg, rz_up_s]
  have hfr : ∀ x, x < a → g5 x = G x := fun x hx => (hst x (by omega) (by omega)).trans (hfr x hx)
  have hs2 := (hst (a + 2) (by omega) (by omega)).trans hs2
  have hn4 : g5 (a + 4) = some (.inl (4, 40, .inr (.inr (.inr (.inr (fun _ => none)))))) := by rw [← hg, rz_up_n _ _ (by omega), rz_up_s]
  have hce : ∀ o, 1 ≤ o → o < 5 → (o ≠ 2 ∧ o ≠ 4) → g5 (a + o) = some (sm_cell a (fun _ => 0) (fun _ _ => 0) (fun _ _ => 0) (fun _ => []) (fun _ => 0) o) := fun o h1 h2 h3 => by
    by_cases c : o < 4
    · exact (hst _ (by omega) (by omega)).trans (hce o h1 c h3)
    by_cases c4 : o = 4
    · exact absurd c4 (by omega)
    omega
  have hs4 := hn4
  clear hg hst hn4
  refine rn_blk' [(.aload_n 0, 1, 0, 0)] (by decide +kernel) (by omega) (by omega) (fun K R hK hR => ?_)
  simp only [↓rx_aload_n0, ↓rx_nil, ↓ry_lr0s, ↓ry_lr0z, rz_set, rz_nol, rz_clr, List.set_cons_zero, List.set_cons_succ, rz_tr, Nat.reduceAdd, Int.reduceAdd, Int.reduceToNat, Int.reduceSub, Int.reduceNeg, Int.cast_ofNat_Int]
  refine hK _ _ _ _ ?_
  refine rn_new (ci := 0) (r := ("WriterDesk$Word", F_Word, 2)) (fs := [.null, .int 0]) rfl (rz_j2 133 rfl rfl) (rz_j1 34 rfl rfl) (rz_j1 2 rfl rfl) (by decide +kernel) (by decide) (Or.inr ⟨a + 4, rfl, by rw [hs4]; simp⟩) (by decide) (by decide) ?_
  change rn_T w _ _ _ _ (4 + 1) (320 + 2) _ _ (.ref (a + 5) :: _) (rz_up g5 (a + 5) _) _
  refine rn_blk' [(.dup, 1, 0, 0), (.sipush 160, 3, 0, 0)] (by decide +kernel) (by omega) (by omega) (fun K R hK hR => ?_)
  simp only [rw_s160, ↓rx_dup, ↓rx_nil, ↓rx_sipush, ↓ry_v1i, ↓ry_v1r, rz_set, rz_nol, rz_clr, List.set_cons_zero, List.set_cons_succ, rz_tr, Nat.reduceAdd, Int.reduceAdd, Int.reduceToNat, Int.reduceSub, Int.reduceNeg, Int.cast_ofNat_Int]
  refine hK _ _ _ _ ?_
  refine rn_cI (As := [.int (nI 160)]) (b := a + 5) (S := [.ref (a + 5), .ref a]) (mc' := 1) (ms' := 11) l_Small_32 (by decide +kernel) rfl (Nat.le_of_ble_eq_true rfl) (Or.inr ⟨a + 5, by rfl, by rw [rz_up_s]; simp⟩) (by decide) (by decide) (by
    have := c_Word_init (w := w) (d := d) (G := rz_up g5 (a + 5) (.inr (0, [.null, .int 0]))) (a := a + 5) (rm := 160) (by decide) (by decide) (rz_up_s _ _ _) rfl
    exact this) (fun r G' hr => ?_)
  obtain ⟨rfl, rfl⟩ := hr
  simp only [Option.toList, List.nil_append]
  change rn_T w _ _ _ _ 6 333 _ _ _ (wd_put _ _ 11 []) _
  have e1 : wd_put (rz_up g5 (a + 5) (.inr (0, [.null, .int 0]))) (a + 5) 11 [] a = some (.inr (7, [.int (nI 0), .ref (a + 1), .ref (a + 2), .ref (a + 3), .ref (a + 4), .null])) := by rw [wd_pout (by omega) (by omega), rz_up_n _ _ (by omega)]; exact hob
  refine rn_blk' [(.putfield 35, 3, 7, 5)] (by decide +kernel) (by omega) (by omega) (fun K R hK hR => ?_)
  simp only [List.length_cons, List.length_nil, Nat.reduceLT, rf_7_5, ↓rx_nil, ↓rx_putfield, ↓ry_obu, ↓ry_vr, true_and, ↓rh_ob e1, rz_set, rz_nol, rz_clr, List.set_cons_zero, List.set_cons_succ, rz_tr, Nat.reduceAdd, Int.reduceAdd, Int.reduceToNat, Int.reduceSub, Int.reduceNeg, Int.cast_ofNat_Int]
  refine hK _ _ _ _ ?_
  clear e1
  generalize hg : rz_up (wd_put (rz_up g5 (a + 5) _) (a + 5) 11 []) a _ = g6
  have hst : ∀ x, x ≠ a → x < a + 5 → g6 x = g5 x := fun x h1 h2 => by rw [← hg, rz_up_n _ _ h1, wd_pout (by omega) (by omega), rz_up_n _ _ (by omega)]
  have hob : g6 a = some (.inr (7, [.int (nI 0), .ref (a + 1), .ref (a + 2), .ref (a + 3), .ref (a + 4), .ref (a + 5)])) := by rw [← hg, rz_up_s]
  have hfr : ∀ x, x < a → g6 x = G x := fun x hx => (hst x (by omega) (by omega)).trans (hfr x hx)
  have hs2 := (hst (a + 2) (by omega) (by omega)).trans hs2
  have hs4 := (hst (a + 4) (by omega) (by omega)).trans hs4
  have hn5 : g6 (a + 5) = some (wd_o (a + 5) []) := by rw [← hg, rz_up_n _ _ (by omega)]; exact (wd_pis (wd_ok_nil (by decide))).1
  have hn6 : g6 (a + 6) = some (wd_a 11 []) := by rw [← hg, rz_up_n _ _ (by omega)]; exact (wd_pis (wd_ok_nil (by decide))).2.1
  have hce : ∀ o, 1 ≤ o → o < 7 → (o ≠ 2 ∧ o ≠ 4) → g6 (a + o) = some (sm_cell a (fun _ => 0) (fun _ _ => 0) (fun _ _ => 0) (fun _ => []) (fun _ => 0) o) := fun o h1 h2 h3 => by
    by_cases c : o < 5
    · exact (hst _ (by omega) (by omega)).trans (hce o h1 c h3)
    by_cases c5 : o = 5
    · subst c5; exact hn5
    by_cases c6 : o = 6
    · subst c6; exact hn6
    omega
  clear hg hst hn5 hn6
  have fin : ∀ (g : rz_G) (f2 : Nat → Option Nat) (f4 : Nat → Option Nat) (z1 : Option Value), (∀ x, x < a → g x = G x) → g a = some (.inr (7, [.int (nI 0), .ref (a + 1), .ref (a + 2), .ref (a + 3), .ref (a + 4), .ref (a + 5)])) → (∀ o, 1 ≤ o → o < 327 → (o ≠ 2 ∧ o ≠ 4) → g (a + o) = some (sm_cell a (fun _ => 0) (fun _ _ => 0) (fun _ _ => 0) (fun _ => []) (fun _ => 0) o)) → g (a + 2) = some (.inl (4, 120, .inr (.inr (.inr (.inr f2))))) → (∀ k, k < 120 → f2 k = some (a + (7 + 2 * k))) → g (a + 4) = some (.inl (4, 40, .inr (.inr (.inr (.inr f4))))) → (∀ k, k < 40 → f4 k = some (a + (7 + 2 * (120 + k)))) → rn_T w (d + 2) 326 2413 m_Small_init 326 2413 123 [some (.ref a), z1] [] g ((a + 1, (fun r G' => r = none ∧ (∀ x, x < a → G' x = G x) ∧ sm_is G' a (fun _ => 0) (fun _ _ => 0) (fun _ _ => 0) (fun _ => []) (fun _ => 0))) : rn_P) := by
    intro g f2 f4 z1 hfr hob hce hs2 hf2 hs4 hf4
    refine rn_ext (f' := fun k => some (a + (7 + 2 * k))) hs2 hf2 ?_
    generalize hg : rz_up g (a + 2) _ = h0
    have hst : ∀ x, x ≠ a + 2 → h0 x = g x := fun x hx => by rw [← hg, rz_up_n _ _ hx]
    have he2 : h0 (a + 2) = some (.inl (4, 120, .inr (.inr (.inr (.inr (fun k => some (a + (7 + 2 * k)))))))) := by rw [← hg, rz_up_s]
    have hfr : ∀ x, x < a → h0 x = G x := fun x hx => (hst x (by omega)).trans (hfr x hx)
    have hob := (hst a (by omega)).trans hob
    have hce : ∀ o, 1 ≤ o → o < 327 → (o ≠ 2 ∧ o ≠ 4) → h0 (a + o) = some (sm_cell a (fun _ => 0) (fun _ _ => 0) (fun _ _ => 0) (fun _ => []) (fun _ => 0) o) := fun o h1 h2 h3 => (hst _ (by omega)).trans (hce o h1 h2 h3)
    have hs4 := (hst (a + 4) (by omega)).trans hs4
    clear hg hst
    refine rn_ext (f' := fun k => some (a + (7 + 2 * (120 + k)))) hs4 hf4 ?_
    generalize hg : rz_up h0 (a + 4) _ = h1
    have hst : ∀ x, x ≠ a + 4 → h1 x = h0 x := fun x hx => by rw [← hg, rz_up_n _ _ hx]
    have he4 : h1 (a + 4) = some (.inl (4, 40, .inr (.inr (.inr (.inr (fun k => some (a + (7 + 2 * (120 + k))))))))) := by rw [← hg, rz_up_s]
    have hfr : ∀ x, x < a → h1 x = G x := fun x hx => (hst x (by omega)).trans (hfr x hx)
    have hob := (hst a (by omega)).trans hob
    have hce : ∀ o, 1 ≤ o → o < 327 → (o ≠ 2 ∧ o ≠ 4) → h1 (a + o) = some (sm_cell a (fun _ => 0) (fun _ _ => 0) (fun _ _ => 0) (fun _ => []) (fun _ => 0) o) := fun o h1 h2 h3 => (hst _ (by omega)).trans (hce o h1 h2 h3)
    have he2 := (hst (a + 2) (by omega)).trans he2
    clear hg hst
    refine rn_blk' [(.return_, 1, 0, 0)] (by decide +kernel) (by omega) (by omega) (fun K R hK hR => ?_)
    simp only [↓rx_nil, ↓rx_return_, rz_set, rz_nol, rz_clr, List.set_cons_zero, List.set_cons_succ, rz_tr, Nat.reduceAdd, Int.reduceAdd, Int.reduceToNat, Int.reduceSub, Int.reduceNeg, Int.cast_ofNat_Int]
    refine hR _ _ (rz_nb_i (by decide)) ⟨rfl, hfr, fun o ho => ?_⟩
    by_cases c : o = 0
    · subst c; exact hob
    by_cases c2 : o = 2
    · subst c2; exact he2
    by_cases c4 : o = 4
    · subst c4; exact he4
    exact hce o (by omega) ho ⟨c2, c4⟩
  have lp1 : ∀ (k i : Nat) (g : rz_G) (f2 : Nat → Option Nat) (f4 : Nat → Option Nat), i + k = 40 → (∀ x, x < a → g x = G x) → g a = some (.inr (7, [.int (nI 0), .ref (a + 1), .ref (a + 2), .ref (a + 3), .ref (a + 4), .ref (a + 5)])) → (∀ o, 1 ≤ o → o < 247 + 2 * i → (o ≠ 2 ∧ o ≠ 4) → g (a + o) = some (sm_cell a (fun _ => 0) (fun _ _ => 0) (fun _ _ => 0) (fun _ => []) (fun _ => 0) o)) → g (a + 2) = some (.inl (4, 120, .inr (.inr (.inr (.inr f2))))) → (∀ k, k < 120 → f2 k = some (a + (7 + 2 * k))) → g (a + 4) = some (.inl (4, 40, .inr (.inr (.inr (.inr f4))))) → (∀ k, k < i → f4 k = some (a + (7 + 2 * (120 + k)))) → rn_T w (d + 2) 326 2413 m_Small_init (246 + 2 * i) (1893 + 13 * i) 92 [some (.ref a), some (.int (nI i))] [] g ((a + 1, (fun r G' => r = none ∧ (∀ x, x < a → G' x = G x) ∧ sm_is G' a (fun _ => 0) (fun _ _ => 0) (fun _ _ => 0) (fun _ => []) (fun _ => 0))) : rn_P) := by
    intro k
    induction k with
    | zero =>
      intro i g f2 f4 hik hfr hob hce hs2 hf2 hs4 hf4
      have hi : i = 40 := by omega
      subst hi
      refine rn_blk' [(.iload_n 1, 1, 0, 0), (.aload_n 0, 1, 0, 0), (.getfield 29, 3, 7, 4), (.arraylength, 1, 0, 0), (.if_icmp .ge 25, 3, 0, 0)] (by decide +kernel) (by omega) (by omega) (fun K R hK hR => ?_)
      simp only [Nat.reduceLT, ↓rx_aload_n0, ↓rx_arraylength, ↓rx_getfield, ↓rx_if_icmp_ge, ↓rx_iload_n1, ↓rx_nil, ↓ry_fvs, ↓ry_fvz, ↓ry_i2, ↓ry_li0s, ↓ry_li0z, ↓ry_lr0s, ↓ry_lr0z, ↓ry_obu, ↓ry_r1, true_and, ↓rh_ob hob, ↓rh_aa hs4, rz_set, rz_nol, rz_clr, List.set_cons_zero, List.set_cons_succ, rz_tr, Nat.reduceAdd, Int.reduceAdd, Int.reduceToNat, Int.reduceSub, Int.reduceNeg, Int.cast_ofNat_Int]
      refine ⟨fun _ => hK _ _ _ _ ?_, fun q => absurd (Int32.le_refl _) q⟩
      exact fin g f2 f4 _ hfr hob hce hs2 hf2 hs4 hf4
    | succ k ih =>
      intro i g f2 f4 hik hfr hob hce hs2 hf2 hs4 hf4
      refine rn_blk' [(.iload_n 1, 1, 0, 0), (.aload_n 0, 1, 0, 0), (.getfield 29, 3, 7, 4), (.arraylength, 1, 0, 0), (.if_icmp .ge 25, 3, 0, 0), (.aload_n 0, 1, 0, 0), (.getfield 29, 3, 7, 4), (.iload_n 1, 1, 0, 0)] (by decide +kernel) (by omega) (by omega) (fun K R hK hR => ?_)
      simp only [Nat.reduceLT, ↓rx_aload_n0, ↓rx_arraylength, ↓rx_getfield, ↓rx_if_icmp_ge, ↓rx_iload_n1, ↓rx_nil, ↓ry_fvs, ↓ry_fvz, ↓ry_i2, ↓ry_li0s, ↓ry_li0z, ↓ry_lr0s, ↓ry_lr0z, ↓ry_obu, ↓ry_r1, true_and, ↓rh_ob hob, ↓rh_aa hs4, rz_set, rz_nol, rz_clr, List.set_cons_zero, List.set_cons_succ, rz_tr, Nat.reduceAdd, Int.reduceAdd, Int.reduceToNat, Int.reduceSub, Int.reduceNeg, Int.cast_ofNat_Int]
      rw [nI_leI (by decide) (by omega)]
      refine ⟨fun q => by omega, fun _ => hK _ _ _ _ ?_⟩
      refine rn_new (ci := 0) (r := ("WriterDesk$Word", F_Word, 2)) (fs := [.null, .int 0]) rfl (rz_j2 133 rfl rfl) (rz_j1 34 rfl rfl) (rz_j1 2 rfl rfl) (by decide +kernel) (by decide) (Or.inr ⟨a + (246 + 2 * i), by show _ = a + 1 + _; omega, by rw [hce (246 + 2 * i) (by omega) (by omega) ⟨by omega, by omega⟩]; simp⟩) (by omega) (by show _ + 2 ≤ _; omega) ?_
      show rn_T w _ _ _ _ (246 + 2 * i + 1) (1893 + 13 * i + 2) _ _ (.ref (a + 1 + (246 + 2 * i)) :: _) (rz_up g (a + 1 + (246 + 2 * i)) _) _
      rw [show a + 1 + (246 + 2 * i) = a + (247 + 2 * i) from by omega]
      refine rn_blk' [(.dup, 1, 0, 0), (.sipush 160, 3, 0, 0)] (by decide +kernel) (by omega) (by omega) (fun K R hK hR => ?_)
      simp only [rw_s160, ↓rx_dup, ↓rx_nil, ↓rx_sipush, ↓ry_v1i, ↓ry_v1r, rz_set, rz_nol, rz_clr, List.set_cons_zero, List.set_cons_succ, rz_tr, Nat.reduceAdd, Int.reduceAdd, Int.reduceToNat, Int.reduceSub, Int.reduceNeg, Int.cast_ofNat_Int]
      refine hK _ _ _ _ ?_
      refine rn_cI (As := [.int (nI 160)]) (b := a + (247 + 2 * i)) (S := [.ref (a + (247 + 2 * i)), .int (nI i), .ref (a + 4)]) (mc' := 1) (ms' := 11) l_Small_32 (by decide +kernel) rfl (Nat.le_of_ble_eq_true rfl) (Or.inr ⟨a + (247 + 2 * i), by show _ = a + 1 + _; omega, by rw [rz_up_s]; simp⟩) (by omega) (by omega) (by
        have := c_Word_init (w := w) (d := d) (G := rz_up g (a + (247 + 2 * i)) (.inr (0, [.null, .int 0]))) (a := a + (247 + 2 * i)) (rm := 160) (by decide) (by decide) (rz_up_s _ _ _) rfl
        rw [show (a + 1) + (246 + 2 * i + 1) = a + (247 + 2 * i) + 1 from by omega]; exact this) (fun r G' hr => ?_)
      obtain ⟨rfl, rfl⟩ := hr
      simp only [Option.toList, List.nil_append]
      have hG4 : wd_put (rz_up g (a + (247 + 2 * i)) (.inr (0, [.null, .int 0]))) (a + (247 + 2 * i)) 11 [] (a + 4) = some (.inl (4, 40, .inr (.inr (.inr (.inr f4))))) := by rw [wd_pout (by omega) (by omega), rz_up_n _ _ (by omega)]; exact hs4
      refine rn_aastoreW (by decide +kernel) hG4 (wd_pis (wd_ok_nil (by decide))).1 (vp_in_nI (by omega) (by decide)) ?_
      rw [nI_clamp (by omega)]
      generalize hg : rz_up (wd_put (rz_up g (a + (247 + 2 * i)) _) (a + (247 + 2 * i)) 11 []) (a + 4) _ = q0
      have hst : ∀ x, x ≠ a + 4 → x < a + (247 + 2 * i) → q0 x = g x := fun x h1 h2 => by rw [← hg, rz_up_n _ _ h1, wd_pout (by omega) (by omega), rz_up_n _ _ (by omega)]
      have hw0 : q0 (a + (247 + 2 * i)) = some (wd_o (a + (247 + 2 * i)) []) := by rw [← hg, rz_up_n _ _ (by omega)]; exact (wd_pis (wd_ok_nil (by decide))).1
      have hlast : q0 (a + (248 + 2 * i)) = some (wd_a 11 []) := by rw [← hg, rz_up_n _ _ (by omega), show a + (248 + 2 * i) = a + (247 + 2 * i) + 1 from by omega]; exact (wd_pis (wd_ok_nil (by decide))).2.1
      have hsN : q0 (a + 4) = some (.inl (4, 40, .inr (.inr (.inr (.inr (va_up f4 i (some (a + (247 + 2 * i))))))))) := by rw [← hg, rz_up_s]
      have hfN : ∀ k, k < i + 1 → va_up f4 i (some (a + (247 + 2 * i))) k = some (a + (7 + 2 * (120 + k))) := fun k hk => by
        by_cases c : k = i
        · subst c; rw [va_up_self]; congr 1; omega
        · rw [va_up_ne _ _ c]; exact hf4 k (by omega)
      have hfr : ∀ x, x < a → q0 x = G x := fun x hx => (hst x (by omega) (by omega)).trans (hfr x hx)
      have hob := (hst a (by omega) (by omega)).trans hob
      have hs2 := (hst (a + 2) (by omega) (by omega)).trans hs2
      have hs4 := hsN
      have hf4 := hfN
      have hce : ∀ o, 1 ≤ o → o < 249 + 2 * i → (o ≠ 2 ∧ o ≠ 4) → q0 (a + o) = some (sm_cell a (fun _ => 0) (fun _ _ => 0) (fun _ _ => 0) (fun _ => []) (fun _ => 0) o) := fun o h1 h2 h3 => by
        by_cases c1 : o < 247 + 2 * i
        · exact (hst _ (by omega) (by omega)).trans (hce o h1 c1 h3)
        by_cases c2 : o = 247 + 2 * i
        · subst c2
          rw [hw0]
          rw [show 247 + 2 * i = 7 + 2 * (120 + i) by omega, sm_nj0]
        · have c3 : o = 248 + 2 * i := by omega
          subst c3
          rw [hlast]
          rw [show 248 + 2 * i = 7 + 2 * (120 + i) + 1 by omega, sm_nj1]
      clear hg hst hsN hfN hG4 hw0
      generalize va_up f4 i (some (a + (247 + 2 * i))) = f4 at *
      refine rn_blk' [(.iinc 1 1, 3, 0, 0), (.goto (-28), 3, 0, 0)] (by decide +kernel) (by omega) (by omega) (fun K R hK hR => ?_)
      simp only [rw_c1, ↓rx_goto, ↓rx_iinc, ↓rx_nil, ↓ry_li0s, ↓ry_li0z, nI_add, rz_set, rz_nol, rz_clr, List.set_cons_zero, List.set_cons_succ, rz_tr, Nat.reduceAdd, Int.reduceAdd, Int.reduceToNat, Int.reduceSub, Int.reduceNeg, Int.cast_ofNat_Int]
      have ih' := ih (i + 1) q0 f2 f4 (by omega) hfr hob (fun o h1 h2 h3 => hce o h1 (by omega) h3) hs2 hf2 hs4 hf4
      rw [show 246 + 2 * (i + 1) = 246 + 2 * i + 1 + 1 from by omega, show 1893 + 13 * (i + 1) = 1893 + 13 * i + 2 + 11 from by omega] at ih'
      exact hK _ _ _ _ ih'
  have lp0 : ∀ (k i : Nat) (g : rz_G) (f2 : Nat → Option Nat) (f4 : Nat → Option Nat), i + k = 120 → (∀ x, x < a → g x = G x) → g a = some (.inr (7, [.int (nI 0), .ref (a + 1), .ref (a + 2), .ref (a + 3), .ref (a + 4), .ref (a + 5)])) → (∀ o, 1 ≤ o → o < 7 + 2 * i → (o ≠ 2 ∧ o ≠ 4) → g (a + o) = some (sm_cell a (fun _ => 0) (fun _ _ => 0) (fun _ _ => 0) (fun _ => []) (fun _ => 0) o)) → g (a + 2) = some (.inl (4, 120, .inr (.inr (.inr (.inr f2))))) → (∀ k, k < i → f2 k = some (a + (7 + 2 * k))) → g (a + 4) = some (.inl (4, 40, .inr (.inr (.inr (.inr f4))))) → (∀ k, k < 0 → f4 k = some (a + (7 + 2 * (120 + k)))) → rn_T w (d + 2) 326 2413 m_Small_init (6 + 2 * i) (333 + 13 * i) 59 [some (.ref a), some (.int (nI i))] [] g ((a + 1, (fun r G' => r = none ∧ (∀ x, x < a → G' x = G x) ∧ sm_is G' a (fun _ => 0) (fun _ _ => 0) (fun _ _ => 0) (fun _ => []) (fun _ => 0))) : rn_P) := by
    intro k
    induction k with
    | zero =>
      intro i g f2 f4 hik hfr hob hce hs2 hf2 hs4 hf4
      have hi : i = 120 := by omega
      subst hi
      refine rn_blk' [(.iload_n 1, 1, 0, 0), (.aload_n 0, 1, 0, 0), (.getfield 21, 3, 7, 2), (.arraylength, 1, 0, 0), (.if_icmp .ge 25, 3, 0, 0)] (by decide +kernel) (by omega) (by omega) (fun K R hK hR => ?_)
      simp only [Nat.reduceLT, ↓rx_aload_n0, ↓rx_arraylength, ↓rx_getfield, ↓rx_if_icmp_ge, ↓rx_iload_n1, ↓rx_nil, ↓ry_fvs, ↓ry_fvz, ↓ry_i2, ↓ry_li0s, ↓ry_li0z, ↓ry_lr0s, ↓ry_lr0z, ↓ry_obu, ↓ry_r1, true_and, ↓rh_ob hob, ↓rh_aa hs2, rz_set, rz_nol, rz_clr, List.set_cons_zero, List.set_cons_succ, rz_tr, Nat.reduceAdd, Int.reduceAdd, Int.reduceToNat, Int.reduceSub, Int.reduceNeg, Int.cast_ofNat_Int]
      refine ⟨fun _ => hK _ _ _ _ ?_, fun q => absurd (Int32.le_refl _) q⟩
      refine rn_blk' [(.iconst 0, 1, 0, 0), (.istore_n 1, 1, 0, 0)] (by decide +kernel) (by omega) (by omega) (fun K R hK hR => ?_)
      simp only [rw_c0, ↓rx_iconst, ↓rx_istore_n1, ↓rx_nil, ↓ry_i1, rz_set, rz_nol, rz_clr, List.set_cons_zero, List.set_cons_succ, rz_tr, Nat.reduceAdd, Int.reduceAdd, Int.reduceToNat, Int.reduceSub, Int.reduceNeg, Int.cast_ofNat_Int]
      refine hK _ _ _ _ ?_
      exact lp1 40 0 g f2 f4 rfl hfr hob hce hs2 hf2 hs4 (fun k hk => absurd hk (Nat.not_lt_zero _))
    | succ k ih =>
      intro i g f2 f4 hik hfr hob hce hs2 hf2 hs4 hf4
      refine rn_blk' [(.iload_n 1, 1, 0, 0), (.aload_n 0, 1, 0, 0), (.getfield 21, 3, 7, 2), (.arraylength, 1, 0, 0), (.if_icmp .ge 25, 3, 0, 0), (.aload_n 0, 1, 0, 0), (.getfield 21, 3, 7, 2), (.iload_n 1, 1, 0, 0)] (by decide +kernel) (by omega) (by omega) (fun K R hK hR => ?_)
      simp only [Nat.reduceLT, ↓rx_aload_n0, ↓rx_arraylength, ↓rx_getfield, ↓rx_if_icmp_ge, ↓rx_iload_n1, ↓rx_nil, ↓ry_fvs, ↓ry_fvz, ↓ry_i2, ↓ry_li0s, ↓ry_li0z, ↓ry_lr0s, ↓ry_lr0z, ↓ry_obu, ↓ry_r1, true_and, ↓rh_ob hob, ↓rh_aa hs2, rz_set, rz_nol, rz_clr, List.set_cons_zero, List.set_cons_succ, rz_tr, Nat.reduceAdd, Int.reduceAdd, Int.reduceToNat, Int.reduceSub, Int.reduceNeg, Int.cast_ofNat_Int]
      rw [nI_leI (by decide) (by omega)]
      refine ⟨fun q => by omega, fun _ => hK _ _ _ _ ?_⟩
      refine rn_new (ci := 0) (r := ("WriterDesk$Word", F_Word, 2)) (fs := [.null, .int 0]) rfl (rz_j2 133 rfl rfl) (rz_j1 34 rfl rfl) (rz_j1 2 rfl rfl) (by decide +kernel) (by decide) (Or.inr ⟨a + (6 + 2 * i), by show _ = a + 1 + _; omega, by rw [hce (6 + 2 * i) (by omega) (by omega) ⟨by omega, by omega⟩]; simp⟩) (by omega) (by show _ + 2 ≤ _; omega) ?_
      show rn_T w _ _ _ _ (6 + 2 * i + 1) (333 + 13 * i + 2) _ _ (.ref (a + 1 + (6 + 2 * i)) :: _) (rz_up g (a + 1 + (6 + 2 * i)) _) _
      rw [show a + 1 + (6 + 2 * i) = a + (7 + 2 * i) from by omega]
      refine rn_blk' [(.dup, 1, 0, 0), (.sipush 160, 3, 0, 0)] (by decide +kernel) (by omega) (by omega) (fun K R hK hR => ?_)
      simp only [rw_s160, ↓rx_dup, ↓rx_nil, ↓rx_sipush, ↓ry_v1i, ↓ry_v1r, rz_set, rz_nol, rz_clr, List.set_cons_zero, List.set_cons_succ, rz_tr, Nat.reduceAdd, Int.reduceAdd, Int.reduceToNat, Int.reduceSub, Int.reduceNeg, Int.cast_ofNat_Int]
      refine hK _ _ _ _ ?_
      refine rn_cI (As := [.int (nI 160)]) (b := a + (7 + 2 * i)) (S := [.ref (a + (7 + 2 * i)), .int (nI i), .ref (a + 2)]) (mc' := 1) (ms' := 11) l_Small_32 (by decide +kernel) rfl (Nat.le_of_ble_eq_true rfl) (Or.inr ⟨a + (7 + 2 * i), by show _ = a + 1 + _; omega, by rw [rz_up_s]; simp⟩) (by omega) (by omega) (by
        have := c_Word_init (w := w) (d := d) (G := rz_up g (a + (7 + 2 * i)) (.inr (0, [.null, .int 0]))) (a := a + (7 + 2 * i)) (rm := 160) (by decide) (by decide) (rz_up_s _ _ _) rfl
        rw [show (a + 1) + (6 + 2 * i + 1) = a + (7 + 2 * i) + 1 from by omega]; exact this) (fun r G' hr => ?_)
      obtain ⟨rfl, rfl⟩ := hr
      simp only [Option.toList, List.nil_append]
      have hG4 : wd_put (rz_up g (a + (7 + 2 * i)) (.inr (0, [.null, .int 0]))) (a + (7 + 2 * i)) 11 [] (a + 2) = some (.inl (4, 120, .inr (.inr (.inr (.inr f2))))) := by rw [wd_pout (by omega) (by omega), rz_up_n _ _ (by omega)]; exact hs2
      refine rn_aastoreW (by decide +kernel) hG4 (wd_pis (wd_ok_nil (by decide))).1 (vp_in_nI (by omega) (by decide)) ?_
      rw [nI_clamp (by omega)]
      generalize hg : rz_up (wd_put (rz_up g (a + (7 + 2 * i)) _) (a + (7 + 2 * i)) 11 []) (a + 2) _ = q0
      have hst : ∀ x, x ≠ a + 2 → x < a + (7 + 2 * i) → q0 x = g x := fun x h1 h2 => by rw [← hg, rz_up_n _ _ h1, wd_pout (by omega) (by omega), rz_up_n _ _ (by omega)]
      have hw0 : q0 (a + (7 + 2 * i)) = some (wd_o (a + (7 + 2 * i)) []) := by rw [← hg, rz_up_n _ _ (by omega)]; exact (wd_pis (wd_ok_nil (by decide))).1
      have hlast : q0 (a + (8 + 2 * i)) = some (wd_a 11 []) := by rw [← hg, rz_up_n _ _ (by omega), show a + (8 + 2 * i) = a + (7 + 2 * i) + 1 from by omega]; exact (wd_pis (wd_ok_nil (by decide))).2.1
      have hsN : q0 (a + 2) = some (.inl (4, 120, .inr (.inr (.inr (.inr (va_up f2 i (some (a + (7 + 2 * i))))))))) := by rw [← hg, rz_up_s]
      have hfN : ∀ k, k < i + 1 → va_up f2 i (some (a + (7 + 2 * i))) k = some (a + (7 + 2 * k)) := fun k hk => by
        by_cases c : k = i
        · subst c; rw [va_up_self]
        · rw [va_up_ne _ _ c]; exact hf2 k (by omega)
      have hfr : ∀ x, x < a → q0 x = G x := fun x hx => (hst x (by omega) (by omega)).trans (hfr x hx)
      have hob := (hst a (by omega) (by omega)).trans hob
      have hs4 := (hst (a + 4) (by omega) (by omega)).trans hs4
      have hs2 := hsN
      have hf2 := hfN
      have hce : ∀ o, 1 ≤ o → o < 9 + 2 * i → (o ≠ 2 ∧ o ≠ 4) → q0 (a + o) = some (sm_cell a (fun _ => 0) (fun _ _ => 0) (fun _ _ => 0) (fun _ => []) (fun _ => 0) o) := fun o h1 h2 h3 => by
        by_cases c1 : o < 7 + 2 * i
        · exact (hst _ (by omega) (by omega)).trans (hce o h1 c1 h3)
        by_cases c2 : o = 7 + 2 * i
        · subst c2
          rw [hw0]
          rw [sm_nj0]
        · have c3 : o = 8 + 2 * i := by omega
          subst c3
          rw [hlast]
          rw [show 8 + 2 * i = 7 + 2 * i + 1 by omega, sm_nj1]
      clear hg hst hsN hfN hG4 hw0
      generalize va_up f2 i (some (a + (7 + 2 * i))) = f2 at *
      refine rn_blk' [(.iinc 1 1, 3, 0, 0), (.goto (-28), 3, 0, 0)] (by decide +kernel) (by omega) (by omega) (fun K R hK hR => ?_)
      simp only [rw_c1, ↓rx_goto, ↓rx_iinc, ↓rx_nil, ↓ry_li0s, ↓ry_li0z, nI_add, rz_set, rz_nol, rz_clr, List.set_cons_zero, List.set_cons_succ, rz_tr, Nat.reduceAdd, Int.reduceAdd, Int.reduceToNat, Int.reduceSub, Int.reduceNeg, Int.cast_ofNat_Int]
      have ih' := ih (i + 1) q0 f2 f4 (by omega) hfr hob (fun o h1 h2 h3 => hce o h1 (by omega) h3) hs2 hf2 hs4 hf4
      rw [show 6 + 2 * (i + 1) = 6 + 2 * i + 1 + 1 from by omega, show 333 + 13 * (i + 1) = 333 + 13 * i + 2 + 11 from by omega] at ih'
      exact hK _ _ _ _ ih'
  refine rn_blk' [(.iconst 0, 1, 0, 0), (.istore_n 1, 1, 0, 0)] (by decide +kernel) (by omega) (by omega) (fun K R hK hR => ?_)
  simp only [rw_c0, ↓rx_iconst, ↓rx_istore_n1, ↓rx_nil, ↓ry_i1, rz_set, rz_nol, rz_clr, List.set_cons_zero, List.set_cons_succ, rz_tr, Nat.reduceAdd, Int.reduceAdd, Int.reduceToNat, Int.reduceSub, Int.reduceNeg, Int.cast_ofNat_Int]
  refine hK _ _ _ _ ?_
  exact lp0 120 0 g6 (fun _ => none) (fun _ => none) rfl hfr hob hce hs2 (fun k hk => absurd hk (Nat.not_lt_zero _)) hs4 (fun k hk => absurd hk (Nat.not_lt_zero _))
