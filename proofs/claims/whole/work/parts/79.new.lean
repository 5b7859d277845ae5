/-! constructors: Machine -/
theorem mc_cj0 {a : Nat} {I : Nat → Int32} {A : Nat → Nat → Int32} {J : Nat → Nat → Int64} {X : Nat → List Nat} {P : Nat → Nat} {j : Nat} : mc_cell a I A J X P (10 + 2 * j) = wd_o (a + (10 + 2 * j)) (X (0 + j)) := by
  rw [show 10 + 2 * j = (2 * j + 0) + 10 by omega]
  show (if (2 * j + 0 + 10 - 10) % 2 = 0 then _ else _) = _
  rw [if_pos (by omega)]
  simp only [show (2 * j + 0 + 10 - 10) / 2 = j by omega]
theorem mc_cj1 {a : Nat} {I : Nat → Int32} {A : Nat → Nat → Int32} {J : Nat → Nat → Int64} {X : Nat → List Nat} {P : Nat → Nat} {j : Nat} : mc_cell a I A J X P (10 + 2 * j + 1) = wd_a 3 (X (0 + j)) := by
  rw [show 10 + 2 * j + 1 = (2 * j + 1 + 0) + 10 by omega]
  show (if (2 * j + 1 + 0 + 10 - 10) % 2 = 0 then _ else _) = _
  rw [if_neg (by omega)]
  simp only [show (2 * j + 1 + 0 + 10 - 10) / 2 = j by omega]
set_option maxRecDepth 100000 in
set_option maxHeartbeats 8000000 in
theorem c_Mach_init {w : rz_w} {d : Nat} {G : rz_G} {a : Nat} (hG : G a = some (.inr (2, [.int 0, .int 0, .null, .null, .null, .null, .null, .null, .int 0, .int 0, .int 0, .null, .null]))) : rn_C w (d + 2) 69 300 y_Mach_init m_Mach_init [.ref a] G (a + 1) (fun r G' => r = none ∧ (∀ x, x < a → G' x = G x) ∧ mc_is G' a (upd (fun _ => 0) 0 (nI 1)) (fun _ _ => 0) (fun _ _ => 0) (fun _ => []) (fun _ => 0)) := by
  refine rn_enter [some (.ref a), none] (by decide +kernel) rfl rfl (Nat.le_of_ble_eq_true rfl) rfl ?_
  refine rn_blk' [(.aload_n 0, 1, 0, 0)] (by decide +kernel) (by omega) (by omega) (fun K R hK hR => ?_)
  simp only [↓rx_aload_n0, ↓rx_nil, ↓ry_lr0s, ↓ry_lr0z, rz_set, rz_nol, rz_clr, List.set_cons_zero, List.set_cons_succ, rz_tr, Nat.reduceAdd, Int.reduceAdd, Int.reduceToNat, Int.reduceSub, Int.reduceNeg, Int.cast_ofNat_Int]
  refine hK _ _ _ _ ?_
  refine rn_obj (rz_j2 9 rfl rfl) rn_o1 rn_o2 (Nat.le_of_ble_eq_true rfl) (by decide +kernel) ?_
  have hfr : ∀ x, x < a → G x = G x := fun _ _ => rfl
  have hob := hG
  have hce : ∀ o, 1 ≤ o → o < 1 → (o ≠ 4 ∧ o ≠ 7) → G (a + o) = some (mc_cell a (upd (fun _ => 0) 0 (nI 1)) (fun _ _ => 0) (fun _ _ => 0) (fun _ => []) (fun _ => 0) o) := fun o h1 h2 => by omega
  refine rn_blk' [(.aload_n 0, 1, 0, 0), (.iconst 1, 1, 0, 0), (.putfield 9, 3, 2, 0)] (by decide +kernel) (by omega) (by omega) (fun K R hK hR => ?_)
  simp only [List.length_cons, List.length_nil, Nat.reduceLT, rf_2_0, rw_c1, ↓rx_aload_n0, ↓rx_iconst, ↓rx_nil, ↓rx_putfield, ↓ry_lr0s, ↓ry_lr0z, ↓ry_obu, ↓ry_vr, true_and, ↓rh_ob hob, rz_set, rz_nol, rz_clr, List.set_cons_zero, List.set_cons_succ, rz_tr, Nat.reduceAdd, Int.reduceAdd, Int.reduceToNat, Int.reduceSub, Int.reduceNeg, Int.cast_ofNat_Int]
  refine hK _ _ _ _ ?_
  generalize hg : rz_up G a _ = g1
  have hst : ∀ x, x ≠ a → x < a + 1 → g1 x = G x := fun x h1 h2 => by rw [← hg, rz_up_n _ _ h1]
  have hob : g1 a = some (.inr (2, [.int (nI 1), .int 0, .null, .null, .null, .null, .null, .null, .int 0, .int 0, .int 0, .null, .null])) := by rw [← hg, rz_up_s]
  have hfr : ∀ x, x < a → g1 x = G x := fun x hx => (hst x (by omega) (by omega)).trans (hfr x hx)
  have hce : ∀ o, 1 ≤ o → o < 1 → (o ≠ 4 ∧ o ≠ 7) → g1 (a + o) = some (mc_cell a (upd (fun _ => 0) 0 (nI 1)) (fun _ _ => 0) (fun _ _ => 0) (fun _ => []) (fun _ => 0) o) := fun o h1 h2 h3 => (hst _ (by omega) (by omega)).trans (hce o h1 h2 h3)
  clear hg hst
  refine rn_blk' [(.aload_n 0, 1, 0, 0), (.iconst 0, 1, 0, 0), (.putfield 15, 3, 2, 1)] (by decide +kernel) (by omega) (by omega) (fun K R hK hR => ?_)
  simp only [List.length_cons, List.length_nil, Nat.reduceLT, rf_2_1, rw_c0, ↓rx_aload_n0, ↓rx_iconst, ↓rx_nil, ↓rx_putfield, ↓ry_lr0s, ↓ry_lr0z, ↓ry_obu, ↓ry_vr, true_and, ↓rh_ob hob, rz_set, rz_nol, rz_clr, List.set_cons_zero, List.set_cons_succ, rz_tr, Nat.reduceAdd, Int.reduceAdd, Int.reduceToNat, Int.reduceSub, Int.reduceNeg, Int.cast_ofNat_Int]
  refine hK _ _ _ _ ?_
  generalize hg : rz_up g1 a _ = g2
  have hst : ∀ x, x ≠ a → x < a + 1 → g2 x = g1 x := fun x h1 h2 => by rw [← hg, rz_up_n _ _ h1]
  have hob : g2 a = some (.inr (2, [.int (nI 1), .int (nI 0), .null, .null, .null, .null, .null, .null, .int 0, .int 0, .int 0, .null, .null])) := by rw [← hg, rz_up_s]
  have hfr : ∀ x, x < a → g2 x = G x := fun x hx => (hst x (by omega) (by omega)).trans (hfr x hx)
  have hce : ∀ o, 1 ≤ o → o < 1 → (o ≠ 4 ∧ o ≠ 7) → g2 (a + o) = some (mc_cell a (upd (fun _ => 0) 0 (nI 1)) (fun _ _ => 0) (fun _ _ => 0) (fun _ => []) (fun _ => 0) o) := fun o h1 h2 h3 => (hst _ (by omega) (by omega)).trans (hce o h1 h2 h3)
  clear hg hst
  refine rn_blk' [(.aload_n 0, 1, 0, 0), (.bipush 24, 2, 0, 0)] (by decide +kernel) (by omega) (by omega) (fun K R hK hR => ?_)
  simp only [rw_b24, ↓rx_aload_n0, ↓rx_bipush, ↓rx_nil, ↓ry_lr0s, ↓ry_lr0z, rz_set, rz_nol, rz_clr, List.set_cons_zero, List.set_cons_succ, rz_tr, Nat.reduceAdd, Int.reduceAdd, Int.reduceToNat, Int.reduceSub, Int.reduceNeg, Int.cast_ofNat_Int]
  refine hK _ _ _ _ ?_
  refine rn_na_i (N := 24) (by decide) (by decide +kernel) (Or.inl rfl) (by decide) (by decide) ?_
  change rn_T w _ _ _ _ 1 24 _ _ (.ref (a + 1) :: _) (rz_up g2 (a + 1) _) _
  have e1 : rz_up g2 (a + 1) (.inl (0, 24, .inl (fun _ => 0))) a = some (.inr (2, [.int (nI 1), .int (nI 0), .null, .null, .null, .null, .null, .null, .int 0, .int 0, .int 0, .null, .null])) := by rw [rz_up_n _ _ (by omega)]; exact hob
  refine rn_blk' [(.putfield 18, 3, 2, 2)] (by decide +kernel) (by omega) (by omega) (fun K R hK hR => ?_)
  simp only [List.length_cons, List.length_nil, Nat.reduceLT, rf_2_2, ↓rx_nil, ↓rx_putfield, ↓ry_obu, ↓ry_vr, true_and, ↓rh_ob e1, rz_set, rz_nol, rz_clr, List.set_cons_zero, List.set_cons_succ, rz_tr, Nat.reduceAdd, Int.reduceAdd, Int.reduceToNat, Int.reduceSub, Int.reduceNeg, Int.cast_ofNat_Int]
  refine hK _ _ _ _ ?_
  clear e1
  generalize hg : rz_up (rz_up g2 (a + 1) _) a _ = g3
  have hst : ∀ x, x ≠ a → x < a + 1 → g3 x = g2 x := fun x h1 h2 => by rw [← hg, rz_up_n _ _ h1, rz_up_n _ _ (by omega)]
  have hob : g3 a = some (.inr (2, [.int (nI 1), .int (nI 0), .ref (a + 1), .null, .null, .null, .null, .null, .int 0, .int 0, .int 0, .null, .null])) := by rw [← hg, rz_up_s]
  have hfr : ∀ x, x < a → g3 x = G x := fun x hx => (hst x (by omega) (by omega)).trans (hfr x hx)
  have hn1 : g3 (a + 1) = some (.inl (0, 24, .inl (fun _ => 0))) := by rw [← hg, rz_up_n _ _ (by omega), rz_up_s]
  have hce : ∀ o, 1 ≤ o → o < 2 → (o ≠ 4 ∧ o ≠ 7) → g3 (a + o) = some (mc_cell a (upd (fun _ => 0) 0 (nI 1)) (fun _ _ => 0) (fun _ _ => 0) (fun _ => []) (fun _ => 0) o) := fun o h1 h2 h3 => by
    by_cases c : o < 1
    · exact (hst _ (by omega) (by omega)).trans (hce o h1 c h3)
    by_cases c1 : o = 1
    · subst c1; exact hn1
    omega
  clear hg hst hn1
  refine rn_blk' [(.aload_n 0, 1, 0, 0), (.bipush 24, 2, 0, 0)] (by decide +kernel) (by omega) (by omega) (fun K R hK hR => ?_)
  simp only [rw_b24, ↓rx_aload_n0, ↓rx_bipush, ↓rx_nil, ↓ry_lr0s, ↓ry_lr0z, rz_set, rz_nol, rz_clr, List.set_cons_zero, List.set_cons_succ, rz_tr, Nat.reduceAdd, Int.reduceAdd, Int.reduceToNat, Int.reduceSub, Int.reduceNeg, Int.cast_ofNat_Int]
  refine hK _ _ _ _ ?_
  refine rn_na_i (N := 24) (by decide) (by decide +kernel) (Or.inr ⟨a + 1, rfl, by rw [hce 1 (by decide) (by decide) ⟨by decide, by decide⟩]; simp⟩) (by decide) (by decide) ?_
  change rn_T w _ _ _ _ 2 48 _ _ (.ref (a + 2) :: _) (rz_up g3 (a + 2) _) _
  have e1 : rz_up g3 (a + 2) (.inl (0, 24, .inl (fun _ => 0))) a = some (.inr (2, [.int (nI 1), .int (nI 0), .ref (a + 1), .null, .null, .null, .null, .null, .int 0, .int 0, .int 0, .null, .null])) := by rw [rz_up_n _ _ (by omega)]; exact hob
  refine rn_blk' [(.putfield 22, 3, 2, 3)] (by decide +kernel) (by omega) (by omega) (fun K R hK hR => ?_)
  simp only [List.length_cons, List.length_nil, Nat.reduceLT, rf_2_3, ↓rx_nil, ↓rx_putfield, ↓ry_obu, ↓ry_vr, true_and, ↓rh_ob e1, rz_set, rz_nol, rz_clr, List.set_cons_zero, List.set_cons_succ, rz_tr, Nat.reduceAdd, Int.reduceAdd, Int.reduceToNat, Int.reduceSub, Int.reduceNeg, Int.cast_ofNat_Int]
  refine hK _ _ _ _ ?_
  clear e1
  generalize hg : rz_up (rz_up g3 (a + 2) _) a _ = g4
  have hst : ∀ x, x ≠ a → x < a + 2 → g4 x = g3 x := fun x h1 h2 => by rw [← hg, rz_up_n _ _ h1, rz_up_n _ _ (by omega)]
  have hob : g4 a = some (.inr (2, [.int (nI 1), .int (nI 0), .ref (a + 1), .ref (a + 2), .null, .null, .null, .null, .int 0, .int 0, .int 0, .null, .null])) := by rw [← hg, rz_up_s]
  have hfr : ∀ x, x < a → g4 x = G x := fun x hx => (hst x (by omega) (by omega)).trans (hfr x hx)
  have hn2 : g4 (a + 2) = some (.inl (0, 24, .inl (fun _ => 0))) := by rw [← hg, rz_up_n _ _ (by omega), rz_up_s]
  have hce : ∀ o, 1 ≤ o → o < 3 → (o ≠ 4 ∧ o ≠ 7) → g4 (a + o) = some (mc_cell a (upd (fun _ => 0) 0 (nI 1)) (fun _ _ => 0) (fun _ _ => 0) (fun _ => []) (fun _ => 0) o) := fun o h1 h2 h3 => by
    by_cases c : o < 2
    · exact (hst _ (by omega) (by omega)).trans (hce o h1 c h3)
    by_cases c2 : o = 2
    · subst c2; exact hn2
    omega
  clear hg hst hn2
  refine rn_blk' [(.aload_n 0, 1, 0, 0), (.bipush 24, 2, 0, 0)] (by decide +kernel) (by omega) (by omega) (fun K R hK hR => ?_)
  simp only [rw_b24, ↓rx_aload_n0, ↓rx_bipush, ↓rx_nil, ↓ry_lr0s, ↓ry_lr0z, rz_set, rz_nol, rz_clr, List.set_cons_zero, List.set_cons_succ, rz_tr, Nat.reduceAdd, Int.reduceAdd, Int.reduceToNat, Int.reduceSub, Int.reduceNeg, Int.cast_ofNat_Int]
  refine hK _ _ _ _ ?_
  refine rn_na_i (N := 24) (by decide) (by decide +kernel) (Or.inr ⟨a + 2, rfl, by rw [hce 2 (by decide) (by decide) ⟨by decide, by decide⟩]; simp⟩) (by decide) (by decide) ?_
  change rn_T w _ _ _ _ 3 72 _ _ (.ref (a + 3) :: _) (rz_up g4 (a + 3) _) _
  have e1 : rz_up g4 (a + 3) (.inl (0, 24, .inl (fun _ => 0))) a = some (.inr (2, [.int (nI 1), .int (nI 0), .ref (a + 1), .ref (a + 2), .null, .null, .null, .null, .int 0, .int 0, .int 0, .null, .null])) := by rw [rz_up_n _ _ (by omega)]; exact hob
  refine rn_blk' [(.putfield 25, 3, 2, 4)] (by decide +kernel) (by omega) (by omega) (fun K R hK hR => ?_)
  simp only [List.length_cons, List.length_nil, Nat.reduceLT, rf_2_4, ↓rx_nil, ↓rx_putfield, ↓ry_obu, ↓ry_vr, true_and, ↓rh_ob e1, rz_set, rz_nol, rz_clr, List.set_cons_zero, List.set_cons_succ, rz_tr, Nat.reduceAdd, Int.reduceAdd, Int.reduceToNat, Int.reduceSub, Int.reduceNeg, Int.cast_ofNat_Int]
  refine hK _ _ _ _ ?_
  clear e1
  generalize hg : rz_up (rz_up g4 (a + 3) _) a _ = g5
  have hst : ∀ x, x ≠ a → x < a + 3 → g5 x = g4 x := fun x h1 h2 => by rw [← hg, rz_up_n _ _ h1, rz_up_n _ _ (by omega)]
  have hob : g5 a = some (.inr (2, [.int (nI 1), .int (nI 0), .ref (a + 1), .ref (a + 2), .ref (a + 3), .null, .null, .null, .int 0, .int 0, .int 0, .null, .null])) := by rw [← hg, rz_up_s]
  have hfr : ∀ x, x < a → g5 x = G x := fun x hx => (hst x (by omega) (by omega)).trans (hfr x hx)
  have hn3 : g5 (a + 3) = some (.inl (0, 24, .inl (fun _ => 0))) := by rw [← hg, rz_up_n _ _ (by omega), rz_up_s]
  have hce : ∀ o, 1 ≤ o → o < 4 → (o ≠ 4 ∧ o ≠ 7) → g5 (a + o) = some (mc_cell a (upd (fun _ => 0) 0 (nI 1)) (fun _ _ => 0) (fun _ _ => 0) (fun _ => []) (fun _ => 0) o) := fun o h1 h2 h3 => by
    by_cases c : o < 3
    · exact (hst _ (by omega) (by omega)).trans (hce o h1 c h3)
    by_cases c3 : o = 3
    · subst c3; exact hn3
    omega
  clear hg hst hn3
  refine rn_blk' [(.aload_n 0, 1, 0, 0), (.bipush 24, 2, 0, 0)] (by decide +kernel) (by omega) (by omega) (fun K R hK hR => ?_)
  simp only [rw_b24, ↓rx_aload_n0, ↓rx_bipush, ↓rx_nil, ↓ry_lr0s, ↓ry_lr0z, rz_set, rz_nol, rz_clr, List.set_cons_zero, List.set_cons_succ, rz_tr, Nat.reduceAdd, Int.reduceAdd, Int.reduceToNat, Int.reduceSub, Int.reduceNeg, Int.cast_ofNat_Int]
  refine hK _ _ _ _ ?_
  refine rn_newq (ti := 4) (N := 24) (C := "WriterDesk$Word") rfl (rz_j2 10 rfl rfl) (fun s q => q.2.1) (by decide) (by decide +kernel) (Or.inr ⟨a + 3, rfl, by rw [hce 3 (by decide) (by decide) ⟨by decide, by decide⟩]; simp⟩) (by decide) (by decide) ?_
  change rn_T w _ _ _ _ 4 96 _ _ (.ref (a + 4) :: _) (rz_up g5 (a + 4) _) _
  have e1 : rz_up g5 (a + 4) (.inl (4, 24, .inr (.inr (.inr (.inr (fun _ => none)))))) a = some (.inr (2, [.int (nI 1), .int (nI 0), .ref (a + 1), .ref (a + 2), .ref (a + 3), .null, .null, .null, .int 0, .int 0, .int 0, .null, .null])) := by rw [rz_up_n _ _ (by omega)]; exact hob
  refine rn_blk' [(.putfield 30, 3, 2, 5)] (by decide +kernel) (by omega) (by omega) (fun K R hK hR => ?_)
  simp only [List.length_cons, List.length_nil, Nat.reduceLT, rf_2_5, ↓rx_nil, ↓rx_putfield, ↓ry_obu, ↓ry_vr, true_and, ↓rh_ob e1, rz_set, rz_nol, rz_clr, List.set_cons_zero, List.set_cons_succ, rz_tr, Nat.reduceAdd, Int.reduceAdd, Int.reduceToNat, Int.reduceSub, Int.reduceNeg, Int.cast_ofNat_Int]
  refine hK _ _ _ _ ?_
  clear e1
  generalize hg : rz_up (rz_up g5 (a + 4) _) a _ = g6
  have hst : ∀ x, x ≠ a → x < a + 4 → g6 x = g5 x := fun x h1 h2 => by rw [← hg, rz_up_n _ _ h1, rz_up_n _ _ (by omega)]
  have hob : g6 a = some (.inr (2, [.int (nI 1), .int (nI 0), .ref (a + 1), .ref (a + 2), .ref (a + 3), .ref (a + 4), .null, .null, .int 0, .int 0, .int 0, .null, .null])) := by rw [← hg, rz_up_s]
  have hfr : ∀ x, x < a → g6 x = G x := fun x hx => (hst x (by omega) (by omega)).trans (hfr x hx)
  have hn4 : g6 (a + 4) = some (.inl (4, 24, .inr (.inr (.inr (.inr (fun _ => none)))))) := by rw [← hg, rz_up_n _ _ (by omega), rz_up_s]
  have hce : ∀ o, 1 ≤ o → o < 5 → (o ≠ 4 ∧ o ≠ 7) → g6 (a + o) = some (mc_cell a (upd (fun _ => 0) 0 (nI 1)) (fun _ _ => 0) (fun _ _ => 0) (fun _ => []) (fun _ => 0) o) := fun o h1 h2 h3 => by
    by_cases c : o < 4
    · exact (hst _ (by omega) (by omega)).trans (hce o h1 c h3)
    by_cases c4 : o = 4
    · exact absurd c4 (by omega)
    omega
  have hs4 := hn4
  clear hg hst hn4
  refine rn_blk' [(.aload_n 0, 1, 0, 0)] (by decide +kernel) (by omega) (by omega) (fun K R hK hR => ?_)
  simp only [↓rx_aload_n0, ↓rx_nil, ↓ry_lr0s, ↓ry_lr0z, rz_set, rz_nol, rz_clr, List.set_cons_zero, List.set_cons_succ, rz_tr, Nat.reduceAdd, Int.reduceAdd, Int.reduceToNat, Int.reduceSub, Int.reduceNeg, Int.cast_ofNat_Int]
  refine hK _ _ _ _ ?_
  refine rn_new (ci := 0) (r := ("WriterDesk$Word", F_Word, 2)) (fs := [.null, .int 0]) rfl (rz_j2 10 rfl rfl) (rz_j1 34 rfl rfl) (rz_j1 2 rfl rfl) (by decide +kernel) (by decide) (Or.inr ⟨a + 4, rfl, by rw [hs4]; simp⟩) (by decide) (by decide) ?_
  change rn_T w _ _ _ _ (4 + 1) (96 + 2) _ _ (.ref (a + 5) :: _) (rz_up g6 (a + 5) _) _
  refine rn_blk' [(.dup, 1, 0, 0), (.bipush 32, 2, 0, 0)] (by decide +kernel) (by omega) (by omega) (fun K R hK hR => ?_)
  simp only [rw_b32, ↓rx_bipush, ↓rx_dup, ↓rx_nil, ↓ry_v1i, ↓ry_v1r, rz_set, rz_nol, rz_clr, List.set_cons_zero, List.set_cons_succ, rz_tr, Nat.reduceAdd, Int.reduceAdd, Int.reduceToNat, Int.reduceSub, Int.reduceNeg, Int.cast_ofNat_Int]
  refine hK _ _ _ _ ?_
  refine rn_cI (As := [.int (nI 32)]) (b := a + 5) (S := [.ref (a + 5), .ref a]) (mc' := 1) (ms' := 3) l_Mach_34 (by decide +kernel) rfl (Nat.le_of_ble_eq_true rfl) (Or.inr ⟨a + 5, by rfl, by rw [rz_up_s]; simp⟩) (by decide) (by decide) (by
    have := c_Word_init (w := w) (d := d) (G := rz_up g6 (a + 5) (.inr (0, [.null, .int 0]))) (a := a + 5) (rm := 32) (by decide) (by decide) (rz_up_s _ _ _) rfl
    exact this) (fun r G' hr => ?_)
  obtain ⟨rfl, rfl⟩ := hr
  simp only [Option.toList, List.nil_append]
  change rn_T w _ _ _ _ 6 101 _ _ _ (wd_put _ _ 3 []) _
  have e1 : wd_put (rz_up g6 (a + 5) (.inr (0, [.null, .int 0]))) (a + 5) 3 [] a = some (.inr (2, [.int (nI 1), .int (nI 0), .ref (a + 1), .ref (a + 2), .ref (a + 3), .ref (a + 4), .null, .null, .int 0, .int 0, .int 0, .null, .null])) := by rw [wd_pout (by omega) (by omega), rz_up_n _ _ (by omega)]; exact hob
  refine rn_blk' [(.putfield 37, 3, 2, 6)] (by decide +kernel) (by omega) (by omega) (fun K R hK hR => ?_)
  simp only [List.length_cons, List.length_nil, Nat.reduceLT, rf_2_6, ↓rx_nil, ↓rx_putfield, ↓ry_obu, ↓ry_vr, true_and, ↓rh_ob e1, rz_set, rz_nol, rz_clr, List.set_cons_zero, List.set_cons_succ, rz_tr, Nat.reduceAdd, Int.reduceAdd, Int.reduceToNat, Int.reduceSub, Int.reduceNeg, Int.cast_ofNat_Int]
  refine hK _ _ _ _ ?_
  clear e1
  generalize hg : rz_up (wd_put (rz_up g6 (a + 5) _) (a + 5) 3 []) a _ = g7
  have hst : ∀ x, x ≠ a → x < a + 5 → g7 x = g6 x := fun x h1 h2 => by rw [← hg, rz_up_n _ _ h1, wd_pout (by omega) (by omega), rz_up_n _ _ (by omega)]
  have hob : g7 a = some (.inr (2, [.int (nI 1), .int (nI 0), .ref (a + 1), .ref (a + 2), .ref (a + 3), .ref (a + 4), .ref (a + 5), .null, .int 0, .int 0, .int 0, .null, .null])) := by rw [← hg, rz_up_s]
  have hfr : ∀ x, x < a → g7 x = G x := fun x hx => (hst x (by omega) (by omega)).trans (hfr x hx)
  have hs4 := (hst (a + 4) (by omega) (by omega)).trans hs4
  have hn5 : g7 (a + 5) = some (wd_o (a + 5) []) := by rw [← hg, rz_up_n _ _ (by omega)]; exact (wd_pis (wd_ok_nil (by decide))).1
  have hn6 : g7 (a + 6) = some (wd_a 3 []) := by rw [← hg, rz_up_n _ _ (by omega)]; exact (wd_pis (wd_ok_nil (by decide))).2.1
  have hce : ∀ o, 1 ≤ o → o < 7 → (o ≠ 4 ∧ o ≠ 7) → g7 (a + o) = some (mc_cell a (upd (fun _ => 0) 0 (nI 1)) (fun _ _ => 0) (fun _ _ => 0) (fun _ => []) (fun _ => 0) o) := fun o h1 h2 h3 => by
    by_cases c : o < 5
    · exact (hst _ (by omega) (by omega)).trans (hce o h1 c h3)
    by_cases c5 : o = 5
    · subst c5; exact hn5
    by_cases c6 : o = 6
    · subst c6; exact hn6
    omega
  clear hg hst hn5 hn6
  refine rn_blk' [(.aload_n 0, 1, 0, 0), (.bipush 6, 2, 0, 0)] (by decide +kernel) (by omega) (by omega) (fun K R hK hR => ?_)
  simp only [rw_b6, ↓rx_aload_n0, ↓rx_bipush, ↓rx_nil, ↓ry_lr0s, ↓ry_lr0z, rz_set, rz_nol, rz_clr, List.set_cons_zero, List.set_cons_succ, rz_tr, Nat.reduceAdd, Int.reduceAdd, Int.reduceToNat, Int.reduceSub, Int.reduceNeg, Int.cast_ofNat_Int]
  refine hK _ _ _ _ ?_
  refine rn_newq (ti := 4) (N := 6) (C := "WriterDesk$Word") rfl (rz_j2 10 rfl rfl) (fun s q => q.2.1) (by decide) (by decide +kernel) (Or.inr ⟨a + 6, rfl, by rw [hce 6 (by decide) (by decide) ⟨by decide, by decide⟩]; simp⟩) (by decide) (by decide) ?_
  change rn_T w _ _ _ _ 7 107 _ _ (.ref (a + 7) :: _) (rz_up g7 (a + 7) _) _
  have e1 : rz_up g7 (a + 7) (.inl (4, 6, .inr (.inr (.inr (.inr (fun _ => none)))))) a = some (.inr (2, [.int (nI 1), .int (nI 0), .ref (a + 1), .ref (a + 2), .ref (a + 3), .ref (a + 4), .ref (a + 5), .null, .int 0, .int 0, .int 0, .null, .null])) := by rw [rz_up_n _ _ (by omega)]; exact hob
  refine rn_blk' [(.putfield 41, 3, 2, 7)] (by decide +kernel) (by omega) (by omega) (fun K R hK hR => ?_)
  simp only [List.length_cons, List.length_nil, Nat.reduceLT, rf_2_7, ↓rx_nil, ↓rx_putfield, ↓ry_obu, ↓ry_vr, true_and, ↓rh_ob e1, rz_set, rz_nol, rz_clr, List.set_cons_zero, List.set_cons_succ, rz_tr, Nat.reduceAdd, Int.reduceAdd, Int.reduceToNat, Int.reduceSub, Int.reduceNeg, Int.cast_ofNat_Int]
  refine hK _ _ _ _ ?_
  clear e1
  generalize hg : rz_up (rz_up g7 (a + 7) _) a _ = g8
  have hst : ∀ x, x ≠ a → x < a + 7 → g8 x = g7 x := fun x h1 h2 => by rw [← hg, rz_up_n _ _ h1, rz_up_n _ _ (by omega)]
  have hob : g8 a = some (.inr (2, [.int (nI 1), .int (nI 0), .ref (a + 1), .ref (a + 2), .ref (a + 3), .ref (a + 4), .ref (a + 5), .ref (a + 7), .int 0, .int 0, .int 0, .null, .null])) := by rw [← hg, rz_up_s]
  have hfr : ∀ x, x < a → g8 x = G x := fun x hx => (hst x (by omega) (by omega)).trans (hfr x hx)
  have hs4 := (hst (a + 4) (by omega) (by omega)).trans hs4
  have hn7 : g8 (a + 7) = some (.inl (4, 6, .inr (.inr (.inr (.inr (fun _ => none)))))) := by rw [← hg, rz_up_n _ _ (by omega), rz_up_s]
  have hce : ∀ o, 1 ≤ o → o < 8 → (o ≠ 4 ∧ o ≠ 7) → g8 (a + o) = some (mc_cell a (upd (fun _ => 0) 0 (nI 1)) (fun _ _ => 0) (fun _ _ => 0) (fun _ => []) (fun _ => 0) o) := fun o h1 h2 h3 => by
    by_cases c : o < 7
    · exact (hst _ (by omega) (by omega)).trans (hce o h1 c h3)
    by_cases c7 : o = 7
    · exact absurd c7 (by omega)
    omega
  have hs7 := hn7
  clear hg hst hn7
  refine rn_blk' [(.aload_n 0, 1, 0, 0), (.iconst 0, 1, 0, 0), (.putfield 44, 3, 2, 8)] (by decide +kernel) (by omega) (by omega) (fun K R hK hR => ?_)
  simp only [List.length_cons, List.length_nil, Nat.reduceLT, rf_2_8, rw_c0, ↓rx_aload_n0, ↓rx_iconst, ↓rx_nil, ↓rx_putfield, ↓ry_lr0s, ↓ry_lr0z, ↓ry_obu, ↓ry_vr, true_and, ↓rh_ob hob, rz_set, rz_nol, rz_clr, List.set_cons_zero, List.set_cons_succ, rz_tr, Nat.reduceAdd, Int.reduceAdd, Int.reduceToNat, Int.reduceSub, Int.reduceNeg, Int.cast_ofNat_Int]
  refine hK _ _ _ _ ?_
  generalize hg : rz_up g8 a _ = g9
  have hst : ∀ x, x ≠ a → x < a + 8 → g9 x = g8 x := fun x h1 h2 => by rw [← hg, rz_up_n _ _ h1]
  have hob : g9 a = some (.inr (2, [.int (nI 1), .int (nI 0), .ref (a + 1), .ref (a + 2), .ref (a + 3), .ref (a + 4), .ref (a + 5), .ref (a + 7), .int (nI 0), .int 0, .int 0, .null, .null])) := by rw [← hg, rz_up_s]
  have hfr : ∀ x, x < a → g9 x = G x := fun x hx => (hst x (by omega) (by omega)).trans (hfr x hx)
  have hs4 := (hst (a + 4) (by omega) (by omega)).trans hs4
  have hs7 := (hst (a + 7) (by omega) (by omega)).trans hs7
  have hce : ∀ o, 1 ≤ o → o < 8 → (o ≠ 4 ∧ o ≠ 7) → g9 (a + o) = some (mc_cell a (upd (fun _ => 0) 0 (nI 1)) (fun _ _ => 0) (fun _ _ => 0) (fun _ => []) (fun _ => 0) o) := fun o h1 h2 h3 => (hst _ (by omega) (by omega)).trans (hce o h1 h2 h3)
  clear hg hst
  refine rn_blk' [(.aload_n 0, 1, 0, 0), (.iconst 0, 1, 0, 0), (.putfield 47, 3, 2, 9)] (by decide +kernel) (by omega) (by omega) (fun K R hK hR => ?_)
  simp only [List.length_cons, List.length_nil, Nat.reduceLT, rf_2_9, rf_2_9t, rw_c0, ↓rx_aload_n0, ↓rx_iconst, ↓rx_nil, ↓rx_putfield, ↓ry_lr0s, ↓ry_lr0z, ↓ry_obu, ↓ry_vr, true_and, ↓rh_ob hob, rz_set, rz_nol, rz_clr, List.set_cons_zero, List.set_cons_succ, rz_tr, Nat.reduceAdd, Int.reduceAdd, Int.reduceToNat, Int.reduceSub, Int.reduceNeg, Int.cast_ofNat_Int]
  refine hK _ _ _ _ ?_
  generalize hg : rz_up g9 a _ = g10
  have hst : ∀ x, x ≠ a → x < a + 8 → g10 x = g9 x := fun x h1 h2 => by rw [← hg, rz_up_n _ _ h1]
  have hob : g10 a = some (.inr (2, [.int (nI 1), .int (nI 0), .ref (a + 1), .ref (a + 2), .ref (a + 3), .ref (a + 4), .ref (a + 5), .ref (a + 7), .int (nI 0), .int (nI 0), .int 0, .null, .null])) := by rw [← hg, rz_up_s]
  have hfr : ∀ x, x < a → g10 x = G x := fun x hx => (hst x (by omega) (by omega)).trans (hfr x hx)
  have hs4 := (hst (a + 4) (by omega) (by omega)).trans hs4
  have hs7 := (hst (a + 7) (by omega) (by omega)).trans hs7
  have hce : ∀ o, 1 ≤ o → o < 8 → (o ≠ 4 ∧ o ≠ 7) → g10 (a + o) = some (mc_cell a (upd (fun _ => 0) 0 (nI 1)) (fun _ _ => 0) (fun _ _ => 0) (fun _ => []) (fun _ => 0) o) := fun o h1 h2 h3 => (hst _ (by omega) (by omega)).trans (hce o h1 h2 h3)
  clear hg hst
  refine rn_blk' [(.aload_n 0, 1, 0, 0), (.iconst 0, 1, 0, 0), (.putfield 51, 3, 2, 10)] (by decide +kernel) (by omega) (by omega) (fun K R hK hR => ?_)
  simp only [List.length_cons, List.length_nil, Nat.reduceLT, rf_2_10, rw_c0, ↓rx_aload_n0, ↓rx_iconst, ↓rx_nil, ↓rx_putfield, ↓ry_lr0s, ↓ry_lr0z, ↓ry_obu, ↓ry_vr, true_and, ↓rh_ob hob, rz_set, rz_nol, rz_clr, List.set_cons_zero, List.set_cons_succ, rz_tr, Nat.reduceAdd, Int.reduceAdd, Int.reduceToNat, Int.reduceSub, Int.reduceNeg, Int.cast_ofNat_Int]
  refine hK _ _ _ _ ?_
  generalize hg : rz_up g10 a _ = g11
  have hst : ∀ x, x ≠ a → x < a + 8 → g11 x = g10 x := fun x h1 h2 => by rw [← hg, rz_up_n _ _ h1]
  have hob : g11 a = some (.inr (2, [.int (nI 1), .int (nI 0), .ref (a + 1), .ref (a + 2), .ref (a + 3), .ref (a + 4), .ref (a + 5), .ref (a + 7), .int (nI 0), .int (nI 0), .int (nI 0), .null, .null])) := by rw [← hg, rz_up_s]
  have hfr : ∀ x, x < a → g11 x = G x := fun x hx => (hst x (by omega) (by omega)).trans (hfr x hx)
  have hs4 := (hst (a + 4) (by omega) (by omega)).trans hs4
  have hs7 := (hst (a + 7) (by omega) (by omega)).trans hs7
  have hce : ∀ o, 1 ≤ o → o < 8 → (o ≠ 4 ∧ o ≠ 7) → g11 (a + o) = some (mc_cell a (upd (fun _ => 0) 0 (nI 1)) (fun _ _ => 0) (fun _ _ => 0) (fun _ => []) (fun _ => 0) o) := fun o h1 h2 h3 => (hst _ (by omega) (by omega)).trans (hce o h1 h2 h3)
  clear hg hst
  refine rn_blk' [(.aload_n 0, 1, 0, 0), (.bipush 24, 2, 0, 0)] (by decide +kernel) (by omega) (by omega) (fun K R hK hR => ?_)
  simp only [rw_b24, ↓rx_aload_n0, ↓rx_bipush, ↓rx_nil, ↓ry_lr0s, ↓ry_lr0z, rz_set, rz_nol, rz_clr, List.set_cons_zero, List.set_cons_succ, rz_tr, Nat.reduceAdd, Int.reduceAdd, Int.reduceToNat, Int.reduceSub, Int.reduceNeg, Int.cast_ofNat_Int]
  refine hK _ _ _ _ ?_
  refine rn_na_i (N := 24) (by decide) (by decide +kernel) (Or.inr ⟨a + 7, rfl, by rw [hs7]; simp⟩) (by decide) (by decide) ?_
  change rn_T w _ _ _ _ 8 131 _ _ (.ref (a + 8) :: _) (rz_up g11 (a + 8) _) _
  have e1 : rz_up g11 (a + 8) (.inl (0, 24, .inl (fun _ => 0))) a = some (.inr (2, [.int (nI 1), .int (nI 0), .ref (a + 1), .ref (a + 2), .ref (a + 3), .ref (a + 4), .ref (a + 5), .ref (a + 7), .int (nI 0), .int (nI 0), .int (nI 0), .null, .null])) := by rw [rz_up_n _ _ (by omega)]; exact hob
  refine rn_blk' [(.putfield 54, 3, 2, 11)] (by decide +kernel) (by omega) (by omega) (fun K R hK hR => ?_)
  simp only [List.length_cons, List.length_nil, Nat.reduceLT, rf_2_11, ↓rx_nil, ↓rx_putfield, ↓ry_obu, ↓ry_vr, true_and, ↓rh_ob e1, rz_set, rz_nol, rz_clr, List.set_cons_zero, List.set_cons_succ, rz_tr, Nat.reduceAdd, Int.reduceAdd, Int.reduceToNat, Int.reduceSub, Int.reduceNeg, Int.cast_ofNat_Int]
  refine hK _ _ _ _ ?_
  clear e1
  generalize hg : rz_up (rz_up g11 (a + 8) _) a _ = g12
  have hst : ∀ x, x ≠ a → x < a + 8 → g12 x = g11 x := fun x h1 h2 => by rw [← hg, rz_up_n _ _ h1, rz_up_n _ _ (by omega)]
  have hob : g12 a = some (.inr (2, [.int (nI 1), .int (nI 0), .ref (a + 1), .ref (a + 2), .ref (a + 3), .ref (a + 4), .ref (a + 5), .ref (a + 7), .int (nI 0), .int (nI 0), .int (nI 0), .ref (a + 8), .null])) := by rw [← hg, rz_up_s]
  have hfr : ∀ x, x < a → g12 x = G x := fun x hx => (hst x (by omega) (by omega)).trans (hfr x hx)
  have hs4 := (hst (a + 4) (by omega) (by omega)).trans hs4
  have hs7 := (hst (a + 7) (by omega) (by omega)).trans hs7
  have hn8 : g12 (a + 8) = some (.inl (0, 24, .inl (fun _ => 0))) := by rw [← hg, rz_up_n _ _ (by omega), rz_up_s]
  have hce : ∀ o, 1 ≤ o → o < 9 → (o ≠ 4 ∧ o ≠ 7) → g12 (a + o) = some (mc_cell a (upd (fun _ => 0) 0 (nI 1)) (fun _ _ => 0) (fun _ _ => 0) (fun _ => []) (fun _ => 0) o) := fun o h1 h2 h3 => by
    by_cases c : o < 8
    · exact (hst _ (by omega) (by omega)).trans (hce o h1 c h3)
    by_cases c8 : o = 8
    · subst c8; exact hn8
    omega
  clear hg hst hn8
  refine rn_blk' [(.aload_n 0, 1, 0, 0), (.bipush 19, 2, 0, 0)] (by decide +kernel) (by omega) (by omega) (fun K R hK hR => ?_)
  simp only [rw_b19, ↓rx_aload_n0, ↓rx_bipush, ↓rx_nil, ↓ry_lr0s, ↓ry_lr0z, rz_set, rz_nol, rz_clr, List.set_cons_zero, List.set_cons_succ, rz_tr, Nat.reduceAdd, Int.reduceAdd, Int.reduceToNat, Int.reduceSub, Int.reduceNeg, Int.cast_ofNat_Int]
  refine hK _ _ _ _ ?_
  refine rn_na_i (N := 19) (by decide) (by decide +kernel) (Or.inr ⟨a + 8, rfl, by rw [hce 8 (by decide) (by decide) ⟨by decide, by decide⟩]; simp⟩) (by decide) (by decide) ?_
  change rn_T w _ _ _ _ 9 150 _ _ (.ref (a + 9) :: _) (rz_up g12 (a + 9) _) _
  have e1 : rz_up g12 (a + 9) (.inl (0, 19, .inl (fun _ => 0))) a = some (.inr (2, [.int (nI 1), .int (nI 0), .ref (a + 1), .ref (a + 2), .ref (a + 3), .ref (a + 4), .ref (a + 5), .ref (a + 7), .int (nI 0), .int (nI 0), .int (nI 0), .ref (a + 8), .null])) := by rw [rz_up_n _ _ (by omega)]; exact hob
  refine rn_blk' [(.putfield 57, 3, 2, 12)] (by decide +kernel) (by omega) (by omega) (fun K R hK hR => ?_)
  simp only [List.length_cons, List.length_nil, Nat.reduceLT, rf_2_12, ↓rx_nil, ↓rx_putfield, ↓ry_obu, ↓ry_vr, true_and, ↓rh_ob e1, rz_set, rz_nol, rz_clr, List.set_cons_zero, List.set_cons_succ, rz_tr, Nat.reduceAdd, Int.reduceAdd, Int.reduceToNat, Int.reduceSub, Int.reduceNeg, Int.cast_ofNat_Int]
  refine hK _ _ _ _ ?_
  clear e1
  generalize hg : rz_up (rz_up g12 (a + 9) _) a _ = g13
  have hst : ∀ x, x ≠ a → x < a + 9 → g13 x = g12 x := fun x h1 h2 => by rw [← hg, rz_up_n _ _ h1, rz_up_n _ _ (by omega)]
  have hob : g13 a = some (.inr (2, [.int (nI 1), .int (nI 0), .ref (a + 1), .ref (a + 2), .ref (a + 3), .ref (a + 4), .ref (a + 5), .ref (a + 7), .int (nI 0), .int (nI 0), .int (nI 0), .ref (a + 8), .ref (a + 9)])) := by rw [← hg, rz_up_s]
  have hfr : ∀ x, x < a → g13 x = G x := fun x hx => (hst x (by omega) (by omega)).trans (hfr x hx)
  have hs4 := (hst (a + 4) (by omega) (by omega)).trans hs4
  have hs7 := (hst (a + 7) (by omega) (by omega)).trans hs7
  have hn9 : g13 (a + 9) = some (.inl (0, 19, .inl (fun _ => 0))) := by rw [← hg, rz_up_n _ _ (by omega), rz_up_s]
  have hce : ∀ o, 1 ≤ o → o < 10 → (o ≠ 4 ∧ o ≠ 7) → g13 (a + o) = some (mc_cell a (upd (fun _ => 0) 0 (nI 1)) (fun _ _ => 0) (fun _ _ => 0) (fun _ => []) (fun _ => 0) o) := fun o h1 h2 h3 => by
    by_cases c : o < 9
    · exact (hst _ (by omega) (by omega)).trans (hce o h1 c h3)
    by_cases c9 : o = 9
    · subst c9; exact hn9
    omega
  clear hg hst hn9
  have fin : ∀ (g : rz_G) (f4 : Nat → Option Nat) (f7 : Nat → Option Nat) (z1 : Option Value), (∀ x, x < a → g x = G x) → g a = some (.inr (2, [.int (nI 1), .int (nI 0), .ref (a + 1), .ref (a + 2), .ref (a + 3), .ref (a + 4), .ref (a + 5), .ref (a + 7), .int (nI 0), .int (nI 0), .int (nI 0), .ref (a + 8), .ref (a + 9)])) → (∀ o, 1 ≤ o → o < 70 → (o ≠ 4 ∧ o ≠ 7) → g (a + o) = some (mc_cell a (upd (fun _ => 0) 0 (nI 1)) (fun _ _ => 0) (fun _ _ => 0) (fun _ => []) (fun _ => 0) o)) → g (a + 4) = some (.inl (4, 24, .inr (.inr (.inr (.inr f4))))) → (∀ k, k < 24 → f4 k = some (a + 10 + 2 * k)) → g (a + 7) = some (.inl (4, 6, .inr (.inr (.inr (.inr f7))))) → (∀ k, k < 6 → f7 k = some (a + 58 + 2 * k)) → rn_T w (d + 2) 69 300 m_Mach_init 69 300 158 [some (.ref a), z1] [] g ((a + 1, (fun r G' => r = none ∧ (∀ x, x < a → G' x = G x) ∧ mc_is G' a (upd (fun _ => 0) 0 (nI 1)) (fun _ _ => 0) (fun _ _ => 0) (fun _ => []) (fun _ => 0))) : rn_P) := by
    intro g f4 f7 z1 hfr hob hce hs4 hf4 hs7 hf7
    refine rn_ext (f' := fun k => some (a + 10 + 2 * k)) hs4 hf4 ?_
    generalize hg : rz_up g (a + 4) _ = h0
    have hst : ∀ x, x ≠ a + 4 → h0 x = g x := fun x hx => by rw [← hg, rz_up_n _ _ hx]
    have he4 : h0 (a + 4) = some (.inl (4, 24, .inr (.inr (.inr (.inr (fun k => some (a + 10 + 2 * k))))))) := by rw [← hg, rz_up_s]
    have hfr : ∀ x, x < a → h0 x = G x := fun x hx => (hst x (by omega)).trans (hfr x hx)
    have hob := (hst a (by omega)).trans hob
    have hce : ∀ o, 1 ≤ o → o < 70 → (o ≠ 4 ∧ o ≠ 7) → h0 (a + o) = some (mc_cell a (upd (fun _ => 0) 0 (nI 1)) (fun _ _ => 0) (fun _ _ => 0) (fun _ => []) (fun _ => 0) o) := fun o h1 h2 h3 => (hst _ (by omega)).trans (hce o h1 h2 h3)
    have hs7 := (hst (a + 7) (by omega)).trans hs7
    clear hg hst
    refine rn_ext (f' := fun k => some (a + 58 + 2 * k)) hs7 hf7 ?_
    generalize hg : rz_up h0 (a + 7) _ = h1
    have hst : ∀ x, x ≠ a + 7 → h1 x = h0 x := fun x hx => by rw [← hg, rz_up_n _ _ hx]
    have he7 : h1 (a + 7) = some (.inl (4, 6, .inr (.inr (.inr (.inr (fun k => some (a + 58 + 2 * k))))))) := by rw [← hg, rz_up_s]
    have hfr : ∀ x, x < a → h1 x = G x := fun x hx => (hst x (by omega)).trans (hfr x hx)
    have hob := (hst a (by omega)).trans hob
    have hce : ∀ o, 1 ≤ o → o < 70 → (o ≠ 4 ∧ o ≠ 7) → h1 (a + o) = some (mc_cell a (upd (fun _ => 0) 0 (nI 1)) (fun _ _ => 0) (fun _ _ => 0) (fun _ => []) (fun _ => 0) o) := fun o h1 h2 h3 => (hst _ (by omega)).trans (hce o h1 h2 h3)
    have he4 := (hst (a + 4) (by omega)).trans he4
    clear hg hst
    refine rn_blk' [(.return_, 1, 0, 0)] (by decide +kernel) (by omega) (by omega) (fun K R hK hR => ?_)
    simp only [↓rx_nil, ↓rx_return_, rz_set, rz_nol, rz_clr, List.set_cons_zero, List.set_cons_succ, rz_tr, Nat.reduceAdd, Int.reduceAdd, Int.reduceToNat, Int.reduceSub, Int.reduceNeg, Int.cast_ofNat_Int]
    refine hR _ _ (rz_nb_i (by decide)) ⟨rfl, hfr, fun o ho => ?_⟩
    by_cases c : o = 0
    · subst c; exact hob
    by_cases c4 : o = 4
    · subst c4; exact he4
    by_cases c7 : o = 7
    · subst c7; exact he7
    exact hce o (by omega) ho ⟨c4, c7⟩
  have lp1 : ∀ (k i : Nat) (g : rz_G) (f4 : Nat → Option Nat) (f7 : Nat → Option Nat), i + k = 6 → (∀ x, x < a → g x = G x) → g a = some (.inr (2, [.int (nI 1), .int (nI 0), .ref (a + 1), .ref (a + 2), .ref (a + 3), .ref (a + 4), .ref (a + 5), .ref (a + 7), .int (nI 0), .int (nI 0), .int (nI 0), .ref (a + 8), .ref (a + 9)])) → (∀ o, 1 ≤ o → o < 58 + 2 * i → (o ≠ 4 ∧ o ≠ 7) → g (a + o) = some (mc_cell a (upd (fun _ => 0) 0 (nI 1)) (fun _ _ => 0) (fun _ _ => 0) (fun _ => []) (fun _ => 0) o)) → g (a + 4) = some (.inl (4, 24, .inr (.inr (.inr (.inr f4))))) → (∀ k, k < 24 → f4 k = some (a + 10 + 2 * k)) → g (a + 7) = some (.inl (4, 6, .inr (.inr (.inr (.inr f7))))) → (∀ k, k < i → f7 k = some (a + 58 + 2 * k)) → rn_T w (d + 2) 69 300 m_Mach_init (57 + 2 * i) (270 + 5 * i) 131 [some (.ref a), some (.int (nI i))] [] g ((a + 1, (fun r G' => r = none ∧ (∀ x, x < a → G' x = G x) ∧ mc_is G' a (upd (fun _ => 0) 0 (nI 1)) (fun _ _ => 0) (fun _ _ => 0) (fun _ => []) (fun _ => 0))) : rn_P) := by
    intro k
    induction k with
    | zero =>
      intro i g f4 f7 hik hfr hob hce hs4 hf4 hs7 hf7
      have hi : i = 6 := by omega
      subst hi
      refine rn_blk' [(.iload_n 1, 1, 0, 0), (.bipush 6, 2, 0, 0), (.if_icmp .ge 24, 3, 0, 0)] (by decide +kernel) (by omega) (by omega) (fun K R hK hR => ?_)
      simp only [rw_b6, ↓rx_bipush, ↓rx_if_icmp_ge, ↓rx_iload_n1, ↓rx_nil, ↓ry_i2, ↓ry_li0s, ↓ry_li0z, ↓rh_ob hob, rz_set, rz_nol, rz_clr, List.set_cons_zero, List.set_cons_succ, rz_tr, Nat.reduceAdd, Int.reduceAdd, Int.reduceToNat, Int.reduceSub, Int.reduceNeg, Int.cast_ofNat_Int]
      refine ⟨fun _ => hK _ _ _ _ ?_, fun q => absurd (Int32.le_refl _) q⟩
      exact fin g f4 f7 _ hfr hob hce hs4 hf4 hs7 hf7
    | succ k ih =>
      intro i g f4 f7 hik hfr hob hce hs4 hf4 hs7 hf7
      refine rn_blk' [(.iload_n 1, 1, 0, 0), (.bipush 6, 2, 0, 0), (.if_icmp .ge 24, 3, 0, 0), (.aload_n 0, 1, 0, 0), (.getfield 41, 3, 2, 7), (.iload_n 1, 1, 0, 0)] (by decide +kernel) (by omega) (by omega) (fun K R hK hR => ?_)
      simp only [rw_b6, ↓rx_aload_n0, ↓rx_bipush, ↓rx_getfield, ↓rx_if_icmp_ge, ↓rx_iload_n1, ↓rx_nil, ↓ry_fvs, ↓ry_fvz, ↓ry_i2, ↓ry_li0s, ↓ry_li0z, ↓ry_lr0s, ↓ry_lr0z, ↓ry_obu, ↓ry_r1, ↓rh_ob hob, rz_set, rz_nol, rz_clr, List.set_cons_zero, List.set_cons_succ, rz_tr, Nat.reduceAdd, Int.reduceAdd, Int.reduceToNat, Int.reduceSub, Int.reduceNeg, Int.cast_ofNat_Int]
      rw [nI_leI (by decide) (by omega)]
      refine ⟨fun q => by omega, fun _ => hK _ _ _ _ ?_⟩
      refine rn_new (ci := 0) (r := ("WriterDesk$Word", F_Word, 2)) (fs := [.null, .int 0]) rfl (rz_j2 10 rfl rfl) (rz_j1 34 rfl rfl) (rz_j1 2 rfl rfl) (by decide +kernel) (by decide) (Or.inr ⟨a + (57 + 2 * i), by show _ = a + 1 + _; omega, by rw [hce (57 + 2 * i) (by omega) (by omega) ⟨by omega, by omega⟩]; simp⟩) (by omega) (by show _ + 2 ≤ _; omega) ?_
      show rn_T w _ _ _ _ (57 + 2 * i + 1) (270 + 5 * i + 2) _ _ (.ref (a + 1 + (57 + 2 * i)) :: _) (rz_up g (a + 1 + (57 + 2 * i)) _) _
      rw [show a + 1 + (57 + 2 * i) = a + (58 + 2 * i) from by omega]
      refine rn_blk' [(.dup, 1, 0, 0), (.bipush 32, 2, 0, 0)] (by decide +kernel) (by omega) (by omega) (fun K R hK hR => ?_)
      simp only [rw_b32, ↓rx_bipush, ↓rx_dup, ↓rx_nil, ↓ry_v1i, ↓ry_v1r, rz_set, rz_nol, rz_clr, List.set_cons_zero, List.set_cons_succ, rz_tr, Nat.reduceAdd, Int.reduceAdd, Int.reduceToNat, Int.reduceSub, Int.reduceNeg, Int.cast_ofNat_Int]
      refine hK _ _ _ _ ?_
      refine rn_cI (As := [.int (nI 32)]) (b := a + (58 + 2 * i)) (S := [.ref (a + (58 + 2 * i)), .int (nI i), .ref (a + 7)]) (mc' := 1) (ms' := 3) l_Mach_34 (by decide +kernel) rfl (Nat.le_of_ble_eq_true rfl) (Or.inr ⟨a + (58 + 2 * i), by show _ = a + 1 + _; omega, by rw [rz_up_s]; simp⟩) (by omega) (by omega) (by
        have := c_Word_init (w := w) (d := d) (G := rz_up g (a + (58 + 2 * i)) (.inr (0, [.null, .int 0]))) (a := a + (58 + 2 * i)) (rm := 32) (by decide) (by decide) (rz_up_s _ _ _) rfl
        rw [show (a + 1) + (57 + 2 * i + 1) = a + (58 + 2 * i) + 1 from by omega]; exact this) (fun r G' hr => ?_)
      obtain ⟨rfl, rfl⟩ := hr
      simp only [Option.toList, List.nil_append]
      have hG4 : wd_put (rz_up g (a + (58 + 2 * i)) (.inr (0, [.null, .int 0]))) (a + (58 + 2 * i)) 3 [] (a + 7) = some (.inl (4, 6, .inr (.inr (.inr (.inr f7))))) := by rw [wd_pout (by omega) (by omega), rz_up_n _ _ (by omega)]; exact hs7
      refine rn_aastoreW (by decide +kernel) hG4 (wd_pis (wd_ok_nil (by decide))).1 (vp_in_nI (by omega) (by decide)) ?_
      rw [nI_clamp (by omega)]
      generalize hg : rz_up (wd_put (rz_up g (a + (58 + 2 * i)) _) (a + (58 + 2 * i)) 3 []) (a + 7) _ = q0
      have hst : ∀ x, x ≠ a + 7 → x < a + (58 + 2 * i) → q0 x = g x := fun x h1 h2 => by rw [← hg, rz_up_n _ _ h1, wd_pout (by omega) (by omega), rz_up_n _ _ (by omega)]
      have hw0 : q0 (a + (58 + 2 * i)) = some (wd_o (a + (58 + 2 * i)) []) := by rw [← hg, rz_up_n _ _ (by omega)]; exact (wd_pis (wd_ok_nil (by decide))).1
      have hlast : q0 (a + (59 + 2 * i)) = some (wd_a 3 []) := by rw [← hg, rz_up_n _ _ (by omega), show a + (59 + 2 * i) = a + (58 + 2 * i) + 1 from by omega]; exact (wd_pis (wd_ok_nil (by decide))).2.1
      have hsN : q0 (a + 7) = some (.inl (4, 6, .inr (.inr (.inr (.inr (va_up f7 i (some (a + (58 + 2 * i))))))))) := by rw [← hg, rz_up_s]
      have hfN : ∀ k, k < i + 1 → va_up f7 i (some (a + (58 + 2 * i))) k = some (a + 58 + 2 * k) := fun k hk => by
        by_cases c : k = i
        · subst c; rw [va_up_self]; congr 1; omega
        · rw [va_up_ne _ _ c]; exact hf7 k (by omega)
      have hfr : ∀ x, x < a → q0 x = G x := fun x hx => (hst x (by omega) (by omega)).trans (hfr x hx)
      have hob := (hst a (by omega) (by omega)).trans hob
      have hs4 := (hst (a + 4) (by omega) (by omega)).trans hs4
      have hs7 := hsN
      have hf7 := hfN
      have hce : ∀ o, 1 ≤ o → o < 60 + 2 * i → (o ≠ 4 ∧ o ≠ 7) → q0 (a + o) = some (mc_cell a (upd (fun _ => 0) 0 (nI 1)) (fun _ _ => 0) (fun _ _ => 0) (fun _ => []) (fun _ => 0) o) := fun o h1 h2 h3 => by
        by_cases c1 : o < 58 + 2 * i
        · exact (hst _ (by omega) (by omega)).trans (hce o h1 c1 h3)
        by_cases c2 : o = 58 + 2 * i
        · subst c2
          rw [hw0]
          rw [show 58 + 2 * i = 10 + 2 * (24 + i) by omega, mc_cj0]
        · have c3 : o = 59 + 2 * i := by omega
          subst c3
          rw [hlast]
          rw [show 59 + 2 * i = 10 + 2 * (24 + i) + 1 by omega, mc_cj1]
      clear hg hst hsN hfN hG4 hw0
      generalize va_up f7 i (some (a + (58 + 2 * i))) = f7 at *
      refine rn_blk' [(.iinc 1 1, 3, 0, 0), (.goto (-24), 3, 0, 0)] (by decide +kernel) (by omega) (by omega) (fun K R hK hR => ?_)
      simp only [rw_c1, ↓rx_goto, ↓rx_iinc, ↓rx_nil, ↓ry_li0s, ↓ry_li0z, nI_add, rz_set, rz_nol, rz_clr, List.set_cons_zero, List.set_cons_succ, rz_tr, Nat.reduceAdd, Int.reduceAdd, Int.reduceToNat, Int.reduceSub, Int.reduceNeg, Int.cast_ofNat_Int]
      have ih' := ih (i + 1) q0 f4 f7 (by omega) hfr hob (fun o h1 h2 h3 => hce o h1 (by omega) h3) hs4 hf4 hs7 hf7
      rw [show 57 + 2 * (i + 1) = 57 + 2 * i + 1 + 1 from by omega, show 270 + 5 * (i + 1) = 270 + 5 * i + 2 + 3 from by omega] at ih'
      exact hK _ _ _ _ ih'
  have lp0 : ∀ (k i : Nat) (g : rz_G) (f4 : Nat → Option Nat) (f7 : Nat → Option Nat), i + k = 24 → (∀ x, x < a → g x = G x) → g a = some (.inr (2, [.int (nI 1), .int (nI 0), .ref (a + 1), .ref (a + 2), .ref (a + 3), .ref (a + 4), .ref (a + 5), .ref (a + 7), .int (nI 0), .int (nI 0), .int (nI 0), .ref (a + 8), .ref (a + 9)])) → (∀ o, 1 ≤ o → o < 10 + 2 * i → (o ≠ 4 ∧ o ≠ 7) → g (a + o) = some (mc_cell a (upd (fun _ => 0) 0 (nI 1)) (fun _ _ => 0) (fun _ _ => 0) (fun _ => []) (fun _ => 0) o)) → g (a + 4) = some (.inl (4, 24, .inr (.inr (.inr (.inr f4))))) → (∀ k, k < i → f4 k = some (a + 10 + 2 * k)) → g (a + 7) = some (.inl (4, 6, .inr (.inr (.inr (.inr f7))))) → (∀ k, k < 0 → f7 k = some (a + 58 + 2 * k)) → rn_T w (d + 2) 69 300 m_Mach_init (9 + 2 * i) (150 + 5 * i) 102 [some (.ref a), some (.int (nI i))] [] g ((a + 1, (fun r G' => r = none ∧ (∀ x, x < a → G' x = G x) ∧ mc_is G' a (upd (fun _ => 0) 0 (nI 1)) (fun _ _ => 0) (fun _ _ => 0) (fun _ => []) (fun _ => 0))) : rn_P) := by
    intro k
    induction k with
    | zero =>
      intro i g f4 f7 hik hfr hob hce hs4 hf4 hs7 hf7
      have hi : i = 24 := by omega
      subst hi
      refine rn_blk' [(.iload_n 1, 1, 0, 0), (.bipush 24, 2, 0, 0), (.if_icmp .ge 24, 3, 0, 0)] (by decide +kernel) (by omega) (by omega) (fun K R hK hR => ?_)
      simp only [rw_b24, ↓rx_bipush, ↓rx_if_icmp_ge, ↓rx_iload_n1, ↓rx_nil, ↓ry_i2, ↓ry_li0s, ↓ry_li0z, ↓rh_ob hob, rz_set, rz_nol, rz_clr, List.set_cons_zero, List.set_cons_succ, rz_tr, Nat.reduceAdd, Int.reduceAdd, Int.reduceToNat, Int.reduceSub, Int.reduceNeg, Int.cast_ofNat_Int]
      refine ⟨fun _ => hK _ _ _ _ ?_, fun q => absurd (Int32.le_refl _) q⟩
      refine rn_blk' [(.iconst 0, 1, 0, 0), (.istore_n 1, 1, 0, 0)] (by decide +kernel) (by omega) (by omega) (fun K R hK hR => ?_)
      simp only [rw_c0, ↓rx_iconst, ↓rx_istore_n1, ↓rx_nil, ↓ry_i1, rz_set, rz_nol, rz_clr, List.set_cons_zero, List.set_cons_succ, rz_tr, Nat.reduceAdd, Int.reduceAdd, Int.reduceToNat, Int.reduceSub, Int.reduceNeg, Int.cast_ofNat_Int]
      refine hK _ _ _ _ ?_
      exact lp1 6 0 g f4 f7 rfl hfr hob hce hs4 hf4 hs7 (fun k hk => absurd hk (Nat.not_lt_zero _))
    | succ k ih =>
      intro i g f4 f7 hik hfr hob hce hs4 hf4 hs7 hf7
      refine rn_blk' [(.iload_n 1, 1, 0, 0), (.bipush 24, 2, 0, 0), (.if_icmp .ge 24, 3, 0, 0), (.aload_n 0, 1, 0, 0), (.getfield 30, 3, 2, 5), (.iload_n 1, 1, 0, 0)] (by decide +kernel) (by omega) (by omega) (fun K R hK hR => ?_)
      simp only [rw_b24, ↓rx_aload_n0, ↓rx_bipush, ↓rx_getfield, ↓rx_if_icmp_ge, ↓rx_iload_n1, ↓rx_nil, ↓ry_fvs, ↓ry_fvz, ↓ry_i2, ↓ry_li0s, ↓ry_li0z, ↓ry_lr0s, ↓ry_lr0z, ↓ry_obu, ↓ry_r1, ↓rh_ob hob, rz_set, rz_nol, rz_clr, List.set_cons_zero, List.set_cons_succ, rz_tr, Nat.reduceAdd, Int.reduceAdd, Int.reduceToNat, Int.reduceSub, Int.reduceNeg, Int.cast_ofNat_Int]
      rw [nI_leI (by decide) (by omega)]
      refine ⟨fun q => by omega, fun _ => hK _ _ _ _ ?_⟩
      refine rn_new (ci := 0) (r := ("WriterDesk$Word", F_Word, 2)) (fs := [.null, .int 0]) rfl (rz_j2 10 rfl rfl) (rz_j1 34 rfl rfl) (rz_j1 2 rfl rfl) (by decide +kernel) (by decide) (Or.inr ⟨a + (9 + 2 * i), by show _ = a + 1 + _; omega, by rw [hce (9 + 2 * i) (by omega) (by omega) ⟨by omega, by omega⟩]; simp⟩) (by omega) (by show _ + 2 ≤ _; omega) ?_
      show rn_T w _ _ _ _ (9 + 2 * i + 1) (150 + 5 * i + 2) _ _ (.ref (a + 1 + (9 + 2 * i)) :: _) (rz_up g (a + 1 + (9 + 2 * i)) _) _
      rw [show a + 1 + (9 + 2 * i) = a + (10 + 2 * i) from by omega]
      refine rn_blk' [(.dup, 1, 0, 0), (.bipush 32, 2, 0, 0)] (by decide +kernel) (by omega) (by omega) (fun K R hK hR => ?_)
      simp only [rw_b32, ↓rx_bipush, ↓rx_dup, ↓rx_nil, ↓ry_v1i, ↓ry_v1r, rz_set, rz_nol, rz_clr, List.set_cons_zero, List.set_cons_succ, rz_tr, Nat.reduceAdd, Int.reduceAdd, Int.reduceToNat, Int.reduceSub, Int.reduceNeg, Int.cast_ofNat_Int]
      refine hK _ _ _ _ ?_
      refine rn_cI (As := [.int (nI 32)]) (b := a + (10 + 2 * i)) (S := [.ref (a + (10 + 2 * i)), .int (nI i), .ref (a + 4)]) (mc' := 1) (ms' := 3) l_Mach_34 (by decide +kernel) rfl (Nat.le_of_ble_eq_true rfl) (Or.inr ⟨a + (10 + 2 * i), by show _ = a + 1 + _; omega, by rw [rz_up_s]; simp⟩) (by omega) (by omega) (by
        have := c_Word_init (w := w) (d := d) (G := rz_up g (a + (10 + 2 * i)) (.inr (0, [.null, .int 0]))) (a := a + (10 + 2 * i)) (rm := 32) (by decide) (by decide) (rz_up_s _ _ _) rfl
        rw [show (a + 1) + (9 + 2 * i + 1) = a + (10 + 2 * i) + 1 from by omega]; exact this) (fun r G' hr => ?_)
      obtain ⟨rfl, rfl⟩ := hr
      simp only [Option.toList, List.nil_append]
      have hG4 : wd_put (rz_up g (a + (10 + 2 * i)) (.inr (0, [.null, .int 0]))) (a + (10 + 2 * i)) 3 [] (a + 4) = some (.inl (4, 24, .inr (.inr (.inr (.inr f4))))) := by rw [wd_pout (by omega) (by omega), rz_up_n _ _ (by omega)]; exact hs4
      refine rn_aastoreW (by decide +kernel) hG4 (wd_pis (wd_ok_nil (by decide))).1 (vp_in_nI (by omega) (by decide)) ?_
      rw [nI_clamp (by omega)]
      generalize hg : rz_up (wd_put (rz_up g (a + (10 + 2 * i)) _) (a + (10 + 2 * i)) 3 []) (a + 4) _ = q0
      have hst : ∀ x, x ≠ a + 4 → x < a + (10 + 2 * i) → q0 x = g x := fun x h1 h2 => by rw [← hg, rz_up_n _ _ h1, wd_pout (by omega) (by omega), rz_up_n _ _ (by omega)]
      have hw0 : q0 (a + (10 + 2 * i)) = some (wd_o (a + (10 + 2 * i)) []) := by rw [← hg, rz_up_n _ _ (by omega)]; exact (wd_pis (wd_ok_nil (by decide))).1
      have hlast : q0 (a + (11 + 2 * i)) = some (wd_a 3 []) := by rw [← hg, rz_up_n _ _ (by omega), show a + (11 + 2 * i) = a + (10 + 2 * i) + 1 from by omega]; exact (wd_pis (wd_ok_nil (by decide))).2.1
      have hsN : q0 (a + 4) = some (.inl (4, 24, .inr (.inr (.inr (.inr (va_up f4 i (some (a + (10 + 2 * i))))))))) := by rw [← hg, rz_up_s]
      have hfN : ∀ k, k < i + 1 → va_up f4 i (some (a + (10 + 2 * i))) k = some (a + 10 + 2 * k) := fun k hk => by
        by_cases c : k = i
        · subst c; rw [va_up_self]; congr 1; omega
        · rw [va_up_ne _ _ c]; exact hf4 k (by omega)
      have hfr : ∀ x, x < a → q0 x = G x := fun x hx => (hst x (by omega) (by omega)).trans (hfr x hx)
      have hob := (hst a (by omega) (by omega)).trans hob
      have hs7 := (hst (a + 7) (by omega) (by omega)).trans hs7
      have hs4 := hsN
      have hf4 := hfN
      have hce : ∀ o, 1 ≤ o → o < 12 + 2 * i → (o ≠ 4 ∧ o ≠ 7) → q0 (a + o) = some (mc_cell a (upd (fun _ => 0) 0 (nI 1)) (fun _ _ => 0) (fun _ _ => 0) (fun _ => []) (fun _ => 0) o) := fun o h1 h2 h3 => by
        by_cases c1 : o < 10 + 2 * i
        · exact (hst _ (by omega) (by omega)).trans (hce o h1 c1 h3)
        by_cases c2 : o = 10 + 2 * i
        · subst c2
          rw [hw0]
          rw [mc_cj0]
        · have c3 : o = 11 + 2 * i := by omega
          subst c3
          rw [hlast]
          rw [show 11 + 2 * i = 10 + 2 * i + 1 by omega, mc_cj1]
      clear hg hst hsN hfN hG4 hw0
      generalize va_up f4 i (some (a + (10 + 2 * i))) = f4 at *
      refine rn_blk' [(.iinc 1 1, 3, 0, 0), (.goto (-24), 3, 0, 0)] (by decide +kernel) (by omega) (by omega) (fun K R hK hR => ?_)
      simp only [rw_c1, ↓rx_goto, ↓rx_iinc, ↓rx_nil, ↓ry_li0s, ↓ry_li0z, nI_add, rz_set, rz_nol, rz_clr, List.set_cons_zero, List.set_cons_succ, rz_tr, Nat.reduceAdd, Int.reduceAdd, Int.reduceToNat, Int.reduceSub, Int.reduceNeg, Int.cast_ofNat_Int]
      have ih' := ih (i + 1) q0 f4 f7 (by omega) hfr hob (fun o h1 h2 h3 => hce o h1 (by omega) h3) hs4 hf4 hs7 hf7
      rw [show 9 + 2 * (i + 1) = 9 + 2 * i + 1 + 1 from by omega, show 150 + 5 * (i + 1) = 150 + 5 * i + 2 + 3 from by omega] at ih'
      exact hK _ _ _ _ ih'
  refine rn_blk' [(.iconst 0, 1, 0, 0), (.istore_n 1, 1, 0, 0)] (by decide +kernel) (by omega) (by omega) (fun K R hK hR => ?_)
  simp only [rw_c0, ↓rx_iconst, ↓rx_istore_n1, ↓rx_nil, ↓ry_i1, rz_set, rz_nol, rz_clr, List.set_cons_zero, List.set_cons_succ, rz_tr, Nat.reduceAdd, Int.reduceAdd, Int.reduceToNat, Int.reduceSub, Int.reduceNeg, Int.cast_ofNat_Int]
  refine hK _ _ _ _ ?_
  exact lp0 24 0 g13 (fun _ => none) (fun _ => none) rfl hfr hob hce hs4 (fun k hk => absurd hk (Nat.not_lt_zero _)) hs7 (fun k hk => absurd hk (Nat.not_lt_zero _))
