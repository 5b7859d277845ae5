/-! constructors: Rows, Reading, ResidualSearch -/
theorem rw_new {G : rz_G} {r wd mo e : Nat} (h0 : G r = some (.inr (1, [.ref (r + 1), .int (nI wd), .int (nI mo), .ref (r + 2), .int (nI 0)]))) (h1 : G (r + 1) = some (.inl (1, mo * wd, .inr (.inl (fun _ => 0))))) (h2 : G (r + 2) = some (.inl (0, 2 ^ e, .inl (fun _ => 0)))) (hm : mo < 2 ^ e) (he : e ≤ 16) (hw : wd ≤ 100) : rw_is G r wd mo e [] := by
  refine ⟨fun _ => 0, fun _ => 0, h0, h1, h2, fun i hi => absurd hi (Nat.not_lt_zero _), ⟨fun s _ => ⟨0, Nat.le_refl _, rfl⟩, fun i hi => absurd hi (Nat.not_lt_zero _), ?_⟩, Nat.zero_le _, hm, he, hw, List.nodup_nil⟩
  have : (List.range (2 ^ e)).countP (fun s => decide ((fun _ => (0 : Int32)) s = nI 0)) = (List.range (2 ^ e)).length := List.countP_eq_length.mpr (fun a _ => decide_eq_true (show (0 : Int32) = nI 0 by decide))
  rw [this, List.length_range, List.length_nil]; omega
set_option maxRecDepth 100000 in
set_option maxHeartbeats 8000000 in
theorem c_Rows_init {w : rz_w} {d : Nat} {G : rz_G} {a mo wd e : Nat} (hG : G a = some (.inr (1, [.null, .int 0, .int 0, .null, .int 0]))) (h1 : mo * wd < 2 ^ 20) (h3 : e ≤ 16) (hmul : nI mo * nI wd = nI (mo * wd)) : rn_C w (d + 1) 2 (mo * wd + 2 ^ e) y_Rows_init m_Rows_init [.ref a, .int (nI mo), .int (nI wd), .int (nI (2 ^ e))] G (a + 1) (fun r G' => r = none ∧ (∀ x, x < a → G' x = G x) ∧ G' a = some (.inr (1, [.ref (a + 1), .int (nI wd), .int (nI mo), .ref (a + 2), .int (nI 0)])) ∧ G' (a + 1) = some (.inl (1, mo * wd, .inr (.inl (fun _ => 0)))) ∧ G' (a + 2) = some (.inl (0, 2 ^ e, .inl (fun _ => 0)))) := by
  have hp := rw_p16 h3
  have hp0 : 0 < 2 ^ e := Nat.two_pow_pos e
  refine rn_enter [some (.ref a), some (.int (nI mo)), some (.int (nI wd)), some (.int (nI (2 ^ e)))] (by decide +kernel) rfl rfl (Nat.le_of_ble_eq_true rfl) rfl ?_
  refine rn_blk' [(.aload_n 0, 1, 0, 0)] (by decide +kernel) (by omega) (by omega) (fun K R hK hR => ?_)
  simp only [↓rx_aload_n0, ↓rx_nil, ↓ry_lr0s, ↓ry_lr0z, rz_set, rz_nol, rz_clr, List.set_cons_zero, List.set_cons_succ, rz_tr, Nat.reduceAdd, Int.reduceAdd, Int.reduceToNat, Int.reduceSub, Int.reduceNeg, Int.cast_ofNat_Int]
  refine hK _ _ _ _ ?_
  refine rn_obj (rz_j1 64 rfl rfl) rn_o1 rn_o2 (Nat.le_of_ble_eq_true rfl) (by decide +kernel) ?_
  have hob := hG
  refine rn_blk' [(.aload_n 0, 1, 0, 0), (.iload_n 1, 1, 0, 0), (.putfield 7, 3, 1, 2)] (by decide +kernel) (by omega) (by omega) (fun K R hK hR => ?_)
  simp only [List.length_cons, List.length_nil, Nat.reduceLT, rf_1_2, ↓rx_aload_n0, ↓rx_iload_n1, ↓rx_nil, ↓rx_putfield, ↓ry_li0s, ↓ry_li0z, ↓ry_lr0s, ↓ry_lr0z, ↓ry_obu, ↓ry_vr, true_and, ↓rh_ob hob, rz_set, rz_nol, rz_clr, List.set_cons_zero, List.set_cons_succ, rz_tr, Nat.reduceAdd, Int.reduceAdd, Int.reduceToNat, Int.reduceSub, Int.reduceNeg, Int.cast_ofNat_Int]
  refine hK _ _ _ _ ?_
  generalize hg : rz_up G a _ = g1
  have hob : g1 a = some (.inr (1, [.null, .int 0, .int (nI mo), .null, .int 0])) := by rw [← hg, rz_up_s]
  have hfr : ∀ x, x < a → g1 x = G x := fun x hx => by rw [← hg, rz_up_n _ _ (by omega)]
  clear hg
  refine rn_blk' [(.aload_n 0, 1, 0, 0), (.iload_n 2, 1, 0, 0), (.putfield 13, 3, 1, 1)] (by decide +kernel) (by omega) (by omega) (fun K R hK hR => ?_)
  simp only [List.length_cons, List.length_nil, Nat.reduceLT, rf_1_1, ↓rx_aload_n0, ↓rx_iload_n2, ↓rx_nil, ↓rx_putfield, ↓ry_li0s, ↓ry_li0z, ↓ry_lr0s, ↓ry_lr0z, ↓ry_obu, ↓ry_vr, true_and, ↓rh_ob hob, rz_set, rz_nol, rz_clr, List.set_cons_zero, List.set_cons_succ, rz_tr, Nat.reduceAdd, Int.reduceAdd, Int.reduceToNat, Int.reduceSub, Int.reduceNeg, Int.cast_ofNat_Int]
  refine hK _ _ _ _ ?_
  generalize hg : rz_up g1 a _ = g2
  have hob : g2 a = some (.inr (1, [.null, .int (nI wd), .int (nI mo), .null, .int 0])) := by rw [← hg, rz_up_s]
  have hfr : ∀ x, x < a → g2 x = G x := fun x hx => by rw [← hg, rz_up_n _ _ (by omega)]; exact hfr x hx
  clear hg
  refine rn_blk' [(.aload_n 0, 1, 0, 0), (.iload_n 1, 1, 0, 0), (.iload_n 2, 1, 0, 0), (.imul, 1, 0, 0)] (by decide +kernel) (by omega) (by omega) (fun K R hK hR => ?_)
  simp only [↓rx_aload_n0, ↓rx_iload_n1, ↓rx_iload_n2, ↓rx_imul, ↓rx_nil, ↓ry_i2, ↓ry_li0s, ↓ry_li0z, ↓ry_lr0s, ↓ry_lr0z, rz_set, rz_nol, rz_clr, List.set_cons_zero, List.set_cons_succ, rz_tr, Nat.reduceAdd, Int.reduceAdd, Int.reduceToNat, Int.reduceSub, Int.reduceNeg, Int.cast_ofNat_Int]
  rw [hmul]
  refine hK _ _ _ _ ?_
  refine rn_na_l (N := mo * wd) h1 (by decide +kernel) (Or.inl rfl) (by decide) (by omega) ?_
  change rn_T w _ _ _ _ 1 (0 + mo * wd) _ _ (.ref (a + 1) :: _) (rz_up g2 (a + 1) _) _
  have e1 : rz_up g2 (a + 1) (.inl (1, mo * wd, .inr (.inl (fun _ => 0)))) a = some (.inr (1, [.null, .int (nI wd), .int (nI mo), .null, .int 0])) := by rw [rz_up_n _ _ (by omega)]; exact hob
  refine rn_blk' [(.putfield 16, 3, 1, 0)] (by decide +kernel) (by omega) (by omega) (fun K R hK hR => ?_)
  simp only [List.length_cons, List.length_nil, Nat.reduceLT, rf_1_0, ↓rx_nil, ↓rx_putfield, ↓ry_obu, ↓ry_vr, true_and, ↓rh_ob e1, rz_set, rz_nol, rz_clr, List.set_cons_zero, List.set_cons_succ, rz_tr, Nat.reduceAdd, Int.reduceAdd, Int.reduceToNat, Int.reduceSub, Int.reduceNeg, Int.cast_ofNat_Int]
  refine hK _ _ _ _ ?_
  generalize hg : rz_up (rz_up g2 (a + 1) _) a _ = g3
  have hob : g3 a = some (.inr (1, [.ref (a + 1), .int (nI wd), .int (nI mo), .null, .int 0])) := by rw [← hg, rz_up_s]
  have hfr : ∀ x, x < a → g3 x = G x := fun x hx => by rw [← hg, rz_up_n _ _ (by omega), rz_up_n _ _ (by omega)]; exact hfr x hx
  have hc1 : g3 (a + 1) = some (.inl (1, mo * wd, .inr (.inl (fun _ => 0)))) := by rw [← hg, rz_up_n _ _ (by omega), rz_up_s]
  clear hg e1
  refine rn_blk' [(.aload_n 0, 1, 0, 0), (.iload_n 3, 1, 0, 0)] (by decide +kernel) (by omega) (by omega) (fun K R hK hR => ?_)
  simp only [↓rx_aload_n0, ↓rx_iload_n3, ↓rx_nil, ↓ry_li0s, ↓ry_li0z, ↓ry_lr0s, ↓ry_lr0z, rz_set, rz_nol, rz_clr, List.set_cons_zero, List.set_cons_succ, rz_tr, Nat.reduceAdd, Int.reduceAdd, Int.reduceToNat, Int.reduceSub, Int.reduceNeg, Int.cast_ofNat_Int]
  refine hK _ _ _ _ ?_
  refine rn_na_i (N := 2 ^ e) (by omega) (by decide +kernel) (Or.inr ⟨a + 1, rfl, by rw [hc1]; simp⟩) (by decide) (by omega) ?_
  change rn_T w _ _ _ _ 2 (0 + mo * wd + 2 ^ e) _ _ (.ref (a + 2) :: _) (rz_up g3 (a + 2) _) _
  have e1 : rz_up g3 (a + 2) (.inl (0, 2 ^ e, .inl (fun _ => 0))) a = some (.inr (1, [.ref (a + 1), .int (nI wd), .int (nI mo), .null, .int 0])) := by rw [rz_up_n _ _ (by omega)]; exact hob
  refine rn_blk' [(.putfield 20, 3, 1, 3)] (by decide +kernel) (by omega) (by omega) (fun K R hK hR => ?_)
  simp only [List.length_cons, List.length_nil, Nat.reduceLT, rf_1_3, ↓rx_nil, ↓rx_putfield, ↓ry_obu, ↓ry_vr, true_and, ↓rh_ob e1, rz_set, rz_nol, rz_clr, List.set_cons_zero, List.set_cons_succ, rz_tr, Nat.reduceAdd, Int.reduceAdd, Int.reduceToNat, Int.reduceSub, Int.reduceNeg, Int.cast_ofNat_Int]
  refine hK _ _ _ _ ?_
  generalize hg : rz_up (rz_up g3 (a + 2) _) a _ = g4
  have hob : g4 a = some (.inr (1, [.ref (a + 1), .int (nI wd), .int (nI mo), .ref (a + 2), .int 0])) := by rw [← hg, rz_up_s]
  have hfr : ∀ x, x < a → g4 x = G x := fun x hx => by rw [← hg, rz_up_n _ _ (by omega), rz_up_n _ _ (by omega)]; exact hfr x hx
  have hc1 : g4 (a + 1) = some (.inl (1, mo * wd, .inr (.inl (fun _ => 0)))) := by rw [← hg, rz_up_n _ _ (by omega), rz_up_n _ _ (by omega)]; exact hc1
  have hc2 : g4 (a + 2) = some (.inl (0, 2 ^ e, .inl (fun _ => 0))) := by rw [← hg, rz_up_n _ _ (by omega), rz_up_s]
  clear hg e1
  refine rn_blk' [(.aload_n 0, 1, 0, 0), (.iconst 0, 1, 0, 0), (.putfield 24, 3, 1, 4)] (by decide +kernel) (by omega) (by omega) (fun K R hK hR => ?_)
  simp only [List.length_cons, List.length_nil, Nat.reduceLT, rf_1_4, rw_c0, ↓rx_aload_n0, ↓rx_iconst, ↓rx_nil, ↓rx_putfield, ↓ry_lr0s, ↓ry_lr0z, ↓ry_obu, ↓ry_vr, true_and, ↓rh_ob hob, rz_set, rz_nol, rz_clr, List.set_cons_zero, List.set_cons_succ, rz_tr, Nat.reduceAdd, Int.reduceAdd, Int.reduceToNat, Int.reduceSub, Int.reduceNeg, Int.cast_ofNat_Int]
  refine hK _ _ _ _ ?_
  generalize hg : rz_up g4 a _ = g5
  have hob : g5 a = some (.inr (1, [.ref (a + 1), .int (nI wd), .int (nI mo), .ref (a + 2), .int (nI 0)])) := by rw [← hg, rz_up_s]
  refine rn_blk' [(.return_, 1, 0, 0)] (by decide +kernel) (by omega) (by omega) (fun K R hK hR => ?_)
  simp only [↓rx_nil, ↓rx_return_, rz_set, rz_nol, rz_clr, List.set_cons_zero, List.set_cons_succ, rz_tr, Nat.reduceAdd, Int.reduceAdd, Int.reduceToNat, Int.reduceSub, Int.reduceNeg, Int.cast_ofNat_Int]
  refine hR _ _ (rz_nb_i (by decide)) ⟨rfl, fun x hx => ?_, hob, ?_, ?_⟩
  · rw [← hg, rz_up_n _ _ (by omega)]; exact hfr x hx
  · rw [← hg, rz_up_n _ _ (by omega)]; exact hc1
  · rw [← hg, rz_up_n _ _ (by omega)]; exact hc2
def rd_new (a : Nat) (o : Nat) : rz_E := match o with
  | 0 => .inr (3, [.ref (a + 1), .ref (a + 4), .ref (a + 7), .ref (a + 8), .ref (a + 10)])
  | 1 => .inr (1, [.ref (a + 1 + 1), .int (nI 4), .int (nI 200), .ref (a + 1 + 2), .int (nI 0)])
  | 2 => .inl (1, 200 * 4, .inr (.inl (fun _ => 0)))
  | 3 => .inl (0, 2 ^ 9, .inl (fun _ => 0))
  | 4 => .inr (1, [.ref (a + 4 + 1), .int (nI 4), .int (nI 200), .ref (a + 4 + 2), .int (nI 0)])
  | 5 => .inl (1, 200 * 4, .inr (.inl (fun _ => 0)))
  | 6 => .inl (0, 2 ^ 9, .inl (fun _ => 0))
  | 7 => .inl (1, 4, .inr (.inl (fun _ => 0)))
  | 8 => wd_o (a + 8) []
  | 9 => wd_a 4 []
  | 10 => wd_o (a + 10) []
  | 11 => wd_a 4 []
  | _ => .inr (0, [])
set_option maxRecDepth 100000 in
set_option maxHeartbeats 8000000 in
theorem c_Read_init {w : rz_w} {d : Nat} {G : rz_G} {a : Nat} (hG : G a = some (.inr (3, [.null, .null, .null, .null, .null]))) : rn_C w (d + 2) 11 2650 y_Read_init m_Read_init [.ref a] G (a + 1) (fun r G' => r = none ∧ (∀ x, x < a → G' x = G x) ∧ ∀ o, o < 12 → G' (a + o) = some (rd_new a o)) := by
  refine rn_enter [some (.ref a)] (by decide +kernel) rfl rfl (Nat.le_of_ble_eq_true rfl) rfl ?_
  refine rn_blk' [(.aload_n 0, 1, 0, 0)] (by decide +kernel) (by omega) (by omega) (fun K R hK hR => ?_)
  simp only [↓rx_aload_n0, ↓rx_nil, ↓ry_lr0s, ↓ry_lr0z, rz_set, rz_nol, rz_clr, List.set_cons_zero, List.set_cons_succ, rz_tr, Nat.reduceAdd, Int.reduceAdd, Int.reduceToNat, Int.reduceSub, Int.reduceNeg, Int.cast_ofNat_Int]
  refine hK _ _ _ _ ?_
  refine rn_obj (rz_j1 58 rfl rfl) rn_o1 rn_o2 (Nat.le_of_ble_eq_true rfl) (by decide +kernel) ?_
  have hfr : ∀ x, x < a → G x = G x := fun _ _ => rfl
  have hob := hG
  have hce : ∀ o, 1 ≤ o → o < 1 → (True) → G (a + o) = some (rd_new a o) := fun o h1 h2 => by omega
  refine rn_blk' [(.aload_n 0, 1, 0, 0)] (by decide +kernel) (by omega) (by omega) (fun K R hK hR => ?_)
  simp only [↓rx_aload_n0, ↓rx_nil, ↓ry_lr0s, ↓ry_lr0z, rz_set, rz_nol, rz_clr, List.set_cons_zero, List.set_cons_succ, rz_tr, Nat.reduceAdd, Int.reduceAdd, Int.reduceToNat, Int.reduceSub, Int.reduceNeg, Int.cast_ofNat_Int]
  refine hK _ _ _ _ ?_
  refine rn_new (ci := 1) (r := ("WriterDesk$Rows", F_Rows, 5)) (fs := [.null, .int 0, .int 0, .null, .int 0]) rfl (rz_j1 59 rfl rfl) (rz_j1 60 rfl rfl) (rz_j1 4 rfl rfl) (by decide +kernel) (by decide) (Or.inl rfl) (by decide) (by decide) ?_
  change rn_T w _ _ _ _ (0 + 1) (0 + 5) _ _ (.ref (a + 1) :: _) (rz_up G (a + 1) _) _
  refine rn_blk' [(.dup, 1, 0, 0), (.sipush 200, 3, 0, 0), (.iconst 4, 1, 0, 0), (.sipush 512, 3, 0, 0)] (by decide +kernel) (by omega) (by omega) (fun K R hK hR => ?_)
  simp only [rw_c4, rw_s200, rw_s512, ↓rx_dup, ↓rx_iconst, ↓rx_nil, ↓rx_sipush, ↓ry_v1i, ↓ry_v1r, rz_set, rz_nol, rz_clr, List.set_cons_zero, List.set_cons_succ, rz_tr, Nat.reduceAdd, Int.reduceAdd, Int.reduceToNat, Int.reduceSub, Int.reduceNeg, Int.cast_ofNat_Int]
  refine hK _ _ _ _ ?_
  refine rn_cI (As := [.int (nI 200), .int (nI 4), .int (nI 512)]) (b := a + 1) (S := [.ref (a + 1), .ref a]) (mc' := 2) (ms' := 1312) l_Read_11 (by decide +kernel) rfl (Nat.le_of_ble_eq_true rfl) (Or.inr ⟨a + 1, rfl, by rw [rz_up_s]; simp⟩) (by decide) (by decide) (by
    have := c_Rows_init (w := w) (d := d + 0) (G := rz_up G (a + 1) (.inr (1, [.null, .int 0, .int 0, .null, .int 0]))) (a := a + 1) (mo := 200) (wd := 4) (e := 9) (rz_up_s _ _ _) (by decide) (by decide) (by decide)
    exact this) (fun r G' hr => ?_)
  obtain ⟨rfl, r1, r2, r3, r4⟩ := hr
  simp only [Option.toList, List.nil_append]
  change rn_T w _ _ _ _ 3 1317 _ _ _ _ _
  have e1 : G' a = some (.inr (3, [.null, .null, .null, .null, .null])) := by rw [r1 _ (by omega), rz_up_n _ _ (by omega)]; exact hob
  refine rn_blk' [(.putfield 14, 3, 3, 0)] (by decide +kernel) (by omega) (by omega) (fun K R hK hR => ?_)
  simp only [List.length_cons, List.length_nil, Nat.reduceLT, rf_3_0, ↓rx_nil, ↓rx_putfield, ↓ry_obu, ↓ry_vr, true_and, ↓rh_ob e1, rz_set, rz_nol, rz_clr, List.set_cons_zero, List.set_cons_succ, rz_tr, Nat.reduceAdd, Int.reduceAdd, Int.reduceToNat, Int.reduceSub, Int.reduceNeg, Int.cast_ofNat_Int]
  refine hK _ _ _ _ ?_
  clear e1
  generalize hg : rz_up G' a _ = g1
  have hst : ∀ x, x ≠ a → x < a + 1 → g1 x = G x := fun x h1 h2 => by rw [← hg, rz_up_n _ _ h1, r1 _ (by omega), rz_up_n _ _ (by omega)]
  have hob : g1 a = some (.inr (3, [.ref (a + 1), .null, .null, .null, .null])) := by rw [← hg, rz_up_s]
  have hfr : ∀ x, x < a → g1 x = G x := fun x hx => (hst x (by omega) (by omega)).trans (hfr x hx)
  have hn1 : g1 (a + 1) = some (.inr (1, [.ref (a + 1 + 1), .int (nI 4), .int (nI 200), .ref (a + 1 + 2), .int (nI 0)])) := by rw [← hg, rz_up_n _ _ (by omega)]; exact r2
  have hn2 : g1 (a + 2) = some (.inl (1, 200 * 4, .inr (.inl (fun _ => 0)))) := by rw [← hg, rz_up_n _ _ (by omega)]; exact r3
  have hn3 : g1 (a + 3) = some (.inl (0, 2 ^ 9, .inl (fun _ => 0))) := by rw [← hg, rz_up_n _ _ (by omega)]; exact r4
  have hce : ∀ o, 1 ≤ o → o < 4 → (True) → g1 (a + o) = some (rd_new a o) := fun o h1 h2 h3 => by
    by_cases c : o < 1
    · exact (hst _ (by omega) (by omega)).trans (hce o h1 c h3)
    by_cases c1 : o = 1
    · subst c1; exact hn1
    by_cases c2 : o = 2
    · subst c2; exact hn2
    by_cases c3 : o = 3
    · subst c3; exact hn3
    omega
  clear hg hst hn1 hn2 hn3
  clear r1 r2 r3 r4
  refine rn_blk' [(.aload_n 0, 1, 0, 0)] (by decide +kernel) (by omega) (by omega) (fun K R hK hR => ?_)
  simp only [↓rx_aload_n0, ↓rx_nil, ↓ry_lr0s, ↓ry_lr0z, rz_set, rz_nol, rz_clr, List.set_cons_zero, List.set_cons_succ, rz_tr, Nat.reduceAdd, Int.reduceAdd, Int.reduceToNat, Int.reduceSub, Int.reduceNeg, Int.cast_ofNat_Int]
  refine hK _ _ _ _ ?_
  refine rn_new (ci := 1) (r := ("WriterDesk$Rows", F_Rows, 5)) (fs := [.null, .int 0, .int 0, .null, .int 0]) rfl (rz_j1 59 rfl rfl) (rz_j1 60 rfl rfl) (rz_j1 4 rfl rfl) (by decide +kernel) (by decide) (Or.inr ⟨a + 3, rfl, by rw [hce 3 (by decide) (by decide) trivial]; simp⟩) (by decide) (by decide) ?_
  change rn_T w _ _ _ _ (3 + 1) (1317 + 5) _ _ (.ref (a + 4) :: _) (rz_up g1 (a + 4) _) _
  refine rn_blk' [(.dup, 1, 0, 0), (.sipush 200, 3, 0, 0), (.iconst 4, 1, 0, 0), (.sipush 512, 3, 0, 0)] (by decide +kernel) (by omega) (by omega) (fun K R hK hR => ?_)
  simp only [rw_c4, rw_s200, rw_s512, ↓rx_dup, ↓rx_iconst, ↓rx_nil, ↓rx_sipush, ↓ry_v1i, ↓ry_v1r, rz_set, rz_nol, rz_clr, List.set_cons_zero, List.set_cons_succ, rz_tr, Nat.reduceAdd, Int.reduceAdd, Int.reduceToNat, Int.reduceSub, Int.reduceNeg, Int.cast_ofNat_Int]
  refine hK _ _ _ _ ?_
  refine rn_cI (As := [.int (nI 200), .int (nI 4), .int (nI 512)]) (b := a + 4) (S := [.ref (a + 4), .ref a]) (mc' := 2) (ms' := 1312) l_Read_11 (by decide +kernel) rfl (Nat.le_of_ble_eq_true rfl) (Or.inr ⟨a + 4, rfl, by rw [rz_up_s]; simp⟩) (by decide) (by decide) (by
    have := c_Rows_init (w := w) (d := d + 0) (G := rz_up g1 (a + 4) (.inr (1, [.null, .int 0, .int 0, .null, .int 0]))) (a := a + 4) (mo := 200) (wd := 4) (e := 9) (rz_up_s _ _ _) (by decide) (by decide) (by decide)
    exact this) (fun r G' hr => ?_)
  obtain ⟨rfl, r1, r2, r3, r4⟩ := hr
  simp only [Option.toList, List.nil_append]
  change rn_T w _ _ _ _ 6 2634 _ _ _ _ _
  have e1 : G' a = some (.inr (3, [.ref (a + 1), .null, .null, .null, .null])) := by rw [r1 _ (by omega), rz_up_n _ _ (by omega)]; exact hob
  refine rn_blk' [(.putfield 20, 3, 3, 1)] (by decide +kernel) (by omega) (by omega) (fun K R hK hR => ?_)
  simp only [List.length_cons, List.length_nil, Nat.reduceLT, rf_3_1, ↓rx_nil, ↓rx_putfield, ↓ry_obu, ↓ry_vr, true_and, ↓rh_ob e1, rz_set, rz_nol, rz_clr, List.set_cons_zero, List.set_cons_succ, rz_tr, Nat.reduceAdd, Int.reduceAdd, Int.reduceToNat, Int.reduceSub, Int.reduceNeg, Int.cast_ofNat_Int]
  refine hK _ _ _ _ ?_
  clear e1
  generalize hg : rz_up G' a _ = g2
  have hst : ∀ x, x ≠ a → x < a + 4 → g2 x = g1 x := fun x h1 h2 => by rw [← hg, rz_up_n _ _ h1, r1 _ (by omega), rz_up_n _ _ (by omega)]
  have hob : g2 a = some (.inr (3, [.ref (a + 1), .ref (a + 4), .null, .null, .null])) := by rw [← hg, rz_up_s]
  have hfr : ∀ x, x < a → g2 x = G x := fun x hx => (hst x (by omega) (by omega)).trans (hfr x hx)
  have hn4 : g2 (a + 4) = some (.inr (1, [.ref (a + 4 + 1), .int (nI 4), .int (nI 200), .ref (a + 4 + 2), .int (nI 0)])) := by rw [← hg, rz_up_n _ _ (by omega)]; exact r2
  have hn5 : g2 (a + 5) = some (.inl (1, 200 * 4, .inr (.inl (fun _ => 0)))) := by rw [← hg, rz_up_n _ _ (by omega)]; exact r3
  have hn6 : g2 (a + 6) = some (.inl (0, 2 ^ 9, .inl (fun _ => 0))) := by rw [← hg, rz_up_n _ _ (by omega)]; exact r4
  have hce : ∀ o, 1 ≤ o → o < 7 → (True) → g2 (a + o) = some (rd_new a o) := fun o h1 h2 h3 => by
    by_cases c : o < 4
    · exact (hst _ (by omega) (by omega)).trans (hce o h1 c h3)
    by_cases c4 : o = 4
    · subst c4; exact hn4
    by_cases c5 : o = 5
    · subst c5; exact hn5
    by_cases c6 : o = 6
    · subst c6; exact hn6
    omega
  clear hg hst hn4 hn5 hn6
  clear r1 r2 r3 r4
  refine rn_blk' [(.aload_n 0, 1, 0, 0), (.iconst 4, 1, 0, 0)] (by decide +kernel) (by omega) (by omega) (fun K R hK hR => ?_)
  simp only [rw_c4, ↓rx_aload_n0, ↓rx_iconst, ↓rx_nil, ↓ry_lr0s, ↓ry_lr0z, rz_set, rz_nol, rz_clr, List.set_cons_zero, List.set_cons_succ, rz_tr, Nat.reduceAdd, Int.reduceAdd, Int.reduceToNat, Int.reduceSub, Int.reduceNeg, Int.cast_ofNat_Int]
  refine hK _ _ _ _ ?_
  refine rn_na_l (N := 4) (by decide) (by decide +kernel) (Or.inr ⟨a + 6, rfl, by rw [hce 6 (by decide) (by decide) trivial]; simp⟩) (by decide) (by decide) ?_
  change rn_T w _ _ _ _ 7 2638 _ _ (.ref (a + 7) :: _) (rz_up g2 (a + 7) _) _
  have e1 : rz_up g2 (a + 7) (.inl (1, 4, .inr (.inl (fun _ => 0)))) a = some (.inr (3, [.ref (a + 1), .ref (a + 4), .null, .null, .null])) := by rw [rz_up_n _ _ (by omega)]; exact hob
  refine rn_blk' [(.putfield 23, 3, 3, 2)] (by decide +kernel) (by omega) (by omega) (fun K R hK hR => ?_)
  simp only [List.length_cons, List.length_nil, Nat.reduceLT, rf_3_2, ↓rx_nil, ↓rx_putfield, ↓ry_obu, ↓ry_vr, true_and, ↓rh_ob e1, rz_set, rz_nol, rz_clr, List.set_cons_zero, List.set_cons_succ, rz_tr, Nat.reduceAdd, Int.reduceAdd, Int.reduceToNat, Int.reduceSub, Int.reduceNeg, Int.cast_ofNat_Int]
  refine hK _ _ _ _ ?_
  clear e1
  generalize hg : rz_up (rz_up g2 (a + 7) _) a _ = g3
  have hst : ∀ x, x ≠ a → x < a + 7 → g3 x = g2 x := fun x h1 h2 => by rw [← hg, rz_up_n _ _ h1, rz_up_n _ _ (by omega)]
  have hob : g3 a = some (.inr (3, [.ref (a + 1), .ref (a + 4), .ref (a + 7), .null, .null])) := by rw [← hg, rz_up_s]
  have hfr : ∀ x, x < a → g3 x = G x := fun x hx => (hst x (by omega) (by omega)).trans (hfr x hx)
  have hn7 : g3 (a + 7) = some (.inl (1, 4, .inr (.inl (fun _ => 0)))) := by rw [← hg, rz_up_n _ _ (by omega), rz_up_s]
  have hce : ∀ o, 1 ≤ o → o < 8 → (True) → g3 (a + o) = some (rd_new a o) := fun o h1 h2 h3 => by
    by_cases c : o < 7
    · exact (hst _ (by omega) (by omega)).trans (hce o h1 c h3)
    by_cases c7 : o = 7
    · subst c7; exact hn7
    omega
  clear hg hst hn7
  refine rn_blk' [(.aload_n 0, 1, 0, 0)] (by decide +kernel) (by omega) (by omega) (fun K R hK hR => ?_)
  simp only [↓rx_aload_n0, ↓rx_nil, ↓ry_lr0s, ↓ry_lr0z, rz_set, rz_nol, rz_clr, List.set_cons_zero, List.set_cons_succ, rz_tr, Nat.reduceAdd, Int.reduceAdd, Int.reduceToNat, Int.reduceSub, Int.reduceNeg, Int.cast_ofNat_Int]
  refine hK _ _ _ _ ?_
  refine rn_new (ci := 0) (r := ("WriterDesk$Word", F_Word, 2)) (fs := [.null, .int 0]) rfl (rz_j1 88 rfl rfl) (rz_j1 34 rfl rfl) (rz_j1 2 rfl rfl) (by decide +kernel) (by decide) (Or.inr ⟨a + 7, rfl, by rw [hce 7 (by decide) (by decide) trivial]; simp⟩) (by decide) (by decide) ?_
  change rn_T w _ _ _ _ (7 + 1) (2638 + 2) _ _ (.ref (a + 8) :: _) (rz_up g3 (a + 8) _) _
  refine rn_blk' [(.dup, 1, 0, 0), (.bipush 48, 2, 0, 0)] (by decide +kernel) (by omega) (by omega) (fun K R hK hR => ?_)
  simp only [rw_b48, ↓rx_bipush, ↓rx_dup, ↓rx_nil, ↓ry_v1i, ↓ry_v1r, rz_set, rz_nol, rz_clr, List.set_cons_zero, List.set_cons_succ, rz_tr, Nat.reduceAdd, Int.reduceAdd, Int.reduceToNat, Int.reduceSub, Int.reduceNeg, Int.cast_ofNat_Int]
  refine hK _ _ _ _ ?_
  refine rn_cI (As := [.int (nI 48)]) (b := a + 8) (S := [.ref (a + 8), .ref a]) (mc' := 1) (ms' := 4) l_Read_29 (by decide +kernel) rfl (Nat.le_of_ble_eq_true rfl) (Or.inr ⟨a + 8, by rfl, by rw [rz_up_s]; simp⟩) (by decide) (by decide) (by
    have := c_Word_init (w := w) (d := d) (G := rz_up g3 (a + 8) (.inr (0, [.null, .int 0]))) (a := a + 8) (rm := 48) (by decide) (by decide) (rz_up_s _ _ _) rfl
    exact this) (fun r G' hr => ?_)
  obtain ⟨rfl, rfl⟩ := hr
  simp only [Option.toList, List.nil_append]
  change rn_T w _ _ _ _ 9 2644 _ _ _ (wd_put _ _ 4 []) _
  have e1 : wd_put (rz_up g3 (a + 8) (.inr (0, [.null, .int 0]))) (a + 8) 4 [] a = some (.inr (3, [.ref (a + 1), .ref (a + 4), .ref (a + 7), .null, .null])) := by rw [wd_pout (by omega) (by omega), rz_up_n _ _ (by omega)]; exact hob
  refine rn_blk' [(.putfield 32, 3, 3, 3)] (by decide +kernel) (by omega) (by omega) (fun K R hK hR => ?_)
  simp only [List.length_cons, List.length_nil, Nat.reduceLT, rf_3_3, ↓rx_nil, ↓rx_putfield, ↓ry_obu, ↓ry_vr, true_and, ↓rh_ob e1, rz_set, rz_nol, rz_clr, List.set_cons_zero, List.set_cons_succ, rz_tr, Nat.reduceAdd, Int.reduceAdd, Int.reduceToNat, Int.reduceSub, Int.reduceNeg, Int.cast_ofNat_Int]
  refine hK _ _ _ _ ?_
  clear e1
  generalize hg : rz_up (wd_put (rz_up g3 (a + 8) _) (a + 8) 4 []) a _ = g4
  have hst : ∀ x, x ≠ a → x < a + 8 → g4 x = g3 x := fun x h1 h2 => by rw [← hg, rz_up_n _ _ h1, wd_pout (by omega) (by omega), rz_up_n _ _ (by omega)]
  have hob : g4 a = some (.inr (3, [.ref (a + 1), .ref (a + 4), .ref (a + 7), .ref (a + 8), .null])) := by rw [← hg, rz_up_s]
  have hfr : ∀ x, x < a → g4 x = G x := fun x hx => (hst x (by omega) (by omega)).trans (hfr x hx)
  have hn8 : g4 (a + 8) = some (wd_o (a + 8) []) := by rw [← hg, rz_up_n _ _ (by omega)]; exact (wd_pis (wd_ok_nil (by decide))).1
  have hn9 : g4 (a + 9) = some (wd_a 4 []) := by rw [← hg, rz_up_n _ _ (by omega)]; exact (wd_pis (wd_ok_nil (by decide))).2.1
  have hce : ∀ o, 1 ≤ o → o < 10 → (True) → g4 (a + o) = some (rd_new a o) := fun o h1 h2 h3 => by
    by_cases c : o < 8
    · exact (hst _ (by omega) (by omega)).trans (hce o h1 c h3)
    by_cases c8 : o = 8
    · subst c8; exact hn8
    by_cases c9 : o = 9
    · subst c9; exact hn9
    omega
  clear hg hst hn8 hn9
  refine rn_blk' [(.aload_n 0, 1, 0, 0)] (by decide +kernel) (by omega) (by omega) (fun K R hK hR => ?_)
  simp only [↓rx_aload_n0, ↓rx_nil, ↓ry_lr0s, ↓ry_lr0z, rz_set, rz_nol, rz_clr, List.set_cons_zero, List.set_cons_succ, rz_tr, Nat.reduceAdd, Int.reduceAdd, Int.reduceToNat, Int.reduceSub, Int.reduceNeg, Int.cast_ofNat_Int]
  refine hK _ _ _ _ ?_
  refine rn_new (ci := 0) (r := ("WriterDesk$Word", F_Word, 2)) (fs := [.null, .int 0]) rfl (rz_j1 88 rfl rfl) (rz_j1 34 rfl rfl) (rz_j1 2 rfl rfl) (by decide +kernel) (by decide) (Or.inr ⟨a + 9, rfl, by rw [hce 9 (by decide) (by decide) trivial]; simp⟩) (by decide) (by decide) ?_
  change rn_T w _ _ _ _ (9 + 1) (2644 + 2) _ _ (.ref (a + 10) :: _) (rz_up g4 (a + 10) _) _
  refine rn_blk' [(.dup, 1, 0, 0), (.bipush 48, 2, 0, 0)] (by decide +kernel) (by omega) (by omega) (fun K R hK hR => ?_)
  simp only [rw_b48, ↓rx_bipush, ↓rx_dup, ↓rx_nil, ↓ry_v1i, ↓ry_v1r, rz_set, rz_nol, rz_clr, List.set_cons_zero, List.set_cons_succ, rz_tr, Nat.reduceAdd, Int.reduceAdd, Int.reduceToNat, Int.reduceSub, Int.reduceNeg, Int.cast_ofNat_Int]
  refine hK _ _ _ _ ?_
  refine rn_cI (As := [.int (nI 48)]) (b := a + 10) (S := [.ref (a + 10), .ref a]) (mc' := 1) (ms' := 4) l_Read_29 (by decide +kernel) rfl (Nat.le_of_ble_eq_true rfl) (Or.inr ⟨a + 10, by rfl, by rw [rz_up_s]; simp⟩) (by decide) (by decide) (by
    have := c_Word_init (w := w) (d := d) (G := rz_up g4 (a + 10) (.inr (0, [.null, .int 0]))) (a := a + 10) (rm := 48) (by decide) (by decide) (rz_up_s _ _ _) rfl
    exact this) (fun r G' hr => ?_)
  obtain ⟨rfl, rfl⟩ := hr
  simp only [Option.toList, List.nil_append]
  change rn_T w _ _ _ _ 11 2650 _ _ _ (wd_put _ _ 4 []) _
  have e1 : wd_put (rz_up g4 (a + 10) (.inr (0, [.null, .int 0]))) (a + 10) 4 [] a = some (.inr (3, [.ref (a + 1), .ref (a + 4), .ref (a + 7), .ref (a + 8), .null])) := by rw [wd_pout (by omega) (by omega), rz_up_n _ _ (by omega)]; exact hob
  refine rn_blk' [(.putfield 36, 3, 3, 4)] (by decide +kernel) (by omega) (by omega) (fun K R hK hR => ?_)
  simp only [List.length_cons, List.length_nil, Nat.reduceLT, rf_3_4, ↓rx_nil, ↓rx_putfield, ↓ry_obu, ↓ry_vr, true_and, ↓rh_ob e1, rz_set, rz_nol, rz_clr, List.set_cons_zero, List.set_cons_succ, rz_tr, Nat.reduceAdd, Int.reduceAdd, Int.reduceToNat, Int.reduceSub, Int.reduceNeg, Int.cast_ofNat_Int]
  refine hK _ _ _ _ ?_
  clear e1
  generalize hg : rz_up (wd_put (rz_up g4 (a + 10) _) (a + 10) 4 []) a _ = g5
  have hst : ∀ x, x ≠ a → x < a + 10 → g5 x = g4 x := fun x h1 h2 => by rw [← hg, rz_up_n _ _ h1, wd_pout (by omega) (by omega), rz_up_n _ _ (by omega)]
  have hob : g5 a = some (.inr (3, [.ref (a + 1), .ref (a + 4), .ref (a + 7), .ref (a + 8), .ref (a + 10)])) := by rw [← hg, rz_up_s]
  have hfr : ∀ x, x < a → g5 x = G x := fun x hx => (hst x (by omega) (by omega)).trans (hfr x hx)
  have hn10 : g5 (a + 10) = some (wd_o (a + 10) []) := by rw [← hg, rz_up_n _ _ (by omega)]; exact (wd_pis (wd_ok_nil (by decide))).1
  have hn11 : g5 (a + 11) = some (wd_a 4 []) := by rw [← hg, rz_up_n _ _ (by omega)]; exact (wd_pis (wd_ok_nil (by decide))).2.1
  have hce : ∀ o, 1 ≤ o → o < 12 → (True) → g5 (a + o) = some (rd_new a o) := fun o h1 h2 h3 => by
    by_cases c : o < 10
    · exact (hst _ (by omega) (by omega)).trans (hce o h1 c h3)
    by_cases c10 : o = 10
    · subst c10; exact hn10
    by_cases c11 : o = 11
    · subst c11; exact hn11
    omega
  clear hg hst hn10 hn11
  refine rn_blk' [(.return_, 1, 0, 0)] (by decide +kernel) (by omega) (by omega) (fun K R hK hR => ?_)
  simp only [↓rx_nil, ↓rx_return_, rz_set, rz_nol, rz_clr, List.set_cons_zero, List.set_cons_succ, rz_tr, Nat.reduceAdd, Int.reduceAdd, Int.reduceToNat, Int.reduceSub, Int.reduceNeg, Int.cast_ofNat_Int]
  refine hR _ _ (rz_nb_i (by decide)) ⟨rfl, hfr, fun o ho => ?_⟩
  by_cases c : o = 0
  · subst c; exact hob
  · exact hce o (by omega) ho trivial
theorem rd_new_is {G : rz_G} {a : Nat} (h : ∀ o, o < 12 → G (a + o) = some (rd_new a o)) : rd_is G a false [] [] [] [] := by
  refine ⟨⟨_, h 7 (by decide)⟩, h 0 (by decide), ⟨h 8 (by decide), h 9 (by decide), wd_ok_nil (by decide)⟩, ⟨h 10 (by decide), h 11 (by decide), wd_ok_nil (by decide)⟩, ?_, ?_, fun v hv => absurd hv (by simp), fun v hv => absurd hv (by simp)⟩
  · exact rw_new (h 1 (by decide)) (h 2 (by decide)) (h 3 (by decide)) (by decide) (by decide) (by decide)
  · exact rw_new (h 4 (by decide)) (h 5 (by decide)) (h 6 (by decide)) (by decide) (by decide) (by decide)
def rs_new (a : Nat) (o : Nat) : rz_E := match o with
  | 0 => .inr (6, [.ref (a + 1), .ref (a + 4), .ref (a + 5), .ref (a + 7), .ref (a + 9), .ref (a + 11), .null, .int 0, .int 0, .int 0])
  | 1 => .inr (1, [.ref (a + 1 + 1), .int (nI 15), .int (nI 3000), .ref (a + 1 + 2), .int (nI 0)])
  | 2 => .inl (1, 3000 * 15, .inr (.inl (fun _ => 0)))
  | 3 => .inl (0, 2 ^ 13, .inl (fun _ => 0))
  | 4 => .inl (1, 15, .inr (.inl (fun _ => 0)))
  | 5 => wd_o (a + 5) []
  | 6 => wd_a 8 []
  | 7 => wd_o (a + 7) []
  | 8 => wd_a 8 []
  | 9 => wd_o (a + 9) []
  | 10 => wd_a 8 []
  | 11 => wd_o (a + 11) []
  | 12 => wd_a 8 []
  | _ => .inr (0, [])
set_option maxRecDepth 100000 in
set_option maxHeartbeats 8000000 in
theorem c_Res_init {w : rz_w} {d : Nat} {G : rz_G} {a : Nat} (hG : G a = some (.inr (6, [.null, .null, .null, .null, .null, .null, .null, .int 0, .int 0, .int 0]))) : rn_C w (d + 2) 12 53252 y_Res_init m_Res_init [.ref a] G (a + 1) (fun r G' => r = none ∧ (∀ x, x < a → G' x = G x) ∧ ∀ o, o < 13 → G' (a + o) = some (rs_new a o)) := by
  refine rn_enter [some (.ref a)] (by decide +kernel) rfl rfl (Nat.le_of_ble_eq_true rfl) rfl ?_
  refine rn_blk' [(.aload_n 0, 1, 0, 0)] (by decide +kernel) (by omega) (by omega) (fun K R hK hR => ?_)
  simp only [↓rx_aload_n0, ↓rx_nil, ↓ry_lr0s, ↓ry_lr0z, rz_set, rz_nol, rz_clr, List.set_cons_zero, List.set_cons_succ, rz_tr, Nat.reduceAdd, Int.reduceAdd, Int.reduceToNat, Int.reduceSub, Int.reduceNeg, Int.cast_ofNat_Int]
  refine hK _ _ _ _ ?_
  refine rn_obj (rz_j1 202 rfl rfl) rn_o1 rn_o2 (Nat.le_of_ble_eq_true rfl) (by decide +kernel) ?_
  have hfr : ∀ x, x < a → G x = G x := fun _ _ => rfl
  have hob := hG
  have hce : ∀ o, 1 ≤ o → o < 1 → (True) → G (a + o) = some (rs_new a o) := fun o h1 h2 => by omega
  refine rn_blk' [(.aload_n 0, 1, 0, 0)] (by decide +kernel) (by omega) (by omega) (fun K R hK hR => ?_)
  simp only [↓rx_aload_n0, ↓rx_nil, ↓ry_lr0s, ↓ry_lr0z, rz_set, rz_nol, rz_clr, List.set_cons_zero, List.set_cons_succ, rz_tr, Nat.reduceAdd, Int.reduceAdd, Int.reduceToNat, Int.reduceSub, Int.reduceNeg, Int.cast_ofNat_Int]
  refine hK _ _ _ _ ?_
  refine rn_new (ci := 1) (r := ("WriterDesk$Rows", F_Rows, 5)) (fs := [.null, .int 0, .int 0, .null, .int 0]) rfl (rz_j1 203 rfl rfl) (rz_j1 60 rfl rfl) (rz_j1 4 rfl rfl) (by decide +kernel) (by decide) (Or.inl rfl) (by decide) (by decide) ?_
  change rn_T w _ _ _ _ (0 + 1) (0 + 5) _ _ (.ref (a + 1) :: _) (rz_up G (a + 1) _) _
  refine rn_blk' [(.dup, 1, 0, 0), (.sipush 3000, 3, 0, 0), (.bipush 15, 2, 0, 0), (.sipush 8192, 3, 0, 0)] (by decide +kernel) (by omega) (by omega) (fun K R hK hR => ?_)
  simp only [rw_b15, rw_s3000, rw_s8192, ↓rx_bipush, ↓rx_dup, ↓rx_nil, ↓rx_sipush, ↓ry_v1i, ↓ry_v1r, rz_set, rz_nol, rz_clr, List.set_cons_zero, List.set_cons_succ, rz_tr, Nat.reduceAdd, Int.reduceAdd, Int.reduceToNat, Int.reduceSub, Int.reduceNeg, Int.cast_ofNat_Int]
  refine hK _ _ _ _ ?_
  refine rn_cI (As := [.int (nI 3000), .int (nI 15), .int (nI 8192)]) (b := a + 1) (S := [.ref (a + 1), .ref a]) (mc' := 2) (ms' := 53192) l_Res_11 (by decide +kernel) rfl (Nat.le_of_ble_eq_true rfl) (Or.inr ⟨a + 1, rfl, by rw [rz_up_s]; simp⟩) (by decide) (by decide) (by
    have := c_Rows_init (w := w) (d := d + 0) (G := rz_up G (a + 1) (.inr (1, [.null, .int 0, .int 0, .null, .int 0]))) (a := a + 1) (mo := 3000) (wd := 15) (e := 13) (rz_up_s _ _ _) (by decide) (by decide) (by decide)
    exact this) (fun r G' hr => ?_)
  obtain ⟨rfl, r1, r2, r3, r4⟩ := hr
  simp only [Option.toList, List.nil_append]
  change rn_T w _ _ _ _ 3 53197 _ _ _ _ _
  have e1 : G' a = some (.inr (6, [.null, .null, .null, .null, .null, .null, .null, .int 0, .int 0, .int 0])) := by rw [r1 _ (by omega), rz_up_n _ _ (by omega)]; exact hob
  refine rn_blk' [(.putfield 14, 3, 6, 0)] (by decide +kernel) (by omega) (by omega) (fun K R hK hR => ?_)
  simp only [List.length_cons, List.length_nil, Nat.reduceLT, rf_6_0, ↓rx_nil, ↓rx_putfield, ↓ry_obu, ↓ry_vr, true_and, ↓rh_ob e1, rz_set, rz_nol, rz_clr, List.set_cons_zero, List.set_cons_succ, rz_tr, Nat.reduceAdd, Int.reduceAdd, Int.reduceToNat, Int.reduceSub, Int.reduceNeg, Int.cast_ofNat_Int]
  refine hK _ _ _ _ ?_
  clear e1
  generalize hg : rz_up G' a _ = g1
  have hst : ∀ x, x ≠ a → x < a + 1 → g1 x = G x := fun x h1 h2 => by rw [← hg, rz_up_n _ _ h1, r1 _ (by omega), rz_up_n _ _ (by omega)]
  have hob : g1 a = some (.inr (6, [.ref (a + 1), .null, .null, .null, .null, .null, .null, .int 0, .int 0, .int 0])) := by rw [← hg, rz_up_s]
  have hfr : ∀ x, x < a → g1 x = G x := fun x hx => (hst x (by omega) (by omega)).trans (hfr x hx)
  have hn1 : g1 (a + 1) = some (.inr (1, [.ref (a + 1 + 1), .int (nI 15), .int (nI 3000), .ref (a + 1 + 2), .int (nI 0)])) := by rw [← hg, rz_up_n _ _ (by omega)]; exact r2
  have hn2 : g1 (a + 2) = some (.inl (1, 3000 * 15, .inr (.inl (fun _ => 0)))) := by rw [← hg, rz_up_n _ _ (by omega)]; exact r3
  have hn3 : g1 (a + 3) = some (.inl (0, 2 ^ 13, .inl (fun _ => 0))) := by rw [← hg, rz_up_n _ _ (by omega)]; exact r4
  have hce : ∀ o, 1 ≤ o → o < 4 → (True) → g1 (a + o) = some (rs_new a o) := fun o h1 h2 h3 => by
    by_cases c : o < 1
    · exact (hst _ (by omega) (by omega)).trans (hce o h1 c h3)
    by_cases c1 : o = 1
    · subst c1; exact hn1
    by_cases c2 : o = 2
    · subst c2; exact hn2
    by_cases c3 : o = 3
    · subst c3; exact hn3
    omega
  clear hg hst hn1 hn2 hn3
  clear r1 r2 r3 r4
  refine rn_blk' [(.aload_n 0, 1, 0, 0), (.bipush 15, 2, 0, 0)] (by decide +kernel) (by omega) (by omega) (fun K R hK hR => ?_)
  simp only [rw_b15, ↓rx_aload_n0, ↓rx_bipush, ↓rx_nil, ↓ry_lr0s, ↓ry_lr0z, rz_set, rz_nol, rz_clr, List.set_cons_zero, List.set_cons_succ, rz_tr, Nat.reduceAdd, Int.reduceAdd, Int.reduceToNat, Int.reduceSub, Int.reduceNeg, Int.cast_ofNat_Int]
  refine hK _ _ _ _ ?_
  refine rn_na_l (N := 15) (by decide) (by decide +kernel) (Or.inr ⟨a + 3, rfl, by rw [hce 3 (by decide) (by decide) trivial]; simp⟩) (by decide) (by decide) ?_
  change rn_T w _ _ _ _ 4 53212 _ _ (.ref (a + 4) :: _) (rz_up g1 (a + 4) _) _
  have e1 : rz_up g1 (a + 4) (.inl (1, 15, .inr (.inl (fun _ => 0)))) a = some (.inr (6, [.ref (a + 1), .null, .null, .null, .null, .null, .null, .int 0, .int 0, .int 0])) := by rw [rz_up_n _ _ (by omega)]; exact hob
  refine rn_blk' [(.putfield 20, 3, 6, 1)] (by decide +kernel) (by omega) (by omega) (fun K R hK hR => ?_)
  simp only [List.length_cons, List.length_nil, Nat.reduceLT, rf_6_1, ↓rx_nil, ↓rx_putfield, ↓ry_obu, ↓ry_vr, true_and, ↓rh_ob e1, rz_set, rz_nol, rz_clr, List.set_cons_zero, List.set_cons_succ, rz_tr, Nat.reduceAdd, Int.reduceAdd, Int.reduceToNat, Int.reduceSub, Int.reduceNeg, Int.cast_ofNat_Int]
  refine hK _ _ _ _ ?_
  clear e1
  generalize hg : rz_up (rz_up g1 (a + 4) _) a _ = g2
  have hst : ∀ x, x ≠ a → x < a + 4 → g2 x = g1 x := fun x h1 h2 => by rw [← hg, rz_up_n _ _ h1, rz_up_n _ _ (by omega)]
  have hob : g2 a = some (.inr (6, [.ref (a + 1), .ref (a + 4), .null, .null, .null, .null, .null, .int 0, .int 0, .int 0])) := by rw [← hg, rz_up_s]
  have hfr : ∀ x, x < a → g2 x = G x := fun x hx => (hst x (by omega) (by omega)).trans (hfr x hx)
  have hn4 : g2 (a + 4) = some (.inl (1, 15, .inr (.inl (fun _ => 0)))) := by rw [← hg, rz_up_n _ _ (by omega), rz_up_s]
  have hce : ∀ o, 1 ≤ o → o < 5 → (True) → g2 (a + o) = some (rs_new a o) := fun o h1 h2 h3 => by
    by_cases c : o < 4
    · exact (hst _ (by omega) (by omega)).trans (hce o h1 c h3)
    by_cases c4 : o = 4
    · subst c4; exact hn4
    omega
  clear hg hst hn4
  refine rn_blk' [(.aload_n 0, 1, 0, 0)] (by decide +kernel) (by omega) (by omega) (fun K R hK hR => ?_)
  simp only [↓rx_aload_n0, ↓rx_nil, ↓ry_lr0s, ↓ry_lr0z, rz_set, rz_nol, rz_clr, List.set_cons_zero, List.set_cons_succ, rz_tr, Nat.reduceAdd, Int.reduceAdd, Int.reduceToNat, Int.reduceSub, Int.reduceNeg, Int.cast_ofNat_Int]
  refine hK _ _ _ _ ?_
  refine rn_new (ci := 0) (r := ("WriterDesk$Word", F_Word, 2)) (fs := [.null, .int 0]) rfl (rz_j1 205 rfl rfl) (rz_j1 34 rfl rfl) (rz_j1 2 rfl rfl) (by decide +kernel) (by decide) (Or.inr ⟨a + 4, rfl, by rw [hce 4 (by decide) (by decide) trivial]; simp⟩) (by decide) (by decide) ?_
  change rn_T w _ _ _ _ (4 + 1) (53212 + 2) _ _ (.ref (a + 5) :: _) (rz_up g2 (a + 5) _) _
  refine rn_blk' [(.dup, 1, 0, 0), (.bipush 112, 2, 0, 0)] (by decide +kernel) (by omega) (by omega) (fun K R hK hR => ?_)
  simp only [rw_b112, ↓rx_bipush, ↓rx_dup, ↓rx_nil, ↓ry_v1i, ↓ry_v1r, rz_set, rz_nol, rz_clr, List.set_cons_zero, List.set_cons_succ, rz_tr, Nat.reduceAdd, Int.reduceAdd, Int.reduceToNat, Int.reduceSub, Int.reduceNeg, Int.cast_ofNat_Int]
  refine hK _ _ _ _ ?_
  refine rn_cI (As := [.int (nI 112)]) (b := a + 5) (S := [.ref (a + 5), .ref a]) (mc' := 1) (ms' := 8) l_Res_26 (by decide +kernel) rfl (Nat.le_of_ble_eq_true rfl) (Or.inr ⟨a + 5, by rfl, by rw [rz_up_s]; simp⟩) (by decide) (by decide) (by
    have := c_Word_init (w := w) (d := d) (G := rz_up g2 (a + 5) (.inr (0, [.null, .int 0]))) (a := a + 5) (rm := 112) (by decide) (by decide) (rz_up_s _ _ _) rfl
    exact this) (fun r G' hr => ?_)
  obtain ⟨rfl, rfl⟩ := hr
  simp only [Option.toList, List.nil_append]
  change rn_T w _ _ _ _ 6 53222 _ _ _ (wd_put _ _ 8 []) _
  have e1 : wd_put (rz_up g2 (a + 5) (.inr (0, [.null, .int 0]))) (a + 5) 8 [] a = some (.inr (6, [.ref (a + 1), .ref (a + 4), .null, .null, .null, .null, .null, .int 0, .int 0, .int 0])) := by rw [wd_pout (by omega) (by omega), rz_up_n _ _ (by omega)]; exact hob
  refine rn_blk' [(.putfield 29, 3, 6, 2)] (by decide +kernel) (by omega) (by omega) (fun K R hK hR => ?_)
  simp only [List.length_cons, List.length_nil, Nat.reduceLT, rf_6_2, ↓rx_nil, ↓rx_putfield, ↓ry_obu, ↓ry_vr, true_and, ↓rh_ob e1, rz_set, rz_nol, rz_clr, List.set_cons_zero, List.set_cons_succ, rz_tr, Nat.reduceAdd, Int.reduceAdd, Int.reduceToNat, Int.reduceSub, Int.reduceNeg, Int.cast_ofNat_Int]
  refine hK _ _ _ _ ?_
  clear e1
  generalize hg : rz_up (wd_put (rz_up g2 (a + 5) _) (a + 5) 8 []) a _ = g3
  have hst : ∀ x, x ≠ a → x < a + 5 → g3 x = g2 x := fun x h1 h2 => by rw [← hg, rz_up_n _ _ h1, wd_pout (by omega) (by omega), rz_up_n _ _ (by omega)]
  have hob : g3 a = some (.inr (6, [.ref (a + 1), .ref (a + 4), .ref (a + 5), .null, .null, .null, .null, .int 0, .int 0, .int 0])) := by rw [← hg, rz_up_s]
  have hfr : ∀ x, x < a → g3 x = G x := fun x hx => (hst x (by omega) (by omega)).trans (hfr x hx)
  have hn5 : g3 (a + 5) = some (wd_o (a + 5) []) := by rw [← hg, rz_up_n _ _ (by omega)]; exact (wd_pis (wd_ok_nil (by decide))).1
  have hn6 : g3 (a + 6) = some (wd_a 8 []) := by rw [← hg, rz_up_n _ _ (by omega)]; exact (wd_pis (wd_ok_nil (by decide))).2.1
  have hce : ∀ o, 1 ≤ o → o < 7 → (True) → g3 (a + o) = some (rs_new a o) := fun o h1 h2 h3 => by
    by_cases c : o < 5
    · exact (hst _ (by omega) (by omega)).trans (hce o h1 c h3)
    by_cases c5 : o = 5
    · subst c5; exact hn5
    by_cases c6 : o = 6
    · subst c6; exact hn6
    omega
  clear hg hst hn5 hn6
  refine rn_blk' [(.aload_n 0, 1, 0, 0)] (by decide +kernel) (by omega) (by omega) (fun K R hK hR => ?_)
  simp only [↓rx_aload_n0, ↓rx_nil, ↓ry_lr0s, ↓ry_lr0z, rz_set, rz_nol, rz_clr, List.set_cons_zero, List.set_cons_succ, rz_tr, Nat.reduceAdd, Int.reduceAdd, Int.reduceToNat, Int.reduceSub, Int.reduceNeg, Int.cast_ofNat_Int]
  refine hK _ _ _ _ ?_
  refine rn_new (ci := 0) (r := ("WriterDesk$Word", F_Word, 2)) (fs := [.null, .int 0]) rfl (rz_j1 205 rfl rfl) (rz_j1 34 rfl rfl) (rz_j1 2 rfl rfl) (by decide +kernel) (by decide) (Or.inr ⟨a + 6, rfl, by rw [hce 6 (by decide) (by decide) trivial]; simp⟩) (by decide) (by decide) ?_
  change rn_T w _ _ _ _ (6 + 1) (53222 + 2) _ _ (.ref (a + 7) :: _) (rz_up g3 (a + 7) _) _
  refine rn_blk' [(.dup, 1, 0, 0), (.bipush 112, 2, 0, 0)] (by decide +kernel) (by omega) (by omega) (fun K R hK hR => ?_)
  simp only [rw_b112, ↓rx_bipush, ↓rx_dup, ↓rx_nil, ↓ry_v1i, ↓ry_v1r, rz_set, rz_nol, rz_clr, List.set_cons_zero, List.set_cons_succ, rz_tr, Nat.reduceAdd, Int.reduceAdd, Int.reduceToNat, Int.reduceSub, Int.reduceNeg, Int.cast_ofNat_Int]
  refine hK _ _ _ _ ?_
  refine rn_cI (As := [.int (nI 112)]) (b := a + 7) (S := [.ref (a + 7), .ref a]) (mc' := 1) (ms' := 8) l_Res_26 (by decide +kernel) rfl (Nat.le_of_ble_eq_true rfl) (Or.inr ⟨a + 7, by rfl, by rw [rz_up_s]; simp⟩) (by decide) (by decide) (by
    have := c_Word_init (w := w) (d := d) (G := rz_up g3 (a + 7) (.inr (0, [.null, .int 0]))) (a := a + 7) (rm := 112) (by decide) (by decide) (rz_up_s _ _ _) rfl
    exact this) (fun r G' hr => ?_)
  obtain ⟨rfl, rfl⟩ := hr
  simp only [Option.toList, List.nil_append]
  change rn_T w _ _ _ _ 8 53232 _ _ _ (wd_put _ _ 8 []) _
  have e1 : wd_put (rz_up g3 (a + 7) (.inr (0, [.null, .int 0]))) (a + 7) 8 [] a = some (.inr (6, [.ref (a + 1), .ref (a + 4), .ref (a + 5), .null, .null, .null, .null, .int 0, .int 0, .int 0])) := by rw [wd_pout (by omega) (by omega), rz_up_n _ _ (by omega)]; exact hob
  refine rn_blk' [(.putfield 33, 3, 6, 3)] (by decide +kernel) (by omega) (by omega) (fun K R hK hR => ?_)
  simp only [List.length_cons, List.length_nil, Nat.reduceLT, rf_6_3, ↓rx_nil, ↓rx_putfield, ↓ry_obu, ↓ry_vr, true_and, ↓rh_ob e1, rz_set, rz_nol, rz_clr, List.set_cons_zero, List.set_cons_succ, rz_tr, Nat.reduceAdd, Int.reduceAdd, Int.reduceToNat, Int.reduceSub, Int.reduceNeg, Int.cast_ofNat_Int]
  refine hK _ _ _ _ ?_
  clear e1
  generalize hg : rz_up (wd_put (rz_up g3 (a + 7) _) (a + 7) 8 []) a _ = g4
  have hst : ∀ x, x ≠ a → x < a + 7 → g4 x = g3 x := fun x h1 h2 => by rw [← hg, rz_up_n _ _ h1, wd_pout (by omega) (by omega), rz_up_n _ _ (by omega)]
  have hob : g4 a = some (.inr (6, [.ref (a + 1), .ref (a + 4), .ref (a + 5), .ref (a + 7), .null, .null, .null, .int 0, .int 0, .int 0])) := by rw [← hg, rz_up_s]
  have hfr : ∀ x, x < a → g4 x = G x := fun x hx => (hst x (by omega) (by omega)).trans (hfr x hx)
  have hn7 : g4 (a + 7) = some (wd_o (a + 7) []) := by rw [← hg, rz_up_n _ _ (by omega)]; exact (wd_pis (wd_ok_nil (by decide))).1
  have hn8 : g4 (a + 8) = some (wd_a 8 []) := by rw [← hg, rz_up_n _ _ (by omega)]; exact (wd_pis (wd_ok_nil (by decide))).2.1
  have hce : ∀ o, 1 ≤ o → o < 9 → (True) → g4 (a + o) = some (rs_new a o) := fun o h1 h2 h3 => by
    by_cases c : o < 7
    · exact (hst _ (by omega) (by omega)).trans (hce o h1 c h3)
    by_cases c7 : o = 7
    · subst c7; exact hn7
    by_cases c8 : o = 8
    · subst c8; exact hn8
    omega
  clear hg hst hn7 hn8
  refine rn_blk' [(.aload_n 0, 1, 0, 0)] (by decide +kernel) (by omega) (by omega) (fun K R hK hR => ?_)
  simp only [↓rx_aload_n0, ↓rx_nil, ↓ry_lr0s, ↓ry_lr0z, rz_set, rz_nol, rz_clr, List.set_cons_zero, List.set_cons_succ, rz_tr, Nat.reduceAdd, Int.reduceAdd, Int.reduceToNat, Int.reduceSub, Int.reduceNeg, Int.cast_ofNat_Int]
  refine hK _ _ _ _ ?_
  refine rn_new (ci := 0) (r := ("WriterDesk$Word", F_Word, 2)) (fs := [.null, .int 0]) rfl (rz_j1 205 rfl rfl) (rz_j1 34 rfl rfl) (rz_j1 2 rfl rfl) (by decide +kernel) (by decide) (Or.inr ⟨a + 8, rfl, by rw [hce 8 (by decide) (by decide) trivial]; simp⟩) (by decide) (by decide) ?_
  change rn_T w _ _ _ _ (8 + 1) (53232 + 2) _ _ (.ref (a + 9) :: _) (rz_up g4 (a + 9) _) _
  refine rn_blk' [(.dup, 1, 0, 0), (.bipush 112, 2, 0, 0)] (by decide +kernel) (by omega) (by omega) (fun K R hK hR => ?_)
  simp only [rw_b112, ↓rx_bipush, ↓rx_dup, ↓rx_nil, ↓ry_v1i, ↓ry_v1r, rz_set, rz_nol, rz_clr, List.set_cons_zero, List.set_cons_succ, rz_tr, Nat.reduceAdd, Int.reduceAdd, Int.reduceToNat, Int.reduceSub, Int.reduceNeg, Int.cast_ofNat_Int]
  refine hK _ _ _ _ ?_
  refine rn_cI (As := [.int (nI 112)]) (b := a + 9) (S := [.ref (a + 9), .ref a]) (mc' := 1) (ms' := 8) l_Res_26 (by decide +kernel) rfl (Nat.le_of_ble_eq_true rfl) (Or.inr ⟨a + 9, by rfl, by rw [rz_up_s]; simp⟩) (by decide) (by decide) (by
    have := c_Word_init (w := w) (d := d) (G := rz_up g4 (a + 9) (.inr (0, [.null, .int 0]))) (a := a + 9) (rm := 112) (by decide) (by decide) (rz_up_s _ _ _) rfl
    exact this) (fun r G' hr => ?_)
  obtain ⟨rfl, rfl⟩ := hr
  simp only [Option.toList, List.nil_append]
  change rn_T w _ _ _ _ 10 53242 _ _ _ (wd_put _ _ 8 []) _
  have e1 : wd_put (rz_up g4 (a + 9) (.inr (0, [.null, .int 0]))) (a + 9) 8 [] a = some (.inr (6, [.ref (a + 1), .ref (a + 4), .ref (a + 5), .ref (a + 7), .null, .null, .null, .int 0, .int 0, .int 0])) := by rw [wd_pout (by omega) (by omega), rz_up_n _ _ (by omega)]; exact hob
  refine rn_blk' [(.putfield 36, 3, 6, 4)] (by decide +kernel) (by omega) (by omega) (fun K R hK hR => ?_)
  simp only [List.length_cons, List.length_nil, Nat.reduceLT, rf_6_4, ↓rx_nil, ↓rx_putfield, ↓ry_obu, ↓ry_vr, true_and, ↓rh_ob e1, rz_set, rz_nol, rz_clr, List.set_cons_zero, List.set_cons_succ, rz_tr, Nat.reduceAdd, Int.reduceAdd, Int.reduceToNat, Int.reduceSub, Int.reduceNeg, Int.cast_ofNat_Int]
  refine hK _ _ _ _ ?_
  clear e1
  generalize hg : rz_up (wd_put (rz_up g4 (a + 9) _) (a + 9) 8 []) a _ = g5
  have hst : ∀ x, x ≠ a → x < a + 9 → g5 x = g4 x := fun x h1 h2 => by rw [← hg, rz_up_n _ _ h1, wd_pout (by omega) (by omega), rz_up_n _ _ (by omega)]
  have hob : g5 a = some (.inr (6, [.ref (a + 1), .ref (a + 4), .ref (a + 5), .ref (a + 7), .ref (a + 9), .null, .null, .int 0, .int 0, .int 0])) := by rw [← hg, rz_up_s]
  have hfr : ∀ x, x < a → g5 x = G x := fun x hx => (hst x (by omega) (by omega)).trans (hfr x hx)
  have hn9 : g5 (a + 9) = some (wd_o (a + 9) []) := by rw [← hg, rz_up_n _ _ (by omega)]; exact (wd_pis (wd_ok_nil (by decide))).1
  have hn10 : g5 (a + 10) = some (wd_a 8 []) := by rw [← hg, rz_up_n _ _ (by omega)]; exact (wd_pis (wd_ok_nil (by decide))).2.1
  have hce : ∀ o, 1 ≤ o → o < 11 → (True) → g5 (a + o) = some (rs_new a o) := fun o h1 h2 h3 => by
    by_cases c : o < 9
    · exact (hst _ (by omega) (by omega)).trans (hce o h1 c h3)
    by_cases c9 : o = 9
    · subst c9; exact hn9
    by_cases c10 : o = 10
    · subst c10; exact hn10
    omega
  clear hg hst hn9 hn10
  refine rn_blk' [(.aload_n 0, 1, 0, 0)] (by decide +kernel) (by omega) (by omega) (fun K R hK hR => ?_)
  simp only [↓rx_aload_n0, ↓rx_nil, ↓ry_lr0s, ↓ry_lr0z, rz_set, rz_nol, rz_clr, List.set_cons_zero, List.set_cons_succ, rz_tr, Nat.reduceAdd, Int.reduceAdd, Int.reduceToNat, Int.reduceSub, Int.reduceNeg, Int.cast_ofNat_Int]
  refine hK _ _ _ _ ?_
  refine rn_new (ci := 0) (r := ("WriterDesk$Word", F_Word, 2)) (fs := [.null, .int 0]) rfl (rz_j1 205 rfl rfl) (rz_j1 34 rfl rfl) (rz_j1 2 rfl rfl) (by decide +kernel) (by decide) (Or.inr ⟨a + 10, rfl, by rw [hce 10 (by decide) (by decide) trivial]; simp⟩) (by decide) (by decide) ?_
  change rn_T w _ _ _ _ (10 + 1) (53242 + 2) _ _ (.ref (a + 11) :: _) (rz_up g5 (a + 11) _) _
  refine rn_blk' [(.dup, 1, 0, 0), (.bipush 112, 2, 0, 0)] (by decide +kernel) (by omega) (by omega) (fun K R hK hR => ?_)
  simp only [rw_b112, ↓rx_bipush, ↓rx_dup, ↓rx_nil, ↓ry_v1i, ↓ry_v1r, rz_set, rz_nol, rz_clr, List.set_cons_zero, List.set_cons_succ, rz_tr, Nat.reduceAdd, Int.reduceAdd, Int.reduceToNat, Int.reduceSub, Int.reduceNeg, Int.cast_ofNat_Int]
  refine hK _ _ _ _ ?_
  refine rn_cI (As := [.int (nI 112)]) (b := a + 11) (S := [.ref (a + 11), .ref a]) (mc' := 1) (ms' := 8) l_Res_26 (by decide +kernel) rfl (Nat.le_of_ble_eq_true rfl) (Or.inr ⟨a + 11, by rfl, by rw [rz_up_s]; simp⟩) (by decide) (by decide) (by
    have := c_Word_init (w := w) (d := d) (G := rz_up g5 (a + 11) (.inr (0, [.null, .int 0]))) (a := a + 11) (rm := 112) (by decide) (by decide) (rz_up_s _ _ _) rfl
    exact this) (fun r G' hr => ?_)
  obtain ⟨rfl, rfl⟩ := hr
  simp only [Option.toList, List.nil_append]
  change rn_T w _ _ _ _ 12 53252 _ _ _ (wd_put _ _ 8 []) _
  have e1 : wd_put (rz_up g5 (a + 11) (.inr (0, [.null, .int 0]))) (a + 11) 8 [] a = some (.inr (6, [.ref (a + 1), .ref (a + 4), .ref (a + 5), .ref (a + 7), .ref (a + 9), .null, .null, .int 0, .int 0, .int 0])) := by rw [wd_pout (by omega) (by omega), rz_up_n _ _ (by omega)]; exact hob
  refine rn_blk' [(.putfield 39, 3, 6, 5)] (by decide +kernel) (by omega) (by omega) (fun K R hK hR => ?_)
  simp only [List.length_cons, List.length_nil, Nat.reduceLT, rf_6_5, ↓rx_nil, ↓rx_putfield, ↓ry_obu, ↓ry_vr, true_and, ↓rh_ob e1, rz_set, rz_nol, rz_clr, List.set_cons_zero, List.set_cons_succ, rz_tr, Nat.reduceAdd, Int.reduceAdd, Int.reduceToNat, Int.reduceSub, Int.reduceNeg, Int.cast_ofNat_Int]
  refine hK _ _ _ _ ?_
  clear e1
  generalize hg : rz_up (wd_put (rz_up g5 (a + 11) _) (a + 11) 8 []) a _ = g6
  have hst : ∀ x, x ≠ a → x < a + 11 → g6 x = g5 x := fun x h1 h2 => by rw [← hg, rz_up_n _ _ h1, wd_pout (by omega) (by omega), rz_up_n _ _ (by omega)]
  have hob : g6 a = some (.inr (6, [.ref (a + 1), .ref (a + 4), .ref (a + 5), .ref (a + 7), .ref (a + 9), .ref (a + 11), .null, .int 0, .int 0, .int 0])) := by rw [← hg, rz_up_s]
  have hfr : ∀ x, x < a → g6 x = G x := fun x hx => (hst x (by omega) (by omega)).trans (hfr x hx)
  have hn11 : g6 (a + 11) = some (wd_o (a + 11) []) := by rw [← hg, rz_up_n _ _ (by omega)]; exact (wd_pis (wd_ok_nil (by decide))).1
  have hn12 : g6 (a + 12) = some (wd_a 8 []) := by rw [← hg, rz_up_n _ _ (by omega)]; exact (wd_pis (wd_ok_nil (by decide))).2.1
  have hce : ∀ o, 1 ≤ o → o < 13 → (True) → g6 (a + o) = some (rs_new a o) := fun o h1 h2 h3 => by
    by_cases c : o < 11
    · exact (hst _ (by omega) (by omega)).trans (hce o h1 c h3)
    by_cases c11 : o = 11
    · subst c11; exact hn11
    by_cases c12 : o = 12
    · subst c12; exact hn12
    omega
  clear hg hst hn11 hn12
  refine rn_blk' [(.return_, 1, 0, 0)] (by decide +kernel) (by omega) (by omega) (fun K R hK hR => ?_)
  simp only [↓rx_nil, ↓rx_return_, rz_set, rz_nol, rz_clr, List.set_cons_zero, List.set_cons_succ, rz_tr, Nat.reduceAdd, Int.reduceAdd, Int.reduceToNat, Int.reduceSub, Int.reduceNeg, Int.cast_ofNat_Int]
  refine hR _ _ (rz_nb_i (by decide)) ⟨rfl, hfr, fun o ho => ?_⟩
  by_cases c : o = 0
  · subst c; exact hob
  · exact hce o (by omega) ho trivial
