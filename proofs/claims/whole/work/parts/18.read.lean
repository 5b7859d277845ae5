/-! WriterDesk$Reading: ways (a state, what is written so far) as rows -/
def rd_enc (w : Nat × List Nat) : List Int64 := [lN (w.1 * 256 + w.2.length), wd_f w.2 0, wd_f w.2 1, wd_f w.2 2]
def rd_wok (w : Nat × List Nat) : Prop := w.1 < 6 ∧ w.2.length ≤ 48 ∧ ∀ x ∈ w.2, x < 8
theorem rd_enc_inj {v w : Nat × List Nat} (hv : rd_wok v) (hw : rd_wok w) (h : rd_enc v = rd_enc w) : v = w := by
  obtain ⟨v1, v2⟩ := v
  obtain ⟨w1, w2⟩ := w
  obtain ⟨a1, a2, a3⟩ := hv
  obtain ⟨b1, b2, b3⟩ := hw
  dsimp only at a1 a2 a3 b1 b2 b3
  simp only [rd_enc, List.cons.injEq, and_true] at h
  obtain ⟨h0, h1, h2, h3⟩ := h
  have e := lN_inj (by omega) (by omega) h0
  have e1 : v1 = w1 := by omega
  have e2 : v2.length = w2.length := by omega
  have : v2 = w2 := by
    refine wd_f_eq (fun x hx => by have := a3 x hx; omega) (fun x hx => by have := b3 x hx; omega) e2 (fun j hj => ?_)
    have : j = 0 ∨ j = 1 ∨ j = 2 := by omega
    rcases this with rfl | rfl | rfl
    · exact h1
    · exact h2
    · exact h3
  rw [e1, this]
theorem rd_mem {ws : List (Nat × List Nat)} {w : Nat × List Nat} (hws : ∀ v ∈ ws, rd_wok v) (hw : rd_wok w) : rd_enc w ∈ ws.map rd_enc ↔ w ∈ ws := by
  rw [List.mem_map]
  constructor
  · rintro ⟨v, hv, e⟩
    rw [← rd_enc_inj (hws v hv) hw e]; exact hv
  · exact fun h => ⟨w, h, rfl⟩
theorem rw_is_keep {G G' : rz_G} {r wd mo e : Nat} {rs : List (List Int64)} (h : rw_is G r wd mo e rs) (h1 : G' r = G r) (h2 : G' (r + 1) = G (r + 1)) (h3 : G' (r + 2) = G (r + 2)) : rw_is G' r wd mo e rs := by
  obtain ⟨f, sl, a1, a2, a3, a4⟩ := h
  exact ⟨f, sl, by rw [h1]; exact a1, by rw [h2]; exact a2, by rw [h3]; exact a3, a4⟩
theorem wd_is_keep {G G' : rz_G} {a c : Nat} {xs : List Nat} (h : wd_is G a c xs) (h1 : G' a = G a) (h2 : G' (a + 1) = G (a + 1)) : wd_is G' a c xs := ⟨by rw [h1]; exact h.1, by rw [h2]; exact h.2.1, h.2.2⟩
/-- a way's row, as it lies in the cells -/
theorem rd_cells {G : rz_G} {r : Nat} {ws : List (Nat × List Nat)} (h : rw_is G r 4 200 9 (ws.map rd_enc)) {i : Nat} (hi : i < ws.length) : ∃ f : Nat → Int64, G r = some (.inr (1, [.ref (r + 1), .int (nI 4), .int (nI 200), .ref (r + 2), .int (nI ws.length)])) ∧ G (r + 1) = some (.inl (1, 800, .inr (.inl f))) ∧ f (i * 4) = lN (ws[i].1 * 256 + ws[i].2.length) ∧ ∀ j, j < 3 → f (i * 4 + 1 + j) = wd_f ws[i].2 j := by
  obtain ⟨f, sl, a1, a2, a3, a4, -⟩ := h
  have h4 := a4 i (by simpa using hi)
  rw [List.getElem_map] at h4
  refine ⟨f, by simpa using a1, a2, ?_, fun j hj => ?_⟩
  · have := congrArg (fun l => l[0]?) h4
    simpa [rw_l, rd_enc] using this
  · have hj3 : j = 0 ∨ j = 1 ∨ j = 2 := by omega
    rcases hj3 with rfl | rfl | rfl
    · have := congrArg (fun l => l[1]?) h4
      simpa [rw_l, rd_enc] using this
    · have := congrArg (fun l => l[2]?) h4
      simpa [rw_l, rd_enc] using this
    · have := congrArg (fun l => l[3]?) h4
      simpa [rw_l, rd_enc] using this
theorem rd_len {G : rz_G} {r : Nat} {ws : List (Nat × List Nat)} (h : rw_is G r 4 200 9 (ws.map rd_enc)) : ws.length ≤ 200 := by
  obtain ⟨f, sl, a1, a2, a3, a4, a5, a6, -⟩ := h
  simpa using a6
set_option maxRecDepth 100000 in
set_option maxHeartbeats 4000000 in
/-- stateOf(rows, way) -/
theorem c_Read_stateOf {w : rz_w} {d : Nat} {G : rz_G} {r : Nat} {ws : List (Nat × List Nat)} (h : rw_is G r 4 200 9 (ws.map rd_enc)) (hws : ∀ v ∈ ws, rd_wok v) {i : Nat} (hi : i < ws.length) : rz_C w d 0 0 y_Read_stateOf m_Read_stateOf [.ref r, .int (nI i)] G (fun q G' => q = some (.int (nI ws[i].1)) ∧ G' = G) := by
  obtain ⟨f, a1, a2, a3, a4⟩ := rd_cells h hi
  have hl := rd_len h
  obtain ⟨k1, k2, k3⟩ := hws _ (List.getElem_mem hi)
  refine rz_enter' [some (.ref r), some (.int (nI i))] (by decide +kernel) rfl rfl (Nat.le_of_ble_eq_true rfl) rfl ?_
  refine rz_blk' [(.aload_n 0, 1, 0, 0), (.getfield 129, 3, 1, 0), (.iload_n 1, 1, 0, 0), (.aload_n 0, 1, 0, 0), (.getfield 132, 3, 1, 1), (.imul, 1, 0, 0), (.laload, 1, 0, 0), (.bipush 8, 2, 0, 0), (.lushr, 1, 0, 0), (.l2i, 1, 0, 0), (.ireturn, 1, 0, 0)] (by decide +kernel) (Nat.le_refl _) (Nat.le_refl _) (fun K R hK hR => ?_)
  simp only [rw_b8, ↓rx_aload_n0, ↓rx_bipush, ↓rx_getfield, ↓rx_iload_n1, ↓rx_imul, ↓rx_ireturn, ↓rx_l2i, ↓rx_laload, ↓rx_lushr, ↓rx_nil, ↓ry_fvs, ↓ry_fvz, ↓ry_i2, ↓ry_l1, ↓ry_lau, ↓ry_li, ↓ry_li0s, ↓ry_li0z, ↓ry_lr0s, ↓ry_lr0z, ↓ry_obu, ↓ry_r1, ↓ry_ri, ↓rh_ob a1, ↓rh_la a2, pk_mul, rz_set, rz_nol, rz_clr, List.set_cons_zero, List.set_cons_succ, rz_tr, Nat.reduceAdd, Int.reduceAdd, Int.reduceToNat, Int.reduceSub, Int.reduceNeg, Int.cast_ofNat_Int]
  rw [nI_clamp (by omega), a3, wb_shr (by omega) (by decide), lN_i]
  refine ⟨vp_in_nI (by omega) (by decide), hR _ _ (rz_nb_i (by decide)) ⟨?_, rfl⟩⟩
  congr 3
  omega

set_option maxRecDepth 100000 in
set_option maxHeartbeats 4000000 in
/-- loadWay(rows, way, into) -/
theorem c_Read_loadWay {w : rz_w} {d : Nat} {G : rz_G} {r v : Nat} {xs : List Nat} {ws : List (Nat × List Nat)} (h : rw_is G r 4 200 9 (ws.map rd_enc)) (hws : ∀ v ∈ ws, rd_wok v) {i : Nat} (hi : i < ws.length) (hv : wd_is G v 4 xs) (hne : r + 1 ≠ v + 1) : rz_C w (d + 1) 0 0 y_Read_loadWay m_Read_loadWay [.ref r, .int (nI i), .ref v] G (fun q G' => q = none ∧ G' = wd_put G v 4 ws[i].2) := by
  obtain ⟨f, a1, a2, a3, a4⟩ := rd_cells h hi
  have hl := rd_len h
  obtain ⟨k1, k2, k3⟩ := hws _ (List.getElem_mem hi)
  refine rz_enter' [some (.ref r), some (.int (nI i)), some (.ref v), none] (by decide +kernel) rfl rfl (Nat.le_of_ble_eq_true rfl) rfl ?_
  refine rz_blk' [(.iload_n 1, 1, 0, 0), (.aload_n 0, 1, 0, 0), (.getfield 132, 3, 1, 1), (.imul, 1, 0, 0), (.istore_n 3, 1, 0, 0)] (by decide +kernel) (Nat.le_refl _) (Nat.le_refl _) (fun K R hK hR => ?_)
  simp only [↓rx_aload_n0, ↓rx_getfield, ↓rx_iload_n1, ↓rx_imul, ↓rx_istore_n3, ↓rx_nil, ↓ry_fvs, ↓ry_fvz, ↓ry_i1, ↓ry_i2, ↓ry_li0s, ↓ry_li0z, ↓ry_lr0s, ↓ry_lr0z, ↓ry_obu, ↓ry_r1, ↓rh_ob a1, pk_mul, rz_set, rz_nol, rz_clr, List.set_cons_zero, List.set_cons_succ, rz_tr, Nat.reduceAdd, Int.reduceAdd, Int.reduceToNat, Int.reduceSub, Int.reduceNeg, Int.cast_ofNat_Int]
  refine hK _ _ _ _ ?_
  refine rz_blk' [(.aload_n 2, 1, 0, 0), (.aload_n 0, 1, 0, 0), (.getfield 129, 3, 1, 0), (.iload_n 3, 1, 0, 0), (.iconst 1, 1, 0, 0), (.iadd, 1, 0, 0), (.iconst 3, 1, 0, 0), (.aload_n 0, 1, 0, 0), (.getfield 129, 3, 1, 0), (.iload_n 3, 1, 0, 0), (.laload, 1, 0, 0)] (by decide +kernel) (Nat.le_refl _) (Nat.le_refl _) (fun K R hK hR => ?_)
  simp only [rw_c1, rw_c3, ↓rx_aload_n0, ↓rx_aload_n2, ↓rx_getfield, ↓rx_iadd, ↓rx_iconst, ↓rx_iload_n3, ↓rx_laload, ↓rx_nil, ↓ry_fvs, ↓ry_fvz, ↓ry_i2, ↓ry_lau, ↓ry_li0s, ↓ry_li0z, ↓ry_lr0s, ↓ry_lr0z, ↓ry_obu, ↓ry_r1, ↓ry_ri, ↓rh_ob a1, ↓rh_la a2, nI_add, rz_set, rz_nol, rz_clr, List.set_cons_zero, List.set_cons_succ, rz_tr, Nat.reduceAdd, Int.reduceAdd, Int.reduceToNat, Int.reduceSub, Int.reduceNeg, Int.cast_ofNat_Int]
  rw [nI_clamp (by omega), a3]
  refine ⟨vp_in_nI (by omega) (by decide), hK _ _ _ _ (rz_ldc2 (v := 255) (by decide +kernel) (rz_j3 231 rfl rfl) ?_)⟩
  refine rz_blk' [(.land, 1, 0, 0), (.l2i, 1, 0, 0)] (by decide +kernel) (Nat.le_refl _) (Nat.le_refl _) (fun K R hK hR => ?_)
  simp only [↓rx_l2i, ↓rx_land, ↓rx_nil, ↓ry_l1, ↓ry_l2, rz_set, rz_nol, rz_clr, List.set_cons_zero, List.set_cons_succ, rz_tr, Nat.reduceAdd, Int.reduceAdd, Int.reduceToNat, Int.reduceSub, Int.reduceNeg, Int.cast_ofNat_Int]
  have e255 : (255 : Int64) = lN (2 ^ 8 - 1) := rfl
  rw [e255, wb_mask (by omega) (by decide), lN_i, show (ws[i].1 * 256 + ws[i].2.length) % 2 ^ 8 = ws[i].2.length by omega]
  refine hK _ _ _ _ ?_
  refine rz_cV (As := [.ref (r + 1), .int (nI (i * 4 + 1)), .int (nI 3), .int (nI ws[i].2.length)]) (b := v) (S := []) l_Read_137 (by decide +kernel) rfl hv.1 rfl (Nat.le_of_ble_eq_true rfl) (Nat.le_refl _) (Nat.le_refl _) (c_Word_load (ys := ws[i].2) hv a2 (by decide) hne (by omega) (fun j hj => a4 j hj) (by omega) ⟨by omega, fun x hx => by have := k3 x hx; omega, hv.2.2.2.2⟩) (fun r G' hq => ?_)
  obtain ⟨rfl, rfl⟩ := hq
  simp only [Option.toList, List.nil_append]
  refine rz_blk' [(.return_, 1, 0, 0)] (by decide +kernel) (Nat.le_refl _) (Nat.le_refl _) (fun K R hK hR => ?_)
  simp only [↓rx_nil, ↓rx_return_, rz_set, rz_nol, rz_clr, List.set_cons_zero, List.set_cons_succ, rz_tr, Nat.reduceAdd, Int.reduceAdd, Int.reduceToNat, Int.reduceSub, Int.reduceNeg, Int.cast_ofNat_Int]
  exact hR _ _ (rz_nb_i (by decide)) ⟨rfl, rfl⟩

/-- what addWay does to the rows at r -/
def rd_post (r : Nat) (ws : List (Nat × List Nat)) (v : Nat × List Nat) (q : Option Value) (G' : rz_G) : Prop :=
  (v ∈ ws ∧ q = some (.int 1) ∧ rw_is G' r 4 200 9 (ws.map rd_enc)) ∨ (v ∉ ws ∧ ws.length = 200 ∧ q = some (.int 0) ∧ rw_is G' r 4 200 9 (ws.map rd_enc)) ∨ (v ∉ ws ∧ ws.length < 200 ∧ q = some (.int 1) ∧ rw_is G' r 4 200 9 ((ws ++ [v]).map rd_enc))
set_option maxRecDepth 100000 in
set_option maxHeartbeats 4000000 in
/-- addWay(rows, state) -/
theorem c_Read_addWay {w : rz_w} {d : Nat} {G : rz_G} {a r n1 n2 s : Nat} {ys : List Nat} {g : Nat → Int64} {ws : List (Nat × List Nat)} (ha : G a = some (.inr (3, [.ref n1, .ref n2, .ref (a + 7), .ref (a + 8), .ref (a + 10)]))) (hg : G (a + 7) = some (.inl (1, 4, .inr (.inl g)))) (hy : wd_is G (a + 10) 4 ys) (h : rw_is G r 4 200 9 (ws.map rd_enc)) (hws : ∀ v ∈ ws, rd_wok v) (hv : rd_wok (s, ys)) (hr : r = a + 1 ∨ r = a + 4) :
    rz_C w (d + 3) 0 0 y_Read_addWay m_Read_addWay [.ref a, .ref r, .int (nI s)] G (fun q G' => rd_post r ws (s, ys) q G' ∧ (∃ g', G' (a + 7) = some (.inl (1, 4, .inr (.inl g')))) ∧ ∀ x, x ≠ a + 7 → x ≠ r → x ≠ r + 1 → x ≠ r + 2 → G' x = G x) := by
  obtain ⟨k1, k2, k3⟩ := hv
  dsimp only at k1 k2 k3
  refine rz_enter' [some (.ref a), some (.ref r), some (.int (nI s))] (by decide +kernel) rfl rfl (Nat.le_of_ble_eq_true rfl) rfl ?_
  refine rz_blk' [(.aload_n 0, 1, 0, 0), (.getfield 23, 3, 3, 2), (.iconst 0, 1, 0, 0), (.iload_n 2, 1, 0, 0), (.i2l, 1, 0, 0), (.bipush 8, 2, 0, 0), (.lshl, 1, 0, 0), (.aload_n 0, 1, 0, 0), (.getfield 36, 3, 3, 4), (.getfield 118, 3, 0, 1), (.i2l, 1, 0, 0), (.lor, 1, 0, 0), (.lastore, 1, 0, 0)] (by decide +kernel) (Nat.le_refl _) (Nat.le_refl _) (fun K R hK hR => ?_)
  simp only [rw_b8, rw_c0, ↓rx_aload_n0, ↓rx_bipush, ↓rx_getfield, ↓rx_i2l, ↓rx_iconst, ↓rx_iload_n2, ↓rx_lastore, ↓rx_lor, ↓rx_lshl, ↓rx_nil, ↓ry_fvs, ↓ry_fvz, ↓ry_i1, ↓ry_l2, ↓ry_lau, ↓ry_li, ↓ry_li0s, ↓ry_li0z, ↓ry_lr0s, ↓ry_lr0z, ↓ry_obu, ↓ry_r1, ↓ry_ril, ↓rh_ob ha, ↓rh_la hg, ↓rh_ob hy.1, rz_set, rz_nol, rz_clr, List.set_cons_zero, List.set_cons_succ, rz_tr, Nat.reduceAdd, Int.reduceAdd, Int.reduceToNat, Int.reduceSub, Int.reduceNeg, Int.cast_ofNat_Int]
  rw [nI_l (n := s) (by omega), nI_l (n := ys.length) (by omega), wb_shl _ (by decide), wb_or (by omega) (by omega), nI_clamp (by decide)]
  have e0 : s * 2 ^ 8 ||| ys.length = s * 256 + ys.length := by
    rw [show s * 2 ^ 8 = 2 ^ 8 * s by omega, ← Nat.two_pow_add_eq_or_of_lt (by omega)]
  rw [e0]
  refine ⟨vp_in_nI (by decide) (by decide), hK _ _ _ _ ?_⟩
  generalize hG1 : rz_up G (a + 7) _ = G1
  have b1 : G1 a = some (.inr (3, [.ref n1, .ref n2, .ref (a + 7), .ref (a + 8), .ref (a + 10)])) := by rw [← hG1, rz_up_n _ _ (by omega)]; exact ha
  have b2 : G1 (a + 7) = some (.inl (1, 4, .inr (.inl (vp_updL g 0 (lN (s * 256 + ys.length)))))) := by rw [← hG1, rz_up_s]
  have b3 : wd_is G1 (a + 10) 4 ys := wd_is_keep hy (by rw [← hG1, rz_up_n _ _ (by omega)]) (by rw [← hG1, rz_up_n _ _ (by omega)])
  refine rz_blk' [(.aload_n 0, 1, 0, 0), (.getfield 36, 3, 3, 4), (.aload_n 0, 1, 0, 0), (.getfield 23, 3, 3, 2), (.iconst 1, 1, 0, 0), (.iconst 3, 1, 0, 0)] (by decide +kernel) (Nat.le_refl _) (Nat.le_refl _) (fun K R hK hR => ?_)
  simp only [rw_c1, rw_c3, ↓rx_aload_n0, ↓rx_getfield, ↓rx_iconst, ↓rx_nil, ↓ry_fvs, ↓ry_fvz, ↓ry_lr0s, ↓ry_lr0z, ↓ry_obu, ↓ry_r1, ↓rh_ob b1, rz_set, rz_nol, rz_clr, List.set_cons_zero, List.set_cons_succ, rz_tr, Nat.reduceAdd, Int.reduceAdd, Int.reduceToNat, Int.reduceSub, Int.reduceNeg, Int.cast_ofNat_Int]
  refine hK _ _ _ _ ?_
  refine rz_cV (As := [.ref (a + 7), .int (nI 1), .int (nI 3)]) (b := a + 10) (S := []) l_Read_121 (by decide +kernel) rfl b3.1 rfl (Nat.le_of_ble_eq_true rfl) (Nat.le_refl _) (Nat.le_refl _) (c_Word_store (f0 := 1) (wt := 3) b3 b2 (by decide) (by omega) (by decide)) (fun r G' hq => ?_)
  obtain ⟨rfl, rfl⟩ := hq
  simp only [Option.toList, List.nil_append]
  generalize hG2 : rz_up G1 (a + 7) _ = G2
  have hfr : ∀ x, x ≠ a + 7 → G2 x = G x := fun x hx => by rw [← hG2, rz_up_n _ _ hx, ← hG1, rz_up_n _ _ hx]
  have c1 : G2 a = some (.inr (3, [.ref n1, .ref n2, .ref (a + 7), .ref (a + 8), .ref (a + 10)])) := by rw [hfr _ (by omega)]; exact ha
  have c2 : G2 (a + 7) = some (.inl (1, 4, .inr (.inl (wd_row (vp_updL g 0 (lN (s * 256 + ys.length))) 1 3 ys)))) := by rw [← hG2, rz_up_s]
  have c3 : rw_is G2 r 4 200 9 (ws.map rd_enc) := rw_is_keep h (hfr _ (by omega)) (hfr _ (by omega)) (hfr _ (by omega))
  have erow : rw_l (wd_row (vp_updL g 0 (lN (s * 256 + ys.length))) 1 3 ys) 4 = rd_enc (s, ys) := by
    simp [rw_l, rd_enc, wd_row, vp_updL, List.range_succ]
  obtain ⟨f, sl, o1, -⟩ := id c3
  refine rz_blk' [(.aload_n 1, 1, 0, 0), (.aload_n 0, 1, 0, 0), (.getfield 23, 3, 3, 2)] (by decide +kernel) (Nat.le_refl _) (Nat.le_refl _) (fun K R hK hR => ?_)
  simp only [↓rx_aload_n0, ↓rx_aload_n1, ↓rx_getfield, ↓rx_nil, ↓ry_fvs, ↓ry_fvz, ↓ry_lr0s, ↓ry_lr0z, ↓ry_obu, ↓ry_r1, ↓rh_ob c1, rz_set, rz_nol, rz_clr, List.set_cons_zero, List.set_cons_succ, rz_tr, Nat.reduceAdd, Int.reduceAdd, Int.reduceToNat, Int.reduceSub, Int.reduceNeg, Int.cast_ofNat_Int]
  refine hK _ _ _ _ ?_
  refine rz_cV (As := [.ref (a + 7)]) (b := r) (S := []) l_Read_125 (by decide +kernel) rfl o1 rfl (Nat.le_of_ble_eq_true rfl) (Nat.le_refl _) (Nat.le_refl _) (c_Rows_add c3 c2 (by decide) (by decide) (by omega)) (fun r_1 G' hq => ?_)
  rw [erow] at hq
  have hfin : rd_post r ws (s, ys) r_1 G' ∧ (∃ g', G' (a + 7) = some (.inl (1, 4, .inr (.inl g')))) ∧ ∀ x, x ≠ a + 7 → x ≠ r → x ≠ r + 1 → x ≠ r + 2 → G' x = G x := by
    rcases hq with ⟨q1, q2, q3⟩ | ⟨q1, q2, q3, q4⟩ | ⟨q1, q2, q3, q4, q5⟩
    · subst q3
      exact ⟨Or.inl ⟨(rd_mem hws ⟨k1, k2, k3⟩).mp q1, q2, c3⟩, ⟨_, c2⟩, fun x h1 h2 h3 h4 => hfr x h1⟩
    · subst q4
      exact ⟨Or.inr (Or.inl ⟨fun q => q1 ((rd_mem hws ⟨k1, k2, k3⟩).mpr q), by simpa using q2, q3, c3⟩), ⟨_, c2⟩, fun x h1 h2 h3 h4 => hfr x h1⟩
    · refine ⟨Or.inr (Or.inr ⟨fun q => q1 ((rd_mem hws ⟨k1, k2, k3⟩).mpr q), by simpa using q2, q3, by rw [List.map_append]; exact q4⟩), ⟨_, by rw [q5 _ (by omega) (by omega) (by omega)]; exact c2⟩, fun x h1 h2 h3 h4 => by rw [q5 x h2 h3 h4]; exact hfr x h1⟩
  have hr1 : r_1 = some (.int 1) ∨ r_1 = some (.int 0) := by
    rcases hq with ⟨-, q2, -⟩ | ⟨-, -, q3, -⟩ | ⟨-, -, q3, -⟩
    · exact Or.inl q2
    · exact Or.inr q3
    · exact Or.inl q3
  rcases hr1 with rfl | rfl
  · simp only [Option.toList, List.cons_append, List.nil_append]
    refine rz_blk' [(.ireturn, 1, 0, 0)] (by decide +kernel) (Nat.le_refl _) (Nat.le_refl _) (fun K R hK hR => ?_)
    simp only [↓rx_ireturn, ↓rx_nil, rz_set, rz_nol, rz_clr, List.set_cons_zero, List.set_cons_succ, rz_tr, Nat.reduceAdd, Int.reduceAdd, Int.reduceToNat, Int.reduceSub, Int.reduceNeg, Int.cast_ofNat_Int]
    exact hR _ _ rz_nb_1 hfin
  · simp only [Option.toList, List.cons_append, List.nil_append]
    refine rz_blk' [(.ireturn, 1, 0, 0)] (by decide +kernel) (Nat.le_refl _) (Nat.le_refl _) (fun K R hK hR => ?_)
    simp only [↓rx_ireturn, ↓rx_nil, rz_set, rz_nol, rz_clr, List.set_cons_zero, List.set_cons_succ, rz_tr, Nat.reduceAdd, Int.reduceAdd, Int.reduceToNat, Int.reduceSub, Int.reduceNeg, Int.cast_ofNat_Int]
    exact hR _ _ rz_nb_0 hfin

