/-! the law: its cases -/
theorem xw_8 {rb wb : Bool} {u1 u2 : List Nat} (h1 : ∀ t ∈ u1, t < 3) (h2 : ∀ t ∈ u2, t < 3) : ∀ x ∈ xw_s rb u1 wb u2, x < 8 := by
  intro x hx
  unfold xw_s at hx
  split at hx
  · split at hx
    · have := h2 x hx; omega
    · have := h1 x hx; omega
  · split at hx
    · have := h2 x hx; omega
    · cases hx
set_option maxRecDepth 100000 in
set_option maxHeartbeats 4000000 in
theorem law_machine {w : rz_w} {b L n j kc kn : Nat} {xs : Nat → Int32} {Q : Option Value → rz_G → Prop} {z5 z6 : Option Value} {V : dk_V} {I : Nat → Int32} {A : Nat → Nat → Int32} {g : Nat → Int64} {G : rz_G} (hL : L ≤ 3584) (hj : 7 * j + 7 ≤ L) (hkc : kc + 1 ≤ 601024) (hkn : kn + 6 ≤ 7293033) (h : lw_i n V I A g G) (hc : ∀ (G' : rz_G) (V' : dk_V) (I' : Nat → Int32) (A' : Nat → Nat → Int32) (g' : Nat → Int64) (z5 z6 : Option Value), lw_i n V' I' A' g' G' → rl_T w 11 601024 7293033 m_Law (kc + 1) (kn + 6) 1027 (lw_L b n j z5 z6) [] G' (true, n, (b, L, xs), Q)) : rl_T w 11 601024 7293033 m_Law kc kn 112 (lw_L b n j z5 z6) [] G (true, n, (b, L, xs), Q) := by
  have hw := lw_wf h
  have hbV := h.2.2.2.1
  refine rl_aload_n (pc := 112) (j := 1) (by decide +kernel) rfl ?_
  refine lw_ld (pc := 113) (kk := 1) (k := 1) (by decide) rfl hj hL (by decide) (by decide +kernel) ?_
  refine lw_ld (pc := 119) (kk := 2) (k := 2) (by decide) rfl hj hL (by decide) (by decide +kernel) ?_
  refine rl_cW (pc := 125) (As := [.ref n, .int (xs (7 * j + 1)), .int (xs (7 * j + 2))]) (S := []) l_Law_machine (by decide +kernel) rfl (Nat.le_of_ble_eq_true rfl) rfl hkc hkn (c_Law_machine (w := w) (d := 0) h.1 (xs (7 * j + 1)) (xs (7 * j + 2))) (fun r G1 hr => ?_)
  obtain ⟨k, V1, rfl, hd1, hre1, hgo1, hk1⟩ := lw_wv h hr
  simp only [Option.toList, List.cons_append, List.nil_append]
  refine rl_istore (pc := 128) (j := 5) (by decide +kernel) (by decide) ?_
  change rl_T w 11 601024 7293033 m_Law (kc + 1) (kn + 6) 130 (lw_L b n j (some (.int k)) z6) [] G1 (true, n, (b, L, xs), Q)
  refine rl_aload_n (pc := 130) (j := 2) (by decide +kernel) rfl ?_
  refine lw_ld (pc := 131) (kk := 1) (k := 1) (by decide) rfl hj hL (by decide) (by decide +kernel) ?_
  refine lw_ld (pc := 137) (kk := 2) (k := 2) (by decide) rfl hj hL (by decide) (by decide +kernel) ?_
  have hcon := cr_Mod_machine (w := w) (d := 7) (G := G1) (a := n + 2002) h.2.2.1 (xs (7 * j + 1)) (xs (7 * j + 2))
  rw [re_id hre1] at hcon
  refine rl_cV (pc := 143) (As := [.int (xs (7 * j + 1)), .int (xs (7 * j + 2))]) (b := n + 2002) (S := []) l_Law_74 (by decide +kernel) rfl (hre1 0 (by decide)) rfl (Nat.le_of_ble_eq_true rfl) rfl (by omega) (by omega) hcon (fun r G2 hr2 => ?_)
  obtain ⟨I2, A2, rfl, hI2, hi2⟩ := lw_mv mw_machine (fun r V2 hf => by obtain ⟨-, _, _, _, _, _, _, _, rfl⟩ := hf; exact vb_um hbV) (fun V2 hf => ⟨rfl, hf⟩) hbV hd1 hgo1 hk1 (rv_machine hr2)
  simp only [Option.toList, List.nil_append]
  refine lw_thr (pc := 146) (by decide +kernel) hi2 hI2 rfl (by omega) (by omega) ?_
  refine rl_goto (pc := 157) (off := 870) (t := 1027) (by decide +kernel) (by decide) ?_
  exact hc _ _ _ _ _ _ _ hi2
set_option maxRecDepth 100000 in
set_option maxHeartbeats 4000000 in
theorem law_edge {w : rz_w} {b L n j kc kn : Nat} {xs : Nat → Int32} {Q : Option Value → rz_G → Prop} {z5 z6 : Option Value} {V : dk_V} {I : Nat → Int32} {A : Nat → Nat → Int32} {g : Nat → Int64} {G : rz_G} (hL : L ≤ 3584) (hj : 7 * j + 7 ≤ L) (hkc : kc + 1 ≤ 601024) (hkn : kn + 6 ≤ 7293033) (h : lw_i n V I A g G) (hc : ∀ (G' : rz_G) (V' : dk_V) (I' : Nat → Int32) (A' : Nat → Nat → Int32) (g' : Nat → Int64) (z5 z6 : Option Value), lw_i n V' I' A' g' G' → rl_T w 11 601024 7293033 m_Law (kc + 1) (kn + 6) 1027 (lw_L b n j z5 z6) [] G' (true, n, (b, L, xs), Q)) : rl_T w 11 601024 7293033 m_Law kc kn 160 (lw_L b n j z5 z6) [] G (true, n, (b, L, xs), Q) := by
  have hw := lw_wf h
  have hbV := h.2.2.2.1
  refine rl_aload_n (pc := 160) (j := 1) (by decide +kernel) rfl ?_
  refine lw_ld (pc := 161) (kk := 1) (k := 1) (by decide) rfl hj hL (by decide) (by decide +kernel) ?_
  refine lw_ld (pc := 167) (kk := 2) (k := 2) (by decide) rfl hj hL (by decide) (by decide +kernel) ?_
  refine lw_ld (pc := 173) (kk := 3) (k := 3) (by decide) rfl hj hL (by decide) (by decide +kernel) ?_
  refine lw_ld (pc := 179) (kk := 4) (k := 4) (by decide) rfl hj hL (by decide) (by decide +kernel) ?_
  refine lw_ld (pc := 185) (kk := 5) (k := 5) (by decide) rfl hj hL (by decide) (by decide +kernel) ?_
  refine lw_l6 (pc := 191) rfl hj hL (by decide +kernel) ?_
  refine rl_aload_n (pc := 198) (j := 3) (by decide +kernel) rfl ?_
  refine rl_cW (pc := 199) (As := [.ref n, .int (xs (7 * j + 1)), .int (xs (7 * j + 2)), .int (xs (7 * j + 3)), .int (xs (7 * j + 4)), .int (xs (7 * j + 5)), .int (xs (7 * j + 6)), .ref (n + 2067)]) (S := []) l_Law_edge (by decide +kernel) rfl (Nat.le_of_ble_eq_true rfl) rfl hkc hkn (c_Law_edge (w := w) (d := 0) h.1 (o := n + 2067) (Or.inr (by omega)) h.2.2.2.2 (xs (7 * j + 1)) (xs (7 * j + 2)) (xs (7 * j + 3)) (xs (7 * j + 4)) (xs (7 * j + 5)) (xs (7 * j + 6))) (fun r G1 hr => ?_)
  obtain ⟨k, V1, g1, rfl, hd1, hre1, hgo1, hk1⟩ := lw_wo h hr
  simp only [Option.toList, List.cons_append, List.nil_append]
  refine rl_istore (pc := 202) (j := 5) (by decide +kernel) (by decide) ?_
  change rl_T w 11 601024 7293033 m_Law (kc + 1) (kn + 6) 204 (lw_L b n j (some (.int k)) z6) [] G1 (true, n, (b, L, xs), Q)
  refine rl_aload_n (pc := 204) (j := 2) (by decide +kernel) rfl ?_
  refine lw_ld (pc := 205) (kk := 1) (k := 1) (by decide) rfl hj hL (by decide) (by decide +kernel) ?_
  refine lw_ld (pc := 211) (kk := 2) (k := 2) (by decide) rfl hj hL (by decide) (by decide +kernel) ?_
  refine lw_ld (pc := 217) (kk := 3) (k := 3) (by decide) rfl hj hL (by decide) (by decide +kernel) ?_
  refine lw_ld (pc := 223) (kk := 4) (k := 4) (by decide) rfl hj hL (by decide) (by decide +kernel) ?_
  refine lw_ld (pc := 229) (kk := 5) (k := 5) (by decide) rfl hj hL (by decide) (by decide +kernel) ?_
  refine lw_l6 (pc := 235) rfl hj hL (by decide +kernel) ?_
  have hcon := cr_Mod_edge (w := w) (d := 7) (G := G1) (a := n + 2002) h.2.2.1 (xs (7 * j + 1)) (xs (7 * j + 2)) (xs (7 * j + 3)) (xs (7 * j + 4)) (xs (7 * j + 5)) (xs (7 * j + 6))
  rw [re_id hre1] at hcon
  refine rl_cV (pc := 242) (As := [.int (xs (7 * j + 1)), .int (xs (7 * j + 2)), .int (xs (7 * j + 3)), .int (xs (7 * j + 4)), .int (xs (7 * j + 5)), .int (xs (7 * j + 6))]) (b := n + 2002) (S := []) l_Law_82 (by decide +kernel) rfl (hre1 0 (by decide)) rfl (Nat.le_of_ble_eq_true rfl) rfl (by omega) (by omega) hcon (fun r G2 hr2 => ?_)
  obtain ⟨b2, I2, A2, rfl, hI2, hi2, hg2⟩ := lw_mo (mw_edge hw) (fun r V2 hf => by obtain ⟨_, _, _, _, _, _, _, _, _, _, _, _, _, _, _, _, _, rfl⟩ := hf; exact vb_um hbV) hbV hd1 hgo1 hk1 hr2
  simp only [Option.toList, List.cons_append, List.nil_append]
  refine rl_istore (pc := 245) (j := 6) (by decide +kernel) (by decide) ?_
  change rl_T w 11 601024 7293033 m_Law (kc + 1) (kn + 6) 247 (lw_L b n j (some (.int k)) (some (.int b2))) [] G2 (true, n, (b, L, xs), Q)
  refine lw_thr (pc := 247) (by decide +kernel) hi2 hI2 rfl (by omega) (by omega) ?_
  refine lw_int (pc := 258) (by decide +kernel) hi2 hg2 ?_
  refine rl_goto (pc := 275) (off := 752) (t := 1027) (by decide +kernel) (by decide) ?_
  exact hc _ _ _ _ _ _ _ hi2
set_option maxRecDepth 100000 in
set_option maxHeartbeats 4000000 in
theorem law_last {w : rz_w} {b L n j kc kn : Nat} {xs : Nat → Int32} {Q : Option Value → rz_G → Prop} {z5 z6 : Option Value} {V : dk_V} {I : Nat → Int32} {A : Nat → Nat → Int32} {g : Nat → Int64} {G : rz_G} (hL : L ≤ 3584) (hj : 7 * j + 7 ≤ L) (hkc : kc + 1 ≤ 601024) (hkn : kn + 6 ≤ 7293033) (h : lw_i n V I A g G) (hc : ∀ (G' : rz_G) (V' : dk_V) (I' : Nat → Int32) (A' : Nat → Nat → Int32) (g' : Nat → Int64) (z5 z6 : Option Value), lw_i n V' I' A' g' G' → rl_T w 11 601024 7293033 m_Law (kc + 1) (kn + 6) 1027 (lw_L b n j z5 z6) [] G' (true, n, (b, L, xs), Q)) : rl_T w 11 601024 7293033 m_Law kc kn 278 (lw_L b n j z5 z6) [] G (true, n, (b, L, xs), Q) := by
  have hw := lw_wf h
  have hbV := h.2.2.2.1
  refine rl_aload_n (pc := 278) (j := 1) (by decide +kernel) rfl ?_
  refine lw_ld (pc := 279) (kk := 1) (k := 1) (by decide) rfl hj hL (by decide) (by decide +kernel) ?_
  refine lw_ld (pc := 285) (kk := 2) (k := 2) (by decide) rfl hj hL (by decide) (by decide +kernel) ?_
  refine lw_ld (pc := 291) (kk := 3) (k := 3) (by decide) rfl hj hL (by decide) (by decide +kernel) ?_
  refine lw_ld (pc := 297) (kk := 4) (k := 4) (by decide) rfl hj hL (by decide) (by decide +kernel) ?_
  refine rl_cW (pc := 303) (As := [.ref n, .int (xs (7 * j + 1)), .int (xs (7 * j + 2)), .int (xs (7 * j + 3)), .int (xs (7 * j + 4))]) (S := []) l_Law_last (by decide +kernel) rfl (Nat.le_of_ble_eq_true rfl) rfl hkc hkn (c_Law_last (w := w) (d := 0) h.1 (xs (7 * j + 1)) (xs (7 * j + 2)) (xs (7 * j + 3)) (xs (7 * j + 4))) (fun r G1 hr => ?_)
  obtain ⟨k, V1, rfl, hd1, hre1, hgo1, hk1⟩ := lw_wv h hr
  simp only [Option.toList, List.cons_append, List.nil_append]
  refine rl_istore (pc := 306) (j := 5) (by decide +kernel) (by decide) ?_
  change rl_T w 11 601024 7293033 m_Law (kc + 1) (kn + 6) 308 (lw_L b n j (some (.int k)) z6) [] G1 (true, n, (b, L, xs), Q)
  refine rl_aload_n (pc := 308) (j := 2) (by decide +kernel) rfl ?_
  refine lw_ld (pc := 309) (kk := 1) (k := 1) (by decide) rfl hj hL (by decide) (by decide +kernel) ?_
  refine lw_ld (pc := 315) (kk := 2) (k := 2) (by decide) rfl hj hL (by decide) (by decide +kernel) ?_
  refine lw_ld (pc := 321) (kk := 3) (k := 3) (by decide) rfl hj hL (by decide) (by decide +kernel) ?_
  refine lw_ld (pc := 327) (kk := 4) (k := 4) (by decide) rfl hj hL (by decide) (by decide +kernel) ?_
  have hcon := cr_Mod_last (w := w) (d := 7) (G := G1) (a := n + 2002) h.2.2.1 (xs (7 * j + 1)) (xs (7 * j + 2)) (xs (7 * j + 3)) (xs (7 * j + 4))
  rw [re_id hre1] at hcon
  refine rl_cV (pc := 333) (As := [.int (xs (7 * j + 1)), .int (xs (7 * j + 2)), .int (xs (7 * j + 3)), .int (xs (7 * j + 4))]) (b := n + 2002) (S := []) l_Law_86 (by decide +kernel) rfl (hre1 0 (by decide)) rfl (Nat.le_of_ble_eq_true rfl) rfl (by omega) (by omega) hcon (fun r G2 hr2 => ?_)
  obtain ⟨I2, A2, rfl, hI2, hi2⟩ := lw_mv (mw_last hw) (fun r V2 hf => by obtain ⟨-, _, _, _, _, _, _, hf⟩ := hf; rcases hf with ⟨_, rfl⟩ | ⟨_, _, _, rfl⟩ <;> exact vb_um hbV) (fun V2 hf => ⟨rfl, hf⟩) hbV hd1 hgo1 hk1 hr2
  simp only [Option.toList, List.nil_append]
  refine lw_thr (pc := 336) (by decide +kernel) hi2 hI2 rfl (by omega) (by omega) ?_
  refine rl_goto (pc := 347) (off := 680) (t := 1027) (by decide +kernel) (by decide) ?_
  exact hc _ _ _ _ _ _ _ hi2
set_option maxRecDepth 100000 in
set_option maxHeartbeats 4000000 in
theorem law_first {w : rz_w} {b L n j kc kn : Nat} {xs : Nat → Int32} {Q : Option Value → rz_G → Prop} {z5 z6 : Option Value} {V : dk_V} {I : Nat → Int32} {A : Nat → Nat → Int32} {g : Nat → Int64} {G : rz_G} (hL : L ≤ 3584) (hj : 7 * j + 7 ≤ L) (hkc : kc + 1 ≤ 601024) (hkn : kn + 6 ≤ 7293033) (h : lw_i n V I A g G) (hc : ∀ (G' : rz_G) (V' : dk_V) (I' : Nat → Int32) (A' : Nat → Nat → Int32) (g' : Nat → Int64) (z5 z6 : Option Value), lw_i n V' I' A' g' G' → rl_T w 11 601024 7293033 m_Law (kc + 1) (kn + 6) 1027 (lw_L b n j z5 z6) [] G' (true, n, (b, L, xs), Q)) : rl_T w 11 601024 7293033 m_Law kc kn 350 (lw_L b n j z5 z6) [] G (true, n, (b, L, xs), Q) := by
  have hw := lw_wf h
  have hbV := h.2.2.2.1
  refine rl_aload_n (pc := 350) (j := 1) (by decide +kernel) rfl ?_
  refine lw_ld (pc := 351) (kk := 1) (k := 1) (by decide) rfl hj hL (by decide) (by decide +kernel) ?_
  refine lw_ld (pc := 357) (kk := 2) (k := 2) (by decide) rfl hj hL (by decide) (by decide +kernel) ?_
  refine lw_ld (pc := 363) (kk := 3) (k := 3) (by decide) rfl hj hL (by decide) (by decide +kernel) ?_
  refine rl_cW (pc := 369) (As := [.ref n, .int (xs (7 * j + 1)), .int (xs (7 * j + 2)), .int (xs (7 * j + 3))]) (S := []) l_Law_first (by decide +kernel) rfl (Nat.le_of_ble_eq_true rfl) rfl hkc hkn (c_Law_first (w := w) (d := 0) h.1 (xs (7 * j + 1)) (xs (7 * j + 2)) (xs (7 * j + 3))) (fun r G1 hr => ?_)
  obtain ⟨k, V1, rfl, hd1, hre1, hgo1, hk1⟩ := lw_wv h hr
  simp only [Option.toList, List.cons_append, List.nil_append]
  refine rl_istore (pc := 372) (j := 5) (by decide +kernel) (by decide) ?_
  change rl_T w 11 601024 7293033 m_Law (kc + 1) (kn + 6) 374 (lw_L b n j (some (.int k)) z6) [] G1 (true, n, (b, L, xs), Q)
  refine rl_aload_n (pc := 374) (j := 2) (by decide +kernel) rfl ?_
  refine lw_ld (pc := 375) (kk := 1) (k := 1) (by decide) rfl hj hL (by decide) (by decide +kernel) ?_
  refine lw_ld (pc := 381) (kk := 2) (k := 2) (by decide) rfl hj hL (by decide) (by decide +kernel) ?_
  refine lw_ld (pc := 387) (kk := 3) (k := 3) (by decide) rfl hj hL (by decide) (by decide +kernel) ?_
  have hcon := cr_Mod_first (w := w) (d := 7) (G := G1) (a := n + 2002) h.2.2.1 (xs (7 * j + 1)) (xs (7 * j + 2)) (xs (7 * j + 3))
  rw [re_id hre1] at hcon
  refine rl_cV (pc := 393) (As := [.int (xs (7 * j + 1)), .int (xs (7 * j + 2)), .int (xs (7 * j + 3))]) (b := n + 2002) (S := []) l_Law_90 (by decide +kernel) rfl (hre1 0 (by decide)) rfl (Nat.le_of_ble_eq_true rfl) rfl (by omega) (by omega) hcon (fun r G2 hr2 => ?_)
  obtain ⟨I2, A2, rfl, hI2, hi2⟩ := lw_mv mw_first (fun r V2 hf => by obtain ⟨-, _, _, _, _, _, _, rfl⟩ := hf; exact vb_um hbV) (fun V2 hf => ⟨rfl, hf⟩) hbV hd1 hgo1 hk1 hr2
  simp only [Option.toList, List.nil_append]
  refine lw_thr (pc := 396) (by decide +kernel) hi2 hI2 rfl (by omega) (by omega) ?_
  refine rl_goto (pc := 407) (off := 620) (t := 1027) (by decide +kernel) (by decide) ?_
  exact hc _ _ _ _ _ _ _ hi2
set_option maxRecDepth 100000 in
set_option maxHeartbeats 4000000 in
theorem law_useful {w : rz_w} {b L n j kc kn : Nat} {xs : Nat → Int32} {Q : Option Value → rz_G → Prop} {z5 z6 : Option Value} {V : dk_V} {I : Nat → Int32} {A : Nat → Nat → Int32} {g : Nat → Int64} {G : rz_G} (hL : L ≤ 3584) (hj : 7 * j + 7 ≤ L) (hkc : kc + 1 ≤ 601024) (hkn : kn + 6 ≤ 7293033) (h : lw_i n V I A g G) (hc : ∀ (G' : rz_G) (V' : dk_V) (I' : Nat → Int32) (A' : Nat → Nat → Int32) (g' : Nat → Int64) (z5 z6 : Option Value), lw_i n V' I' A' g' G' → rl_T w 11 601024 7293033 m_Law (kc + 1) (kn + 6) 1027 (lw_L b n j z5 z6) [] G' (true, n, (b, L, xs), Q)) : rl_T w 11 601024 7293033 m_Law kc kn 410 (lw_L b n j z5 z6) [] G (true, n, (b, L, xs), Q) := by
  have hw := lw_wf h
  have hbV := h.2.2.2.1
  refine rl_aload_n (pc := 410) (j := 1) (by decide +kernel) rfl ?_
  refine lw_ld (pc := 411) (kk := 1) (k := 1) (by decide) rfl hj hL (by decide) (by decide +kernel) ?_
  refine rl_aload_n (pc := 417) (j := 3) (by decide +kernel) rfl ?_
  refine rl_cW (pc := 418) (As := [.ref n, .int (xs (7 * j + 1)), .ref (n + 2067)]) (S := []) l_Law_useful (by decide +kernel) rfl (Nat.le_of_ble_eq_true rfl) rfl hkc hkn (c_Law_useful (w := w) (d := 0) h.1 (o := n + 2067) (Or.inr (by omega)) h.2.2.2.2 (xs (7 * j + 1))) (fun r G1 hr => ?_)
  obtain ⟨k, V1, g1, rfl, hd1, hre1, hgo1, hk1⟩ := lw_wo h hr
  simp only [Option.toList, List.cons_append, List.nil_append]
  refine rl_istore (pc := 421) (j := 5) (by decide +kernel) (by decide) ?_
  change rl_T w 11 601024 7293033 m_Law (kc + 1) (kn + 6) 423 (lw_L b n j (some (.int k)) z6) [] G1 (true, n, (b, L, xs), Q)
  refine rl_aload_n (pc := 423) (j := 2) (by decide +kernel) rfl ?_
  refine lw_ld (pc := 424) (kk := 1) (k := 1) (by decide) rfl hj hL (by decide) (by decide +kernel) ?_
  have hcon := cr_Mod_useful (w := w) (d := 7) (G := G1) (a := n + 2002) h.2.2.1 (xs (7 * j + 1))
  rw [re_id hre1] at hcon
  refine rl_cV (pc := 430) (As := [.int (xs (7 * j + 1))]) (b := n + 2002) (S := []) l_Law_94 (by decide +kernel) rfl (hre1 0 (by decide)) rfl (Nat.le_of_ble_eq_true rfl) rfl (by omega) (by omega) hcon (fun r G2 hr2 => ?_)
  obtain ⟨b2, I2, A2, rfl, hI2, hi2, hg2⟩ := lw_mo (mt_w mt_useful) (fun r V2 hf => by obtain ⟨rfl, _⟩ := hf; exact hbV) hbV hd1 hgo1 hk1 hr2
  simp only [Option.toList, List.cons_append, List.nil_append]
  refine rl_istore (pc := 433) (j := 6) (by decide +kernel) (by decide) ?_
  change rl_T w 11 601024 7293033 m_Law (kc + 1) (kn + 6) 435 (lw_L b n j (some (.int k)) (some (.int b2))) [] G2 (true, n, (b, L, xs), Q)
  refine lw_thr (pc := 435) (by decide +kernel) hi2 hI2 rfl (by omega) (by omega) ?_
  refine lw_int (pc := 446) (by decide +kernel) hi2 hg2 ?_
  refine rl_goto (pc := 463) (off := 564) (t := 1027) (by decide +kernel) (by decide) ?_
  exact hc _ _ _ _ _ _ _ hi2
set_option maxRecDepth 100000 in
set_option maxHeartbeats 4000000 in
theorem law_read {w : rz_w} {b L n j kc kn : Nat} {xs : Nat → Int32} {Q : Option Value → rz_G → Prop} {z5 z6 : Option Value} {V : dk_V} {I : Nat → Int32} {A : Nat → Nat → Int32} {g : Nat → Int64} {G : rz_G} (hL : L ≤ 3584) (hj : 7 * j + 7 ≤ L) (hkc : kc + 1 ≤ 601024) (hkn : kn + 6 ≤ 7293033) (h : lw_i n V I A g G) (hc : ∀ (G' : rz_G) (V' : dk_V) (I' : Nat → Int32) (A' : Nat → Nat → Int32) (g' : Nat → Int64) (z5 z6 : Option Value), lw_i n V' I' A' g' G' → rl_T w 11 601024 7293033 m_Law (kc + 1) (kn + 6) 1027 (lw_L b n j z5 z6) [] G' (true, n, (b, L, xs), Q)) : rl_T w 11 601024 7293033 m_Law kc kn 466 (lw_L b n j z5 z6) [] G (true, n, (b, L, xs), Q) := by
  have hw := lw_wf h
  have hbV := h.2.2.2.1
  refine rl_aload_n (pc := 466) (j := 1) (by decide +kernel) rfl ?_
  refine lw_ld (pc := 467) (kk := 1) (k := 1) (by decide) rfl hj hL (by decide) (by decide +kernel) ?_
  refine lw_ld (pc := 473) (kk := 2) (k := 2) (by decide) rfl hj hL (by decide) (by decide +kernel) ?_
  refine lw_ld (pc := 479) (kk := 3) (k := 3) (by decide) rfl hj hL (by decide) (by decide +kernel) ?_
  refine lw_ld (pc := 485) (kk := 4) (k := 4) (by decide) rfl hj hL (by decide) (by decide +kernel) ?_
  refine rl_aload_n (pc := 491) (j := 3) (by decide +kernel) rfl ?_
  refine rl_cW (pc := 492) (As := [.ref n, .int (xs (7 * j + 1)), .int (xs (7 * j + 2)), .int (xs (7 * j + 3)), .int (xs (7 * j + 4)), .ref (n + 2067)]) (S := []) l_Law_read (by decide +kernel) rfl (Nat.le_of_ble_eq_true rfl) rfl hkc hkn (c_Law_read (w := w) (d := 0) h.1 (o := n + 2067) (Or.inr (by omega)) h.2.2.2.2 (xs (7 * j + 1)) (xs (7 * j + 2)) (xs (7 * j + 3)) (xs (7 * j + 4))) (fun r G1 hr => ?_)
  obtain ⟨k, V1, g1, rfl, hd1, hre1, hgo1, hk1⟩ := lw_wo h hr
  simp only [Option.toList, List.cons_append, List.nil_append]
  refine rl_istore (pc := 495) (j := 5) (by decide +kernel) (by decide) ?_
  change rl_T w 11 601024 7293033 m_Law (kc + 1) (kn + 6) 497 (lw_L b n j (some (.int k)) z6) [] G1 (true, n, (b, L, xs), Q)
  refine rl_aload_n (pc := 497) (j := 2) (by decide +kernel) rfl ?_
  refine lw_ld (pc := 498) (kk := 1) (k := 1) (by decide) rfl hj hL (by decide) (by decide +kernel) ?_
  refine lw_ld (pc := 504) (kk := 2) (k := 2) (by decide) rfl hj hL (by decide) (by decide +kernel) ?_
  refine lw_ld (pc := 510) (kk := 3) (k := 3) (by decide) rfl hj hL (by decide) (by decide +kernel) ?_
  refine lw_ld (pc := 516) (kk := 4) (k := 4) (by decide) rfl hj hL (by decide) (by decide +kernel) ?_
  have hcon := cr_Mod_read (w := w) (d := 7) (G := G1) (a := n + 2002) h.2.2.1 (xs (7 * j + 1)) (xs (7 * j + 2)) (xs (7 * j + 3)) (xs (7 * j + 4))
  rw [re_id hre1] at hcon
  refine rl_cV (pc := 522) (As := [.int (xs (7 * j + 1)), .int (xs (7 * j + 2)), .int (xs (7 * j + 3)), .int (xs (7 * j + 4))]) (b := n + 2002) (S := []) l_Law_98 (by decide +kernel) rfl (hre1 0 (by decide)) rfl (Nat.le_of_ble_eq_true rfl) rfl (by omega) (by omega) hcon (fun r G2 hr2 => ?_)
  obtain ⟨b2, I2, A2, rfl, hI2, hi2, hg2⟩ := lw_mo (mt_w (mt_read hw)) (fun r V2 hf => by obtain ⟨k, n, W, hk, _, _, _, _, hW, _, rfl⟩ := hf; refine vb_ur hbV (fun x hx => ?_); rcases rd_out_m (ws := rr_f (tk (V.1 k)) W) (rr_f (tk (V.1 k)) W).length with e | ⟨v, hv, e⟩ <;> rw [e] at hx; (· cases hx); exact w8_r (tk_tw (hw k hk)) (w8_k (tk_tw (hw k hk)) n W hW) v hv x hx) hbV hd1 hgo1 hk1 hr2
  simp only [Option.toList, List.cons_append, List.nil_append]
  refine rl_istore (pc := 525) (j := 6) (by decide +kernel) (by decide) ?_
  change rl_T w 11 601024 7293033 m_Law (kc + 1) (kn + 6) 527 (lw_L b n j (some (.int k)) (some (.int b2))) [] G2 (true, n, (b, L, xs), Q)
  refine lw_thr (pc := 527) (by decide +kernel) hi2 hI2 rfl (by omega) (by omega) ?_
  refine lw_int (pc := 538) (by decide +kernel) hi2 hg2 ?_
  refine rl_goto (pc := 555) (off := 472) (t := 1027) (by decide +kernel) (by decide) ?_
  exact hc _ _ _ _ _ _ _ hi2
set_option maxRecDepth 100000 in
set_option maxHeartbeats 4000000 in
theorem law_isFunction {w : rz_w} {b L n j kc kn : Nat} {xs : Nat → Int32} {Q : Option Value → rz_G → Prop} {z5 z6 : Option Value} {V : dk_V} {I : Nat → Int32} {A : Nat → Nat → Int32} {g : Nat → Int64} {G : rz_G} (hL : L ≤ 3584) (hj : 7 * j + 7 ≤ L) (hkc : kc + 1 ≤ 601024) (hkn : kn + 6 ≤ 7293033) (h : lw_i n V I A g G) (hc : ∀ (G' : rz_G) (V' : dk_V) (I' : Nat → Int32) (A' : Nat → Nat → Int32) (g' : Nat → Int64) (z5 z6 : Option Value), lw_i n V' I' A' g' G' → rl_T w 11 601024 7293033 m_Law (kc + 1) (kn + 6) 1027 (lw_L b n j z5 z6) [] G' (true, n, (b, L, xs), Q)) : rl_T w 11 601024 7293033 m_Law kc kn 558 (lw_L b n j z5 z6) [] G (true, n, (b, L, xs), Q) := by
  have hw := lw_wf h
  have hbV := h.2.2.2.1
  refine rl_aload_n (pc := 558) (j := 1) (by decide +kernel) rfl ?_
  refine lw_ld (pc := 559) (kk := 1) (k := 1) (by decide) rfl hj hL (by decide) (by decide +kernel) ?_
  refine rl_aload_n (pc := 565) (j := 3) (by decide +kernel) rfl ?_
  refine rl_cW (pc := 566) (As := [.ref n, .int (xs (7 * j + 1)), .ref (n + 2067)]) (S := []) l_Law_isFunction (by decide +kernel) rfl (Nat.le_of_ble_eq_true rfl) rfl hkc hkn (c_Law_isFunction (w := w) (d := 0) h.1 (o := n + 2067) (Or.inr (by omega)) h.2.2.2.2 (xs (7 * j + 1))) (fun r G1 hr => ?_)
  obtain ⟨k, V1, g1, rfl, hd1, hre1, hgo1, hk1⟩ := lw_wo h hr
  simp only [Option.toList, List.cons_append, List.nil_append]
  refine rl_istore (pc := 569) (j := 5) (by decide +kernel) (by decide) ?_
  change rl_T w 11 601024 7293033 m_Law (kc + 1) (kn + 6) 571 (lw_L b n j (some (.int k)) z6) [] G1 (true, n, (b, L, xs), Q)
  refine rl_aload_n (pc := 571) (j := 2) (by decide +kernel) rfl ?_
  refine lw_ld (pc := 572) (kk := 1) (k := 1) (by decide) rfl hj hL (by decide) (by decide +kernel) ?_
  have hcon := cr_Mod_isFunction (w := w) (d := 4) (G := G1) (a := n + 2002) h.2.2.1 (xs (7 * j + 1))
  rw [re_id hre1] at hcon
  refine rl_cV (pc := 578) (As := [.int (xs (7 * j + 1))]) (b := n + 2002) (S := []) l_Law_101 (by decide +kernel) rfl (hre1 0 (by decide)) rfl (Nat.le_of_ble_eq_true rfl) rfl (by omega) (by omega) hcon (fun r G2 hr2 => ?_)
  obtain ⟨b2, I2, A2, rfl, hI2, hi2, hg2⟩ := lw_mo (mt_w (mt_isFunction hw)) (fun r V2 hf => by obtain ⟨_, b, u, _, _, _, hu, _, rfl⟩ := hf; refine vb_ur hbV (fun x hx => ?_); split at hx; (· have := hu x hx; omega); cases hx) hbV hd1 hgo1 hk1 hr2
  simp only [Option.toList, List.cons_append, List.nil_append]
  refine rl_istore (pc := 581) (j := 6) (by decide +kernel) (by decide) ?_
  change rl_T w 11 601024 7293033 m_Law (kc + 1) (kn + 6) 583 (lw_L b n j (some (.int k)) (some (.int b2))) [] G2 (true, n, (b, L, xs), Q)
  refine lw_thr (pc := 583) (by decide +kernel) hi2 hI2 rfl (by omega) (by omega) ?_
  refine lw_tru (pc := 594) (by decide +kernel) hi2 hg2 ?_
  refine rl_goto (pc := 618) (off := 409) (t := 1027) (by decide +kernel) (by decide) ?_
  exact hc _ _ _ _ _ _ _ hi2
set_option maxRecDepth 100000 in
set_option maxHeartbeats 4000000 in
theorem law_isSame {w : rz_w} {b L n j kc kn : Nat} {xs : Nat → Int32} {Q : Option Value → rz_G → Prop} {z5 z6 : Option Value} {V : dk_V} {I : Nat → Int32} {A : Nat → Nat → Int32} {g : Nat → Int64} {G : rz_G} (hL : L ≤ 3584) (hj : 7 * j + 7 ≤ L) (hkc : kc + 1 ≤ 601024) (hkn : kn + 6 ≤ 7293033) (h : lw_i n V I A g G) (hc : ∀ (G' : rz_G) (V' : dk_V) (I' : Nat → Int32) (A' : Nat → Nat → Int32) (g' : Nat → Int64) (z5 z6 : Option Value), lw_i n V' I' A' g' G' → rl_T w 11 601024 7293033 m_Law (kc + 1) (kn + 6) 1027 (lw_L b n j z5 z6) [] G' (true, n, (b, L, xs), Q)) : rl_T w 11 601024 7293033 m_Law kc kn 621 (lw_L b n j z5 z6) [] G (true, n, (b, L, xs), Q) := by
  have hw := lw_wf h
  have hbV := h.2.2.2.1
  refine rl_aload_n (pc := 621) (j := 1) (by decide +kernel) rfl ?_
  refine lw_ld (pc := 622) (kk := 1) (k := 1) (by decide) rfl hj hL (by decide) (by decide +kernel) ?_
  refine lw_ld (pc := 628) (kk := 2) (k := 2) (by decide) rfl hj hL (by decide) (by decide +kernel) ?_
  refine rl_aload_n (pc := 634) (j := 3) (by decide +kernel) rfl ?_
  refine rl_cW (pc := 635) (As := [.ref n, .int (xs (7 * j + 1)), .int (xs (7 * j + 2)), .ref (n + 2067)]) (S := []) l_Law_isSame (by decide +kernel) rfl (Nat.le_of_ble_eq_true rfl) rfl hkc hkn (c_Law_isSame (w := w) (d := 0) h.1 (o := n + 2067) (Or.inr (by omega)) h.2.2.2.2 (xs (7 * j + 1)) (xs (7 * j + 2))) (fun r G1 hr => ?_)
  obtain ⟨k, V1, g1, rfl, hd1, hre1, hgo1, hk1⟩ := lw_wo h hr
  simp only [Option.toList, List.cons_append, List.nil_append]
  refine rl_istore (pc := 638) (j := 5) (by decide +kernel) (by decide) ?_
  change rl_T w 11 601024 7293033 m_Law (kc + 1) (kn + 6) 640 (lw_L b n j (some (.int k)) z6) [] G1 (true, n, (b, L, xs), Q)
  refine rl_aload_n (pc := 640) (j := 2) (by decide +kernel) rfl ?_
  refine lw_ld (pc := 641) (kk := 1) (k := 1) (by decide) rfl hj hL (by decide) (by decide +kernel) ?_
  refine lw_ld (pc := 647) (kk := 2) (k := 2) (by decide) rfl hj hL (by decide) (by decide +kernel) ?_
  have hcon := cr_Mod_isSame (w := w) (d := 4) (G := G1) (a := n + 2002) h.2.2.1 (xs (7 * j + 1)) (xs (7 * j + 2))
  rw [re_id hre1] at hcon
  refine rl_cV (pc := 653) (As := [.int (xs (7 * j + 1)), .int (xs (7 * j + 2))]) (b := n + 2002) (S := []) l_Law_105 (by decide +kernel) rfl (hre1 0 (by decide)) rfl (Nat.le_of_ble_eq_true rfl) rfl (by omega) (by omega) hcon (fun r G2 hr2 => ?_)
  obtain ⟨b2, I2, A2, rfl, hI2, hi2, hg2⟩ := lw_mo (mt_w (mt_isSame hw)) (fun r V2 hf => by obtain ⟨_, _, rb, u1, wb, u2, _, _, _, _, _, _, _, _, h1, h2, _, rfl⟩ := hf; exact vb_ur hbV (xw_8 h1 h2)) hbV hd1 hgo1 hk1 hr2
  simp only [Option.toList, List.cons_append, List.nil_append]
  refine rl_istore (pc := 656) (j := 6) (by decide +kernel) (by decide) ?_
  change rl_T w 11 601024 7293033 m_Law (kc + 1) (kn + 6) 658 (lw_L b n j (some (.int k)) (some (.int b2))) [] G2 (true, n, (b, L, xs), Q)
  refine lw_thr (pc := 658) (by decide +kernel) hi2 hI2 rfl (by omega) (by omega) ?_
  refine lw_tru (pc := 669) (by decide +kernel) hi2 hg2 ?_
  refine rl_goto (pc := 693) (off := 334) (t := 1027) (by decide +kernel) (by decide) ?_
  exact hc _ _ _ _ _ _ _ hi2
set_option maxRecDepth 100000 in
set_option maxHeartbeats 4000000 in
theorem law_isSteady {w : rz_w} {b L n j kc kn : Nat} {xs : Nat → Int32} {Q : Option Value → rz_G → Prop} {z5 z6 : Option Value} {V : dk_V} {I : Nat → Int32} {A : Nat → Nat → Int32} {g : Nat → Int64} {G : rz_G} (hL : L ≤ 3584) (hj : 7 * j + 7 ≤ L) (hkc : kc + 1 ≤ 601024) (hkn : kn + 6 ≤ 7293033) (h : lw_i n V I A g G) (hc : ∀ (G' : rz_G) (V' : dk_V) (I' : Nat → Int32) (A' : Nat → Nat → Int32) (g' : Nat → Int64) (z5 z6 : Option Value), lw_i n V' I' A' g' G' → rl_T w 11 601024 7293033 m_Law (kc + 1) (kn + 6) 1027 (lw_L b n j z5 z6) [] G' (true, n, (b, L, xs), Q)) : rl_T w 11 601024 7293033 m_Law kc kn 696 (lw_L b n j z5 z6) [] G (true, n, (b, L, xs), Q) := by
  have hw := lw_wf h
  have hbV := h.2.2.2.1
  refine rl_aload_n (pc := 696) (j := 1) (by decide +kernel) rfl ?_
  refine lw_ld (pc := 697) (kk := 1) (k := 1) (by decide) rfl hj hL (by decide) (by decide +kernel) ?_
  refine rl_aload_n (pc := 703) (j := 3) (by decide +kernel) rfl ?_
  refine rl_cW (pc := 704) (As := [.ref n, .int (xs (7 * j + 1)), .ref (n + 2067)]) (S := []) l_Law_isSteady (by decide +kernel) rfl (Nat.le_of_ble_eq_true rfl) rfl hkc hkn (c_Law_isSteady (w := w) (d := 0) h.1 (o := n + 2067) (Or.inr (by omega)) h.2.2.2.2 (xs (7 * j + 1)) (fun k hk => rs_le (hw k hk))) (fun r G1 hr => ?_)
  obtain ⟨k, V1, g1, rfl, hd1, hre1, hgo1, hk1⟩ := lw_wo h hr
  simp only [Option.toList, List.cons_append, List.nil_append]
  refine rl_istore (pc := 707) (j := 5) (by decide +kernel) (by decide) ?_
  change rl_T w 11 601024 7293033 m_Law (kc + 1) (kn + 6) 709 (lw_L b n j (some (.int k)) z6) [] G1 (true, n, (b, L, xs), Q)
  refine rl_aload_n (pc := 709) (j := 2) (by decide +kernel) rfl ?_
  refine lw_ld (pc := 710) (kk := 1) (k := 1) (by decide) rfl hj hL (by decide) (by decide +kernel) ?_
  have hcon := cr_Mod_isSteady (w := w) (d := 4) (G := G1) (a := n + 2002) h.2.2.1 (xs (7 * j + 1))
  rw [re_id hre1] at hcon
  refine rl_cV (pc := 716) (As := [.int (xs (7 * j + 1))]) (b := n + 2002) (S := []) l_Law_108 (by decide +kernel) rfl (hre1 0 (by decide)) rfl (Nat.le_of_ble_eq_true rfl) rfl (by omega) (by omega) hcon (fun r G2 hr2 => ?_)
  obtain ⟨b2, I2, A2, rfl, hI2, hi2, hg2⟩ := lw_mo (mt_w (mt_isSteady hw)) (fun r V2 hf => by obtain ⟨rfl, _⟩ := hf; exact hbV) hbV hd1 hgo1 hk1 hr2
  simp only [Option.toList, List.cons_append, List.nil_append]
  refine rl_istore (pc := 719) (j := 6) (by decide +kernel) (by decide) ?_
  change rl_T w 11 601024 7293033 m_Law (kc + 1) (kn + 6) 721 (lw_L b n j (some (.int k)) (some (.int b2))) [] G2 (true, n, (b, L, xs), Q)
  refine lw_thr (pc := 721) (by decide +kernel) hi2 hI2 rfl (by omega) (by omega) ?_
  refine lw_tru (pc := 732) (by decide +kernel) hi2 hg2 ?_
  refine rl_goto (pc := 756) (off := 271) (t := 1027) (by decide +kernel) (by decide) ?_
  exact hc _ _ _ _ _ _ _ hi2
set_option maxRecDepth 100000 in
set_option maxHeartbeats 4000000 in
theorem law_smallest {w : rz_w} {b L n j kc kn : Nat} {xs : Nat → Int32} {Q : Option Value → rz_G → Prop} {z5 z6 : Option Value} {V : dk_V} {I : Nat → Int32} {A : Nat → Nat → Int32} {g : Nat → Int64} {G : rz_G} (hL : L ≤ 3584) (hj : 7 * j + 7 ≤ L) (hkc : kc + 1 ≤ 601024) (hkn : kn + 6 ≤ 7293033) (h : lw_i n V I A g G) (hc : ∀ (G' : rz_G) (V' : dk_V) (I' : Nat → Int32) (A' : Nat → Nat → Int32) (g' : Nat → Int64) (z5 z6 : Option Value), lw_i n V' I' A' g' G' → rl_T w 11 601024 7293033 m_Law (kc + 1) (kn + 6) 1027 (lw_L b n j z5 z6) [] G' (true, n, (b, L, xs), Q)) : rl_T w 11 601024 7293033 m_Law kc kn 759 (lw_L b n j z5 z6) [] G (true, n, (b, L, xs), Q) := by
  have hw := lw_wf h
  have hbV := h.2.2.2.1
  refine rl_aload_n (pc := 759) (j := 1) (by decide +kernel) rfl ?_
  refine lw_ld (pc := 760) (kk := 1) (k := 1) (by decide) rfl hj hL (by decide) (by decide +kernel) ?_
  refine rl_aload_n (pc := 766) (j := 3) (by decide +kernel) rfl ?_
  refine rl_cW (pc := 767) (As := [.ref n, .int (xs (7 * j + 1)), .ref (n + 2067)]) (S := []) l_Law_smallest (by decide +kernel) rfl (Nat.le_of_ble_eq_true rfl) rfl hkc hkn (c_Law_smallest (w := w) (d := 0) h.1 (o := n + 2067) (Or.inr (by omega)) h.2.2.2.2 (xs (7 * j + 1)) (fun k hk => rs_le (hw k hk)) (fun k hk h1 h2 h3 hd nr => bu_ok_all (hw k hk) ((df_none (hw k hk) (hw k hk)).mp h1) ((rs_vs (hw k hk)).1.mp h2) h3 hd nr)) (fun r G1 hr => ?_)
  obtain ⟨k, V1, g1, rfl, hd1, hre1, hgo1, hk1⟩ := lw_wo h hr
  simp only [Option.toList, List.cons_append, List.nil_append]
  refine rl_istore (pc := 770) (j := 5) (by decide +kernel) (by decide) ?_
  change rl_T w 11 601024 7293033 m_Law (kc + 1) (kn + 6) 772 (lw_L b n j (some (.int k)) z6) [] G1 (true, n, (b, L, xs), Q)
  refine rl_aload_n (pc := 772) (j := 2) (by decide +kernel) rfl ?_
  refine lw_ld (pc := 773) (kk := 1) (k := 1) (by decide) rfl hj hL (by decide) (by decide +kernel) ?_
  have hcon := cr_Mod_smallest (w := w) (d := 4) (G := G1) (a := n + 2002) h.2.2.1 (xs (7 * j + 1)) (fun k hk hf hs H hH n Ks gs hc => cls_129 (hw k hk) hf hs hH hc)
  rw [re_id hre1] at hcon
  refine rl_cV (pc := 779) (As := [.int (xs (7 * j + 1))]) (b := n + 2002) (S := []) l_Law_111 (by decide +kernel) rfl (hre1 0 (by decide)) rfl (Nat.le_of_ble_eq_true rfl) rfl (by omega) (by omega) hcon (fun r G2 hr2 => ?_)
  obtain ⟨b2, I2, A2, rfl, hI2, hi2, hg2⟩ := lw_mo (mt_smallest hw) (fun r V2 hf => by obtain ⟨k, H, Ks, gs, hk, _, _, _, hH, hcl, _, _, rfl⟩ := hf; exact vb_sm hbV (hw k hk) hH hcl) hbV hd1 hgo1 hk1 hr2
  simp only [Option.toList, List.cons_append, List.nil_append]
  refine rl_istore (pc := 782) (j := 6) (by decide +kernel) (by decide) ?_
  change rl_T w 11 601024 7293033 m_Law (kc + 1) (kn + 6) 784 (lw_L b n j (some (.int k)) (some (.int b2))) [] G2 (true, n, (b, L, xs), Q)
  refine lw_thr (pc := 784) (by decide +kernel) hi2 hI2 rfl (by omega) (by omega) ?_
  refine lw_int (pc := 795) (by decide +kernel) hi2 hg2 ?_
  refine rl_goto (pc := 812) (off := 215) (t := 1027) (by decide +kernel) (by decide) ?_
  exact hc _ _ _ _ _ _ _ hi2
set_option maxRecDepth 100000 in
set_option maxHeartbeats 4000000 in
theorem law_next {w : rz_w} {b L n j kc kn : Nat} {xs : Nat → Int32} {Q : Option Value → rz_G → Prop} {z5 z6 : Option Value} {V : dk_V} {I : Nat → Int32} {A : Nat → Nat → Int32} {g : Nat → Int64} {G : rz_G} (hL : L ≤ 3584) (hj : 7 * j + 7 ≤ L) (hkc : kc + 1 ≤ 601024) (hkn : kn + 6 ≤ 7293033) (h : lw_i n V I A g G) (hc : ∀ (G' : rz_G) (V' : dk_V) (I' : Nat → Int32) (A' : Nat → Nat → Int32) (g' : Nat → Int64) (z5 z6 : Option Value), lw_i n V' I' A' g' G' → rl_T w 11 601024 7293033 m_Law (kc + 1) (kn + 6) 1027 (lw_L b n j z5 z6) [] G' (true, n, (b, L, xs), Q)) : rl_T w 11 601024 7293033 m_Law kc kn 815 (lw_L b n j z5 z6) [] G (true, n, (b, L, xs), Q) := by
  have hw := lw_wf h
  have hbV := h.2.2.2.1
  refine rl_aload_n (pc := 815) (j := 1) (by decide +kernel) rfl ?_
  refine lw_ld (pc := 816) (kk := 1) (k := 1) (by decide) rfl hj hL (by decide) (by decide +kernel) ?_
  refine lw_ld (pc := 822) (kk := 2) (k := 2) (by decide) rfl hj hL (by decide) (by decide +kernel) ?_
  refine rl_aload_n (pc := 828) (j := 3) (by decide +kernel) rfl ?_
  refine rl_cW (pc := 829) (As := [.ref n, .int (xs (7 * j + 1)), .int (xs (7 * j + 2)), .ref (n + 2067)]) (S := []) l_Law_next (by decide +kernel) rfl (Nat.le_of_ble_eq_true rfl) rfl hkc hkn (c_Law_next (w := w) (d := 0) h.1 (o := n + 2067) (Or.inr (by omega)) h.2.2.2.2 (xs (7 * j + 1)) (xs (7 * j + 2))) (fun r G1 hr => ?_)
  obtain ⟨k, V1, g1, rfl, hd1, hre1, hgo1, hk1⟩ := lw_wo h hr
  simp only [Option.toList, List.cons_append, List.nil_append]
  refine rl_istore (pc := 832) (j := 5) (by decide +kernel) (by decide) ?_
  change rl_T w 11 601024 7293033 m_Law (kc + 1) (kn + 6) 834 (lw_L b n j (some (.int k)) z6) [] G1 (true, n, (b, L, xs), Q)
  refine rl_aload_n (pc := 834) (j := 2) (by decide +kernel) rfl ?_
  refine lw_ld (pc := 835) (kk := 1) (k := 1) (by decide) rfl hj hL (by decide) (by decide +kernel) ?_
  refine lw_ld (pc := 841) (kk := 2) (k := 2) (by decide) rfl hj hL (by decide) (by decide +kernel) ?_
  have hcon := cr_Mod_next (w := w) (d := 8) (G := G1) (a := n + 2002) h.2.2.1 (xs (7 * j + 1)) (xs (7 * j + 2))
  rw [re_id hre1] at hcon
  refine rl_cV (pc := 847) (As := [.int (xs (7 * j + 1)), .int (xs (7 * j + 2))]) (b := n + 2002) (S := []) l_Law_114 (by decide +kernel) rfl (hre1 0 (by decide)) rfl (Nat.le_of_ble_eq_true rfl) rfl (by omega) (by omega) hcon (fun r G2 hr2 => ?_)
  obtain ⟨b2, I2, A2, rfl, hI2, hi2, hg2⟩ := lw_mo (mw_next h.2.2.1.2.2.2.2.1) (fun r V2 hf => by obtain ⟨s, l, hs, hl, _, _, _, rfl⟩ := hf; exact vb_ur hbV (hbV.2.2.2 (s * 3 + l) (by omega))) hbV hd1 hgo1 hk1 hr2
  simp only [Option.toList, List.cons_append, List.nil_append]
  refine rl_istore (pc := 850) (j := 6) (by decide +kernel) (by decide) ?_
  change rl_T w 11 601024 7293033 m_Law (kc + 1) (kn + 6) 852 (lw_L b n j (some (.int k)) (some (.int b2))) [] G2 (true, n, (b, L, xs), Q)
  refine lw_thr (pc := 852) (by decide +kernel) hi2 hI2 rfl (by omega) (by omega) ?_
  refine lw_int (pc := 863) (by decide +kernel) hi2 hg2 ?_
  refine rl_goto (pc := 880) (off := 147) (t := 1027) (by decide +kernel) (by decide) ?_
  exact hc _ _ _ _ _ _ _ hi2
set_option maxRecDepth 100000 in
set_option maxHeartbeats 4000000 in
theorem law_ends {w : rz_w} {b L n j kc kn : Nat} {xs : Nat → Int32} {Q : Option Value → rz_G → Prop} {z5 z6 : Option Value} {V : dk_V} {I : Nat → Int32} {A : Nat → Nat → Int32} {g : Nat → Int64} {G : rz_G} (hL : L ≤ 3584) (hj : 7 * j + 7 ≤ L) (hkc : kc + 1 ≤ 601024) (hkn : kn + 6 ≤ 7293033) (h : lw_i n V I A g G) (hc : ∀ (G' : rz_G) (V' : dk_V) (I' : Nat → Int32) (A' : Nat → Nat → Int32) (g' : Nat → Int64) (z5 z6 : Option Value), lw_i n V' I' A' g' G' → rl_T w 11 601024 7293033 m_Law (kc + 1) (kn + 6) 1027 (lw_L b n j z5 z6) [] G' (true, n, (b, L, xs), Q)) : rl_T w 11 601024 7293033 m_Law kc kn 883 (lw_L b n j z5 z6) [] G (true, n, (b, L, xs), Q) := by
  have hw := lw_wf h
  have hbV := h.2.2.2.1
  refine rl_aload_n (pc := 883) (j := 1) (by decide +kernel) rfl ?_
  refine lw_ld (pc := 884) (kk := 1) (k := 1) (by decide) rfl hj hL (by decide) (by decide +kernel) ?_
  refine rl_aload_n (pc := 890) (j := 3) (by decide +kernel) rfl ?_
  refine rl_cW (pc := 891) (As := [.ref n, .int (xs (7 * j + 1)), .ref (n + 2067)]) (S := []) l_Law_ends (by decide +kernel) rfl (Nat.le_of_ble_eq_true rfl) rfl hkc hkn (c_Law_ends (w := w) (d := 0) h.1 (o := n + 2067) (Or.inr (by omega)) h.2.2.2.2 (xs (7 * j + 1))) (fun r G1 hr => ?_)
  obtain ⟨k, V1, g1, rfl, hd1, hre1, hgo1, hk1⟩ := lw_wo h hr
  simp only [Option.toList, List.cons_append, List.nil_append]
  refine rl_istore (pc := 894) (j := 5) (by decide +kernel) (by decide) ?_
  change rl_T w 11 601024 7293033 m_Law (kc + 1) (kn + 6) 896 (lw_L b n j (some (.int k)) z6) [] G1 (true, n, (b, L, xs), Q)
  refine rl_aload_n (pc := 896) (j := 2) (by decide +kernel) rfl ?_
  refine lw_ld (pc := 897) (kk := 1) (k := 1) (by decide) rfl hj hL (by decide) (by decide +kernel) ?_
  have hcon := cr_Mod_ends (w := w) (d := 8) (G := G1) (a := n + 2002) h.2.2.1 (xs (7 * j + 1))
  rw [re_id hre1] at hcon
  refine rl_cV (pc := 903) (As := [.int (xs (7 * j + 1))]) (b := n + 2002) (S := []) l_Law_117 (by decide +kernel) rfl (hre1 0 (by decide)) rfl (Nat.le_of_ble_eq_true rfl) rfl (by omega) (by omega) hcon (fun r G2 hr2 => ?_)
  obtain ⟨b2, I2, A2, rfl, hI2, hi2, hg2⟩ := lw_mo (mw_ends h.2.2.1.2.2.2.2.1) (fun r V2 hf => by obtain ⟨_, hf⟩ := hf; rcases hf with ⟨_, _, rfl⟩ | ⟨s, f, hs, _, _, rfl⟩; (· exact vb_ur hbV hbV.2.1); exact vb_ur hbV (hbV.2.2.1 f (List.mem_of_getElem? hs))) hbV hd1 hgo1 hk1 hr2
  simp only [Option.toList, List.cons_append, List.nil_append]
  refine rl_istore (pc := 906) (j := 6) (by decide +kernel) (by decide) ?_
  change rl_T w 11 601024 7293033 m_Law (kc + 1) (kn + 6) 908 (lw_L b n j (some (.int k)) (some (.int b2))) [] G2 (true, n, (b, L, xs), Q)
  refine lw_thr (pc := 908) (by decide +kernel) hi2 hI2 rfl (by omega) (by omega) ?_
  refine lw_tru (pc := 919) (by decide +kernel) hi2 hg2 ?_
  refine rl_goto (pc := 943) (off := 84) (t := 1027) (by decide +kernel) (by decide) ?_
  exact hc _ _ _ _ _ _ _ hi2
set_option maxRecDepth 100000 in
set_option maxHeartbeats 4000000 in
theorem law_sign {w : rz_w} {b L n j kc kn : Nat} {xs : Nat → Int32} {Q : Option Value → rz_G → Prop} {z5 z6 : Option Value} {V : dk_V} {I : Nat → Int32} {A : Nat → Nat → Int32} {g : Nat → Int64} {G : rz_G} (hL : L ≤ 3584) (hj : 7 * j + 7 ≤ L) (hkc : kc + 1 ≤ 601024) (hkn : kn + 6 ≤ 7293033) (h : lw_i n V I A g G) (hc : ∀ (G' : rz_G) (V' : dk_V) (I' : Nat → Int32) (A' : Nat → Nat → Int32) (g' : Nat → Int64) (z5 z6 : Option Value), lw_i n V' I' A' g' G' → rl_T w 11 601024 7293033 m_Law (kc + 1) (kn + 6) 1027 (lw_L b n j z5 z6) [] G' (true, n, (b, L, xs), Q)) : rl_T w 11 601024 7293033 m_Law kc kn 971 (lw_L b n j z5 z6) [] G (true, n, (b, L, xs), Q) := by
  have hw := lw_wf h
  have hbV := h.2.2.2.1
  refine rl_aload_n (pc := 971) (j := 1) (by decide +kernel) rfl ?_
  refine lw_ld (pc := 972) (kk := 1) (k := 1) (by decide) rfl hj hL (by decide) (by decide +kernel) ?_
  refine rl_aload_n (pc := 978) (j := 3) (by decide +kernel) rfl ?_
  refine rl_cW (pc := 979) (As := [.ref n, .int (xs (7 * j + 1)), .ref (n + 2067)]) (S := []) l_Law_sign (by decide +kernel) rfl (Nat.le_of_ble_eq_true rfl) rfl hkc hkn (c_Law_sign (w := w) (d := 0) h.1 (o := n + 2067) (Or.inr (by omega)) h.2.2.2.2 (xs (7 * j + 1)) h.2.2.2.1.1) (fun r G1 hr => ?_)
  obtain ⟨k, V1, g1, rfl, hd1, hre1, hgo1, hk1⟩ := lw_wo h hr
  simp only [Option.toList, List.cons_append, List.nil_append]
  refine rl_istore (pc := 982) (j := 5) (by decide +kernel) (by decide) ?_
  change rl_T w 11 601024 7293033 m_Law (kc + 1) (kn + 6) 984 (lw_L b n j (some (.int k)) z6) [] G1 (true, n, (b, L, xs), Q)
  refine rl_aload_n (pc := 984) (j := 2) (by decide +kernel) rfl ?_
  refine lw_ld (pc := 985) (kk := 1) (k := 1) (by decide) rfl hj hL (by decide) (by decide +kernel) ?_
  have hcon := cr_Mod_sign (w := w) (d := 8) (G := G1) (a := n + 2002) h.2.2.1 (xs (7 * j + 1))
  rw [re_id hre1] at hcon
  refine rl_cV (pc := 991) (As := [.int (xs (7 * j + 1))]) (b := n + 2002) (S := []) l_Law_124 (by decide +kernel) rfl (hre1 0 (by decide)) rfl (Nat.le_of_ble_eq_true rfl) rfl (by omega) (by omega) hcon (fun r G2 hr2 => ?_)
  obtain ⟨b2, I2, A2, rfl, hI2, hi2, hg2⟩ := lw_mo (mw_sign h.2.2.1.2.1.2.2) (fun r V2 hf => by obtain ⟨rfl, _⟩ := hf; exact hbV) hbV hd1 hgo1 hk1 hr2
  simp only [Option.toList, List.cons_append, List.nil_append]
  refine rl_istore (pc := 994) (j := 6) (by decide +kernel) (by decide) ?_
  change rl_T w 11 601024 7293033 m_Law (kc + 1) (kn + 6) 996 (lw_L b n j (some (.int k)) (some (.int b2))) [] G2 (true, n, (b, L, xs), Q)
  refine lw_thr (pc := 996) (by decide +kernel) hi2 hI2 rfl (by omega) (by omega) ?_
  refine lw_int (pc := 1007) (by decide +kernel) hi2 hg2 ?_
  refine rl_goto (pc := 1024) (off := 3) (t := 1027) (by decide +kernel) (by decide) ?_
  exact hc _ _ _ _ _ _ _ hi2
set_option maxRecDepth 100000 in
set_option maxHeartbeats 4000000 in
theorem law_count {w : rz_w} {b L n j kc kn : Nat} {xs : Nat → Int32} {Q : Option Value → rz_G → Prop} {z5 z6 : Option Value} {V : dk_V} {I : Nat → Int32} {A : Nat → Nat → Int32} {g : Nat → Int64} {G : rz_G} (hL : L ≤ 3584) (hj : 7 * j + 7 ≤ L) (hkc : kc + 1 ≤ 601024) (hkn : kn + 6 ≤ 7293033) (h : lw_i n V I A g G) (hc : ∀ (G' : rz_G) (V' : dk_V) (I' : Nat → Int32) (A' : Nat → Nat → Int32) (g' : Nat → Int64) (z5 z6 : Option Value), lw_i n V' I' A' g' G' → rl_T w 11 601024 7293033 m_Law (kc + 1) (kn + 6) 1027 (lw_L b n j z5 z6) [] G' (true, n, (b, L, xs), Q)) : rl_T w 11 601024 7293033 m_Law kc kn 946 (lw_L b n j z5 z6) [] G (true, n, (b, L, xs), Q) := by
  obtain ⟨hob, -⟩ := h.1 0 (by decide)
  refine rl_aload_n (pc := 946) (j := 1) (by decide +kernel) rfl ?_
  refine lw_ld (pc := 947) (kk := 1) (k := 1) (by decide) rfl hj hL (by decide) (by decide +kernel) ?_
  refine rl_cV (pc := 953) (As := [.int (xs (7 * j + 1))]) (b := n) (S := []) l_Law_118 (by decide +kernel) rfl hob rfl (Nat.le_of_ble_eq_true rfl) rfl (by omega) (by omega) (c_Desk_count (w := w) (d := 9) h.1 (xs (7 * j + 1))) (fun r G1 hr => ?_)
  obtain ⟨rfl, rfl⟩ := hr
  simp only [Option.toList, List.cons_append, List.nil_append]
  refine rl_aload_n (pc := 956) (j := 2) (by decide +kernel) rfl ?_
  refine lw_ld (pc := 957) (kk := 1) (k := 1) (by decide) rfl hj hL (by decide) (by decide +kernel) ?_
  have hcon := c_Mod_count (w := w) (d := 8) (G := G1) (a := n + 2002) h.2.2.1 (xs (7 * j + 1))
  rw [re_id h.2.1] at hcon
  refine rl_cV (pc := 963) (As := [.int (xs (7 * j + 1))]) (b := n + 2002) (S := [.int (dk_cn V (xs (7 * j + 1)))]) l_Law_121 (by decide +kernel) rfl (h.2.1 0 (by decide)) rfl (Nat.le_of_ble_eq_true rfl) rfl (by omega) (by omega) hcon (fun r G2 hr2 => ?_)
  obtain ⟨rfl, I2, rfl, hrf⟩ := hr2
  simp only [Option.toList, List.cons_append, List.nil_append]
  refine rl_icmp_eq (pc := 966) (off := 61) (t := 1027) (by decide +kernel) (by decide) (fun _ => ?_) (fun q => absurd rfl q)
  exact rl_widen (by omega) (by omega) (hc _ _ _ _ _ _ _ (lw_put h.1 h.2.2.2.2 hrf h.2.2.2.1))
