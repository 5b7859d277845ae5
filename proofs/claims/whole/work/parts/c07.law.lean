/-! the law: its loop -/
set_option maxRecDepth 100000 in
theorem d_tab : decode code 40 = .ok (.tableswitch 987 0 13 #[72, 120, 238, 310, 370, 426, 518, 581, 656, 719, 775, 843, 906, 931], 72) := by decide +kernel
theorem lw_gt {L j : Nat} (hL : L ≤ 3584) (hj : 7 * j ≤ L) (h : ¬ Int32.ofNat L - (Int8.ofInt 7).toInt32 < nI (7 * j)) : 7 * j + 7 ≤ L := by
  refine Classical.byContradiction fun c => h ?_
  rw [show (Int8.ofInt 7).toInt32 = nI 7 from by decide, show Int32.ofNat L = nI L from rfl, Int32.lt_iff_toInt_lt, pk_sub_toInt (by omega) (by decide), nI_toInt (by omega)]
  omega
set_option maxRecDepth 100000 in
set_option maxHeartbeats 4000000 in
theorem law_body {w : rz_w} {b L n j : Nat} {xs : Nat → Int32} {z5 z6 : Option Value} {V : dk_V} {I : Nat → Int32} {A : Nat → Nat → Int32} {g : Nat → Int64} {G : rz_G} (hL : L ≤ 3584) (hj0 : 7 * j ≤ L) (h : lw_i n V I A g G) (ih : 7 * j + 7 ≤ L → ∀ (G' : rz_G) (V' : dk_V) (I' : Nat → Int32) (A' : Nat → Nat → Int32) (g' : Nat → Int64) (z5 z6 : Option Value), lw_i n V' I' A' g' G' → rl_T w 11 601024 7293033 m_Law (2068 + (j + 1)) (1143035 + 6 * (j + 1)) 23 (lw_L b n (j + 1) z5 z6) [] G' (true, n, (b, L, xs), fun r _ => r = some (.int 1))) : rl_T w 11 601024 7293033 m_Law (2068 + j) (1143035 + 6 * j) 23 (lw_L b n j z5 z6) [] G (true, n, (b, L, xs), fun r _ => r = some (.int 1)) := by
  refine rl_iload (pc := 23) (j := 4) (by decide +kernel) rfl ?_
  refine rl_aload_n (pc := 25) (j := 0) (by decide +kernel) rfl ?_
  refine rl_slen (pc := 26) rfl (by decide +kernel) ?_
  refine rl_bipush (pc := 27) (n := 7) (by decide +kernel) ?_
  refine rl_isub (pc := 29) (by decide +kernel) ?_
  refine rl_icmp_gt (pc := 30) (off := 1003) (t := 1033) (by decide +kernel) (by decide) (fun c => ?_) (fun c => ?_)
  · refine rl_of ?_
    refine rz_iconst (pc := 1033) (n := 1) (by decide +kernel) ?_
    exact rz_ireturn (pc := 1034) (by decide +kernel) rfl rfl (by omega) (by omega) rfl
  have hj := lw_gt hL hj0 c
  have hc : ∀ (G' : rz_G) (V' : dk_V) (I' : Nat → Int32) (A' : Nat → Nat → Int32) (g' : Nat → Int64) (z5 z6 : Option Value), lw_i n V' I' A' g' G' → rl_T w 11 601024 7293033 m_Law (2068 + j + 1) (1143035 + 6 * j + 6) 1027 (lw_L b n j z5 z6) [] G' (true, n, (b, L, xs), fun r _ => r = some (.int 1)) := by
    intro G' V' I' A' g' z5 z6 hi
    refine rl_iinc (pc := 1027) (j := 4) (n := 7) (by decide +kernel) (by decide) rfl ?_
    rw [show nI (7 * j) + Int32.ofInt 7 = nI (7 * (j + 1)) from by rw [show Int32.ofInt 7 = nI 7 from by decide, nI_add]; congr 1]
    refine rl_goto (pc := 1030) (off := -1007) (t := 23) (by decide +kernel) (by decide) ?_
    exact ih hj _ _ _ _ _ _ _ hi
  refine rl_aload_n (pc := 33) (j := 0) (by decide +kernel) rfl ?_
  refine rl_iload (pc := 34) (j := 4) (by decide +kernel) rfl ?_
  refine rl_sld (b := b) (L := L) (xs := xs) (pc := 36) rfl (by decide +kernel) (vp_in_nI (by omega) (by omega)) ?_
  refine rl_bipush (pc := 37) (n := 15) (by decide +kernel) ?_
  refine rl_iand (pc := 39) (by decide +kernel) ?_
  rw [pk_and _ 4 (by decide)]
  have hm : (xs (nI (7 * j)).toNatClampNeg).toBitVec.toNat % 2 ^ 4 < 16 := Nat.mod_lt _ (by decide)
  generalize (xs (nI (7 * j)).toNatClampNeg).toBitVec.toNat % 2 ^ 4 = k at hm
  have hk : k = 0 ∨ k = 1 ∨ k = 2 ∨ k = 3 ∨ k = 4 ∨ k = 5 ∨ k = 6 ∨ k = 7 ∨ k = 8 ∨ k = 9 ∨ k = 10 ∨ k = 11 ∨ k = 12 ∨ k = 13 ∨ k = 14 ∨ k = 15 := by omega
  rcases hk with rfl | rfl | rfl | rfl | rfl | rfl | rfl | rfl | rfl | rfl | rfl | rfl | rfl | rfl | rfl | rfl
  · exact rl_tin (pc := 40) (off := 72) (tgt := 112) d_tab (by decide) (by decide) (by decide) (by decide) (law_machine hL hj (by omega) (by omega) h hc)
  · exact rl_tin (pc := 40) (off := 120) (tgt := 160) d_tab (by decide) (by decide) (by decide) (by decide) (law_edge hL hj (by omega) (by omega) h hc)
  · exact rl_tin (pc := 40) (off := 238) (tgt := 278) d_tab (by decide) (by decide) (by decide) (by decide) (law_last hL hj (by omega) (by omega) h hc)
  · exact rl_tin (pc := 40) (off := 310) (tgt := 350) d_tab (by decide) (by decide) (by decide) (by decide) (law_first hL hj (by omega) (by omega) h hc)
  · exact rl_tin (pc := 40) (off := 370) (tgt := 410) d_tab (by decide) (by decide) (by decide) (by decide) (law_useful hL hj (by omega) (by omega) h hc)
  · exact rl_tin (pc := 40) (off := 426) (tgt := 466) d_tab (by decide) (by decide) (by decide) (by decide) (law_read hL hj (by omega) (by omega) h hc)
  · exact rl_tin (pc := 40) (off := 518) (tgt := 558) d_tab (by decide) (by decide) (by decide) (by decide) (law_isFunction hL hj (by omega) (by omega) h hc)
  · exact rl_tin (pc := 40) (off := 581) (tgt := 621) d_tab (by decide) (by decide) (by decide) (by decide) (law_isSame hL hj (by omega) (by omega) h hc)
  · exact rl_tin (pc := 40) (off := 656) (tgt := 696) d_tab (by decide) (by decide) (by decide) (by decide) (law_isSteady hL hj (by omega) (by omega) h hc)
  · exact rl_tin (pc := 40) (off := 719) (tgt := 759) d_tab (by decide) (by decide) (by decide) (by decide) (law_smallest hL hj (by omega) (by omega) h hc)
  · exact rl_tin (pc := 40) (off := 775) (tgt := 815) d_tab (by decide) (by decide) (by decide) (by decide) (law_next hL hj (by omega) (by omega) h hc)
  · exact rl_tin (pc := 40) (off := 843) (tgt := 883) d_tab (by decide) (by decide) (by decide) (by decide) (law_ends hL hj (by omega) (by omega) h hc)
  · exact rl_tin (pc := 40) (off := 906) (tgt := 946) d_tab (by decide) (by decide) (by decide) (by decide) (law_count hL hj (by omega) (by omega) h hc)
  · exact rl_tin (pc := 40) (off := 931) (tgt := 971) d_tab (by decide) (by decide) (by decide) (by decide) (law_sign hL hj (by omega) (by omega) h hc)
  · exact rl_tout (pc := 40) (tgt := 1027) d_tab (Or.inr (by decide)) (by decide) (rl_widen (by omega) (by omega) (hc _ _ _ _ _ _ _ h))
  · exact rl_tout (pc := 40) (tgt := 1027) d_tab (Or.inr (by decide)) (by decide) (rl_widen (by omega) (by omega) (hc _ _ _ _ _ _ _ h))
theorem law_loop {w : rz_w} {b L n : Nat} {xs : Nat → Int32} (hL : L ≤ 3584) : ∀ (m j : Nat) (z5 z6 : Option Value) (V : dk_V) (I : Nat → Int32) (A : Nat → Nat → Int32) (g : Nat → Int64) (G : rz_G), 512 ≤ j + m → 7 * j ≤ L → lw_i n V I A g G → rl_T w 11 601024 7293033 m_Law (2068 + j) (1143035 + 6 * j) 23 (lw_L b n j z5 z6) [] G (true, n, (b, L, xs), fun r _ => r = some (.int 1))
  | 0, j, z5, z6, V, I, A, g, G, hm, hj, h => law_body hL hj h (fun q => by omega)
  | m + 1, j, z5, z6, V, I, A, g, G, hm, hj, h => law_body hL hj h (fun q G' V' I' A' g' z5 z6 h' => law_loop hL m (j + 1) z5 z6 V' I' A' g' G' (by omega) (by omega) h')
