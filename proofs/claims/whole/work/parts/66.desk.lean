/-! WriterDesk: machineOf, machine, first, useful -/
theorem nI_in6 {x : Int32} {n : Nat} (hn : n < 2 ^ 31) (h0 : ¬ x < 0) (h1 : x < nI n) : ∃ k, k < n ∧ x = nI k := by
  obtain ⟨j, hj, rfl⟩ := nI_of h0
  exact ⟨j, (nI_ltI hj hn).mp h1, rfl⟩
theorem nI_no6 {x : Int32} {n : Nat} (hn : n < 2 ^ 31) (h : x < 0 ∨ ¬ x < nI n) : ∀ k, k < n → x ≠ nI k := by
  intro k hk e
  subst e
  rcases h with h | h
  · exact nI_pos (by omega) h
  · exact h ((nI_ltI (by omega) hn).mpr hk)
set_option maxRecDepth 100000 in
set_option maxHeartbeats 4000000 in
theorem c_Desk_machineOf {w : rz_w} {d : Nat} {G : rz_G} {z : Nat} {V : dk_V} (h : dk G z V) (x : Int32) : ru_C w (d + 8) 1 6 y_Desk_machineOf m_Desk_machineOf [.ref z, .int x] G ([], fun r G' => G' = G ∧ ∃ k, k < 6 ∧ x = nI k ∧ r = some (.ref (z + (1582 + 70 * k))), fun c G' => (c = 0 ∧ G' = G) ∧ ∀ k, k < 6 → x ≠ nI k) := by
  obtain ⟨hob, hma⟩ := h 0 (by decide)
  refine ru_enter [some (.ref z), some (.int x)] rfl (by decide +kernel) rfl rfl (Nat.le_of_ble_eq_true rfl) rfl ?_
  refine ru_blk' [(.iload_n 1, 1, 0, 0), (.ifCond .lt 9, 3, 0, 0), (.iload_n 1, 1, 0, 0), (.bipush 6, 2, 0, 0), (.if_icmp .lt 11, 3, 0, 0)] (by decide +kernel) (Nat.zero_le _) (Nat.zero_le _) (fun K R hK hR => ?_)
  simp only [rw_b6, ↓rx_bipush, ↓rx_ifCond_lt, ↓rx_if_icmp_lt, ↓rx_iload_n1, ↓rx_nil, ↓ry_i1, ↓ry_i2, ↓ry_li0s, ↓ry_li0z, rz_set, rz_nol, rz_clr, List.set_cons_zero, List.set_cons_succ, rz_tr, Nat.reduceAdd, Int.reduceAdd, Int.reduceToNat, Int.reduceSub, Int.reduceNeg, Int.cast_ofNat_Int]
  have hthrow : (x < 0 ∨ ¬ x < nI 6) → ru_T w (d + 8) 1 6 m_Desk_machineOf 0 0 10 [some (.ref z), some (.int x)] [] G ([], fun r G' => G' = G ∧ ∃ k, k < 6 ∧ x = nI k ∧ r = some (.ref (z + (1582 + 70 * k))), fun c G' => (c = 0 ∧ G' = G) ∧ ∀ k, k < 6 → x ≠ nI k) := fun q => by
    exact ru_throw (c := 0) (by decide) rfl rfl (by decide +kernel) (by decide +kernel) (by decide +kernel) (by decide +kernel) (Nat.le_of_ble_eq_true rfl) (Nat.le_refl _) (Nat.le_refl _) ⟨⟨rfl, rfl⟩, nI_no6 (by decide) q⟩
  refine ⟨fun c => hK _ _ _ _ (hthrow (Or.inl c)), fun c => ⟨fun c2 => hK _ _ _ _ ?_, fun c2 => hK _ _ _ _ (hthrow (Or.inr c2))⟩⟩
  obtain ⟨k, hk, rfl⟩ := nI_in6 (by decide) c c2
  refine ru_blk' [(.aload_n 0, 1, 0, 0), (.getfield 11, 3, 9, 0), (.iload_n 1, 1, 0, 0), (.aaload, 1, 0, 0), (.areturn, 1, 0, 0)] (by decide +kernel) (Nat.zero_le _) (Nat.zero_le _) (fun K R hK hR => ?_)
  simp only [Nat.reduceEqDiff, false_or, or_false, or_true, reduceIte, ↓rx_aaload, ↓rx_aload_n0, ↓rx_areturn, ↓rx_getfield, ↓rx_iload_n1, ↓rx_nil, ↓ry_fvs, ↓ry_fvz, ↓ry_li0s, ↓ry_li0z, ↓ry_lr0s, ↓ry_lr0z, ↓ry_obu, ↓ry_r1, ↓ry_ri, true_and, true_or, ↓rh_ob hob, ↓rh_ra hma, dk_fs, va_rfs, rz_set, rz_nol, rz_clr, List.set_cons_zero, List.set_cons_succ, rz_tr, Nat.reduceAdd, Int.reduceAdd, Int.reduceToNat, Int.reduceSub, Int.reduceNeg, Int.cast_ofNat_Int]
  rw [nI_clamp (by omega)]
  exact ⟨vp_in_nI (by omega) (by decide), hR _ _ (rz_nb_i (by decide)) ⟨⟨rfl, rfl⟩, rfl, rfl, k, hk, rfl, rfl⟩⟩
