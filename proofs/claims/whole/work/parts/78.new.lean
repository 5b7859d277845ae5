/-! constructors: DomainSearch, and what the others want -/
theorem rz_R_ext {w : rz_w} {G : rz_G} {H : Heap} {a ti n : Nat} {f f' : Nat → Option Nat} (h : rz_R w G H) (hG : G a = some (.inl (ti, n, .inr (.inr (.inr (.inr f)))))) (hff : ∀ k, k < n → f k = f' k) : rz_R w (rz_up G a (.inl (ti, n, .inr (.inr (.inr (.inr f')))))) H := by
  have hc : vp_cell (w.2.1 ti) (n, .inr (.inr (.inr (.inr f)))) = vp_cell (w.2.1 ti) (n, .inr (.inr (.inr (.inr f')))) := by
    rw [vp_cell_q, vp_cell_q]
    have : (fun j : Fin n => va_rf (f j.val)) = fun j : Fin n => va_rf (f' j.val) := by funext j; rw [hff j.val j.isLt]
    simp only [arrV, this]
  obtain ⟨h1, L, hL, hP, hD⟩ := h
  have key : ∀ (k : Nat) (q : Nat × va_E), (va_pl L (rz_f w (rz_up G a (.inl (ti, n, .inr (.inr (.inr (.inr f'))))))))[k]? = some q → (va_pl L (rz_f w G))[k]? = some (q.1, rz_f w G q.1) ∧ q.2 = rz_f w (rz_up G a (.inl (ti, n, .inr (.inr (.inr (.inr f')))))) q.1 := by
    intro k q hk
    simp only [va_pl, List.getElem?_map, Option.map_eq_some_iff] at hk ⊢
    obtain ⟨b, hb, rfl⟩ := hk
    exact ⟨⟨b, hb, rfl⟩, rfl⟩
  refine ⟨h1, L, fun b => ?_, fun k q hk => ?_, fun i j p q hi hj e => ?_, fun k q hk => ?_⟩
  · rw [hL b]
    by_cases c : b = a
    · subst c; simp [rz_up, hG]
    · rw [rz_up_n _ _ c]
  · obtain ⟨k1, k2⟩ := key k q hk
    have h2 := hP k _ k1
    by_cases c : q.1 = a
    · have e1 : rz_f w G q.1 = .inl (w.2.1 ti, n, .inr (.inr (.inr (.inr f)))) := by simp only [rz_f, c, hG, rz_e]
      have e2 : q.2 = .inl (w.2.1 ti, n, .inr (.inr (.inr (.inr f')))) := by rw [k2, c]; simp only [rz_f, rz_up_s, rz_e]
      rw [e1] at h2
      have h3 : H[q.1]? = some (vp_cell (w.2.1 ti) (n, .inr (.inr (.inr (.inr f))))) := h2
      rw [hc] at h3
      obtain ⟨q1, q2⟩ := q
      dsimp only at e2 h3
      subst e2
      exact h3
    · have e1 : q.2 = rz_f w G q.1 := by rw [k2]; simp only [rz_f, rz_up_n _ _ c]
      have e2 : q = (q.1, rz_f w G q.1) := by rw [← e1]
      rw [e2]; exact h2
  · exact hD.1 i j _ _ (key i p hi).1 (key j q hj).1 e
  · exact hD.2 k (q.1, rz_f w G q.1) (key k q hk).1
section RNX
variable {w : rz_w} {d mc ms : Nat} {M : rz_M} {kc kn pc : Nat} {Lc : rz_L} {S : List Value} {G : rz_G} {X : rn_P}
theorem rn_ext {a ti n : Nat} {f f' : Nat → Option Nat} (hG : G a = some (.inl (ti, n, .inr (.inr (.inr (.inr f)))))) (hff : ∀ k, k < n → f k = f' k) (k : rn_T w d mc ms M kc kn pc Lc S (rz_up G a (.inl (ti, n, .inr (.inr (.inr (.inr f')))))) X) : rn_T w d mc ms M kc kn pc Lc S G X := fun p l e s m args below meth c H locs ls hc hS hR hl => k p l e s m args below meth c H locs ls hc hS (rz_R_ext hR hG hff) hl
end RNX
theorem rw_b11 : (Int8.ofInt 11).toInt32 = nI 11 := by decide
theorem rw_b14 : (Int8.ofInt 14).toInt32 = nI 14 := by decide
theorem rw_b17 : (Int8.ofInt 17).toInt32 = nI 17 := by decide
theorem rw_b19 : (Int8.ofInt 19).toInt32 = nI 19 := by decide
theorem rw_b20 : (Int8.ofInt 20).toInt32 = nI 20 := by decide
theorem rw_b21 : (Int8.ofInt 21).toInt32 = nI 21 := by decide
theorem rw_b22 : (Int8.ofInt 22).toInt32 = nI 22 := by decide
theorem rw_b23 : (Int8.ofInt 23).toInt32 = nI 23 := by decide
theorem rw_b25 : (Int8.ofInt 25).toInt32 = nI 25 := by decide
theorem rw_b26 : (Int8.ofInt 26).toInt32 = nI 26 := by decide
theorem rw_b27 : (Int8.ofInt 27).toInt32 = nI 27 := by decide
theorem rw_b28 : (Int8.ofInt 28).toInt32 = nI 28 := by decide
theorem rw_b29 : (Int8.ofInt 29).toInt32 = nI 29 := by decide
theorem rw_b30 : (Int8.ofInt 30).toInt32 = nI 30 := by decide
theorem rw_b33 : (Int8.ofInt 33).toInt32 = nI 33 := by decide
theorem rw_b34 : (Int8.ofInt 34).toInt32 = nI 34 := by decide
theorem rw_b35 : (Int8.ofInt 35).toInt32 = nI 35 := by decide
theorem rw_b37 : (Int8.ofInt 37).toInt32 = nI 37 := by decide
theorem rw_b73 : (Int8.ofInt 73).toInt32 = nI 73 := by decide
theorem rw_b80 : (Int8.ofInt 80).toInt32 = nI 80 := by decide
theorem rw_b108 : (Int8.ofInt 108).toInt32 = nI 108 := by decide
theorem rw_b112 : (Int8.ofInt 112).toInt32 = nI 112 := by decide
set_option maxRecDepth 100000 in
set_option maxHeartbeats 8000000 in
theorem c_Dom_init {w : rz_w} {d : Nat} {G : rz_G} {a : Nat} (hG : G a = some (.inr (5, [.null, .null, .null, .null, .int 0, .int 0]))) : rn_C w (d + 1) 4 16384 y_Dom_init m_Dom_init [.ref a] G (a + 1) (fun r G' => r = none ∧ (∀ x, x < a → G' x = G x) ∧ dm_is G' a (fun _ => 0) (fun _ _ => 0) (fun _ _ => 0) (fun _ => []) (fun _ => 0)) := by
  refine rn_enter [some (.ref a)] (by decide +kernel) rfl rfl (Nat.le_of_ble_eq_true rfl) rfl ?_
  refine rn_blk' [(.aload_n 0, 1, 0, 0)] (by decide +kernel) (by omega) (by omega) (fun K R hK hR => ?_)
  simp only [↓rx_aload_n0, ↓rx_nil, ↓ry_lr0s, ↓ry_lr0z, rz_set, rz_nol, rz_clr, List.set_cons_zero, List.set_cons_succ, rz_tr, Nat.reduceAdd, Int.reduceAdd, Int.reduceToNat, Int.reduceSub, Int.reduceNeg, Int.cast_ofNat_Int]
  refine hK _ _ _ _ ?_
  refine rn_obj (rz_j1 176 rfl rfl) rn_o1 rn_o2 (Nat.le_of_ble_eq_true rfl) (by decide +kernel) ?_
  have hfr : ∀ x, x < a → G x = G x := fun _ _ => rfl
  have hob := hG
  have hce : ∀ o, 1 ≤ o → o < 1 → (True) → G (a + o) = some (dm_cell a (fun _ => 0) (fun _ _ => 0) (fun _ _ => 0) (fun _ => []) (fun _ => 0) o) := fun o h1 h2 => by omega
  refine rn_blk' [(.aload_n 0, 1, 0, 0), (.sipush 4096, 3, 0, 0)] (by decide +kernel) (by omega) (by omega) (fun K R hK hR => ?_)
  simp only [rw_s4096, ↓rx_aload_n0, ↓rx_nil, ↓rx_sipush, ↓ry_lr0s, ↓ry_lr0z, rz_set, rz_nol, rz_clr, List.set_cons_zero, List.set_cons_succ, rz_tr, Nat.reduceAdd, Int.reduceAdd, Int.reduceToNat, Int.reduceSub, Int.reduceNeg, Int.cast_ofNat_Int]
  refine hK _ _ _ _ ?_
  refine rn_na_b (N := 4096) (by decide) (by decide +kernel) (Or.inl rfl) (by decide) (by decide) ?_
  change rn_T w _ _ _ _ 1 4096 _ _ (.ref (a + 1) :: _) (rz_up G (a + 1) _) _
  have e1 : rz_up G (a + 1) (.inl (2, 4096, .inl (fun _ => 0))) a = some (.inr (5, [.null, .null, .null, .null, .int 0, .int 0])) := by rw [rz_up_n _ _ (by omega)]; exact hob
  refine rn_blk' [(.putfield 9, 3, 5, 0)] (by decide +kernel) (by omega) (by omega) (fun K R hK hR => ?_)
  simp only [List.length_cons, List.length_nil, Nat.reduceLT, rf_5_0, ↓rx_nil, ↓rx_putfield, ↓ry_obu, ↓ry_vr, true_and, ↓rh_ob e1, rz_set, rz_nol, rz_clr, List.set_cons_zero, List.set_cons_succ, rz_tr, Nat.reduceAdd, Int.reduceAdd, Int.reduceToNat, Int.reduceSub, Int.reduceNeg, Int.cast_ofNat_Int]
  refine hK _ _ _ _ ?_
  clear e1
  generalize hg : rz_up (rz_up G (a + 1) _) a _ = g1
  have hst : ∀ x, x ≠ a → x < a + 1 → g1 x = G x := fun x h1 h2 => by rw [← hg, rz_up_n _ _ h1, rz_up_n _ _ (by omega)]
  have hob : g1 a = some (.inr (5, [.ref (a + 1), .null, .null, .null, .int 0, .int 0])) := by rw [← hg, rz_up_s]
  have hfr : ∀ x, x < a → g1 x = G x := fun x hx => (hst x (by omega) (by omega)).trans (hfr x hx)
  have hn1 : g1 (a + 1) = some (.inl (2, 4096, .inl (fun _ => 0))) := by rw [← hg, rz_up_n _ _ (by omega), rz_up_s]
  have hce : ∀ o, 1 ≤ o → o < 2 → (True) → g1 (a + o) = some (dm_cell a (fun _ => 0) (fun _ _ => 0) (fun _ _ => 0) (fun _ => []) (fun _ => 0) o) := fun o h1 h2 h3 => by
    by_cases c : o < 1
    · exact (hst _ (by omega) (by omega)).trans (hce o h1 c h3)
    by_cases c1 : o = 1
    · subst c1; exact hn1
    omega
  clear hg hst hn1
  refine rn_blk' [(.aload_n 0, 1, 0, 0), (.sipush 4096, 3, 0, 0)] (by decide +kernel) (by omega) (by omega) (fun K R hK hR => ?_)
  simp only [rw_s4096, ↓rx_aload_n0, ↓rx_nil, ↓rx_sipush, ↓ry_lr0s, ↓ry_lr0z, rz_set, rz_nol, rz_clr, List.set_cons_zero, List.set_cons_succ, rz_tr, Nat.reduceAdd, Int.reduceAdd, Int.reduceToNat, Int.reduceSub, Int.reduceNeg, Int.cast_ofNat_Int]
  refine hK _ _ _ _ ?_
  refine rn_na_i (N := 4096) (by decide) (by decide +kernel) (Or.inr ⟨a + 1, rfl, by rw [hce 1 (by decide) (by decide) trivial]; simp⟩) (by decide) (by decide) ?_
  change rn_T w _ _ _ _ 2 8192 _ _ (.ref (a + 2) :: _) (rz_up g1 (a + 2) _) _
  have e1 : rz_up g1 (a + 2) (.inl (0, 4096, .inl (fun _ => 0))) a = some (.inr (5, [.ref (a + 1), .null, .null, .null, .int 0, .int 0])) := by rw [rz_up_n _ _ (by omega)]; exact hob
  refine rn_blk' [(.putfield 15, 3, 5, 1)] (by decide +kernel) (by omega) (by omega) (fun K R hK hR => ?_)
  simp only [List.length_cons, List.length_nil, Nat.reduceLT, rf_5_1, ↓rx_nil, ↓rx_putfield, ↓ry_obu, ↓ry_vr, true_and, ↓rh_ob e1, rz_set, rz_nol, rz_clr, List.set_cons_zero, List.set_cons_succ, rz_tr, Nat.reduceAdd, Int.reduceAdd, Int.reduceToNat, Int.reduceSub, Int.reduceNeg, Int.cast_ofNat_Int]
  refine hK _ _ _ _ ?_
  clear e1
  generalize hg : rz_up (rz_up g1 (a + 2) _) a _ = g2
  have hst : ∀ x, x ≠ a → x < a + 2 → g2 x = g1 x := fun x h1 h2 => by rw [← hg, rz_up_n _ _ h1, rz_up_n _ _ (by omega)]
  have hob : g2 a = some (.inr (5, [.ref (a + 1), .ref (a + 2), .null, .null, .int 0, .int 0])) := by rw [← hg, rz_up_s]
  have hfr : ∀ x, x < a → g2 x = G x := fun x hx => (hst x (by omega) (by omega)).trans (hfr x hx)
  have hn2 : g2 (a + 2) = some (.inl (0, 4096, .inl (fun _ => 0))) := by rw [← hg, rz_up_n _ _ (by omega), rz_up_s]
  have hce : ∀ o, 1 ≤ o → o < 3 → (True) → g2 (a + o) = some (dm_cell a (fun _ => 0) (fun _ _ => 0) (fun _ _ => 0) (fun _ => []) (fun _ => 0) o) := fun o h1 h2 h3 => by
    by_cases c : o < 2
    · exact (hst _ (by omega) (by omega)).trans (hce o h1 c h3)
    by_cases c2 : o = 2
    · subst c2; exact hn2
    omega
  clear hg hst hn2
  refine rn_blk' [(.aload_n 0, 1, 0, 0), (.sipush 4096, 3, 0, 0)] (by decide +kernel) (by omega) (by omega) (fun K R hK hR => ?_)
  simp only [rw_s4096, ↓rx_aload_n0, ↓rx_nil, ↓rx_sipush, ↓ry_lr0s, ↓ry_lr0z, rz_set, rz_nol, rz_clr, List.set_cons_zero, List.set_cons_succ, rz_tr, Nat.reduceAdd, Int.reduceAdd, Int.reduceToNat, Int.reduceSub, Int.reduceNeg, Int.cast_ofNat_Int]
  refine hK _ _ _ _ ?_
  refine rn_na_i (N := 4096) (by decide) (by decide +kernel) (Or.inr ⟨a + 2, rfl, by rw [hce 2 (by decide) (by decide) trivial]; simp⟩) (by decide) (by decide) ?_
  change rn_T w _ _ _ _ 3 12288 _ _ (.ref (a + 3) :: _) (rz_up g2 (a + 3) _) _
  have e1 : rz_up g2 (a + 3) (.inl (0, 4096, .inl (fun _ => 0))) a = some (.inr (5, [.ref (a + 1), .ref (a + 2), .null, .null, .int 0, .int 0])) := by rw [rz_up_n _ _ (by omega)]; exact hob
  refine rn_blk' [(.putfield 19, 3, 5, 2)] (by decide +kernel) (by omega) (by omega) (fun K R hK hR => ?_)
  simp only [List.length_cons, List.length_nil, Nat.reduceLT, rf_5_2, ↓rx_nil, ↓rx_putfield, ↓ry_obu, ↓ry_vr, true_and, ↓rh_ob e1, rz_set, rz_nol, rz_clr, List.set_cons_zero, List.set_cons_succ, rz_tr, Nat.reduceAdd, Int.reduceAdd, Int.reduceToNat, Int.reduceSub, Int.reduceNeg, Int.cast_ofNat_Int]
  refine hK _ _ _ _ ?_
  clear e1
  generalize hg : rz_up (rz_up g2 (a + 3) _) a _ = g3
  have hst : ∀ x, x ≠ a → x < a + 3 → g3 x = g2 x := fun x h1 h2 => by rw [← hg, rz_up_n _ _ h1, rz_up_n _ _ (by omega)]
  have hob : g3 a = some (.inr (5, [.ref (a + 1), .ref (a + 2), .ref (a + 3), .null, .int 0, .int 0])) := by rw [← hg, rz_up_s]
  have hfr : ∀ x, x < a → g3 x = G x := fun x hx => (hst x (by omega) (by omega)).trans (hfr x hx)
  have hn3 : g3 (a + 3) = some (.inl (0, 4096, .inl (fun _ => 0))) := by rw [← hg, rz_up_n _ _ (by omega), rz_up_s]
  have hce : ∀ o, 1 ≤ o → o < 4 → (True) → g3 (a + o) = some (dm_cell a (fun _ => 0) (fun _ _ => 0) (fun _ _ => 0) (fun _ => []) (fun _ => 0) o) := fun o h1 h2 h3 => by
    by_cases c : o < 3
    · exact (hst _ (by omega) (by omega)).trans (hce o h1 c h3)
    by_cases c3 : o = 3
    · subst c3; exact hn3
    omega
  clear hg hst hn3
  refine rn_blk' [(.aload_n 0, 1, 0, 0), (.sipush 4096, 3, 0, 0)] (by decide +kernel) (by omega) (by omega) (fun K R hK hR => ?_)
  simp only [rw_s4096, ↓rx_aload_n0, ↓rx_nil, ↓rx_sipush, ↓ry_lr0s, ↓ry_lr0z, rz_set, rz_nol, rz_clr, List.set_cons_zero, List.set_cons_succ, rz_tr, Nat.reduceAdd, Int.reduceAdd, Int.reduceToNat, Int.reduceSub, Int.reduceNeg, Int.cast_ofNat_Int]
  refine hK _ _ _ _ ?_
  refine rn_na_b (N := 4096) (by decide) (by decide +kernel) (Or.inr ⟨a + 3, rfl, by rw [hce 3 (by decide) (by decide) trivial]; simp⟩) (by decide) (by decide) ?_
  change rn_T w _ _ _ _ 4 16384 _ _ (.ref (a + 4) :: _) (rz_up g3 (a + 4) _) _
  have e1 : rz_up g3 (a + 4) (.inl (2, 4096, .inl (fun _ => 0))) a = some (.inr (5, [.ref (a + 1), .ref (a + 2), .ref (a + 3), .null, .int 0, .int 0])) := by rw [rz_up_n _ _ (by omega)]; exact hob
  refine rn_blk' [(.putfield 22, 3, 5, 3)] (by decide +kernel) (by omega) (by omega) (fun K R hK hR => ?_)
  simp only [List.length_cons, List.length_nil, Nat.reduceLT, rf_5_3, ↓rx_nil, ↓rx_putfield, ↓ry_obu, ↓ry_vr, true_and, ↓rh_ob e1, rz_set, rz_nol, rz_clr, List.set_cons_zero, List.set_cons_succ, rz_tr, Nat.reduceAdd, Int.reduceAdd, Int.reduceToNat, Int.reduceSub, Int.reduceNeg, Int.cast_ofNat_Int]
  refine hK _ _ _ _ ?_
  clear e1
  generalize hg : rz_up (rz_up g3 (a + 4) _) a _ = g4
  have hst : ∀ x, x ≠ a → x < a + 4 → g4 x = g3 x := fun x h1 h2 => by rw [← hg, rz_up_n _ _ h1, rz_up_n _ _ (by omega)]
  have hob : g4 a = some (.inr (5, [.ref (a + 1), .ref (a + 2), .ref (a + 3), .ref (a + 4), .int 0, .int 0])) := by rw [← hg, rz_up_s]
  have hfr : ∀ x, x < a → g4 x = G x := fun x hx => (hst x (by omega) (by omega)).trans (hfr x hx)
  have hn4 : g4 (a + 4) = some (.inl (2, 4096, .inl (fun _ => 0))) := by rw [← hg, rz_up_n _ _ (by omega), rz_up_s]
  have hce : ∀ o, 1 ≤ o → o < 5 → (True) → g4 (a + o) = some (dm_cell a (fun _ => 0) (fun _ _ => 0) (fun _ _ => 0) (fun _ => []) (fun _ => 0) o) := fun o h1 h2 h3 => by
    by_cases c : o < 4
    · exact (hst _ (by omega) (by omega)).trans (hce o h1 c h3)
    by_cases c4 : o = 4
    · subst c4; exact hn4
    omega
  clear hg hst hn4
  refine rn_blk' [(.return_, 1, 0, 0)] (by decide +kernel) (by omega) (by omega) (fun K R hK hR => ?_)
  simp only [↓rx_nil, ↓rx_return_, rz_set, rz_nol, rz_clr, List.set_cons_zero, List.set_cons_succ, rz_tr, Nat.reduceAdd, Int.reduceAdd, Int.reduceToNat, Int.reduceSub, Int.reduceNeg, Int.cast_ofNat_Int]
  refine hR _ _ (rz_nb_i (by decide)) ⟨rfl, hfr, fun o ho => ?_⟩
  by_cases c : o = 0
  · subst c; exact hob
  · exact hce o (by omega) ho trivial
