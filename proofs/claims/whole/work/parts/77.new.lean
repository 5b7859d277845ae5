/-! constructors: calls; Object's; Word's -/
theorem rn_blind {w : rz_w} {G : rz_G} {n : Nat} {as : List Value} : FrameBlind (va_Pc as (fun U => rz_K w U ∧ rz_R w G U.heap ∧ rn_z n U)) := by
  intro a U g mk h
  obtain ⟨h1, h2, h3, h4⟩ := h
  have h0 := rz_blind (w := w) (G := G) (as := as) a U g mk ⟨h1, h2, h3⟩
  exact ⟨h0.1, h0.2.1, h0.2.2, h4⟩
section RNC
variable {w : rz_w} {d mc ms : Nat} {M : rz_M} {kc kn pc : Nat} {Lc : rz_L} {S : List Value} {G : rz_G} {X : rn_P} {Q' : Option Value → rz_G → Prop} {y : MethodName} {My : rz_M} {mc' ms' : Nat}
theorem rn_cI {idx np : Nat} (hL : rz_lI M.2.2.2.1 idx y My np) {As : List Value} {b : Nat} (hd : decode M.1 pc = .ok (.invokespecial idx, 3)) (hn : As.length = np) (hst : (S.map fun v => v.category).sum ≤ 8) (hf : kc = 0 ∨ ∃ a, a + 1 = X.1 + kc ∧ G a ≠ none) (hk : kc + mc' ≤ mc) (hk2 : kn + ms' ≤ ms)
    (h : rn_C w d mc' ms' y My (.ref b :: As) G (X.1 + kc) Q') (k : ∀ r G', Q' r G' → rn_T w (d + 1) mc ms M (kc + mc') (kn + ms') (pc + 3) Lc (r.toList ++ S) G' X) : rn_T w (d + 1) mc ms M kc kn pc Lc (As.reverse ++ .ref b :: S) G X := by
  intro p l e s m args below meth c H locs ls hc hS hR hl T hT Y
  by_cases hz : rn_z X.1 s
  rotate_left
  · exact ⟨_, Steps.refl _, fun h => absurd h hz⟩
  have hsz := rn_size hS hR hT Y hz.1 hf
  have hK := hc.2.2.2.2.2.2.2.2.1
  have hts := hc.2.2.2.2.2.2.2.1
  have hcb := rz_cb (d := d) (mc := mc) (ms := ms) (mc' := mc') (ms' := ms') hc hL.1 hL.2.1
  rw [hL.2.2.2.2] at hcb
  suffices key : W p l e (rz_rm (d + 1) mc ms) s m args below meth c H locs kc kn (rn_F w mc ms X args below s) (F0 m pc ls (As.reverse ++ .ref b :: S)) from key T hT Y
  exact rn_cont hc hS hl (va_runI ⟨hc.1, hc.2.1, hc.2.2.1, hc.2.2.2.2.2.1, hts⟩ (h l) ⟨hcb, hL.2.2.2.1, hts _ hL.2.2.1⟩ ⟨rn_blind, fun U hU hW => ⟨rfl, hK.warm hW, by rw [hU]; exact hR, by rw [hU]; exact hsz, va_AO.moved hW.alike hz.2.1, va_AO.moved hW.alike hz.2.2⟩⟩ rfl hn hl.1 rfl (lv_room hst) hd ⟨hk, hk2⟩) k
theorem rn_cIN {idx np : Nat} (hL : rz_nI M.2.2.2.1 idx y My np) {As : List Value} {b : Nat} (hd : decode M.1 pc = .ok (.invokespecial idx, 3)) (hn : As.length = np) (hst : (S.map fun v => v.category).sum ≤ 8) (hf : kc = 0 ∨ ∃ a, a + 1 = X.1 + kc ∧ G a ≠ none) (hk : kc + mc' ≤ mc) (hk2 : kn + ms' ≤ ms)
    (h : rn_C w d mc' ms' y My (.ref b :: As) G (X.1 + kc) Q') (k : ∀ r G', Q' r G' → rn_T w (d + 1) mc ms M (kc + mc') (kn + ms') (pc + 3) Lc (r.toList ++ S) G' X) : rn_T w (d + 1) mc ms M kc kn pc Lc (As.reverse ++ .ref b :: S) G X := by
  intro p l e s m args below meth c H locs ls hc hS hR hl T hT Y
  by_cases hz : rn_z X.1 s
  rotate_left
  · exact ⟨_, Steps.refl _, fun h => absurd h hz⟩
  have hsz := rn_size hS hR hT Y hz.1 hf
  have hK := hc.2.2.2.2.2.2.2.2.1
  have hts := hc.2.2.2.2.2.2.2.1
  have hcb := rz_cn (d := d) (mc := mc) (ms := ms) (mc' := mc') (ms' := ms') hc hL.1 hL.2.1
  rw [hL.2.2.2.2] at hcb
  suffices key : W p l e (rz_rm (d + 1) mc ms) s m args below meth c H locs kc kn (rn_F w mc ms X args below s) (F0 m pc ls (As.reverse ++ .ref b :: S)) from key T hT Y
  exact rn_cont hc hS hl (va_runIN ⟨hc.1, hc.2.1, hc.2.2.1, hc.2.2.2.2.2.1, hts⟩ (h l) ⟨hcb, hL.2.2.2.1, hts _ hL.2.2.1⟩ ⟨rn_blind, fun U hU hW => ⟨rfl, hK.warm hW, by rw [hU]; exact hR, by rw [hU]; exact hsz, va_AO.moved hW.alike hz.2.1, va_AO.moved hW.alike hz.2.2⟩⟩ rfl hn hl.1 rfl (lv_room hst) hd ⟨hk, hk2⟩) k
theorem rn_obj {idx a : Nat} (hl : Cond.methodLink (rz_on M.2.2.2.1) idx Lib.objectInit ∈ rz_tb) (h1 : Cond.instanceMethod Lib.objectInit ∈ rz_tb) (h2 : Cond.code Lib.objectInit ⟨#[0xb1]⟩ 1 none ∈ rz_tb) (hst : (S.map fun v => v.category).sum ≤ 8) (hd : decode M.1 pc = .ok (.invokespecial idx, 3)) (k : rn_T w (d + 1) mc ms M kc kn (pc + 3) Lc S G X) : rn_T w (d + 1) mc ms M kc kn pc Lc (.ref a :: S) G X := fun p l e s m args below meth c H locs ls hc hS hR hll =>
  W.objInit hc.1 hc.2.1 hc.2.2.2.2.2.1 (hc.2.2.2.2.2.2.2.1 _ hl) (hc.2.2.2.2.2.2.2.1 _ h1) (hc.2.2.2.2.2.2.2.1 _ h2) rfl (hll.1.trans hc.2.2.1.symm) rfl hd (by show 1 ≤ d + 1; omega) (by have h0 : 2 * (F0 m pc ls (.ref a :: S)).monitorRoom + (S.map fun v => v.category).sum ≤ 8 := lv_room hst; show _ + 12 ≤ 40 * (d + 1); omega) (k p l e s m args below meth c H locs ls hc hS hR hll)
end RNC
set_option maxRecDepth 100000 in
theorem rn_o1 : Cond.instanceMethod Lib.objectInit ∈ rz_tb := rz_j1 29 rfl rfl
set_option maxRecDepth 100000 in
theorem rn_o2 : Cond.code Lib.objectInit ⟨#[0xb1]⟩ 1 none ∈ rz_tb := rz_j1 30 rfl rfl
theorem rn_al : Cond.arrayClass .long ∈ rz_tb := rz_j1 52 rfl rfl
theorem rn_ai : Cond.arrayClass .int ∈ rz_tb := rz_j1 87 rfl rfl
theorem rn_az : Cond.arrayClass .boolean ∈ rz_tb := rz_j1 170 rfl rfl
theorem rn_ab : Cond.arrayClass .byte ∈ rz_tb := rz_j1 196 rfl rfl
section RNA
variable {w : rz_w} {d mc ms : Nat} {M : rz_M} {kc kn pc : Nat} {Lc : rz_L} {S : List Value} {G : rz_G} {X : rn_P}
theorem rn_na_i {N : Nat} (hN : N < 2 ^ 20) (hd : decode M.1 pc = .ok (.newarray .int, 2)) (hf : kc = 0 ∨ ∃ a, a + 1 = X.1 + kc ∧ G a ≠ none) (hk : kc + 1 ≤ mc) (hk2 : kn + N ≤ ms) (k : rn_T w d mc ms M (kc + 1) (kn + N) (pc + 2) Lc (.ref (X.1 + kc) :: S) (rz_up G (X.1 + kc) (.inl (0, N, .inl (fun _ => 0)))) X) : rn_T w d mc ms M kc kn pc Lc (.int (nI N) :: S) G X := rn_newa (atype := .int) (ti := 0) (a0 := (N, .inl (fun _ => 0))) rfl rn_ai (fun _ => rfl) hN hd hf hk hk2 (fun _ _ h => h) (by decide) k
theorem rn_na_l {N : Nat} (hN : N < 2 ^ 20) (hd : decode M.1 pc = .ok (.newarray .long, 2)) (hf : kc = 0 ∨ ∃ a, a + 1 = X.1 + kc ∧ G a ≠ none) (hk : kc + 1 ≤ mc) (hk2 : kn + N ≤ ms) (k : rn_T w d mc ms M (kc + 1) (kn + N) (pc + 2) Lc (.ref (X.1 + kc) :: S) (rz_up G (X.1 + kc) (.inl (1, N, .inr (.inl (fun _ => 0))))) X) : rn_T w d mc ms M kc kn pc Lc (.int (nI N) :: S) G X := rn_newa (atype := .long) (ti := 1) (a0 := (N, .inr (.inl (fun _ => 0)))) rfl rn_al (fun _ => rfl) hN hd hf hk hk2 (fun _ _ h => h) (by decide) k
theorem rn_na_b {N : Nat} (hN : N < 2 ^ 20) (hd : decode M.1 pc = .ok (.newarray .byte, 2)) (hf : kc = 0 ∨ ∃ a, a + 1 = X.1 + kc ∧ G a ≠ none) (hk : kc + 1 ≤ mc) (hk2 : kn + N ≤ ms) (k : rn_T w d mc ms M (kc + 1) (kn + N) (pc + 2) Lc (.ref (X.1 + kc) :: S) (rz_up G (X.1 + kc) (.inl (2, N, .inl (fun _ => 0)))) X) : rn_T w d mc ms M kc kn pc Lc (.int (nI N) :: S) G X := rn_newa (atype := .byte) (ti := 2) (a0 := (N, .inl (fun _ => 0))) rfl rn_ab (fun _ => rfl) hN hd hf hk hk2 (fun _ _ h => h) (by decide) k
theorem rn_na_z {N : Nat} (hN : N < 2 ^ 20) (hd : decode M.1 pc = .ok (.newarray .boolean, 2)) (hf : kc = 0 ∨ ∃ a, a + 1 = X.1 + kc ∧ G a ≠ none) (hk : kc + 1 ≤ mc) (hk2 : kn + N ≤ ms) (k : rn_T w d mc ms M (kc + 1) (kn + N) (pc + 2) Lc (.ref (X.1 + kc) :: S) (rz_up G (X.1 + kc) (.inl (3, N, .inl (fun _ => 0)))) X) : rn_T w d mc ms M kc kn pc Lc (.int (nI N) :: S) G X := rn_newa (atype := .boolean) (ti := 3) (a0 := (N, .inl (fun _ => 0))) rfl rn_az (fun _ => rfl) hN hd hf hk hk2 (fun _ _ h => h) (by decide) k
end RNA
theorem wd_f0 : wd_f [] = fun _ => 0 := by
  rw [wd_f_nil]; rfl
set_option maxRecDepth 100000 in
set_option maxHeartbeats 4000000 in
theorem c_Word_init {w : rz_w} {d : Nat} {G : rz_G} {a rm : Nat} {fs : List Value} (hrm : rm < 4200) (hdiv : nI rm / nI 16 = nI (rm / 16)) (hG : G a = some (.inr (0, fs))) (hfs : fs = [.null, .int 0]) : rn_C w (d + 1) 1 (rm / 16 + 1) y_Word_init m_Word_init [.ref a, .int (nI rm)] G (a + 1) (fun r G' => r = none ∧ G' = wd_put G a (rm / 16 + 1) []) := by
  subst hfs
  refine rn_enter [some (.ref a), some (.int (nI rm))] (by decide +kernel) rfl rfl (Nat.le_of_ble_eq_true rfl) rfl ?_
  refine rn_blk' [(.aload_n 0, 1, 0, 0)] (by decide +kernel) (by omega) (by omega) (fun K R hK hR => ?_)
  simp only [↓rx_aload_n0, ↓rx_nil, ↓ry_lr0s, ↓ry_lr0z, rz_set, rz_nol, rz_clr, List.set_cons_zero, List.set_cons_succ, rz_tr, Nat.reduceAdd, Int.reduceAdd, Int.reduceToNat, Int.reduceSub, Int.reduceNeg, Int.cast_ofNat_Int]
  refine hK _ _ _ _ ?_
  refine rn_obj (rz_j1 38 rfl rfl) rn_o1 rn_o2 (Nat.le_of_ble_eq_true rfl) (by decide +kernel) ?_
  refine rn_blk' [(.aload_n 0, 1, 0, 0), (.iload_n 1, 1, 0, 0), (.bipush 16, 2, 0, 0), (.idiv, 1, 0, 0), (.iconst 1, 1, 0, 0), (.iadd, 1, 0, 0)] (by decide +kernel) (by omega) (by omega) (fun K R hK hR => ?_)
  simp only [rw_b16, rw_c1, ↓rx_aload_n0, ↓rx_bipush, ↓rx_iadd, ↓rx_iconst, ↓rx_idiv, ↓rx_iload_n1, ↓rx_nil, ↓ry_i2, ↓ry_li0s, ↓ry_li0z, ↓ry_lr0s, ↓ry_lr0z, rz_set, rz_nol, rz_clr, List.set_cons_zero, List.set_cons_succ, rz_tr, Nat.reduceAdd, Int.reduceAdd, Int.reduceToNat, Int.reduceSub, Int.reduceNeg, Int.cast_ofNat_Int]
  rw [hdiv, nI_add]
  refine ⟨by decide, hK _ _ _ _ ?_⟩
  refine rn_na_l (N := rm / 16 + 1) (by omega) (by decide +kernel) (Or.inl rfl) (Nat.le_refl _) (by omega) ?_
  simp only [Nat.zero_add, Nat.add_zero]
  have e1 : rz_up G (a + 1) (.inl (1, rm / 16 + 1, .inr (.inl (fun _ => 0)))) a = some (.inr (0, [.null, .int 0])) := by rw [rz_up_n _ _ (by omega)]; exact hG
  refine rn_blk' [(.putfield 9, 3, 0, 0)] (by decide +kernel) (by omega) (by omega) (fun K R hK hR => ?_)
  simp only [List.length_cons, List.length_nil, Nat.reduceLT, rf_0_0, ↓rx_nil, ↓rx_putfield, ↓ry_obu, ↓ry_vr, true_and, ↓rh_ob e1, rz_set, rz_nol, rz_clr, List.set_cons_zero, List.set_cons_succ, rz_tr, Nat.reduceAdd, Int.reduceAdd, Int.reduceToNat, Int.reduceSub, Int.reduceNeg, Int.cast_ofNat_Int]
  refine hK _ _ _ _ ?_
  generalize hG2 : rz_up (rz_up G (a + 1) _) a _ = G2
  have e2 : G2 a = some (.inr (0, [.ref (a + 1), .int 0])) := by rw [← hG2]; exact rz_up_s _ _ _
  refine rn_blk' [(.aload_n 0, 1, 0, 0), (.iconst 0, 1, 0, 0), (.putfield 15, 3, 0, 1)] (by decide +kernel) (by omega) (by omega) (fun K R hK hR => ?_)
  simp only [List.length_cons, List.length_nil, Nat.reduceLT, rf_0_1, rw_c0, ↓rx_aload_n0, ↓rx_iconst, ↓rx_nil, ↓rx_putfield, ↓ry_lr0s, ↓ry_lr0z, ↓ry_obu, ↓ry_vr, true_and, ↓rh_ob e2, rz_set, rz_nol, rz_clr, List.set_cons_zero, List.set_cons_succ, rz_tr, Nat.reduceAdd, Int.reduceAdd, Int.reduceToNat, Int.reduceSub, Int.reduceNeg, Int.cast_ofNat_Int]
  refine hK _ _ _ _ ?_
  refine rn_blk' [(.return_, 1, 0, 0)] (by decide +kernel) (by omega) (by omega) (fun K R hK hR => ?_)
  simp only [↓rx_nil, ↓rx_return_, rz_set, rz_nol, rz_clr, List.set_cons_zero, List.set_cons_succ, rz_tr, Nat.reduceAdd, Int.reduceAdd, Int.reduceToNat, Int.reduceSub, Int.reduceNeg, Int.cast_ofNat_Int]
  refine hR _ _ (rz_nb_i (by decide)) ⟨rfl, ?_⟩
  rw [← hG2, rz_up_up]
  simp only [wd_put]
  rw [rz_up_comm _ _ _ (by omega)]
  simp only [wd_o, wd_a, wd_f0, List.length_nil]
