/-! WriterDesk$Reading: its state, swap, waysBefore, tellOutput -/
def rd_n (a : Nat) (b : Bool) : Nat := if b then a + 4 else a + 1
def rd_t (a : Nat) (b : Bool) : Nat := if b then a + 1 else a + 4
theorem rd_nt (a : Nat) (b : Bool) : (rd_n a b = a + 1 ∧ rd_t a b = a + 4) ∨ (rd_n a b = a + 4 ∧ rd_t a b = a + 1) := by cases b <;> simp [rd_n, rd_t]
/-- Reading at a: 12 cells. wn, wt: the ways in 'now' and in 'then'; xs, ys: the words 'base' and 'word' -/
def rd_is (G : rz_G) (a : Nat) (b : Bool) (wn wt : List (Nat × List Nat)) (xs ys : List Nat) : Prop :=
  (∃ g : Nat → Int64, G (a + 7) = some (.inl (1, 4, .inr (.inl g)))) ∧ G a = some (.inr (3, [.ref (rd_n a b), .ref (rd_t a b), .ref (a + 7), .ref (a + 8), .ref (a + 10)])) ∧ wd_is G (a + 8) 4 xs ∧ wd_is G (a + 10) 4 ys ∧ rw_is G (rd_n a b) 4 200 9 (wn.map rd_enc) ∧ rw_is G (rd_t a b) 4 200 9 (wt.map rd_enc) ∧ (∀ v ∈ wn, rd_wok v) ∧ (∀ v ∈ wt, rd_wok v)
def rd_fr (a : Nat) (G G' : rz_G) : Prop := ∀ x, x < a ∨ a + 12 ≤ x → G' x = G x
theorem rd_fr.trans {a : Nat} {G G1 G2 : rz_G} (h : rd_fr a G G1) (h2 : rd_fr a G1 G2) : rd_fr a G G2 := fun x hx => (h2 x hx).trans (h x hx)
theorem rd_is_w {G : rz_G} {a : Nat} {b : Bool} {wn wt : List (Nat × List Nat)} {xs ys ys' : List Nat} (h : rd_is G a b wn wt xs ys) (hy : wd_ok 4 ys') : rd_is (wd_put G (a + 10) 4 ys') a b wn wt xs ys' ∧ rd_fr a G (wd_put G (a + 10) 4 ys') := by
  obtain ⟨⟨g, h0⟩, h1, h2, h3, h4, h5, h6, h7⟩ := h
  have hn : ∀ x, x ≠ a + 10 → x ≠ a + 11 → wd_put G (a + 10) 4 ys' x = G x := fun x a1 a2 => wd_put_n a1 a2
  have hnt := rd_nt a b
  refine ⟨⟨⟨g, by rw [hn _ (by omega) (by omega)]; exact h0⟩, by rw [hn _ (by omega) (by omega)]; exact h1, wd_is_keep h2 (hn _ (by omega) (by omega)) (hn _ (by omega) (by omega)), wd_put_is hy, rw_is_keep h4 (hn _ (by omega) (by omega)) (hn _ (by omega) (by omega)) (hn _ (by omega) (by omega)), rw_is_keep h5 (hn _ (by omega) (by omega)) (hn _ (by omega) (by omega)) (hn _ (by omega) (by omega)), h6, h7⟩, fun x hx => hn x (by omega) (by omega)⟩
theorem rd_is_b {G : rz_G} {a : Nat} {b : Bool} {wn wt : List (Nat × List Nat)} {xs ys xs' : List Nat} (h : rd_is G a b wn wt xs ys) (hy : wd_ok 4 xs') : rd_is (wd_put G (a + 8) 4 xs') a b wn wt xs' ys ∧ rd_fr a G (wd_put G (a + 8) 4 xs') := by
  obtain ⟨⟨g, h0⟩, h1, h2, h3, h4, h5, h6, h7⟩ := h
  have hn : ∀ x, x ≠ a + 8 → x ≠ a + 9 → wd_put G (a + 8) 4 xs' x = G x := fun x a1 a2 => wd_put_n a1 a2
  have hnt := rd_nt a b
  refine ⟨⟨⟨g, by rw [hn _ (by omega) (by omega)]; exact h0⟩, by rw [hn _ (by omega) (by omega)]; exact h1, wd_put_is hy, wd_is_keep h3 (hn _ (by omega) (by omega)) (hn _ (by omega) (by omega)), rw_is_keep h4 (hn _ (by omega) (by omega)) (hn _ (by omega) (by omega)) (hn _ (by omega) (by omega)), rw_is_keep h5 (hn _ (by omega) (by omega)) (hn _ (by omega) (by omega)) (hn _ (by omega) (by omega)), h6, h7⟩, fun x hx => hn x (by omega) (by omega)⟩
theorem rd_wok4 {v : Nat × List Nat} (h : rd_wok v) : wd_ok 4 v.2 := ⟨by have := h.2.1; omega, fun x hx => by have := h.2.2 x hx; omega, by decide⟩
set_option maxRecDepth 100000 in
set_option maxHeartbeats 4000000 in
/-- swap() -/
theorem c_Read_swap {w : rz_w} {d : Nat} {G : rz_G} {a : Nat} {b : Bool} {wn wt : List (Nat × List Nat)} {xs ys : List Nat} (h : rd_is G a b wn wt xs ys) : rz_C w d 0 0 y_Read_swap m_Read_swap [.ref a] G (fun q G' => q = none ∧ rd_is G' a (!b) wt wn xs ys ∧ rd_fr a G G') := by
  obtain ⟨⟨g, h0⟩, h1, h2, h3, h4, h5, h6, h7⟩ := h
  have hnt := rd_nt a b
  refine rz_enter' [some (.ref a), none] (by decide +kernel) rfl rfl (Nat.le_of_ble_eq_true rfl) rfl ?_
  refine rz_blk' [(.aload_n 0, 1, 0, 0), (.getfield 14, 3, 3, 0), (.astore_n 1, 1, 0, 0)] (by decide +kernel) (Nat.le_refl _) (Nat.le_refl _) (fun K R hK hR => ?_)
  simp only [↓rx_aload_n0, ↓rx_astore_n1, ↓rx_getfield, ↓rx_nil, ↓ry_fvs, ↓ry_fvz, ↓ry_lr0s, ↓ry_lr0z, ↓ry_obu, ↓ry_r1, ↓rh_ob h1, rz_set, rz_nol, rz_clr, List.set_cons_zero, List.set_cons_succ, rz_tr, Nat.reduceAdd, Int.reduceAdd, Int.reduceToNat, Int.reduceSub, Int.reduceNeg, Int.cast_ofNat_Int]
  refine hK _ _ _ _ ?_
  refine rz_blk' [(.aload_n 0, 1, 0, 0), (.aload_n 0, 1, 0, 0), (.getfield 20, 3, 3, 1), (.putfield 14, 3, 3, 0)] (by decide +kernel) (Nat.le_refl _) (Nat.le_refl _) (fun K R hK hR => ?_)
  simp only [List.length_cons, List.length_nil, Nat.reduceLT, rf_3_0, ↓rx_aload_n0, ↓rx_getfield, ↓rx_nil, ↓rx_putfield, ↓ry_fvs, ↓ry_fvz, ↓ry_lr0s, ↓ry_lr0z, ↓ry_obu, ↓ry_r1, ↓ry_vr, true_and, ↓rh_ob h1, rz_set, rz_nol, rz_clr, List.set_cons_zero, List.set_cons_succ, rz_tr, Nat.reduceAdd, Int.reduceAdd, Int.reduceToNat, Int.reduceSub, Int.reduceNeg, Int.cast_ofNat_Int]
  refine hK _ _ _ _ ?_
  refine rz_blk' [(.aload_n 0, 1, 0, 0), (.aload_n 1, 1, 0, 0), (.putfield 20, 3, 3, 1), (.return_, 1, 0, 0)] (by decide +kernel) (Nat.le_refl _) (Nat.le_refl _) (fun K R hK hR => ?_)
  simp only [List.length_cons, List.length_nil, Nat.reduceLT, rf_3_1, ↓rx_aload_n0, ↓rx_aload_n1, ↓rx_nil, ↓rx_putfield, ↓rx_return_, ↓ry_lr0s, ↓ry_lr0z, ↓ry_obu, ↓ry_vr, true_and, rz_set, rz_nol, rz_clr, List.set_cons_zero, List.set_cons_succ, rz_tr, Nat.reduceAdd, Int.reduceAdd, Int.reduceToNat, Int.reduceSub, Int.reduceNeg, Int.cast_ofNat_Int]
  refine hR _ _ (rz_nb_i (by decide)) ⟨rfl, ?_⟩
  rw [rz_up_up]
  generalize hG1 : rz_up G a _ = G1
  have hn : ∀ x, x ≠ a → G1 x = G x := fun x hx => by rw [← hG1, rz_up_n _ _ hx]
  have e1 : rd_n a (!b) = rd_t a b := by cases b <;> rfl
  have e2 : rd_t a (!b) = rd_n a b := by cases b <;> rfl
  refine ⟨⟨⟨g, by rw [hn _ (by omega)]; exact h0⟩, by rw [← hG1, rz_up_s, e1, e2], wd_is_keep h2 (hn _ (by omega)) (hn _ (by omega)), wd_is_keep h3 (hn _ (by omega)) (hn _ (by omega)), ?_, ?_, h7, h6⟩, fun x hx => hn x (by omega)⟩
  · rw [e1]; exact rw_is_keep h5 (hn _ (by omega)) (hn _ (by omega)) (hn _ (by omega))
  · rw [e2]; exact rw_is_keep h4 (hn _ (by omega)) (hn _ (by omega)) (hn _ (by omega))

/-- how many of the ways' words come before a word -/
def rd_bef (ws : List (Nat × List Nat)) (ys : List Nat) : Nat := ws.countP (fun v => wd_bef v.2 ys)
set_option maxRecDepth 100000 in
set_option maxHeartbeats 4000000 in
theorem rd_wb_l {w : rz_w} {d : Nat} {a : Nat} {b : Bool} {wn wt : List (Nat × List Nat)} {ys : List Nat} (hy8 : ∀ x ∈ ys, x < 8) {G0 : rz_G} {Q : Option Value → rz_G → Prop} (hQ : ∀ xs G', rd_is G' a b wn wt xs ys → rd_fr a G0 G' → Q (some (.int (nI (rd_bef wn ys)))) G') :
    ∀ (n i : Nat) (xs : List Nat) (G : rz_G), wn.length + 1 ≤ i + n → i ≤ wn.length → rd_is G a b wn wt xs ys → rd_fr a G0 G → rz_T w (d + 2) 0 0 m_Read_waysBefore 0 0 4 [some (.ref a), some (.int (nI (rd_bef (wn.take i) ys))), some (.int (nI i))] [] G Q := by
  intro n
  induction n with
  | zero => intro i xs G h1 h2; omega
  | succ n ih =>
    intro i xs G hn hi hG hfr
    obtain ⟨⟨g, h0⟩, h1, h2, h3, h4, h5, h6, h7⟩ := id hG
    have hl := rd_len h4
    have hnt := rd_nt a b
    obtain ⟨f, sl, o1, -⟩ := id h4
    rw [List.length_map] at o1
    have hcnt : rd_bef (wn.take i) ys ≤ i := by
      have := List.countP_le_length (p := fun v : Nat × List Nat => wd_bef v.2 ys) (l := wn.take i)
      rw [List.length_take] at this
      simp only [rd_bef]; omega
    refine rz_blk' [(.iload_n 2, 1, 0, 0), (.aload_n 0, 1, 0, 0), (.getfield 14, 3, 3, 0), (.getfield 71, 3, 1, 4), (.if_icmp .ge 38, 3, 0, 0), (.aload_n 0, 1, 0, 0), (.getfield 14, 3, 3, 0), (.iload_n 2, 1, 0, 0), (.aload_n 0, 1, 0, 0), (.getfield 32, 3, 3, 3)] (by decide +kernel) (Nat.le_refl _) (Nat.le_refl _) (fun K R hK hR => ?_)
    simp only [↓rx_aload_n0, ↓rx_getfield, ↓rx_if_icmp_ge, ↓rx_iload_n2, ↓rx_nil, ↓ry_fvs, ↓ry_fvz, ↓ry_i2, ↓ry_li0s, ↓ry_li0z, ↓ry_lr0s, ↓ry_lr0z, ↓ry_obu, ↓ry_r1, ↓rh_ob h1, ↓rh_ob o1, rz_set, rz_nol, rz_clr, List.set_cons_zero, List.set_cons_succ, rz_tr, Nat.reduceAdd, Int.reduceAdd, Int.reduceToNat, Int.reduceSub, Int.reduceNeg, Int.cast_ofNat_Int]
    refine ⟨fun c1 => hK _ _ _ _ ?_, fun c1 => hK _ _ _ _ ?_⟩
    · rw [nI_leI (by omega) (by omega)] at c1
      refine rz_blk' [(.iload_n 1, 1, 0, 0), (.ireturn, 1, 0, 0)] (by decide +kernel) (Nat.le_refl _) (Nat.le_refl _) (fun K R hK hR => ?_)
      simp only [↓rx_iload_n1, ↓rx_ireturn, ↓rx_nil, ↓ry_li0s, ↓ry_li0z, rz_set, rz_nol, rz_clr, List.set_cons_zero, List.set_cons_succ, rz_tr, Nat.reduceAdd, Int.reduceAdd, Int.reduceToNat, Int.reduceSub, Int.reduceNeg, Int.cast_ofNat_Int]
      rw [List.take_of_length_le (by omega)]
      exact hR _ _ (rz_nb_i (by decide)) (hQ xs G hG hfr)
    rw [nI_leI (by omega) (by omega)] at c1
    have hil : i < wn.length := by omega
    have hk := h6 _ (List.getElem_mem hil)
    refine rz_cS (As := [.ref (rd_n a b), .int (nI i), .ref (a + 8)]) (S := []) l_Read_74 (by decide +kernel) rfl (Nat.le_of_ble_eq_true rfl) (Nat.le_refl _) (Nat.le_refl _) (c_Read_loadWay h4 h6 hil h2 (by omega)) (fun r G' hq => ?_)
    obtain ⟨rfl, rfl⟩ := hq
    simp only [Option.toList, List.nil_append]
    obtain ⟨hG1, hfr1⟩ := rd_is_b hG (rd_wok4 hk)
    obtain ⟨-, j1, j2, j3, -⟩ := id hG1
    refine rz_blk' [(.aload_n 0, 1, 0, 0), (.getfield 32, 3, 3, 3), (.aload_n 0, 1, 0, 0), (.getfield 36, 3, 3, 4)] (by decide +kernel) (Nat.le_refl _) (Nat.le_refl _) (fun K R hK hR => ?_)
    simp only [↓rx_aload_n0, ↓rx_getfield, ↓rx_nil, ↓ry_fvs, ↓ry_fvz, ↓ry_lr0s, ↓ry_lr0z, ↓ry_obu, ↓ry_r1, ↓rh_ob j1, rz_set, rz_nol, rz_clr, List.set_cons_zero, List.set_cons_succ, rz_tr, Nat.reduceAdd, Int.reduceAdd, Int.reduceToNat, Int.reduceSub, Int.reduceNeg, Int.cast_ofNat_Int]
    refine hK _ _ _ _ ?_
    refine rz_cV (As := [.ref (a + 10)]) (b := a + 8) (S := []) l_Read_114 (by decide +kernel) rfl j2.1 rfl (Nat.le_of_ble_eq_true rfl) (Nat.le_refl _) (Nat.le_refl _) (c_Word_isBefore j2 j3 hk.2.2 hy8) (fun r G' hq => ?_)
    obtain ⟨rfl, rfl⟩ := hq
    simp only [Option.toList, List.cons_append, List.nil_append]
    have htk : rd_bef (wn.take (i + 1)) ys = rd_bef (wn.take i) ys + (if wd_bef wn[i].2 ys = true then 1 else 0) := by
      simp only [rd_bef]
      rw [List.take_succ, List.getElem?_eq_getElem hil, List.countP_append]
      simp [List.countP_cons]
    have hgo : ∀ k, k = rd_bef (wn.take (i + 1)) ys → rz_T w (d + 2) 0 0 m_Read_waysBefore 0 0 44 [some (.ref a), some (.int (nI k)), some (.int (nI i))] [] (wd_put G (a + 8) 4 wn[i].2) Q := by
      intro k hk
      refine rz_blk' [(.iinc 2 1, 3, 0, 0), (.goto (-43), 3, 0, 0)] (by decide +kernel) (Nat.le_refl _) (Nat.le_refl _) (fun K R hK hR => ?_)
      simp only [rw_c1, ↓rx_goto, ↓rx_iinc, ↓rx_nil, ↓ry_li0s, ↓ry_li0z, nI_add, rz_set, rz_nol, rz_clr, List.set_cons_zero, List.set_cons_succ, rz_tr, Nat.reduceAdd, Int.reduceAdd, Int.reduceToNat, Int.reduceSub, Int.reduceNeg, Int.cast_ofNat_Int]
      rw [hk]
      exact hK _ _ _ _ (ih (i + 1) _ _ (by omega) (by omega) hG1 (hfr.trans hfr1))
    by_cases c2 : wd_bef wn[i].2 ys = true
    · rw [if_pos c2]
      refine rz_blk' [(.ifCond .eq 6, 3, 0, 0), (.iinc 1 1, 3, 0, 0)] (by decide +kernel) (Nat.le_refl _) (Nat.le_refl _) (fun K R hK hR => ?_)
      simp only [rw_c1, ↓rx_ifCond_eq, ↓rx_iinc, ↓rx_nil, ↓ry_i1, ↓ry_li0s, ↓ry_li0z, nI_add, rz_set, rz_nol, rz_clr, List.set_cons_zero, List.set_cons_succ, rz_tr, Nat.reduceAdd, Int.reduceAdd, Int.reduceToNat, Int.reduceSub, Int.reduceNeg, Int.cast_ofNat_Int]
      refine ⟨fun c3 => absurd c3 (by decide), fun c3 => hK _ _ _ _ (hgo _ ?_)⟩
      rw [htk, if_pos c2]
    · rw [if_neg c2]
      refine rz_blk' [(.ifCond .eq 6, 3, 0, 0), (.iinc 1 1, 3, 0, 0)] (by decide +kernel) (Nat.le_refl _) (Nat.le_refl _) (fun K R hK hR => ?_)
      simp only [rw_c1, ↓rx_ifCond_eq, ↓rx_iinc, ↓rx_nil, ↓ry_i1, ↓ry_li0s, ↓ry_li0z, nI_add, rz_set, rz_nol, rz_clr, List.set_cons_zero, List.set_cons_succ, rz_tr, Nat.reduceAdd, Int.reduceAdd, Int.reduceToNat, Int.reduceSub, Int.reduceNeg, Int.cast_ofNat_Int]
      refine ⟨fun c3 => hK _ _ _ _ (hgo _ ?_), fun c3 => absurd trivial c3⟩
      rw [htk, if_neg c2]; rfl
set_option maxRecDepth 100000 in
set_option maxHeartbeats 4000000 in
/-- waysBefore() -/
theorem c_Read_waysBefore {w : rz_w} {d : Nat} {G : rz_G} {a : Nat} {b : Bool} {wn wt : List (Nat × List Nat)} {xs ys : List Nat} (h : rd_is G a b wn wt xs ys) (hy8 : ∀ x ∈ ys, x < 8) : rz_C w (d + 2) 0 0 y_Read_waysBefore m_Read_waysBefore [.ref a] G (fun q G' => q = some (.int (nI (rd_bef wn ys))) ∧ (∃ xs', rd_is G' a b wn wt xs' ys) ∧ rd_fr a G G') := by
  refine rz_enter' [some (.ref a), none, none] (by decide +kernel) rfl rfl (Nat.le_of_ble_eq_true rfl) rfl ?_
  refine rz_blk' [(.iconst 0, 1, 0, 0), (.istore_n 1, 1, 0, 0)] (by decide +kernel) (Nat.le_refl _) (Nat.le_refl _) (fun K R hK hR => ?_)
  simp only [rw_c0, ↓rx_iconst, ↓rx_istore_n1, ↓rx_nil, ↓ry_i1, rz_set, rz_nol, rz_clr, List.set_cons_zero, List.set_cons_succ, rz_tr, Nat.reduceAdd, Int.reduceAdd, Int.reduceToNat, Int.reduceSub, Int.reduceNeg, Int.cast_ofNat_Int]
  refine hK _ _ _ _ ?_
  refine rz_blk' [(.iconst 0, 1, 0, 0), (.istore_n 2, 1, 0, 0)] (by decide +kernel) (Nat.le_refl _) (Nat.le_refl _) (fun K R hK hR => ?_)
  simp only [rw_c0, ↓rx_iconst, ↓rx_istore_n2, ↓rx_nil, ↓ry_i1, rz_set, rz_nol, rz_clr, List.set_cons_zero, List.set_cons_succ, rz_tr, Nat.reduceAdd, Int.reduceAdd, Int.reduceToNat, Int.reduceSub, Int.reduceNeg, Int.cast_ofNat_Int]
  exact hK _ _ _ _ (rd_wb_l hy8 (fun xs' G' h1 h2 => ⟨rfl, ⟨xs', h1⟩, h2⟩) (wn.length + 1) 0 xs G (by omega) (by omega) h (fun _ _ => rfl))

/-- the word that so many of the ways' words come before; the last one, when there are several -/
def rd_out (ws : List (Nat × List Nat)) (k : Int32) : Nat → List Nat
  | 0 => []
  | i + 1 => match ws[i]? with
    | some v => if nI (rd_bef ws v.2) = k then v.2 else rd_out ws k i
    | none => rd_out ws k i
def rd_io (a v : Nat) (G G' : rz_G) : Prop := ∀ x, x < a ∨ a + 12 ≤ x → x ≠ v → x ≠ v + 1 → G' x = G x
theorem rd_out48 {ws : List (Nat × List Nat)} {k : Int32} (hws : ∀ v ∈ ws, rd_wok v) : ∀ i, (rd_out ws k i).length ≤ 48 ∧ ∀ x ∈ rd_out ws k i, x < 8
  | 0 => by simp [rd_out]
  | i + 1 => by
    simp only [rd_out]
    split
    · next v hv =>
      split
      · have := hws v (List.mem_of_getElem? hv); exact this.2
      · exact rd_out48 hws i
    · exact rd_out48 hws i
set_option maxRecDepth 100000 in
set_option maxHeartbeats 4000000 in
theorem rd_to_l {w : rz_w} {d : Nat} {a v c : Nat} (hc : 4 ≤ c) (hc3 : c ≤ 300) (k : Int32) {b : Bool} {wn wt : List (Nat × List Nat)} (hva : v + 1 < a ∨ a + 12 ≤ v) {G0 : rz_G} {Q : Option Value → rz_G → Prop} (hQ : ∀ xs ys G', rd_is G' a b wn wt xs ys → wd_is G' v c (rd_out wn k wn.length) → rd_io a v G0 G' → Q none G') :
    ∀ (n i : Nat) (xs ys : List Nat) (G : rz_G), wn.length + 1 ≤ i + n → i ≤ wn.length → rd_is G a b wn wt xs ys → wd_is G v c (rd_out wn k i) → rd_io a v G0 G → rz_T w (d + 3) 0 0 m_Read_tellOutput 0 0 22 [some (.ref a), some (.int k), some (.ref v), some (.int (nI i))] [] G Q := by
  intro n
  induction n with
  | zero => intro i xs ys G h1 h2; omega
  | succ n ih =>
    intro i xs ys G hn hi hG hv hfr
    obtain ⟨⟨g, h0⟩, h1, h2, h3, h4, h5, h6, h7⟩ := id hG
    have hl := rd_len h4
    have hnt := rd_nt a b
    obtain ⟨f, sl, o1, -⟩ := id h4
    rw [List.length_map] at o1
    refine rz_blk' [(.iload_n 3, 1, 0, 0), (.aload_n 0, 1, 0, 0), (.getfield 14, 3, 3, 0), (.getfield 71, 3, 1, 4), (.if_icmp .ge 37, 3, 0, 0), (.aload_n 0, 1, 0, 0), (.getfield 14, 3, 3, 0), (.iload_n 3, 1, 0, 0), (.aload_n 0, 1, 0, 0), (.getfield 36, 3, 3, 4)] (by decide +kernel) (Nat.le_refl _) (Nat.le_refl _) (fun K R hK hR => ?_)
    simp only [↓rx_aload_n0, ↓rx_getfield, ↓rx_if_icmp_ge, ↓rx_iload_n3, ↓rx_nil, ↓ry_fvs, ↓ry_fvz, ↓ry_i2, ↓ry_li0s, ↓ry_li0z, ↓ry_lr0s, ↓ry_lr0z, ↓ry_obu, ↓ry_r1, ↓rh_ob h1, ↓rh_ob o1, rz_set, rz_nol, rz_clr, List.set_cons_zero, List.set_cons_succ, rz_tr, Nat.reduceAdd, Int.reduceAdd, Int.reduceToNat, Int.reduceSub, Int.reduceNeg, Int.cast_ofNat_Int]
    refine ⟨fun c1 => hK _ _ _ _ ?_, fun c1 => hK _ _ _ _ ?_⟩
    · rw [nI_leI (by omega) (by omega)] at c1
      refine rz_blk' [(.return_, 1, 0, 0)] (by decide +kernel) (Nat.le_refl _) (Nat.le_refl _) (fun K R hK hR => ?_)
      simp only [↓rx_nil, ↓rx_return_, rz_set, rz_nol, rz_clr, List.set_cons_zero, List.set_cons_succ, rz_tr, Nat.reduceAdd, Int.reduceAdd, Int.reduceToNat, Int.reduceSub, Int.reduceNeg, Int.cast_ofNat_Int]
      rw [show i = wn.length by omega] at hv
      exact hR _ _ (rz_nb_i (by decide)) (hQ xs ys G hG hv hfr)
    rw [nI_leI (by omega) (by omega)] at c1
    have hil : i < wn.length := by omega
    have hk := h6 _ (List.getElem_mem hil)
    refine rz_cS (As := [.ref (rd_n a b), .int (nI i), .ref (a + 10)]) (S := []) l_Read_74 (by decide +kernel) rfl (Nat.le_of_ble_eq_true rfl) (Nat.le_refl _) (Nat.le_refl _) (c_Read_loadWay h4 h6 hil h3 (by omega)) (fun r G' hq => ?_)
    obtain ⟨rfl, rfl⟩ := hq
    simp only [Option.toList, List.nil_append]
    obtain ⟨hG1, hfr1⟩ := rd_is_w hG (rd_wok4 hk)
    have hv1 : wd_is (wd_put G (a + 10) 4 wn[i].2) v c (rd_out wn k i) := wd_is_keep hv (hfr1 _ (by omega)) (hfr1 _ (by omega))
    generalize hGe : wd_put G (a + 10) 4 wn[i].2 = G1 at hG1 hfr1 hv1
    obtain ⟨-, j1, j2, j3, -⟩ := id hG1
    refine rz_blk' [(.aload_n 0, 1, 0, 0)] (by decide +kernel) (Nat.le_refl _) (Nat.le_refl _) (fun K R hK hR => ?_)
    simp only [↓rx_aload_n0, ↓rx_nil, ↓ry_lr0s, ↓ry_lr0z, rz_set, rz_nol, rz_clr, List.set_cons_zero, List.set_cons_succ, rz_tr, Nat.reduceAdd, Int.reduceAdd, Int.reduceToNat, Int.reduceSub, Int.reduceNeg, Int.cast_ofNat_Int]
    refine hK _ _ _ _ ?_
    refine rz_cV (As := []) (b := a) (S := []) l_Read_110 (by decide +kernel) rfl j1 rfl (Nat.le_of_ble_eq_true rfl) (Nat.le_refl _) (Nat.le_refl _) (c_Read_waysBefore hG1 hk.2.2) (fun r G' hq => ?_)
    obtain ⟨rfl, ⟨xs2, hG2⟩, hfr2⟩ := hq
    simp only [Option.toList, List.cons_append, List.nil_append]
    have hv2 : wd_is G' v c (rd_out wn k i) := wd_is_keep hv1 (hfr2 _ (by omega)) (hfr2 _ (by omega))
    have hio2 : rd_io a v G0 G' := fun x x1 x2 x3 => by rw [hfr2 x x1, hfr1 x x1]; exact hfr x x1 x2 x3
    obtain ⟨-, p1, p2, p3, -⟩ := id hG2
    have hstep : rd_out wn k (i + 1) = if nI (rd_bef wn wn[i].2) = k then wn[i].2 else rd_out wn k i := by
      simp only [rd_out, List.getElem?_eq_getElem hil]
    have hgo : ∀ (xs ys : List Nat) (G3 : rz_G), rd_is G3 a b wn wt xs ys → wd_is G3 v c (rd_out wn k (i + 1)) → rd_io a v G0 G3 → rz_T w (d + 3) 0 0 m_Read_tellOutput 0 0 61 [some (.ref a), some (.int k), some (.ref v), some (.int (nI i))] [] G3 Q := by
      intro xs ys G3 q1 q2 q3
      refine rz_blk' [(.iinc 3 1, 3, 0, 0), (.goto (-42), 3, 0, 0)] (by decide +kernel) (Nat.le_refl _) (Nat.le_refl _) (fun K R hK hR => ?_)
      simp only [rw_c1, ↓rx_goto, ↓rx_iinc, ↓rx_nil, ↓ry_li0s, ↓ry_li0z, nI_add, rz_set, rz_nol, rz_clr, List.set_cons_zero, List.set_cons_succ, rz_tr, Nat.reduceAdd, Int.reduceAdd, Int.reduceToNat, Int.reduceSub, Int.reduceNeg, Int.cast_ofNat_Int]
      exact hK _ _ _ _ (ih (i + 1) xs ys G3 (by omega) (by omega) q1 q2 q3)
    refine rz_blk' [(.iload_n 1, 1, 0, 0), (.if_icmp .ne 11, 3, 0, 0), (.aload_n 2, 1, 0, 0), (.aload_n 0, 1, 0, 0), (.getfield 36, 3, 3, 4)] (by decide +kernel) (Nat.le_refl _) (Nat.le_refl _) (fun K R hK hR => ?_)
    simp only [↓rx_aload_n0, ↓rx_aload_n2, ↓rx_getfield, ↓rx_if_icmp_ne, ↓rx_iload_n1, ↓rx_nil, ↓ry_fvs, ↓ry_fvz, ↓ry_i2, ↓ry_li0s, ↓ry_li0z, ↓ry_lr0s, ↓ry_lr0z, ↓ry_obu, ↓ry_r1, ↓rh_ob p1, rz_set, rz_nol, rz_clr, List.set_cons_zero, List.set_cons_succ, rz_tr, Nat.reduceAdd, Int.reduceAdd, Int.reduceToNat, Int.reduceSub, Int.reduceNeg, Int.cast_ofNat_Int]
    refine ⟨fun c2 => hK _ _ _ _ (hgo _ _ _ hG2 (by rw [hstep, if_neg c2]; exact hv2) hio2), fun c2 => hK _ _ _ _ ?_⟩
    refine rz_cV (As := [.ref (a + 10)]) (b := v) (S := []) l_Read_51 (by decide +kernel) rfl hv2.1 rfl (Nat.le_of_ble_eq_true rfl) (Nat.le_refl _) (Nat.le_refl _) (c_Word_copy hv2 p3 (by omega)) (fun r G' hq => ?_)
    obtain ⟨rfl, rfl⟩ := hq
    simp only [Option.toList, List.nil_append]
    rw [if_pos (by have := hk.2.1; omega)]
    have hn3 : ∀ x, x ≠ v → x ≠ v + 1 → wd_put G' v c wn[i].2 x = G' x := fun x a1 a2 => wd_put_n a1 a2
    refine hgo xs2 wn[i].2 _ ?_ ?_ ?_
    · obtain ⟨⟨g2, q0⟩, q1, q2, q3, q4, q5, q6, q7⟩ := id hG2
      exact ⟨⟨g2, by rw [hn3 _ (by omega) (by omega)]; exact q0⟩, by rw [hn3 _ (by omega) (by omega)]; exact q1, wd_is_keep q2 (hn3 _ (by omega) (by omega)) (hn3 _ (by omega) (by omega)), wd_is_keep q3 (hn3 _ (by omega) (by omega)) (hn3 _ (by omega) (by omega)), rw_is_keep q4 (hn3 _ (by omega) (by omega)) (hn3 _ (by omega) (by omega)) (hn3 _ (by omega) (by omega)), rw_is_keep q5 (hn3 _ (by omega) (by omega)) (hn3 _ (by omega) (by omega)) (hn3 _ (by omega) (by omega)), q6, q7⟩
    · rw [hstep, if_pos c2]
      exact wd_put_is ⟨by have := hk.2.1; omega, fun x hx => by have := hk.2.2 x hx; omega, hc3⟩
    · intro x x1 x2 x3
      rw [hn3 x x2 x3]; exact hio2 x x1 x2 x3

set_option maxRecDepth 100000 in
set_option maxHeartbeats 4000000 in
/-- tellOutput(k, into): output k of the ways' words, or nothing -/
theorem c_Read_tellOutput {w : rz_w} {d : Nat} {G : rz_G} {a v c : Nat} (hc : 4 ≤ c) (k : Int32) {b : Bool} {wn wt : List (Nat × List Nat)} {xs ys zs : List Nat} (h : rd_is G a b wn wt xs ys) (hv : wd_is G v c zs) (hva : v + 1 < a ∨ a + 12 ≤ v) : rz_C w (d + 3) 0 0 y_Read_tellOutput m_Read_tellOutput [.ref a, .int k, .ref v] G (fun q G' => q = none ∧ (∃ xs ys, rd_is G' a b wn wt xs ys) ∧ wd_is G' v c (if k < 0 ∨ nI wn.length ≤ k then [] else rd_out wn k wn.length) ∧ rd_io a v G G') := by
  have hc3 : c ≤ 300 := hv.2.2.2.2
  refine rz_enter' [some (.ref a), some (.int k), some (.ref v), none] (by decide +kernel) rfl rfl (Nat.le_of_ble_eq_true rfl) rfl ?_
  refine rz_blk' [(.aload_n 2, 1, 0, 0)] (by decide +kernel) (Nat.le_refl _) (Nat.le_refl _) (fun K R hK hR => ?_)
  simp only [↓rx_aload_n2, ↓rx_nil, ↓ry_lr0s, ↓ry_lr0z, rz_set, rz_nol, rz_clr, List.set_cons_zero, List.set_cons_succ, rz_tr, Nat.reduceAdd, Int.reduceAdd, Int.reduceToNat, Int.reduceSub, Int.reduceNeg, Int.cast_ofNat_Int]
  refine hK _ _ _ _ ?_
  refine rz_cV (As := []) (b := v) (S := []) l_Read_109 (by decide +kernel) rfl hv.1 rfl (Nat.le_of_ble_eq_true rfl) (Nat.le_refl _) (Nat.le_refl _) (c_Word_clear hv) (fun r G' hq => ?_)
  obtain ⟨rfl, rfl⟩ := hq
  simp only [Option.toList, List.nil_append]
  have hv1 : wd_is (wd_put G v c []) v c [] := wd_put_is ⟨by simp, by simp, hc3⟩
  have hn3 : ∀ x, x ≠ v → x ≠ v + 1 → wd_put G v c [] x = G x := fun x a1 a2 => wd_put_n a1 a2
  have hnt := rd_nt a b
  have hG1 : rd_is (wd_put G v c []) a b wn wt xs ys := by
    obtain ⟨⟨g2, q0⟩, q1, q2, q3, q4, q5, q6, q7⟩ := id h
    exact ⟨⟨g2, by rw [hn3 _ (by omega) (by omega)]; exact q0⟩, by rw [hn3 _ (by omega) (by omega)]; exact q1, wd_is_keep q2 (hn3 _ (by omega) (by omega)) (hn3 _ (by omega) (by omega)), wd_is_keep q3 (hn3 _ (by omega) (by omega)) (hn3 _ (by omega) (by omega)), rw_is_keep q4 (hn3 _ (by omega) (by omega)) (hn3 _ (by omega) (by omega)) (hn3 _ (by omega) (by omega)), rw_is_keep q5 (hn3 _ (by omega) (by omega)) (hn3 _ (by omega) (by omega)) (hn3 _ (by omega) (by omega)), q6, q7⟩
  have hio : rd_io a v G (wd_put G v c []) := fun x _ x2 x3 => hn3 x x2 x3
  generalize wd_put G v c [] = G1 at hv1 hG1 hio
  obtain ⟨-, j1, j2, j3, j4, -⟩ := id hG1
  obtain ⟨f, sl, o1, -⟩ := id j4
  rw [List.length_map] at o1
  have hend : (k < 0 ∨ nI wn.length ≤ k) → rz_T w (d + 3) 0 0 m_Read_tellOutput 0 0 19 [some (.ref a), some (.int k), some (.ref v), none] [] G1 (fun q G' => q = none ∧ (∃ xs ys, rd_is G' a b wn wt xs ys) ∧ wd_is G' v c (if k < 0 ∨ nI wn.length ≤ k then [] else rd_out wn k wn.length) ∧ rd_io a v G G') := by
    intro q
    refine rz_blk' [(.return_, 1, 0, 0)] (by decide +kernel) (Nat.le_refl _) (Nat.le_refl _) (fun K R hK hR => ?_)
    simp only [↓rx_nil, ↓rx_return_, rz_set, rz_nol, rz_clr, List.set_cons_zero, List.set_cons_succ, rz_tr, Nat.reduceAdd, Int.reduceAdd, Int.reduceToNat, Int.reduceSub, Int.reduceNeg, Int.cast_ofNat_Int]
    exact hR _ _ (rz_nb_i (by decide)) ⟨rfl, ⟨xs, ys, hG1⟩, by rw [if_pos q]; exact hv1, hio⟩
  refine rz_blk' [(.iload_n 1, 1, 0, 0), (.ifCond .lt 14, 3, 0, 0), (.iload_n 1, 1, 0, 0), (.aload_n 0, 1, 0, 0), (.getfield 14, 3, 3, 0), (.getfield 71, 3, 1, 4), (.if_icmp .lt 4, 3, 0, 0)] (by decide +kernel) (Nat.le_refl _) (Nat.le_refl _) (fun K R hK hR => ?_)
  simp only [↓rx_aload_n0, ↓rx_getfield, ↓rx_ifCond_lt, ↓rx_if_icmp_lt, ↓rx_iload_n1, ↓rx_nil, ↓ry_fvs, ↓ry_fvz, ↓ry_i1, ↓ry_i2, ↓ry_li0s, ↓ry_li0z, ↓ry_lr0s, ↓ry_lr0z, ↓ry_obu, ↓ry_r1, ↓rh_ob j1, ↓rh_ob o1, rz_set, rz_nol, rz_clr, List.set_cons_zero, List.set_cons_succ, rz_tr, Nat.reduceAdd, Int.reduceAdd, Int.reduceToNat, Int.reduceSub, Int.reduceNeg, Int.cast_ofNat_Int]
  refine ⟨fun c1 => hK _ _ _ _ (hend (Or.inl c1)), fun c1 => ⟨fun c2 => hK _ _ _ _ ?_, fun c2 => hK _ _ _ _ (hend (Or.inr (by rw [← Int32.not_lt]; exact c2)))⟩⟩
  refine rz_blk' [(.iconst 0, 1, 0, 0), (.istore_n 3, 1, 0, 0)] (by decide +kernel) (Nat.le_refl _) (Nat.le_refl _) (fun K R hK hR => ?_)
  simp only [rw_c0, ↓rx_iconst, ↓rx_istore_n3, ↓rx_nil, ↓ry_i1, rz_set, rz_nol, rz_clr, List.set_cons_zero, List.set_cons_succ, rz_tr, Nat.reduceAdd, Int.reduceAdd, Int.reduceToNat, Int.reduceSub, Int.reduceNeg, Int.cast_ofNat_Int]
  have hno : ¬ (k < 0 ∨ nI wn.length ≤ k) := fun q => by
    rcases q with q | q
    · exact c1 q
    · exact absurd c2 (by rw [Int32.not_lt]; exact q)
  refine hK _ _ _ _ (rd_to_l hc hc3 k hva (fun xs ys G' q1 q2 q3 => ⟨rfl, ⟨xs, ys, q1⟩, by rw [if_neg hno]; exact q2, q3⟩) (wn.length + 1) 0 xs ys G1 (by omega) (by omega) hG1 hv1 hio)

