/-! machines as values: (states, edges (from, letter, to, word), final words, first word); sets of states as numbers below 64 -/
abbrev mv_T : Type := Nat × List (Nat × Nat × Nat × List Nat) × (Nat → Option (List Nat)) × List Nat
/-- the object holds the value; cl is the set of states with a final word -/
def mv_is (I : Nat → Int32) (A : Nat → Nat → Int32) (X : Nat → List Nat) (m : mv_T) (cl : Nat) : Prop :=
  I 0 = nI m.1 ∧ 1 ≤ m.1 ∧ m.1 ≤ 6 ∧ I 1 = nI m.2.1.length ∧ m.2.1.length ≤ 24 ∧
  (∀ e (h : e < m.2.1.length), A 0 e = nI m.2.1[e].1 ∧ A 1 e = nI m.2.1[e].2.1 ∧ A 2 e = nI m.2.1[e].2.2.1 ∧ X e = m.2.1[e].2.2.2 ∧ m.2.1[e].1 < m.1 ∧ m.2.1[e].2.1 < 3 ∧ m.2.1[e].2.2.1 < m.1) ∧
  I 2 = nI cl ∧ cl < 64 ∧ (∀ q, q < 6 → (cl.testBit q = true ↔ (m.2.2.1 q).isSome = true)) ∧ (∀ q, m.1 ≤ q → m.2.2.1 q = none) ∧ (∀ q, q < 6 → ∀ xs, m.2.2.1 q = some xs → X (24 + q) = xs) ∧ X 30 = m.2.2.2 ∧ mc_ww X
theorem hp_bit : ∀ q, q < 6 → nI 1 <<< (nI q &&& 31) = nI (2 ^ q) := by decide +kernel
theorem hp_ors : ∀ s, s < 64 → ∀ q, q < 6 → nI s ||| nI (2 ^ q) = nI (s ||| 2 ^ q) := by decide +kernel
theorem hp_ands : ∀ s, s < 64 → ∀ t, t < 64 → nI s &&& nI t = nI (s &&& t) := by decide +kernel
theorem hp_clrs : ∀ s, s < 64 → ∀ q, q < 6 → nI s &&& (nI (2 ^ q) ^^^ (-1)) = nI (s &&& (63 - 2 ^ q)) := by decide +kernel
theorem hp_or64 : ∀ s, s < 64 → ∀ q, q < 6 → s ||| 2 ^ q < 64 := by decide +kernel
theorem hp_and64 {s t : Nat} (h : s < 64) : s &&& t < 64 := Nat.lt_of_le_of_lt Nat.and_le_left h
set_option maxRecDepth 100000 in
set_option maxHeartbeats 4000000 in
/-- giveClosing(state) -/
theorem c_Mach_giveClosing {w : rz_w} {d : Nat} {G : rz_G} {a : Nat} {I : Nat → Int32} {A : Nat → Nat → Int32} {J : Nat → Nat → Int64} {X : Nat → List Nat} {P : Nat → Nat} {cl q : Nat} (hI : I 2 = nI cl) (hc : cl < 64) (hq : q < 6) : rz_C w d 0 0 y_Mach_giveClosing m_Mach_giveClosing [.ref a, .int (nI q)] (mc_put G a I A J X P) (fun r G' => r = none ∧ G' = mc_put G a (upd (upd I 2 (nI (cl ||| 2 ^ q))) 3 (nI 0)) A J X P) := by
  refine rz_enter' [some (.ref a), some (.int (nI q))] (by decide +kernel) rfl rfl (Nat.le_of_ble_eq_true rfl) rfl ?_
  refine rz_blk' [(.aload_n 0, 1, 0, 0), (.dup, 1, 0, 0), (.getfield 44, 3, 2, 8), (.iconst 1, 1, 0, 0), (.iload_n 1, 1, 0, 0), (.ishl, 1, 0, 0), (.ior, 1, 0, 0), (.putfield 44, 3, 2, 8)] (by decide +kernel) (Nat.le_refl _) (Nat.le_refl _) (fun K R hK hR => ?_)
  simp only [List.length_cons, List.length_nil, Nat.reduceLT, rf_2_8, rw_c1, ↓rx_aload_n0, ↓rx_dup, ↓rx_getfield, ↓rx_iconst, ↓rx_iload_n1, ↓rx_ior, ↓rx_ishl, ↓rx_nil, ↓rx_putfield, ↓ry_fvs, ↓ry_fvz, ↓ry_i2, ↓ry_li0s, ↓ry_li0z, ↓ry_lr0s, ↓ry_lr0z, ↓ry_obu, ↓ry_r1, ↓ry_v1i, ↓ry_v1r, ↓ry_vr, true_and, ↓mc_ob, ↓mc_i1, ↓mc_n1, ↓mc_i2, ↓mc_n2, ↓mc_i3, ↓mc_n3, ↓mc_r4, ↓mc_r7, ↓mc_i8, ↓mc_n8, ↓mc_i9, ↓mc_n9, mc_u8, hI, rz_set, rz_nol, rz_clr, List.set_cons_zero, List.set_cons_succ, rz_tr, Nat.reduceAdd, Int.reduceAdd, Int.reduceToNat, Int.reduceSub, Int.reduceNeg, Int.cast_ofNat_Int]
  rw [hp_bit q hq, hp_ors cl hc q hq]
  refine hK _ _ _ _ ?_
  refine rz_blk' [(.aload_n 0, 1, 0, 0), (.iconst 0, 1, 0, 0), (.putfield 47, 3, 2, 9), (.return_, 1, 0, 0)] (by decide +kernel) (Nat.le_refl _) (Nat.le_refl _) (fun K R hK hR => ?_)
  simp only [List.length_cons, List.length_nil, Nat.reduceLT, rf_2_9, rf_2_9t, rw_c0, ↓rx_aload_n0, ↓rx_iconst, ↓rx_nil, ↓rx_putfield, ↓rx_return_, ↓ry_lr0s, ↓ry_lr0z, ↓ry_obu, ↓ry_vr, true_and, ↓mc_ob, ↓mc_i1, ↓mc_n1, ↓mc_i2, ↓mc_n2, ↓mc_i3, ↓mc_n3, ↓mc_r4, ↓mc_r7, ↓mc_i8, ↓mc_n8, ↓mc_i9, ↓mc_n9, mc_u9, rz_set, rz_nol, rz_clr, List.set_cons_zero, List.set_cons_succ, rz_tr, Nat.reduceAdd, Int.reduceAdd, Int.reduceToNat, Int.reduceSub, Int.reduceNeg, Int.cast_ofNat_Int]
  exact hR _ _ (rz_nb_i (by decide)) ⟨rfl, rfl⟩
set_option maxRecDepth 100000 in
set_option maxHeartbeats 4000000 in
/-- takeClosing(state) -/
theorem c_Mach_takeClosing {w : rz_w} {d : Nat} {G : rz_G} {a : Nat} {I : Nat → Int32} {A : Nat → Nat → Int32} {J : Nat → Nat → Int64} {X : Nat → List Nat} {P : Nat → Nat} {cl q : Nat} (hI : I 2 = nI cl) (hc : cl < 64) (hq : q < 6) : rz_C w d 0 0 y_Mach_takeClosing m_Mach_takeClosing [.ref a, .int (nI q)] (mc_put G a I A J X P) (fun r G' => r = none ∧ G' = mc_put G a (upd (upd I 2 (nI (cl &&& (63 - 2 ^ q)))) 3 (nI 0)) A J X P) := by
  refine rz_enter' [some (.ref a), some (.int (nI q))] (by decide +kernel) rfl rfl (Nat.le_of_ble_eq_true rfl) rfl ?_
  refine rz_blk' [(.aload_n 0, 1, 0, 0), (.dup, 1, 0, 0), (.getfield 44, 3, 2, 8), (.iconst 1, 1, 0, 0), (.iload_n 1, 1, 0, 0), (.ishl, 1, 0, 0), (.iconst (-1), 1, 0, 0), (.ixor, 1, 0, 0), (.iand, 1, 0, 0), (.putfield 44, 3, 2, 8)] (by decide +kernel) (Nat.le_refl _) (Nat.le_refl _) (fun K R hK hR => ?_)
  simp only [List.length_cons, List.length_nil, Nat.reduceLT, rf_2_8, rw_c1, rw_cm1, ↓rx_aload_n0, ↓rx_dup, ↓rx_getfield, ↓rx_iand, ↓rx_iconst, ↓rx_iload_n1, ↓rx_ishl, ↓rx_ixor, ↓rx_nil, ↓rx_putfield, ↓ry_fvs, ↓ry_fvz, ↓ry_i2, ↓ry_li0s, ↓ry_li0z, ↓ry_lr0s, ↓ry_lr0z, ↓ry_obu, ↓ry_r1, ↓ry_v1i, ↓ry_v1r, ↓ry_vr, true_and, ↓mc_ob, ↓mc_i1, ↓mc_n1, ↓mc_i2, ↓mc_n2, ↓mc_i3, ↓mc_n3, ↓mc_r4, ↓mc_r7, ↓mc_i8, ↓mc_n8, ↓mc_i9, ↓mc_n9, mc_u8, hI, rz_set, rz_nol, rz_clr, List.set_cons_zero, List.set_cons_succ, rz_tr, Nat.reduceAdd, Int.reduceAdd, Int.reduceToNat, Int.reduceSub, Int.reduceNeg, Int.cast_ofNat_Int]
  rw [hp_bit q hq, hp_clrs cl hc q hq]
  refine hK _ _ _ _ ?_
  refine rz_blk' [(.aload_n 0, 1, 0, 0), (.iconst 0, 1, 0, 0), (.putfield 47, 3, 2, 9), (.return_, 1, 0, 0)] (by decide +kernel) (Nat.le_refl _) (Nat.le_refl _) (fun K R hK hR => ?_)
  simp only [List.length_cons, List.length_nil, Nat.reduceLT, rf_2_9, rf_2_9t, rw_c0, ↓rx_aload_n0, ↓rx_iconst, ↓rx_nil, ↓rx_putfield, ↓rx_return_, ↓ry_lr0s, ↓ry_lr0z, ↓ry_obu, ↓ry_vr, true_and, ↓mc_ob, ↓mc_i1, ↓mc_n1, ↓mc_i2, ↓mc_n2, ↓mc_i3, ↓mc_n3, ↓mc_r4, ↓mc_r7, ↓mc_i8, ↓mc_n8, ↓mc_i9, ↓mc_n9, mc_u9, rz_set, rz_nol, rz_clr, List.set_cons_zero, List.set_cons_succ, rz_tr, Nat.reduceAdd, Int.reduceAdd, Int.reduceToNat, Int.reduceSub, Int.reduceNeg, Int.cast_ofNat_Int]
  exact hR _ _ (rz_nb_i (by decide)) ⟨rfl, rfl⟩
set_option maxRecDepth 100000 in
set_option maxHeartbeats 4000000 in
/-- isClosing(state) -/
theorem c_Mach_isClosing {w : rz_w} {d : Nat} {G : rz_G} {a : Nat} {I : Nat → Int32} {A : Nat → Nat → Int32} {J : Nat → Nat → Int64} {X : Nat → List Nat} {P : Nat → Nat} {cl al q : Nat} (hI : I 2 = nI cl) (hc : cl < 64) (hI4 : I 4 = nI al) (ha : al < 64) (hq : q < 32) : rz_C w d 0 0 y_Mach_isClosing m_Mach_isClosing [.ref a, .int (nI q)] (mc_put G a I A J X P) (fun r G' => r = some (.int (if (cl &&& al).testBit q then 1 else 0)) ∧ G' = (mc_put G a I A J X P)) := by
  refine rz_enter' [some (.ref a), some (.int (nI q))] (by decide +kernel) rfl rfl (Nat.le_of_ble_eq_true rfl) rfl ?_
  have hs : cl &&& al < 64 := hp_and64 hc
  have hb : ((cl &&& al).testBit q = true) ↔ (cl &&& al) / 2 ^ q % 2 = 1 := by rw [Nat.testBit_eq_decide_div_mod_eq]; simp
  refine rz_blk' [(.aload_n 0, 1, 0, 0), (.getfield 44, 3, 2, 8), (.aload_n 0, 1, 0, 0), (.getfield 51, 3, 2, 10), (.iand, 1, 0, 0), (.iload_n 1, 1, 0, 0), (.iushr, 1, 0, 0), (.iconst 1, 1, 0, 0), (.iand, 1, 0, 0), (.ifCond .eq 7, 3, 0, 0), (.iconst 1, 1, 0, 0), (.goto 4, 3, 0, 0)] (by decide +kernel) (Nat.le_refl _) (Nat.le_refl _) (fun K R hK hR => ?_)
  simp only [rw_c1, ↓rx_aload_n0, ↓rx_getfield, ↓rx_goto, ↓rx_iand, ↓rx_iconst, ↓rx_ifCond_eq, ↓rx_iload_n1, ↓rx_iushr, ↓rx_nil, ↓ry_fvs, ↓ry_fvz, ↓ry_i1, ↓ry_i2, ↓ry_li0s, ↓ry_li0z, ↓ry_lr0s, ↓ry_lr0z, ↓ry_obu, ↓ry_r1, ↓mc_ob, ↓mc_i1, ↓mc_n1, ↓mc_i2, ↓mc_n2, ↓mc_i3, ↓mc_n3, ↓mc_r4, ↓mc_r7, ↓mc_i8, ↓mc_n8, ↓mc_i9, ↓mc_n9, hI, hI4, rz_set, rz_nol, rz_clr, List.set_cons_zero, List.set_cons_succ, rz_tr, Nat.reduceAdd, Int.reduceAdd, Int.reduceToNat, Int.reduceSub, Int.reduceNeg, Int.cast_ofNat_Int]
  rw [hp_ands cl hc al ha, hp_ushr _ hq, hp_bN (by omega), hp_and1 _ (by have := Nat.div_le_self (cl &&& al) (2 ^ q); omega), hp_z, nI_eq (by omega) (by omega)]
  refine ⟨fun c1 => hK _ _ _ _ ?_, fun c1 => hK _ _ _ _ ?_⟩
  ·
    refine rz_blk' [(.iconst 0, 1, 0, 0), (.ireturn, 1, 0, 0)] (by decide +kernel) (Nat.le_refl _) (Nat.le_refl _) (fun K R hK hR => ?_)
    simp only [rw_c0, ↓rx_iconst, ↓rx_ireturn, ↓rx_nil, ↓mc_ob, ↓mc_i1, ↓mc_n1, ↓mc_i2, ↓mc_n2, ↓mc_i3, ↓mc_n3, ↓mc_r4, ↓mc_r7, ↓mc_i8, ↓mc_n8, ↓mc_i9, ↓mc_n9, rz_set, rz_nol, rz_clr, List.set_cons_zero, List.set_cons_succ, rz_tr, Nat.reduceAdd, Int.reduceAdd, Int.reduceToNat, Int.reduceSub, Int.reduceNeg, Int.cast_ofNat_Int]
    exact hR _ _ rz_nb_0 ⟨by rw [if_neg (by rw [hb]; omega)]; rfl, rfl⟩
  ·
    refine rz_blk' [(.ireturn, 1, 0, 0)] (by decide +kernel) (Nat.le_refl _) (Nat.le_refl _) (fun K R hK hR => ?_)
    simp only [↓rx_ireturn, ↓rx_nil, ↓mc_ob, ↓mc_i1, ↓mc_n1, ↓mc_i2, ↓mc_n2, ↓mc_i3, ↓mc_n3, ↓mc_r4, ↓mc_r7, ↓mc_i8, ↓mc_n8, ↓mc_i9, ↓mc_n9, rz_set, rz_nol, rz_clr, List.set_cons_zero, List.set_cons_succ, rz_tr, Nat.reduceAdd, Int.reduceAdd, Int.reduceToNat, Int.reduceSub, Int.reduceNeg, Int.cast_ofNat_Int]
    exact hR _ _ rz_nb_1 ⟨by rw [if_pos (by rw [hb]; omega)]; rfl, rfl⟩
set_option maxRecDepth 100000 in
set_option maxHeartbeats 4000000 in
/-- accepts(set) -/
theorem c_Mach_accepts {w : rz_w} {d : Nat} {G : rz_G} {a : Nat} {I : Nat → Int32} {A : Nat → Nat → Int32} {J : Nat → Nat → Int64} {X : Nat → List Nat} {P : Nat → Nat} {cl al s : Nat} (hI : I 2 = nI cl) (hc : cl < 64) (hI4 : I 4 = nI al) (ha : al < 64) (hs : s < 64) : rz_C w d 0 0 y_Mach_accepts m_Mach_accepts [.ref a, .int (nI s)] (mc_put G a I A J X P) (fun r G' => r = some (.int (if s &&& cl &&& al = 0 then 0 else 1)) ∧ G' = (mc_put G a I A J X P)) := by
  refine rz_enter' [some (.ref a), some (.int (nI s))] (by decide +kernel) rfl rfl (Nat.le_of_ble_eq_true rfl) rfl ?_
  have h1 : s &&& cl < 64 := hp_and64 hs
  have h2 : s &&& cl &&& al < 64 := hp_and64 h1
  refine rz_blk' [(.iload_n 1, 1, 0, 0), (.aload_n 0, 1, 0, 0), (.getfield 44, 3, 2, 8), (.iand, 1, 0, 0), (.aload_n 0, 1, 0, 0), (.getfield 51, 3, 2, 10), (.iand, 1, 0, 0), (.ifCond .eq 7, 3, 0, 0), (.iconst 1, 1, 0, 0), (.goto 4, 3, 0, 0)] (by decide +kernel) (Nat.le_refl _) (Nat.le_refl _) (fun K R hK hR => ?_)
  simp only [rw_c1, ↓rx_aload_n0, ↓rx_getfield, ↓rx_goto, ↓rx_iand, ↓rx_iconst, ↓rx_ifCond_eq, ↓rx_iload_n1, ↓rx_nil, ↓ry_fvs, ↓ry_fvz, ↓ry_i1, ↓ry_i2, ↓ry_li0s, ↓ry_li0z, ↓ry_lr0s, ↓ry_lr0z, ↓ry_obu, ↓ry_r1, ↓mc_ob, ↓mc_i1, ↓mc_n1, ↓mc_i2, ↓mc_n2, ↓mc_i3, ↓mc_n3, ↓mc_r4, ↓mc_r7, ↓mc_i8, ↓mc_n8, ↓mc_i9, ↓mc_n9, hI, hI4, rz_set, rz_nol, rz_clr, List.set_cons_zero, List.set_cons_succ, rz_tr, Nat.reduceAdd, Int.reduceAdd, Int.reduceToNat, Int.reduceSub, Int.reduceNeg, Int.cast_ofNat_Int]
  rw [hp_ands s hs cl hc, hp_ands _ h1 al ha, hp_z, nI_eq (by omega) (by omega)]
  refine ⟨fun c1 => hK _ _ _ _ ?_, fun c1 => hK _ _ _ _ ?_⟩
  ·
    refine rz_blk' [(.iconst 0, 1, 0, 0), (.ireturn, 1, 0, 0)] (by decide +kernel) (Nat.le_refl _) (Nat.le_refl _) (fun K R hK hR => ?_)
    simp only [rw_c0, ↓rx_iconst, ↓rx_ireturn, ↓rx_nil, ↓mc_ob, ↓mc_i1, ↓mc_n1, ↓mc_i2, ↓mc_n2, ↓mc_i3, ↓mc_n3, ↓mc_r4, ↓mc_r7, ↓mc_i8, ↓mc_n8, ↓mc_i9, ↓mc_n9, rz_set, rz_nol, rz_clr, List.set_cons_zero, List.set_cons_succ, rz_tr, Nat.reduceAdd, Int.reduceAdd, Int.reduceToNat, Int.reduceSub, Int.reduceNeg, Int.cast_ofNat_Int]
    exact hR _ _ rz_nb_0 ⟨by rw [if_pos c1]; rfl, rfl⟩
  ·
    refine rz_blk' [(.ireturn, 1, 0, 0)] (by decide +kernel) (Nat.le_refl _) (Nat.le_refl _) (fun K R hK hR => ?_)
    simp only [↓rx_ireturn, ↓rx_nil, ↓mc_ob, ↓mc_i1, ↓mc_n1, ↓mc_i2, ↓mc_n2, ↓mc_i3, ↓mc_n3, ↓mc_r4, ↓mc_r7, ↓mc_i8, ↓mc_n8, ↓mc_i9, ↓mc_n9, rz_set, rz_nol, rz_clr, List.set_cons_zero, List.set_cons_succ, rz_tr, Nat.reduceAdd, Int.reduceAdd, Int.reduceToNat, Int.reduceSub, Int.reduceNeg, Int.cast_ofNat_Int]
    exact hR _ _ rz_nb_1 ⟨by rw [if_neg c1]; rfl, rfl⟩
/-- one sweep: what is come to from the set, edge by edge -/
def mk_st (s : Nat) (e : Nat × Nat) : Nat := if s.testBit e.1 then s ||| 2 ^ e.2 else s
def mk_rd (es : List (Nat × Nat)) (s : Nat) : Nat := es.foldl mk_st s
def mk_it : Nat → List (Nat × Nat) → Nat → Nat
  | 0, _, s => s
  | n + 1, es, s => mk_rd es (mk_it n es s)
theorem mk_st64 {s : Nat} {e : Nat × Nat} (hs : s < 64) (he : e.2 < 6) : mk_st s e < 64 := by
  simp only [mk_st]; split
  · exact hp_or64 s hs _ he
  · exact hs
theorem mk_rd64 : ∀ {es : List (Nat × Nat)} {s : Nat}, s < 64 → (∀ e ∈ es, e.2 < 6) → mk_rd es s < 64
  | [], s, hs, _ => hs
  | e :: es, s, hs, h => mk_rd64 (es := es) (mk_st64 hs (h e List.mem_cons_self)) (fun x hx => h x (List.mem_cons_of_mem _ hx))
theorem mk_it64 {es : List (Nat × Nat)} {s : Nat} (hs : s < 64) (h : ∀ e ∈ es, e.2 < 6) : ∀ n, mk_it n es s < 64
  | 0 => hs
  | n + 1 => mk_rd64 (mk_it64 hs h n) h
def mv_ft (m : mv_T) : List (Nat × Nat) := m.2.1.map (fun e => (e.1, e.2.2.1))
def mv_tf (m : mv_T) : List (Nat × Nat) := m.2.1.map (fun e => (e.2.2.1, e.1))
/-- the useful states -/
def mv_al (m : mv_T) (cl : Nat) : Nat := mk_it m.1 (mv_ft m) 1 &&& mk_it m.1 (mv_tf m) cl
theorem mv_ft6 {I : Nat → Int32} {A : Nat → Nat → Int32} {X : Nat → List Nat} {m : mv_T} {cl : Nat} (h : mv_is I A X m cl) : (∀ e ∈ mv_ft m, e.2 < 6) ∧ (∀ e ∈ mv_tf m, e.2 < 6) := by
  obtain ⟨-, -, h6, -, -, he, -⟩ := h
  constructor <;> intro e hm <;> simp only [mv_ft, mv_tf, List.mem_map] at hm <;> obtain ⟨x, hx, rfl⟩ := hm <;> obtain ⟨i, hi, rfl⟩ := List.getElem_of_mem hx <;> have := he i hi <;> dsimp only <;> omega
theorem mv_al64 {I : Nat → Int32} {A : Nat → Nat → Int32} {X : Nat → List Nat} {m : mv_T} {cl : Nat} (h : mv_is I A X m cl) : mv_al m cl < 64 := hp_and64 (mk_it64 (by decide) (mv_ft6 h).1 _)

set_option maxRecDepth 100000 in
set_option maxHeartbeats 4000000 in
theorem mc_ct_i {w : rz_w} {d : Nat} {G : rz_G} {a : Nat} {I : Nat → Int32} {A : Nat → Nat → Int32} {J : Nat → Nat → Int64} {X : Nat → List Nat} {P : Nat → Nat} {m : mv_T} {cl : Nat} (hm : mv_is I A X m cl) {r : Nat} {Q : Option Value → rz_G → Prop} :
    ∀ (n e s : Nat), m.2.1.length + 1 ≤ e + n → e ≤ m.2.1.length → s < 64 → (∀ z, rz_T w (d + 1) 0 0 m_Mach_comeToStates 0 0 52 [some (.ref a), some (.int (nI (mk_rd ((mv_ft m).drop e) s))), some (.int (nI r)), z] [] (mc_put G a I A J X P) Q) → rz_T w (d + 1) 0 0 m_Mach_comeToStates 0 0 14 [some (.ref a), some (.int (nI s)), some (.int (nI r)), some (.int (nI e))] [] (mc_put G a I A J X P) Q := by
  intro n
  induction n with
  | zero => intro e s h1 h2; omega
  | succ n ih =>
    intro e s hn he hs hk
    obtain ⟨m0, m1, m2, m3, m4, m5, -⟩ := id hm
    refine rz_blk' [(.iload_n 3, 1, 0, 0), (.aload_n 0, 1, 0, 0), (.getfield 15, 3, 2, 1), (.if_icmp .ge 33, 3, 0, 0), (.iload_n 1, 1, 0, 0), (.aload_n 0, 1, 0, 0), (.getfield 18, 3, 2, 2), (.iload_n 3, 1, 0, 0), (.iaload, 1, 0, 0)] (by decide +kernel) (Nat.le_refl _) (Nat.le_refl _) (fun K R hK hR => ?_)
    simp only [↓rx_aload_n0, ↓rx_getfield, ↓rx_iaload, ↓rx_if_icmp_ge, ↓rx_iload_n1, ↓rx_iload_n3, ↓rx_nil, ↓ry_fvs, ↓ry_fvz, ↓ry_i2, ↓ry_iau, ↓ry_li0s, ↓ry_li0z, ↓ry_lr0s, ↓ry_lr0z, ↓ry_obu, ↓ry_r1, ↓ry_ri, true_and, ↓mc_ob, ↓mc_i1, ↓mc_n1, ↓mc_i2, ↓mc_n2, ↓mc_i3, ↓mc_n3, ↓mc_r4, ↓mc_r7, ↓mc_i8, ↓mc_n8, ↓mc_i9, ↓mc_n9, m3, rz_set, rz_nol, rz_clr, List.set_cons_zero, List.set_cons_succ, rz_tr, Nat.reduceAdd, Int.reduceAdd, Int.reduceToNat, Int.reduceSub, Int.reduceNeg, Int.cast_ofNat_Int]
    refine ⟨fun c1 => hK _ _ _ _ ?_, fun c1 => ?_⟩
    · rw [nI_leI (by omega) (by omega)] at c1
      have := hk (some (.int (nI e)))
      rw [List.drop_of_length_le (by simp [mv_ft, mv_tf]; omega)] at this
      exact this
    rw [nI_leI (by omega) (by omega)] at c1
    have hel : e < m.2.1.length := by omega
    obtain ⟨e0, e1, e2, e3, e4, e5, e6⟩ := m5 e hel
    have hdr : (mv_ft m).drop e = (m.2.1[e].1, m.2.1[e].2.2.1) :: (mv_ft m).drop (e + 1) := by
      rw [List.drop_eq_getElem_cons (by simp [mv_ft, mv_tf]; omega)]
      simp [mv_ft, mv_tf]
    rw [nI_clamp (by omega), e0]
    refine ⟨vp_in_nI (by omega) (by decide), hK _ _ _ _ ?_⟩
    refine rz_cN (As := [.int (nI s), .int (nI m.2.1[e].1)]) (S := []) l_Mach_78 (by decide +kernel) rfl (Nat.le_of_ble_eq_true rfl) (Nat.le_refl _) (Nat.le_refl _) (c_Desk_has (by omega) (by omega)) (fun r G' hq => ?_)
    obtain ⟨rfl, rfl⟩ := hq
    simp only [Option.toList, List.cons_append, List.nil_append]
    have hgo : ∀ s', s' = mk_st s (m.2.1[e].1, m.2.1[e].2.2.1) → rz_T w (d + 1) 0 0 m_Mach_comeToStates 0 0 46 [some (.ref a), some (.int (nI s')), some (.int (nI r)), some (.int (nI e))] [] (mc_put G a I A J X P) Q := by
      intro s' hs'
      refine rz_blk' [(.iinc 3 1, 3, 0, 0), (.goto (-35), 3, 0, 0)] (by decide +kernel) (Nat.le_refl _) (Nat.le_refl _) (fun K R hK hR => ?_)
      simp only [rw_c1, ↓rx_goto, ↓rx_iinc, ↓rx_nil, ↓ry_li0s, ↓ry_li0z, ↓mc_ob, ↓mc_i1, ↓mc_n1, ↓mc_i2, ↓mc_n2, ↓mc_i3, ↓mc_n3, ↓mc_r4, ↓mc_r7, ↓mc_i8, ↓mc_n8, ↓mc_i9, ↓mc_n9, nI_add, rz_set, rz_nol, rz_clr, List.set_cons_zero, List.set_cons_succ, rz_tr, Nat.reduceAdd, Int.reduceAdd, Int.reduceToNat, Int.reduceSub, Int.reduceNeg, Int.cast_ofNat_Int]
      refine hK _ _ _ _ (ih (e + 1) s' (by omega) (by omega) (by rw [hs']; exact mk_st64 hs (by dsimp only; omega)) (fun z => ?_))
      have := hk z
      rw [hdr] at this
      rw [hs']
      exact this
    by_cases hb : s.testBit m.2.1[e].1 = true
    · rw [if_pos hb]
      refine rz_blk' [(.ifCond .eq 14, 3, 0, 0), (.iload_n 1, 1, 0, 0), (.iconst 1, 1, 0, 0), (.aload_n 0, 1, 0, 0), (.getfield 25, 3, 2, 4), (.iload_n 3, 1, 0, 0), (.iaload, 1, 0, 0), (.ishl, 1, 0, 0), (.ior, 1, 0, 0), (.istore_n 1, 1, 0, 0)] (by decide +kernel) (Nat.le_refl _) (Nat.le_refl _) (fun K R hK hR => ?_)
      simp only [rw_c1, ↓rx_aload_n0, ↓rx_getfield, ↓rx_iaload, ↓rx_iconst, ↓rx_ifCond_eq, ↓rx_iload_n1, ↓rx_iload_n3, ↓rx_ior, ↓rx_ishl, ↓rx_istore_n1, ↓rx_nil, ↓ry_fvs, ↓ry_fvz, ↓ry_i1, ↓ry_i2, ↓ry_iau, ↓ry_li0s, ↓ry_li0z, ↓ry_lr0s, ↓ry_lr0z, ↓ry_obu, ↓ry_r1, ↓ry_ri, true_and, ↓mc_ob, ↓mc_i1, ↓mc_n1, ↓mc_i2, ↓mc_n2, ↓mc_i3, ↓mc_n3, ↓mc_r4, ↓mc_r7, ↓mc_i8, ↓mc_n8, ↓mc_i9, ↓mc_n9, e2, rz_set, rz_nol, rz_clr, List.set_cons_zero, List.set_cons_succ, rz_tr, Nat.reduceAdd, Int.reduceAdd, Int.reduceToNat, Int.reduceSub, Int.reduceNeg, Int.cast_ofNat_Int]
      refine ⟨fun c2 => absurd c2 (by decide), fun c2 => ?_⟩
      rw [nI_clamp (by omega), e2, hp_bit _ (by omega), hp_ors s hs _ (by omega)]
      exact ⟨vp_in_nI (by omega) (by decide), hK _ _ _ _ (hgo _ (by simp only [mk_st]; rw [if_pos hb]))⟩
    · rw [if_neg hb]
      refine rz_blk' [(.ifCond .eq 14, 3, 0, 0), (.iload_n 1, 1, 0, 0), (.iconst 1, 1, 0, 0), (.aload_n 0, 1, 0, 0), (.getfield 25, 3, 2, 4), (.iload_n 3, 1, 0, 0), (.iaload, 1, 0, 0), (.ishl, 1, 0, 0), (.ior, 1, 0, 0), (.istore_n 1, 1, 0, 0)] (by decide +kernel) (Nat.le_refl _) (Nat.le_refl _) (fun K R hK hR => ?_)
      simp only [rw_c1, ↓rx_aload_n0, ↓rx_getfield, ↓rx_iaload, ↓rx_iconst, ↓rx_ifCond_eq, ↓rx_iload_n1, ↓rx_iload_n3, ↓rx_ior, ↓rx_ishl, ↓rx_istore_n1, ↓rx_nil, ↓ry_fvs, ↓ry_fvz, ↓ry_i1, ↓ry_i2, ↓ry_iau, ↓ry_li0s, ↓ry_li0z, ↓ry_lr0s, ↓ry_lr0z, ↓ry_obu, ↓ry_r1, ↓ry_ri, true_and, ↓mc_ob, ↓mc_i1, ↓mc_n1, ↓mc_i2, ↓mc_n2, ↓mc_i3, ↓mc_n3, ↓mc_r4, ↓mc_r7, ↓mc_i8, ↓mc_n8, ↓mc_i9, ↓mc_n9, e2, rz_set, rz_nol, rz_clr, List.set_cons_zero, List.set_cons_succ, rz_tr, Nat.reduceAdd, Int.reduceAdd, Int.reduceToNat, Int.reduceSub, Int.reduceNeg, Int.cast_ofNat_Int]
      exact ⟨fun c2 => hK _ _ _ _ (hgo _ (by simp only [mk_st]; rw [if_neg hb])), fun c2 => absurd trivial c2⟩
set_option maxRecDepth 100000 in
set_option maxHeartbeats 4000000 in
theorem mc_ct_o {w : rz_w} {d : Nat} {G : rz_G} {a : Nat} {I : Nat → Int32} {A : Nat → Nat → Int32} {J : Nat → Nat → Int64} {X : Nat → List Nat} {P : Nat → Nat} {m : mv_T} {cl : Nat} (hm : mv_is I A X m cl) {s0 : Nat} (hs0 : s0 < 64) {Q : Option Value → rz_G → Prop} (hQ : Q (some (.int (nI (mk_it m.1 (mv_ft m) s0)))) (mc_put G a I A J X P)) :
    ∀ (n r : Nat) (z : Option Value), m.1 + 1 ≤ r + n → r ≤ m.1 → rz_T w (d + 1) 0 0 m_Mach_comeToStates 0 0 4 [some (.ref a), some (.int (nI (mk_it r (mv_ft m) s0))), some (.int (nI r)), z] [] (mc_put G a I A J X P) Q := by
  intro n
  induction n with
  | zero => intro r z h1 h2; omega
  | succ n ih =>
    intro r z hn hr
    obtain ⟨m0, m1, m2, m3, m4, m5, -⟩ := id hm
    have h64 := mk_it64 (es := mv_ft m) hs0 (mv_ft6 hm).1
    refine rz_blk' [(.iload_n 2, 1, 0, 0), (.aload_n 0, 1, 0, 0), (.getfield 9, 3, 2, 0), (.if_icmp .ge 49, 3, 0, 0), (.iconst 0, 1, 0, 0), (.istore_n 3, 1, 0, 0)] (by decide +kernel) (Nat.le_refl _) (Nat.le_refl _) (fun K R hK hR => ?_)
    simp only [rw_c0, ↓rx_aload_n0, ↓rx_getfield, ↓rx_iconst, ↓rx_if_icmp_ge, ↓rx_iload_n2, ↓rx_istore_n3, ↓rx_nil, ↓ry_fvs, ↓ry_fvz, ↓ry_i1, ↓ry_i2, ↓ry_li0s, ↓ry_li0z, ↓ry_lr0s, ↓ry_lr0z, ↓ry_obu, ↓ry_r1, ↓mc_ob, ↓mc_i1, ↓mc_n1, ↓mc_i2, ↓mc_n2, ↓mc_i3, ↓mc_n3, ↓mc_r4, ↓mc_r7, ↓mc_i8, ↓mc_n8, ↓mc_i9, ↓mc_n9, m0, rz_set, rz_nol, rz_clr, List.set_cons_zero, List.set_cons_succ, rz_tr, Nat.reduceAdd, Int.reduceAdd, Int.reduceToNat, Int.reduceSub, Int.reduceNeg, Int.cast_ofNat_Int]
    refine ⟨fun c1 => hK _ _ _ _ ?_, fun c1 => hK _ _ _ _ ?_⟩
    · rw [nI_leI (by omega) (by omega)] at c1
      refine rz_blk' [(.iload_n 1, 1, 0, 0), (.ireturn, 1, 0, 0)] (by decide +kernel) (Nat.le_refl _) (Nat.le_refl _) (fun K R hK hR => ?_)
      simp only [↓rx_iload_n1, ↓rx_ireturn, ↓rx_nil, ↓ry_li0s, ↓ry_li0z, ↓mc_ob, ↓mc_i1, ↓mc_n1, ↓mc_i2, ↓mc_n2, ↓mc_i3, ↓mc_n3, ↓mc_r4, ↓mc_r7, ↓mc_i8, ↓mc_n8, ↓mc_i9, ↓mc_n9, rz_set, rz_nol, rz_clr, List.set_cons_zero, List.set_cons_succ, rz_tr, Nat.reduceAdd, Int.reduceAdd, Int.reduceToNat, Int.reduceSub, Int.reduceNeg, Int.cast_ofNat_Int]
      rw [show r = m.1 by omega]
      exact hR _ _ (rz_nb_i (by decide)) hQ
    · rw [nI_leI (by omega) (by omega)] at c1
      refine mc_ct_i hm (m.2.1.length + 1) 0 _ (by omega) (by omega) (h64 r) (fun z => ?_)
      rw [List.drop_zero]
      refine rz_blk' [(.iinc 2 1, 3, 0, 0), (.goto (-51), 3, 0, 0)] (by decide +kernel) (Nat.le_refl _) (Nat.le_refl _) (fun K R hK hR => ?_)
      simp only [rw_c1, ↓rx_goto, ↓rx_iinc, ↓rx_nil, ↓ry_li0s, ↓ry_li0z, ↓mc_ob, ↓mc_i1, ↓mc_n1, ↓mc_i2, ↓mc_n2, ↓mc_i3, ↓mc_n3, ↓mc_r4, ↓mc_r7, ↓mc_i8, ↓mc_n8, ↓mc_i9, ↓mc_n9, nI_add, rz_set, rz_nol, rz_clr, List.set_cons_zero, List.set_cons_succ, rz_tr, Nat.reduceAdd, Int.reduceAdd, Int.reduceToNat, Int.reduceSub, Int.reduceNeg, Int.cast_ofNat_Int]
      exact hK _ _ _ _ (ih (r + 1) z (by omega) (by omega))
set_option maxRecDepth 100000 in
set_option maxHeartbeats 4000000 in
/-- comeToStates() -/
theorem c_Mach_comeToStates {w : rz_w} {d : Nat} {G : rz_G} {a : Nat} {I : Nat → Int32} {A : Nat → Nat → Int32} {J : Nat → Nat → Int64} {X : Nat → List Nat} {P : Nat → Nat} {m : mv_T} {cl : Nat} (hm : mv_is I A X m cl) : rz_C w (d + 1) 0 0 y_Mach_comeToStates m_Mach_comeToStates [.ref a] (mc_put G a I A J X P) (fun r G' => r = some (.int (nI (mk_it m.1 (mv_ft m) 1))) ∧ G' = (mc_put G a I A J X P)) := by
  obtain ⟨-, -, -, -, -, -, m6, m7, -⟩ := id hm
  refine rz_enter' [some (.ref a), none, none, none] (by decide +kernel) rfl rfl (Nat.le_of_ble_eq_true rfl) rfl ?_
  refine rz_blk' [(.iconst 1, 1, 0, 0), (.istore_n 1, 1, 0, 0)] (by decide +kernel) (Nat.le_refl _) (Nat.le_refl _) (fun K R hK hR => ?_)
  simp only [rw_c1, ↓rx_iconst, ↓rx_istore_n1, ↓rx_nil, ↓ry_i1, ↓mc_ob, ↓mc_i1, ↓mc_n1, ↓mc_i2, ↓mc_n2, ↓mc_i3, ↓mc_n3, ↓mc_r4, ↓mc_r7, ↓mc_i8, ↓mc_n8, ↓mc_i9, ↓mc_n9, rz_set, rz_nol, rz_clr, List.set_cons_zero, List.set_cons_succ, rz_tr, Nat.reduceAdd, Int.reduceAdd, Int.reduceToNat, Int.reduceSub, Int.reduceNeg, Int.cast_ofNat_Int]
  refine hK _ _ _ _ ?_
  refine rz_blk' [(.iconst 0, 1, 0, 0), (.istore_n 2, 1, 0, 0)] (by decide +kernel) (Nat.le_refl _) (Nat.le_refl _) (fun K R hK hR => ?_)
  simp only [rw_c0, ↓rx_iconst, ↓rx_istore_n2, ↓rx_nil, ↓ry_i1, ↓mc_ob, ↓mc_i1, ↓mc_n1, ↓mc_i2, ↓mc_n2, ↓mc_i3, ↓mc_n3, ↓mc_r4, ↓mc_r7, ↓mc_i8, ↓mc_n8, ↓mc_i9, ↓mc_n9, rz_set, rz_nol, rz_clr, List.set_cons_zero, List.set_cons_succ, rz_tr, Nat.reduceAdd, Int.reduceAdd, Int.reduceToNat, Int.reduceSub, Int.reduceNeg, Int.cast_ofNat_Int]
  exact hK _ _ _ _ (mc_ct_o (s0 := 1) hm (by decide) ⟨rfl, rfl⟩ (m.1 + 1) 0 none (by omega) (by omega))

set_option maxRecDepth 100000 in
set_option maxHeartbeats 4000000 in
theorem mc_lo_i {w : rz_w} {d : Nat} {G : rz_G} {a : Nat} {I : Nat → Int32} {A : Nat → Nat → Int32} {J : Nat → Nat → Int64} {X : Nat → List Nat} {P : Nat → Nat} {m : mv_T} {cl : Nat} (hm : mv_is I A X m cl) {r : Nat} {Q : Option Value → rz_G → Prop} :
    ∀ (n e s : Nat), m.2.1.length + 1 ≤ e + n → e ≤ m.2.1.length → s < 64 → (∀ z, rz_T w (d + 1) 0 0 m_Mach_leadingOnStates 0 0 55 [some (.ref a), some (.int (nI (mk_rd ((mv_tf m).drop e) s))), some (.int (nI r)), z] [] (mc_put G a I A J X P) Q) → rz_T w (d + 1) 0 0 m_Mach_leadingOnStates 0 0 17 [some (.ref a), some (.int (nI s)), some (.int (nI r)), some (.int (nI e))] [] (mc_put G a I A J X P) Q := by
  intro n
  induction n with
  | zero => intro e s h1 h2; omega
  | succ n ih =>
    intro e s hn he hs hk
    obtain ⟨m0, m1, m2, m3, m4, m5, -⟩ := id hm
    refine rz_blk' [(.iload_n 3, 1, 0, 0), (.aload_n 0, 1, 0, 0), (.getfield 15, 3, 2, 1), (.if_icmp .ge 33, 3, 0, 0), (.iload_n 1, 1, 0, 0), (.aload_n 0, 1, 0, 0), (.getfield 25, 3, 2, 4), (.iload_n 3, 1, 0, 0), (.iaload, 1, 0, 0)] (by decide +kernel) (Nat.le_refl _) (Nat.le_refl _) (fun K R hK hR => ?_)
    simp only [↓rx_aload_n0, ↓rx_getfield, ↓rx_iaload, ↓rx_if_icmp_ge, ↓rx_iload_n1, ↓rx_iload_n3, ↓rx_nil, ↓ry_fvs, ↓ry_fvz, ↓ry_i2, ↓ry_iau, ↓ry_li0s, ↓ry_li0z, ↓ry_lr0s, ↓ry_lr0z, ↓ry_obu, ↓ry_r1, ↓ry_ri, true_and, ↓mc_ob, ↓mc_i1, ↓mc_n1, ↓mc_i2, ↓mc_n2, ↓mc_i3, ↓mc_n3, ↓mc_r4, ↓mc_r7, ↓mc_i8, ↓mc_n8, ↓mc_i9, ↓mc_n9, m3, rz_set, rz_nol, rz_clr, List.set_cons_zero, List.set_cons_succ, rz_tr, Nat.reduceAdd, Int.reduceAdd, Int.reduceToNat, Int.reduceSub, Int.reduceNeg, Int.cast_ofNat_Int]
    refine ⟨fun c1 => hK _ _ _ _ ?_, fun c1 => ?_⟩
    · rw [nI_leI (by omega) (by omega)] at c1
      have := hk (some (.int (nI e)))
      rw [List.drop_of_length_le (by simp [mv_ft, mv_tf]; omega)] at this
      exact this
    rw [nI_leI (by omega) (by omega)] at c1
    have hel : e < m.2.1.length := by omega
    obtain ⟨e0, e1, e2, e3, e4, e5, e6⟩ := m5 e hel
    have hdr : (mv_tf m).drop e = (m.2.1[e].2.2.1, m.2.1[e].1) :: (mv_tf m).drop (e + 1) := by
      rw [List.drop_eq_getElem_cons (by simp [mv_ft, mv_tf]; omega)]
      simp [mv_ft, mv_tf]
    rw [nI_clamp (by omega), e2]
    refine ⟨vp_in_nI (by omega) (by decide), hK _ _ _ _ ?_⟩
    refine rz_cN (As := [.int (nI s), .int (nI m.2.1[e].2.2.1)]) (S := []) l_Mach_78 (by decide +kernel) rfl (Nat.le_of_ble_eq_true rfl) (Nat.le_refl _) (Nat.le_refl _) (c_Desk_has (by omega) (by omega)) (fun r G' hq => ?_)
    obtain ⟨rfl, rfl⟩ := hq
    simp only [Option.toList, List.cons_append, List.nil_append]
    have hgo : ∀ s', s' = mk_st s (m.2.1[e].2.2.1, m.2.1[e].1) → rz_T w (d + 1) 0 0 m_Mach_leadingOnStates 0 0 49 [some (.ref a), some (.int (nI s')), some (.int (nI r)), some (.int (nI e))] [] (mc_put G a I A J X P) Q := by
      intro s' hs'
      refine rz_blk' [(.iinc 3 1, 3, 0, 0), (.goto (-35), 3, 0, 0)] (by decide +kernel) (Nat.le_refl _) (Nat.le_refl _) (fun K R hK hR => ?_)
      simp only [rw_c1, ↓rx_goto, ↓rx_iinc, ↓rx_nil, ↓ry_li0s, ↓ry_li0z, ↓mc_ob, ↓mc_i1, ↓mc_n1, ↓mc_i2, ↓mc_n2, ↓mc_i3, ↓mc_n3, ↓mc_r4, ↓mc_r7, ↓mc_i8, ↓mc_n8, ↓mc_i9, ↓mc_n9, nI_add, rz_set, rz_nol, rz_clr, List.set_cons_zero, List.set_cons_succ, rz_tr, Nat.reduceAdd, Int.reduceAdd, Int.reduceToNat, Int.reduceSub, Int.reduceNeg, Int.cast_ofNat_Int]
      refine hK _ _ _ _ (ih (e + 1) s' (by omega) (by omega) (by rw [hs']; exact mk_st64 hs (by dsimp only; omega)) (fun z => ?_))
      have := hk z
      rw [hdr] at this
      rw [hs']
      exact this
    by_cases hb : s.testBit m.2.1[e].2.2.1 = true
    · rw [if_pos hb]
      refine rz_blk' [(.ifCond .eq 14, 3, 0, 0), (.iload_n 1, 1, 0, 0), (.iconst 1, 1, 0, 0), (.aload_n 0, 1, 0, 0), (.getfield 18, 3, 2, 2), (.iload_n 3, 1, 0, 0), (.iaload, 1, 0, 0), (.ishl, 1, 0, 0), (.ior, 1, 0, 0), (.istore_n 1, 1, 0, 0)] (by decide +kernel) (Nat.le_refl _) (Nat.le_refl _) (fun K R hK hR => ?_)
      simp only [rw_c1, ↓rx_aload_n0, ↓rx_getfield, ↓rx_iaload, ↓rx_iconst, ↓rx_ifCond_eq, ↓rx_iload_n1, ↓rx_iload_n3, ↓rx_ior, ↓rx_ishl, ↓rx_istore_n1, ↓rx_nil, ↓ry_fvs, ↓ry_fvz, ↓ry_i1, ↓ry_i2, ↓ry_iau, ↓ry_li0s, ↓ry_li0z, ↓ry_lr0s, ↓ry_lr0z, ↓ry_obu, ↓ry_r1, ↓ry_ri, true_and, ↓mc_ob, ↓mc_i1, ↓mc_n1, ↓mc_i2, ↓mc_n2, ↓mc_i3, ↓mc_n3, ↓mc_r4, ↓mc_r7, ↓mc_i8, ↓mc_n8, ↓mc_i9, ↓mc_n9, e0, rz_set, rz_nol, rz_clr, List.set_cons_zero, List.set_cons_succ, rz_tr, Nat.reduceAdd, Int.reduceAdd, Int.reduceToNat, Int.reduceSub, Int.reduceNeg, Int.cast_ofNat_Int]
      refine ⟨fun c2 => absurd c2 (by decide), fun c2 => ?_⟩
      rw [nI_clamp (by omega), e0, hp_bit _ (by omega), hp_ors s hs _ (by omega)]
      exact ⟨vp_in_nI (by omega) (by decide), hK _ _ _ _ (hgo _ (by simp only [mk_st]; rw [if_pos hb]))⟩
    · rw [if_neg hb]
      refine rz_blk' [(.ifCond .eq 14, 3, 0, 0), (.iload_n 1, 1, 0, 0), (.iconst 1, 1, 0, 0), (.aload_n 0, 1, 0, 0), (.getfield 18, 3, 2, 2), (.iload_n 3, 1, 0, 0), (.iaload, 1, 0, 0), (.ishl, 1, 0, 0), (.ior, 1, 0, 0), (.istore_n 1, 1, 0, 0)] (by decide +kernel) (Nat.le_refl _) (Nat.le_refl _) (fun K R hK hR => ?_)
      simp only [rw_c1, ↓rx_aload_n0, ↓rx_getfield, ↓rx_iaload, ↓rx_iconst, ↓rx_ifCond_eq, ↓rx_iload_n1, ↓rx_iload_n3, ↓rx_ior, ↓rx_ishl, ↓rx_istore_n1, ↓rx_nil, ↓ry_fvs, ↓ry_fvz, ↓ry_i1, ↓ry_i2, ↓ry_iau, ↓ry_li0s, ↓ry_li0z, ↓ry_lr0s, ↓ry_lr0z, ↓ry_obu, ↓ry_r1, ↓ry_ri, true_and, ↓mc_ob, ↓mc_i1, ↓mc_n1, ↓mc_i2, ↓mc_n2, ↓mc_i3, ↓mc_n3, ↓mc_r4, ↓mc_r7, ↓mc_i8, ↓mc_n8, ↓mc_i9, ↓mc_n9, e0, rz_set, rz_nol, rz_clr, List.set_cons_zero, List.set_cons_succ, rz_tr, Nat.reduceAdd, Int.reduceAdd, Int.reduceToNat, Int.reduceSub, Int.reduceNeg, Int.cast_ofNat_Int]
      exact ⟨fun c2 => hK _ _ _ _ (hgo _ (by simp only [mk_st]; rw [if_neg hb])), fun c2 => absurd trivial c2⟩
set_option maxRecDepth 100000 in
set_option maxHeartbeats 4000000 in
theorem mc_lo_o {w : rz_w} {d : Nat} {G : rz_G} {a : Nat} {I : Nat → Int32} {A : Nat → Nat → Int32} {J : Nat → Nat → Int64} {X : Nat → List Nat} {P : Nat → Nat} {m : mv_T} {cl : Nat} (hm : mv_is I A X m cl) {s0 : Nat} (hs0 : s0 < 64) {Q : Option Value → rz_G → Prop} (hQ : Q (some (.int (nI (mk_it m.1 (mv_tf m) s0)))) (mc_put G a I A J X P)) :
    ∀ (n r : Nat) (z : Option Value), m.1 + 1 ≤ r + n → r ≤ m.1 → rz_T w (d + 1) 0 0 m_Mach_leadingOnStates 0 0 7 [some (.ref a), some (.int (nI (mk_it r (mv_tf m) s0))), some (.int (nI r)), z] [] (mc_put G a I A J X P) Q := by
  intro n
  induction n with
  | zero => intro r z h1 h2; omega
  | succ n ih =>
    intro r z hn hr
    obtain ⟨m0, m1, m2, m3, m4, m5, -⟩ := id hm
    have h64 := mk_it64 (es := mv_tf m) hs0 (mv_ft6 hm).2
    refine rz_blk' [(.iload_n 2, 1, 0, 0), (.aload_n 0, 1, 0, 0), (.getfield 9, 3, 2, 0), (.if_icmp .ge 49, 3, 0, 0), (.iconst 0, 1, 0, 0), (.istore_n 3, 1, 0, 0)] (by decide +kernel) (Nat.le_refl _) (Nat.le_refl _) (fun K R hK hR => ?_)
    simp only [rw_c0, ↓rx_aload_n0, ↓rx_getfield, ↓rx_iconst, ↓rx_if_icmp_ge, ↓rx_iload_n2, ↓rx_istore_n3, ↓rx_nil, ↓ry_fvs, ↓ry_fvz, ↓ry_i1, ↓ry_i2, ↓ry_li0s, ↓ry_li0z, ↓ry_lr0s, ↓ry_lr0z, ↓ry_obu, ↓ry_r1, ↓mc_ob, ↓mc_i1, ↓mc_n1, ↓mc_i2, ↓mc_n2, ↓mc_i3, ↓mc_n3, ↓mc_r4, ↓mc_r7, ↓mc_i8, ↓mc_n8, ↓mc_i9, ↓mc_n9, m0, rz_set, rz_nol, rz_clr, List.set_cons_zero, List.set_cons_succ, rz_tr, Nat.reduceAdd, Int.reduceAdd, Int.reduceToNat, Int.reduceSub, Int.reduceNeg, Int.cast_ofNat_Int]
    refine ⟨fun c1 => hK _ _ _ _ ?_, fun c1 => hK _ _ _ _ ?_⟩
    · rw [nI_leI (by omega) (by omega)] at c1
      refine rz_blk' [(.iload_n 1, 1, 0, 0), (.ireturn, 1, 0, 0)] (by decide +kernel) (Nat.le_refl _) (Nat.le_refl _) (fun K R hK hR => ?_)
      simp only [↓rx_iload_n1, ↓rx_ireturn, ↓rx_nil, ↓ry_li0s, ↓ry_li0z, ↓mc_ob, ↓mc_i1, ↓mc_n1, ↓mc_i2, ↓mc_n2, ↓mc_i3, ↓mc_n3, ↓mc_r4, ↓mc_r7, ↓mc_i8, ↓mc_n8, ↓mc_i9, ↓mc_n9, rz_set, rz_nol, rz_clr, List.set_cons_zero, List.set_cons_succ, rz_tr, Nat.reduceAdd, Int.reduceAdd, Int.reduceToNat, Int.reduceSub, Int.reduceNeg, Int.cast_ofNat_Int]
      rw [show r = m.1 by omega]
      exact hR _ _ (rz_nb_i (by decide)) hQ
    · rw [nI_leI (by omega) (by omega)] at c1
      refine mc_lo_i hm (m.2.1.length + 1) 0 _ (by omega) (by omega) (h64 r) (fun z => ?_)
      rw [List.drop_zero]
      refine rz_blk' [(.iinc 2 1, 3, 0, 0), (.goto (-51), 3, 0, 0)] (by decide +kernel) (Nat.le_refl _) (Nat.le_refl _) (fun K R hK hR => ?_)
      simp only [rw_c1, ↓rx_goto, ↓rx_iinc, ↓rx_nil, ↓ry_li0s, ↓ry_li0z, ↓mc_ob, ↓mc_i1, ↓mc_n1, ↓mc_i2, ↓mc_n2, ↓mc_i3, ↓mc_n3, ↓mc_r4, ↓mc_r7, ↓mc_i8, ↓mc_n8, ↓mc_i9, ↓mc_n9, nI_add, rz_set, rz_nol, rz_clr, List.set_cons_zero, List.set_cons_succ, rz_tr, Nat.reduceAdd, Int.reduceAdd, Int.reduceToNat, Int.reduceSub, Int.reduceNeg, Int.cast_ofNat_Int]
      exact hK _ _ _ _ (ih (r + 1) z (by omega) (by omega))
set_option maxRecDepth 100000 in
set_option maxHeartbeats 4000000 in
/-- leadingOnStates() -/
theorem c_Mach_leadingOnStates {w : rz_w} {d : Nat} {G : rz_G} {a : Nat} {I : Nat → Int32} {A : Nat → Nat → Int32} {J : Nat → Nat → Int64} {X : Nat → List Nat} {P : Nat → Nat} {m : mv_T} {cl : Nat} (hm : mv_is I A X m cl) : rz_C w (d + 1) 0 0 y_Mach_leadingOnStates m_Mach_leadingOnStates [.ref a] (mc_put G a I A J X P) (fun r G' => r = some (.int (nI (mk_it m.1 (mv_tf m) cl))) ∧ G' = (mc_put G a I A J X P)) := by
  obtain ⟨-, -, -, -, -, -, m6, m7, -⟩ := id hm
  refine rz_enter' [some (.ref a), none, none, none] (by decide +kernel) rfl rfl (Nat.le_of_ble_eq_true rfl) rfl ?_
  refine rz_blk' [(.aload_n 0, 1, 0, 0), (.getfield 44, 3, 2, 8), (.istore_n 1, 1, 0, 0)] (by decide +kernel) (Nat.le_refl _) (Nat.le_refl _) (fun K R hK hR => ?_)
  simp only [↓rx_aload_n0, ↓rx_getfield, ↓rx_istore_n1, ↓rx_nil, ↓ry_fvs, ↓ry_fvz, ↓ry_i1, ↓ry_lr0s, ↓ry_lr0z, ↓ry_obu, ↓ry_r1, ↓mc_ob, ↓mc_i1, ↓mc_n1, ↓mc_i2, ↓mc_n2, ↓mc_i3, ↓mc_n3, ↓mc_r4, ↓mc_r7, ↓mc_i8, ↓mc_n8, ↓mc_i9, ↓mc_n9, m6, rz_set, rz_nol, rz_clr, List.set_cons_zero, List.set_cons_succ, rz_tr, Nat.reduceAdd, Int.reduceAdd, Int.reduceToNat, Int.reduceSub, Int.reduceNeg, Int.cast_ofNat_Int]
  refine hK _ _ _ _ ?_
  refine rz_blk' [(.iconst 0, 1, 0, 0), (.istore_n 2, 1, 0, 0)] (by decide +kernel) (Nat.le_refl _) (Nat.le_refl _) (fun K R hK hR => ?_)
  simp only [rw_c0, ↓rx_iconst, ↓rx_istore_n2, ↓rx_nil, ↓ry_i1, ↓mc_ob, ↓mc_i1, ↓mc_n1, ↓mc_i2, ↓mc_n2, ↓mc_i3, ↓mc_n3, ↓mc_r4, ↓mc_r7, ↓mc_i8, ↓mc_n8, ↓mc_i9, ↓mc_n9, rz_set, rz_nol, rz_clr, List.set_cons_zero, List.set_cons_succ, rz_tr, Nat.reduceAdd, Int.reduceAdd, Int.reduceToNat, Int.reduceSub, Int.reduceNeg, Int.cast_ofNat_Int]
  exact hK _ _ _ _ (mc_lo_o (s0 := cl) hm m7 ⟨rfl, rfl⟩ (m.1 + 1) 0 none (by omega) (by omega))

