/-! WriterDesk$PairSearch: start, spread -/
def ps_fo : Option Nat → Int32
  | none => -1
  | some g => nI g
theorem ps_fo_n {fd : Option Nat} (h : ∀ g, fd = some g → g < 1000) : ps_fo fd = -1 ↔ fd = none := by
  cases fd with
  | none => simp [ps_fo]
  | some g =>
    simp only [ps_fo, reduceCtorEq, iff_false]
    intro q
    have h2 := h g rfl
    have := nI_pos (n := g) (by omega)
    rw [q] at this
    exact this (by decide)
/-- the search's state: nodes, what was found, how many groups are closed; the groups' rows -/
def ps_ss (I : Nat → Int32) (A : Nat → Nat → Int32) (X : Nat → List Nat) (N : List ps_nd) (fd : Option Nat) (gr : Nat) (A5 : Nat → Nat → Int32) : Prop := ps_ns I A X N ∧ I 1 = nI gr ∧ gr ≤ 72 ∧ I 2 = ps_fo fd ∧ (∀ g, fd = some g → g < 1000) ∧ ∀ k, 5 ≤ k → A k = A5 k
def ps_eo (m1 m2 : mv_T) (c1 c2 : Nat) (n : ps_nd) : Bool := ps_ea m1 m2 c1 c2 n.1 n.2.1 n.2.2.1 n.2.2.2.1 n.2.2.2.2
/-- one node is visited -/
def ps_vs (m1 m2 : mv_T) (c1 c2 gr : Nat) (S : List ps_nd × Option Nat) (n : ps_nd) : List ps_nd × Option Nat := if ps_new S.1 n then (S.1 ++ [n], if S.2 = none ∧ ps_eo m1 m2 c1 c2 n = true then some gr else S.2) else S
theorem ps_vp_ss {G G' : rz_G} {a : Nat} {J : Nat → Nat → Int64} {P : Nat → Nat} {I : Nat → Int32} {A A5 : Nat → Nat → Int32} {X : Nat → List Nat} {N : List ps_nd} {fd : Option Nat} {gr c1 c2 : Nat} {m1 m2 : mv_T} {n : ps_nd} (hS : ps_ss I A X N fd gr A5) (h : ps_vp G a J P I A X N n (ps_eo m1 m2 c1 c2 n) G') : ∃ I' A' X', G' = ps_put G a I' A' J X' P ∧ ps_ss I' A' X' (ps_vs m1 m2 c1 c2 gr (N, fd) n).1 (ps_vs m1 m2 c1 c2 gr (N, fd) n).2 gr A5 := by
  obtain ⟨h1, h2, h3, h4, h5, h6⟩ := id hS
  rcases h with ⟨e, rfl⟩ | ⟨e, I', A', X', rfl, k1, k2, k3, k4⟩
  · exact ⟨I, A, X, rfl, by simp only [ps_vs, e, Bool.false_eq_true, if_false]; exact hS⟩
  · refine ⟨I', A', X', rfl, ?_⟩
    simp only [ps_vs, e, if_true]
    refine ⟨k1, by rw [k2]; exact h2, h3, ?_, ?_, fun k hk => by rw [k4 k hk]; exact h6 k hk⟩
    · rw [k3, h4, h2]
      by_cases q : fd = none ∧ ps_eo m1 m2 c1 c2 n = true
      · rw [if_pos q, if_pos ⟨(ps_fo_n h5).mpr q.1, q.2⟩]; rfl
      · rw [if_neg q, if_neg (fun z => q ⟨(ps_fo_n h5).mp z.1, z.2⟩)]
    · intro g hg
      by_cases q : fd = none ∧ ps_eo m1 m2 c1 c2 n = true
      · rw [if_pos q] at hg; cases hg; omega
      · rw [if_neg q] at hg; exact h5 g hg
set_option maxRecDepth 100000 in
set_option maxHeartbeats 4000000 in
/-- start(p, q, one, two) -/
theorem c_Pair_start {w : rz_w} {d : Nat} {G : rz_G} {a : Nat} {I : Nat → Int32} {A : Nat → Nat → Int32} {J : Nat → Nat → Int64} {X : Nat → List Nat} {P : Nat → Nat} {A5 : Nat → Nat → Int32} {S1 S2 : mc_S} {m1 m2 : mv_T} {c1 c2 p q gr wo co wt ct : Nat} {N : List ps_nd} {fd : Option Nat} {xs ys : List Nat} (h1 : mc_at' G (P 0) a 304 S1 m1 c1) (h2 : mc_at' G (P 1) a 304 S2 m2 c2) (hp : p < 6) (hq : q < 6) (hS : ps_ss I A X N fd gr A5) (ho : wd_is G wo co xs) (ht : wd_is G wt ct ys) (ao : wo + 1 < a ∨ a + 304 ≤ wo) (at' : wt + 1 < a ∨ a + 304 ≤ wt) (l0 : xs.length ≤ 368) (l1 : ys.length ≤ 368) :
    rz_C w (d + 3) 0 0 y_Pair_start m_Pair_start [.ref a, .int (nI p), .int (nI q), .ref wo, .ref wt] (ps_put G a I A J X P) (fun r G' => r = none ∧ ∃ I' A' X', G' = ps_put G a I' A' J X' P ∧ ps_ss I' A' X' (ps_vs m1 m2 c1 c2 gr (N, fd) (p, q, ps_ap xs ys, ps_cl xs ys, ps_cr xs ys)).1 (ps_vs m1 m2 c1 c2 gr (N, fd) (p, q, ps_ap xs ys, ps_cl xs ys, ps_cr xs ys)).2 gr A5) := by
  have hX := hS.1.2.2.1
  have ko : ∀ X' : Nat → List Nat, wd_is (ps_put G a I A J X' P) wo co xs := fun X' => wd_is_keep ho (ps_out (by omega)) (ps_out (by omega))
  have kt : ∀ X' : Nat → List Nat, wd_is (ps_put G a I A J X' P) wt ct ys := fun X' => wd_is_keep ht (ps_out (by omega)) (ps_out (by omega))
  have o16 := ho.2.2.2.1
  have t16 := ht.2.2.2.1
  refine rz_enter' [some (.ref a), some (.int (nI p)), some (.int (nI q)), some (.ref wo), some (.ref wt)] (by decide +kernel) rfl rfl (Nat.le_of_ble_eq_true rfl) rfl ?_
  refine rz_blk' [(.aload_n 0, 1, 0, 0), (.getfield 52, 3, 4, 16), (.aload_n 3, 1, 0, 0)] (by decide +kernel) (Nat.le_refl _) (Nat.le_refl _) (fun K R hK hR => ?_)
  simp only [↓rx_aload_n0, ↓rx_aload_n3, ↓rx_getfield, ↓rx_nil, ↓ry_fvs, ↓ry_fvz, ↓ry_lr0s, ↓ry_lr0z, ↓ry_obu, ↓ry_r1, ↓ps_ob, ↓ps_i1, ↓ps_n1, ↓ps_i2, ↓ps_n2, ↓ps_i3, ↓ps_n3, ↓ps_r4, ↓ps_r5, ↓ps_i6, ↓ps_n6, ↓ps_i7, ↓ps_n7, ↓ps_i8, ↓ps_n8, ↓ps_i9, ↓ps_n9, ↓ps_i10, ↓ps_n10, ↓ps_i11, ↓ps_n11, rz_set, rz_nol, rz_clr, List.set_cons_zero, List.set_cons_succ, rz_tr, Nat.reduceAdd, Int.reduceAdd, Int.reduceToNat, Int.reduceSub, Int.reduceNeg, Int.cast_ofNat_Int]
  refine hK _ _ _ _ ?_
  refine rz_cV (As := [.ref wo]) (b := a + 12) (S := []) l_Pair_82 (by decide +kernel) rfl (ps_wi12 (hX 0 (by decide))).1 rfl (Nat.le_of_ble_eq_true rfl) (Nat.le_refl _) (Nat.le_refl _) (c_Word_copy (ps_wi12 (hX 0 (by decide))) (ko X) (by omega)) (fun r G' hr => ?_)
  obtain ⟨rfl, rfl⟩ := hr
  rw [ps_wp12, if_pos (by omega)]
  simp only [Option.toList, List.nil_append]
  have o1 : wd_ok 26 (va_up X 0 xs 1) := by rw [va_up_ne _ _ (by decide)]; exact hX 1 (by decide)
  refine rz_blk' [(.aload_n 0, 1, 0, 0), (.getfield 56, 3, 4, 17), (.aload 4, 2, 0, 0)] (by decide +kernel) (Nat.le_refl _) (Nat.le_refl _) (fun K R hK hR => ?_)
  simp only [↓rx_aload, ↓rx_aload_n0, ↓rx_getfield, ↓rx_nil, ↓ry_fvs, ↓ry_fvz, ↓ry_lr0s, ↓ry_lr0z, ↓ry_obu, ↓ry_r1, ↓ps_ob, ↓ps_i1, ↓ps_n1, ↓ps_i2, ↓ps_n2, ↓ps_i3, ↓ps_n3, ↓ps_r4, ↓ps_r5, ↓ps_i6, ↓ps_n6, ↓ps_i7, ↓ps_n7, ↓ps_i8, ↓ps_n8, ↓ps_i9, ↓ps_n9, ↓ps_i10, ↓ps_n10, ↓ps_i11, ↓ps_n11, rz_set, rz_nol, rz_clr, List.set_cons_zero, List.set_cons_succ, rz_tr, Nat.reduceAdd, Int.reduceAdd, Int.reduceToNat, Int.reduceSub, Int.reduceNeg, Int.cast_ofNat_Int]
  refine hK _ _ _ _ ?_
  refine rz_cV (As := [.ref wt]) (b := a + 14) (S := []) l_Pair_82 (by decide +kernel) rfl (ps_wi14 o1).1 rfl (Nat.le_of_ble_eq_true rfl) (Nat.le_refl _) (Nat.le_refl _) (c_Word_copy (ps_wi14 o1) (kt _) (by omega)) (fun r G' hr => ?_)
  obtain ⟨rfl, rfl⟩ := hr
  rw [ps_wp14, if_pos (by omega)]
  simp only [Option.toList, List.nil_append]
  generalize hX2 : va_up (va_up X 0 xs) 1 ys = X2
  have v0 : X2 0 = xs := by rw [← hX2, va_up_ne _ _ (by decide), va_up_self]
  have v1 : X2 1 = ys := by rw [← hX2, va_up_self]
  have y0 : wd_ok 26 (X2 0) := by rw [v0]; exact ⟨by omega, o16, by decide⟩
  have y1 : wd_ok 26 (X2 1) := by rw [v1]; exact ⟨by omega, t16, by decide⟩
  refine rz_blk' [(.aload_n 0, 1, 0, 0), (.iload_n 1, 1, 0, 0), (.iload_n 2, 1, 0, 0), (.aload_n 0, 1, 0, 0)] (by decide +kernel) (Nat.le_refl _) (Nat.le_refl _) (fun K R hK hR => ?_)
  simp only [↓rx_aload_n0, ↓rx_iload_n1, ↓rx_iload_n2, ↓rx_nil, ↓ry_li0s, ↓ry_li0z, ↓ry_lr0s, ↓ry_lr0z, ↓ps_ob, ↓ps_i1, ↓ps_n1, ↓ps_i2, ↓ps_n2, ↓ps_i3, ↓ps_n3, ↓ps_r4, ↓ps_r5, ↓ps_i6, ↓ps_n6, ↓ps_i7, ↓ps_n7, ↓ps_i8, ↓ps_n8, ↓ps_i9, ↓ps_n9, ↓ps_i10, ↓ps_n10, ↓ps_i11, ↓ps_n11, rz_set, rz_nol, rz_clr, List.set_cons_zero, List.set_cons_succ, rz_tr, Nat.reduceAdd, Int.reduceAdd, Int.reduceToNat, Int.reduceSub, Int.reduceNeg, Int.cast_ofNat_Int]
  refine hK _ _ _ _ ?_
  refine rz_cV (As := []) (b := a) (S := [.int (nI q), .int (nI p), .ref a]) l_Pair_86 (by decide +kernel) rfl ps_at0 rfl (Nat.le_of_ble_eq_true rfl) (Nat.le_refl _) (Nat.le_refl _) (c_Pair_cutAlike y0 y1) (fun r G' hr => ?_)
  obtain ⟨rfl, rfl⟩ := hr
  simp only [Option.toList, List.cons_append, List.nil_append]
  rw [v0, v1]
  have lc : (ps_cl xs ys).length ≤ xs.length ∧ (ps_cr xs ys).length ≤ ys.length := by
    simp only [ps_cl, ps_cr]; split <;> simp
  have okc : wd_ok 26 (ps_cl xs ys) := ⟨by omega, fun x hx => by
    simp only [ps_cl] at hx; split at hx
    · simp at hx
    · exact o16 x (List.mem_of_mem_drop hx), by decide⟩
  have okr : wd_ok 26 (ps_cr xs ys) := ⟨by omega, fun x hx => by
    simp only [ps_cr] at hx; split at hx
    · simp at hx
    · exact t16 x (List.mem_of_mem_drop hx), by decide⟩
  have e3 : va_up (va_up X2 0 (ps_cl xs ys)) 1 (ps_cr xs ys) = va_up (va_up X 0 (ps_cl xs ys)) 1 (ps_cr xs ys) := by
    rw [← hX2]; funext j; simp only [va_up]
    by_cases q1 : j = 1 <;> by_cases q2 : j = 0 <;> simp [q1, q2]
  rw [e3]
  have hS3 : ps_ss I A (va_up (va_up X 0 (ps_cl xs ys)) 1 (ps_cr xs ys)) N fd gr A5 := ⟨ps_keep01 hS.1 okc okr, hS.2⟩
  generalize hX3 : va_up (va_up X 0 (ps_cl xs ys)) 1 (ps_cr xs ys) = X3 at hS3
  have u0 : X3 0 = ps_cl xs ys := by rw [← hX3, va_up_ne _ _ (by decide), va_up_self]
  have u1 : X3 1 = ps_cr xs ys := by rw [← hX3, va_up_self]
  refine rz_cV (As := [.int (nI p), .int (nI q), .int (rz_b (ps_ap xs ys))]) (b := a) (S := []) l_Pair_90 (by decide +kernel) rfl ps_at0 rfl (Nat.le_of_ble_eq_true rfl) (Nat.le_refl _) (Nat.le_refl _) (c_Pair_visit h1 h2 hp hq hS3.1 (by rw [u0]; omega) (by rw [u1]; omega)) (fun r G' hr => ?_)
  obtain ⟨rfl, hv⟩ := hr
  rw [u0, u1] at hv
  obtain ⟨I', A', X', rfl, hS'⟩ := ps_vp_ss (m1 := m1) (m2 := m2) (c1 := c1) (c2 := c2) hS3 hv
  simp only [Option.toList, List.nil_append]
  refine rz_blk' [(.return_, 1, 0, 0)] (by decide +kernel) (Nat.le_refl _) (Nat.le_refl _) (fun K R hK hR => ?_)
  simp only [↓rx_nil, ↓rx_return_, ↓ps_ob, ↓ps_i1, ↓ps_n1, ↓ps_i2, ↓ps_n2, ↓ps_i3, ↓ps_n3, ↓ps_r4, ↓ps_r5, ↓ps_i6, ↓ps_n6, ↓ps_i7, ↓ps_n7, ↓ps_i8, ↓ps_n8, ↓ps_i9, ↓ps_n9, ↓ps_i10, ↓ps_n10, ↓ps_i11, ↓ps_n11, rz_set, rz_nol, rz_clr, List.set_cons_zero, List.set_cons_succ, rz_tr, Nat.reduceAdd, Int.reduceAdd, Int.reduceToNat, Int.reduceSub, Int.reduceNeg, Int.cast_ofNat_Int]
  exact hR _ _ (rz_nb_i (by decide)) ⟨rfl, I', A', X', rfl, hS'⟩

/-- what two edges make of a node -/
def ps_go (m1 m2 : mv_T) (n : ps_nd) (e f : Nat) : ps_nd := ((mv_e m1 e).2.2.1, (mv_e m2 f).2.2.1, ps_fb n.2.2.1 n.2.2.2.1 n.2.2.2.2 (mv_e m1 e).2.2.2 (mv_e m2 f).2.2.2, ps_f0 n.2.2.1 n.2.2.2.1 n.2.2.2.2 (mv_e m1 e).2.2.2 (mv_e m2 f).2.2.2, ps_f1 n.2.2.1 n.2.2.2.1 n.2.2.2.2 (mv_e m1 e).2.2.2 (mv_e m2 f).2.2.2)
/-- the nodes behind a node by a letter -/
def ps_c2 (m1 m2 : mv_T) (n : ps_nd) (es fs : List Nat) : List ps_nd := es.flatMap (fun e => fs.map (fun f => ps_go m1 m2 n e f))
def ps_nx (m1 m2 : mv_T) (c1 c2 l : Nat) (n : ps_nd) : List ps_nd := ps_c2 m1 m2 n (mv_pl m1 (mv_al m1 c1) (n.1 * 3 + l)) (mv_pl m2 (mv_al m2 c2) (n.2.1 * 3 + l))
def ps_fld (m1 m2 : mv_T) (c1 c2 gr : Nat) (S : List ps_nd × Option Nat) (ns : List ps_nd) : List ps_nd × Option Nat := ns.foldl (ps_vs m1 m2 c1 c2 gr) S
/-- a node's rests are short enough, and so are those behind it -/
def ps_sh (m1 m2 : mv_T) (c1 c2 l : Nat) (n : ps_nd) : Prop := wd_ok 26 n.2.2.2.1 ∧ wd_ok 26 n.2.2.2.2 ∧ n.2.2.2.1.length ≤ 368 ∧ n.2.2.2.2.length ≤ 368 ∧ ∀ e f, e ∈ mv_pl m1 (mv_al m1 c1) (n.1 * 3 + l) → f ∈ mv_pl m2 (mv_al m2 c2) (n.2.1 * 3 + l) → wd_ok 26 (ps_go m1 m2 n e f).2.2.2.1 ∧ wd_ok 26 (ps_go m1 m2 n e f).2.2.2.2 ∧ (ps_go m1 m2 n e f).2.2.2.1.length ≤ 368 ∧ (ps_go m1 m2 n e f).2.2.2.2.length ≤ 368
theorem ps_vs_get {m1 m2 : mv_T} {c1 c2 gr i : Nat} {S : List ps_nd × Option Nat} {n x : ps_nd} (h : S.1[i]? = some x) : (ps_vs m1 m2 c1 c2 gr S n).1[i]? = some x := by
  simp only [ps_vs]; split
  · rw [List.getElem?_append_left (List.getElem?_eq_some_iff.mp h).1]; exact h
  · exact h
section PSP
variable {w : rz_w} {d : Nat} {G : rz_G} {a : Nat} {J : Nat → Nat → Int64} {P : Nat → Nat} {A5 : Nat → Nat → Int32} {S1 S2 : mc_S} {m1 m2 : mv_T} {c1 c2 gr g l i0 : Nat} {n : ps_nd} {Q : Option Value → rz_G → Prop}
set_option maxRecDepth 100000 in
set_option maxHeartbeats 4000000 in
theorem ps_sp_j (h1 : mc_at' G (P 0) a 304 S1 m1 c1) (h2 : mc_at' G (P 1) a 304 S2 m2 c2) (hl : l < 3) (hn1 : n.1 < 6) (hn2 : n.2.1 < 6) (hsh : ps_sh m1 m2 c1 c2 l n) {i e : Nat} (hi : i < (mv_pl m1 (mv_al m1 c1) (n.1 * 3 + l)).length) (hie : (mv_pl m1 (mv_al m1 c1) (n.1 * 3 + l))[i]? = some e) :
    ∀ (k j : Nat) (N : List ps_nd) (fd : Option Nat) (I : Nat → Int32) (A : Nat → Nat → Int32) (X : Nat → List Nat) (z1 z2 : Option Value), (mv_pl m2 (mv_al m2 c2) (n.2.1 * 3 + l)).length + 1 ≤ j + k → j ≤ (mv_pl m2 (mv_al m2 c2) (n.2.1 * 3 + l)).length → ps_ss I A X N fd gr A5 → N[i0]? = some n →
      (∀ I A X z1 z2 z3, ps_ss I A X (ps_fld m1 m2 c1 c2 gr (N, fd) (((mv_pl m2 (mv_al m2 c2) (n.2.1 * 3 + l)).drop j).map (fun f => ps_go m1 m2 n e f))).1 (ps_fld m1 m2 c1 c2 gr (N, fd) (((mv_pl m2 (mv_al m2 c2) (n.2.1 * 3 + l)).drop j).map (fun f => ps_go m1 m2 n e f))).2 gr A5 → (ps_fld m1 m2 c1 c2 gr (N, fd) (((mv_pl m2 (mv_al m2 c2) (n.2.1 * 3 + l)).drop j).map (fun f => ps_go m1 m2 n e f))).1[i0]? = some n → rz_T w (d + 3) 0 0 m_Pair_spread 0 0 234 [some (.ref a), some (.int (nI g)), some (.int (nI l)), some (.int (nI i0)), some (.int (nI (n.1 * 3 + l))), some (.int (nI (n.2.1 * 3 + l))), some (.int (nI ((mv_so m1 (mv_al m1 c1) (n.1 * 3 + l)).length + i))), z1, z2, z3] [] (ps_put G a I A J X P) Q) →
      rz_T w (d + 3) 0 0 m_Pair_spread 0 0 121 [some (.ref a), some (.int (nI g)), some (.int (nI l)), some (.int (nI i0)), some (.int (nI (n.1 * 3 + l))), some (.int (nI (n.2.1 * 3 + l))), some (.int (nI ((mv_so m1 (mv_al m1 c1) (n.1 * 3 + l)).length + i))), some (.int (nI ((mv_so m2 (mv_al m2 c2) (n.2.1 * 3 + l)).length + j))), z1, z2] [] (ps_put G a I A J X P) Q := by
  intro k
  obtain ⟨-, hm1, hs1, ha1⟩ := id h1
  obtain ⟨-, hm2, hs2, ha2⟩ := id h2
  unfold mc_ap at ha1 ha2
  obtain ⟨p1, p2, p3, p4⟩ := mv_row hs1 (show n.1 * 3 + l < 18 by omega)
  obtain ⟨r1, r2, r3, r4⟩ := mv_row hs2 (show n.2.1 * 3 + l < 18 by omega)
  have n1 := hm1.2.2.2.2.1
  have n2 := hm2.2.2.2.2.1
  have z1 := hm1.2.2.1
  have z2 := hm2.2.2.1
  obtain ⟨se1, se2⟩ := p4 i e hie
  have ee := hm1.2.2.2.2.2.1 e se2
  have ge := mv_e_get se2
  generalize hpl1 : mv_pl m1 (mv_al m1 c1) (n.1 * 3 + l) = pl1 at *
  generalize hso1 : (mv_so m1 (mv_al m1 c1) (n.1 * 3 + l)).length = so1 at *
  generalize hpl2 : mv_pl m2 (mv_al m2 c2) (n.2.1 * 3 + l) = pl2 at *
  generalize hso2 : (mv_so m2 (mv_al m2 c2) (n.2.1 * 3 + l)).length = so2 at *
  induction k with
  | zero => intro j N fd I A X y1 y2 q1 q2; omega
  | succ k ih =>
    intro j N fd I A X y1 y2 hk hj hS hN0 hc
    have hmc1 := ps_mc (a := a) (I := I) (A := A) (J := J) (X := X) (P := P) h1
    have hmc2 := ps_mc (a := a) (I := I) (A := A) (J := J) (X := X) (P := P) h2
    have ob1 : (ps_put G a I A J X P) (P 0) = some (.inr (2, mc_fs (P 0) S1.1 S1.2.2.2.2)) := hmc1 0 (by decide)
    have ob2 : (ps_put G a I A J X P) (P 1) = some (.inr (2, mc_fs (P 1) S2.1 S2.2.2.2.2)) := hmc2 0 (by decide)
    have b2 : (ps_put G a I A J X P) (P 1 + 9) = some (.inl (0, 19, .inl (S2.2.1 4))) := hmc2 9 (by decide)
    have t1 : (ps_put G a I A J X P) (P 0 + 8) = some (.inl (0, 24, .inl (S1.2.1 3))) := hmc1 8 (by decide)
    have t2 : (ps_put G a I A J X P) (P 1 + 8) = some (.inl (0, 24, .inl (S2.2.1 3))) := hmc2 8 (by decide)
    have o1 : (ps_put G a I A J X P) (P 0 + 3) = some (.inl (0, 24, .inl (S1.2.1 2))) := hmc1 3 (by decide)
    have o2 : (ps_put G a I A J X P) (P 1 + 3) = some (.inl (0, 24, .inl (S2.2.1 2))) := hmc2 3 (by decide)
    refine rz_blk' [(.iload 7, 2, 0, 0), (.aload_n 0, 1, 0, 0), (.getfield 63, 3, 4, 1), (.getfield 107, 3, 2, 12), (.iload 5, 2, 0, 0), (.iconst 1, 1, 0, 0), (.iadd, 1, 0, 0), (.iaload, 1, 0, 0), (.if_icmp .ge 99, 3, 0, 0), (.aload_n 0, 1, 0, 0), (.getfield 59, 3, 4, 0), (.getfield 112, 3, 2, 11), (.iload 6, 2, 0, 0), (.iaload, 1, 0, 0), (.istore 8, 2, 0, 0)] (by decide +kernel) (Nat.le_refl _) (Nat.le_refl _) (fun K R hK hR => ?_)
    simp only [rw_c1, ↓rx_aload_n0, ↓rx_getfield, ↓rx_iadd, ↓rx_iaload, ↓rx_iconst, ↓rx_if_icmp_ge, ↓rx_iload, ↓rx_istore, ↓rx_nil, ↓ry_fvs, ↓ry_fvz, ↓ry_i1, ↓ry_i2, ↓ry_iau, ↓ry_li0s, ↓ry_li0z, ↓ry_lr0s, ↓ry_lr0z, ↓ry_obu, ↓ry_r1, ↓ry_ri, true_and, ↓ps_ob, ↓ps_i1, ↓ps_n1, ↓ps_i2, ↓ps_n2, ↓ps_i3, ↓ps_n3, ↓ps_r4, ↓ps_r5, ↓ps_i6, ↓ps_n6, ↓ps_i7, ↓ps_n7, ↓ps_i8, ↓ps_n8, ↓ps_i9, ↓ps_n9, ↓ps_i10, ↓ps_n10, ↓ps_i11, ↓ps_n11, ↓rh_ob ob1, ↓rh_ob ob2, ↓rh_ia b2, ↓rh_ia t1, nI_add, rz_set, rz_nol, rz_clr, List.set_cons_zero, List.set_cons_succ, rz_tr, Nat.reduceAdd, Int.reduceAdd, Int.reduceToNat, Int.reduceSub, Int.reduceNeg, Int.cast_ofNat_Int]
    rw [nI_clamp (n := n.2.1 * 3 + l + 1) (by omega), r2, nI_leI (by omega) (by omega)]
    refine ⟨vp_in_nI (by omega) (by decide), fun b1 => hK _ _ _ _ ?_, fun b1 => ?_⟩
    · have e0 : pl2.drop j = [] := List.drop_of_length_le (by omega)
      rw [e0] at hc
      exact hc I A X _ _ _ hS hN0
    have hjl : j < pl2.length := by omega
    obtain ⟨f, hjf⟩ : ∃ f, pl2[j]? = some f := ⟨_, List.getElem?_eq_getElem hjl⟩
    obtain ⟨sf1, sf2⟩ := r4 j f hjf
    have ef := hm2.2.2.2.2.2.1 f sf2
    have gf := mv_e_get sf2
    have hdr : pl2.drop j = f :: pl2.drop (j + 1) := by
      rw [List.drop_eq_getElem_cons hjl]
      congr 1
      rw [List.getElem?_eq_getElem hjl] at hjf
      exact Option.some.inj hjf
    rw [hdr] at hc
    simp only [List.map_cons, ps_fld, List.foldl_cons] at hc
    rw [nI_clamp (by omega), se1]
    refine ⟨vp_in_nI (by omega) (by decide), hK _ _ _ _ ?_⟩
    refine rz_blk' [(.aload_n 0, 1, 0, 0), (.getfield 63, 3, 4, 1), (.getfield 112, 3, 2, 11), (.iload 7, 2, 0, 0), (.iaload, 1, 0, 0), (.istore 9, 2, 0, 0)] (by decide +kernel) (Nat.le_refl _) (Nat.le_refl _) (fun K R hK hR => ?_)
    simp only [↓rx_aload_n0, ↓rx_getfield, ↓rx_iaload, ↓rx_iload, ↓rx_istore, ↓rx_nil, ↓ry_fvs, ↓ry_fvz, ↓ry_i1, ↓ry_iau, ↓ry_li0s, ↓ry_li0z, ↓ry_lr0s, ↓ry_lr0z, ↓ry_obu, ↓ry_r1, ↓ry_ri, true_and, ↓ps_ob, ↓ps_i1, ↓ps_n1, ↓ps_i2, ↓ps_n2, ↓ps_i3, ↓ps_n3, ↓ps_r4, ↓ps_r5, ↓ps_i6, ↓ps_n6, ↓ps_i7, ↓ps_n7, ↓ps_i8, ↓ps_n8, ↓ps_i9, ↓ps_n9, ↓ps_i10, ↓ps_n10, ↓ps_i11, ↓ps_n11, ↓rh_ob ob2, ↓rh_ia t2, rz_set, rz_nol, rz_clr, List.set_cons_zero, List.set_cons_succ, rz_tr, Nat.reduceAdd, Int.reduceAdd, Int.reduceToNat, Int.reduceSub, Int.reduceNeg, Int.cast_ofNat_Int]
    rw [nI_clamp (by omega), sf1]
    refine ⟨vp_in_nI (by omega) (by decide), hK _ _ _ _ ?_⟩
    obtain ⟨ns, i1, gr72, i2, fdb, a5⟩ := id hS
    obtain ⟨q0, q1, q2, q3, q4⟩ := id ns
    obtain ⟨c0, c1', c2', c3, c4, c5, c6⟩ := q3 i0 n hN0
    have hi0 := (List.getElem?_eq_some_iff.mp hN0).1
    have hkk := (q4 (mv_e m1 e).2.2.1 (mv_e m2 f).2.2.1 (by rw [ge]; omega) (by rw [gf]; omega))
    have hnext : ∀ (N' : List ps_nd) (fd' : Option Nat) (I' : Nat → Int32) (A' : Nat → Nat → Int32) (X' : Nat → List Nat), (N', fd') = ps_vs m1 m2 c1 c2 gr (N, fd) (ps_go m1 m2 n e f) → ps_ss I' A' X' N' fd' gr A5 → rz_T w (d + 3) 0 0 m_Pair_spread 0 0 228 [some (.ref a), some (.int (nI g)), some (.int (nI l)), some (.int (nI i0)), some (.int (nI (n.1 * 3 + l))), some (.int (nI (n.2.1 * 3 + l))), some (.int (nI (so1 + i))), some (.int (nI (so2 + j))), some (.int (nI e)), some (.int (nI f))] [] (ps_put G a I' A' J X' P) Q := by
      intro N' fd' I' A' X' hN' hS'
      refine rz_blk' [(.iinc 7 1, 3, 0, 0), (.goto (-110), 3, 0, 0)] (by decide +kernel) (Nat.le_refl _) (Nat.le_refl _) (fun K R hK hR => ?_)
      simp only [rw_c1, ↓rx_goto, ↓rx_iinc, ↓rx_nil, ↓ry_li0s, ↓ry_li0z, ↓ps_ob, ↓ps_i1, ↓ps_n1, ↓ps_i2, ↓ps_n2, ↓ps_i3, ↓ps_n3, ↓ps_r4, ↓ps_r5, ↓ps_i6, ↓ps_n6, ↓ps_i7, ↓ps_n7, ↓ps_i8, ↓ps_n8, ↓ps_i9, ↓ps_n9, ↓ps_i10, ↓ps_n10, ↓ps_i11, ↓ps_n11, nI_add, rz_set, rz_nol, rz_clr, List.set_cons_zero, List.set_cons_succ, rz_tr, Nat.reduceAdd, Int.reduceAdd, Int.reduceToNat, Int.reduceSub, Int.reduceNeg, Int.cast_ofNat_Int]
      rw [Nat.add_assoc]
      rw [← hN'] at hc
      refine hK _ _ _ _ (ih (j + 1) N' fd' I' A' X' _ _ (by omega) (by omega) hS' ?_ hc)
      have := ps_vs_get (m1 := m1) (m2 := m2) (c1 := c1) (c2 := c2) (gr := gr) (S := (N, fd)) (n := ps_go m1 m2 n e f) hN0
      rw [← hN'] at this
      exact this
    refine rz_blk' [(.aload_n 0, 1, 0, 0), (.getfield 31, 3, 4, 8), (.aload_n 0, 1, 0, 0), (.getfield 59, 3, 4, 0), (.getfield 115, 3, 2, 4), (.iload 8, 2, 0, 0), (.iaload, 1, 0, 0), (.bipush 6, 2, 0, 0), (.imul, 1, 0, 0), (.aload_n 0, 1, 0, 0), (.getfield 63, 3, 4, 1), (.getfield 115, 3, 2, 4), (.iload 9, 2, 0, 0), (.iaload, 1, 0, 0), (.iadd, 1, 0, 0), (.iaload, 1, 0, 0), (.iconst 2, 1, 0, 0), (.if_icmp .ge 36, 3, 0, 0)] (by decide +kernel) (Nat.le_refl _) (Nat.le_refl _) (fun K R hK hR => ?_)
    simp only [rw_b6, rw_c2, ↓rx_aload_n0, ↓rx_bipush, ↓rx_getfield, ↓rx_iadd, ↓rx_iaload, ↓rx_iconst, ↓rx_if_icmp_ge, ↓rx_iload, ↓rx_imul, ↓rx_nil, ↓ry_fvs, ↓ry_fvz, ↓ry_i2, ↓ry_iau, ↓ry_li0s, ↓ry_li0z, ↓ry_lr0s, ↓ry_lr0z, ↓ry_obu, ↓ry_r1, ↓ry_ri, true_and, ↓ps_ob, ↓ps_i1, ↓ps_n1, ↓ps_i2, ↓ps_n2, ↓ps_i3, ↓ps_n3, ↓ps_r4, ↓ps_r5, ↓ps_i6, ↓ps_n6, ↓ps_i7, ↓ps_n7, ↓ps_i8, ↓ps_n8, ↓ps_i9, ↓ps_n9, ↓ps_i10, ↓ps_n10, ↓ps_i11, ↓ps_n11, ↓rh_ob ob1, ↓rh_ob ob2, ↓rh_ia o1, ↓rh_ia o2, pk_mul, nI_add, rz_set, rz_nol, rz_clr, List.set_cons_zero, List.set_cons_succ, rz_tr, Nat.reduceAdd, Int.reduceAdd, Int.reduceToNat, Int.reduceSub, Int.reduceNeg, Int.cast_ofNat_Int]
    rw [nI_clamp (by omega), nI_clamp (by omega), ee.2.2.1, ef.2.2.1, ← ge, ← gf, pk_mul, nI_add, nI_clamp (by rw [ge, gf]; omega), hkk.1, nI_leI (by omega) (by omega)]
    refine ⟨vp_in_nI (by omega) (by decide), vp_in_nI (by omega) (by decide), vp_in_nI (by rw [ge, gf]; omega) (by decide), fun b3 => hK _ _ _ _ (hnext N fd I A X ?_ hS), fun b3 => hK _ _ _ _ ?_⟩
    · simp only [ps_vs]
      rw [if_neg]
      simp only [ps_new, Bool.and_eq_true, decide_eq_true_eq]
      intro q
      have := q.1.1
      simp only [ps_go] at this
      omega
    refine rz_blk' [(.aload_n 0, 1, 0, 0), (.aload_n 0, 1, 0, 0), (.getfield 59, 3, 4, 0), (.getfield 115, 3, 2, 4), (.iload 8, 2, 0, 0), (.iaload, 1, 0, 0), (.aload_n 0, 1, 0, 0), (.getfield 63, 3, 4, 1), (.getfield 115, 3, 2, 4), (.iload 9, 2, 0, 0), (.iaload, 1, 0, 0), (.aload_n 0, 1, 0, 0), (.iload_n 3, 1, 0, 0), (.iload 8, 2, 0, 0), (.iload 9, 2, 0, 0)] (by decide +kernel) (Nat.le_refl _) (Nat.le_refl _) (fun K R hK hR => ?_)
    simp only [↓rx_aload_n0, ↓rx_getfield, ↓rx_iaload, ↓rx_iload, ↓rx_iload_n3, ↓rx_nil, ↓ry_fvs, ↓ry_fvz, ↓ry_iau, ↓ry_li0s, ↓ry_li0z, ↓ry_lr0s, ↓ry_lr0z, ↓ry_obu, ↓ry_r1, ↓ry_ri, true_and, ↓ps_ob, ↓ps_i1, ↓ps_n1, ↓ps_i2, ↓ps_n2, ↓ps_i3, ↓ps_n3, ↓ps_r4, ↓ps_r5, ↓ps_i6, ↓ps_n6, ↓ps_i7, ↓ps_n7, ↓ps_i8, ↓ps_n8, ↓ps_i9, ↓ps_n9, ↓ps_i10, ↓ps_n10, ↓ps_i11, ↓ps_n11, ↓rh_ob ob1, ↓rh_ob ob2, ↓rh_ia o1, ↓rh_ia o2, rz_set, rz_nol, rz_clr, List.set_cons_zero, List.set_cons_succ, rz_tr, Nat.reduceAdd, Int.reduceAdd, Int.reduceToNat, Int.reduceSub, Int.reduceNeg, Int.cast_ofNat_Int]
    rw [nI_clamp (by omega), nI_clamp (by omega), ee.2.2.1, ef.2.2.1, ← ge, ← gf]
    refine ⟨vp_in_nI (by omega) (by decide), vp_in_nI (by omega) (by decide), hK _ _ _ _ ?_⟩
    obtain ⟨sh1, sh2, sh3, sh4, sh5⟩ := hsh
    rw [hpl1, hpl2] at sh5
    obtain ⟨sg1, sg2, sg3, sg4⟩ := sh5 e f (List.mem_of_getElem? hie) (List.mem_of_getElem? hjf)
    refine rz_cV (As := [.int (nI i0), .int (nI e), .int (nI f)]) (b := a) (S := [.int (nI (mv_e m2 f).2.2.1), .int (nI (mv_e m1 e).2.2.1), .ref a]) l_Pair_118 (by decide +kernel) rfl ps_at0 rfl (Nat.le_of_ble_eq_true rfl) (Nat.le_refl _) (Nat.le_refl _) (c_Pair_follow h1 h2 (by omega) se2 sf2 c2' c3 c4 (q2 0 (by decide)) (q2 1 (by decide)) sh1 sh2 sh3 sh4) (fun r G' hr => ?_)
    obtain ⟨rfl, rfl⟩ := hr
    simp only [Option.toList, List.cons_append, List.nil_append]
    have hS3 : ps_ss I A (va_up (va_up X 0 (ps_go m1 m2 n e f).2.2.2.1) 1 (ps_go m1 m2 n e f).2.2.2.2) N fd gr A5 := ⟨ps_keep01 hS.1 sg1 sg2, hS.2⟩
    have hX3 : va_up (va_up X 0 (ps_go m1 m2 n e f).2.2.2.1) 1 (ps_go m1 m2 n e f).2.2.2.2 = va_up (va_up X 0 (ps_f0 n.2.2.1 n.2.2.2.1 n.2.2.2.2 (mv_e m1 e).2.2.2 (mv_e m2 f).2.2.2)) 1 (ps_f1 n.2.2.1 n.2.2.2.1 n.2.2.2.2 (mv_e m1 e).2.2.2 (mv_e m2 f).2.2.2) := rfl
    rw [← hX3]
    generalize hX4 : va_up (va_up X 0 (ps_go m1 m2 n e f).2.2.2.1) 1 (ps_go m1 m2 n e f).2.2.2.2 = X4 at hS3
    have u0 : X4 0 = (ps_go m1 m2 n e f).2.2.2.1 := by rw [← hX4, va_up_ne _ _ (by decide), va_up_self]
    have u1 : X4 1 = (ps_go m1 m2 n e f).2.2.2.2 := by rw [← hX4, va_up_self]
    refine rz_cV (As := [.int (nI (mv_e m1 e).2.2.1), .int (nI (mv_e m2 f).2.2.1), .int (rz_b (ps_go m1 m2 n e f).2.2.1)]) (b := a) (S := []) l_Pair_90 (by decide +kernel) rfl ps_at0 rfl (Nat.le_of_ble_eq_true rfl) (Nat.le_refl _) (Nat.le_refl _) (c_Pair_visit h1 h2 (by rw [ge]; omega) (by rw [gf]; omega) hS3.1 (by rw [u0]; exact sg3) (by rw [u1]; exact sg4)) (fun r G' hr => ?_)
    obtain ⟨rfl, hv⟩ := hr
    rw [u0, u1] at hv
    obtain ⟨I', A', X', rfl, hS'⟩ := ps_vp_ss (m1 := m1) (m2 := m2) (c1 := c1) (c2 := c2) (n := ps_go m1 m2 n e f) hS3 hv
    simp only [Option.toList, List.nil_append]
    exact hnext _ _ I' A' X' rfl hS'
end PSP

