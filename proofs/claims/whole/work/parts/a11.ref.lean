/-! the reference: push -/
theorem lcp_pre {h w : List Nat} : h.take (lcpn h w) <+: w := by
  rw [lcp_take]; exact List.take_prefix _ _
theorem lcp_full {h w : List Nat} (e : ¬ lcpn h w < h.length) : h <+: w := by
  have h1 := lcpn_le h w
  have := lcp_pre (h := h) (w := w)
  rwa [List.take_of_length_le (by omega)] at this
theorem pre_at {u v : List Nat} (h : u <+: v) {k : Nat} (hk : k < u.length) : v[k]? = u[k]? := by
  obtain ⟨t, rfl⟩ := h
  rw [List.getElem?_append_left hk]
theorem pre_lcp {h' h w : List Nat} (h1 : h' <+: h) (h2 : h' <+: w) : h' <+: h.take (lcpn h w) := by
  have hl : h'.length ≤ lcpn h w := by
    refine Nat.le_of_not_lt (fun q => ?_)
    have l1 := h1.length_le
    have l2 := h2.length_le
    refine lcpn_ne h w (by omega) (by omega) ?_
    rw [pre_at h1 q, pre_at h2 q]
  obtain ⟨t, rfl⟩ := h1
  rw [List.prefix_iff_eq_take, List.take_take, Nat.min_eq_left hl]
  simp
def cm_t (C : Nat → Option (List Nat)) : Nat := ((List.range 6).map (fun s => ((C s).getD []).length)).sum
theorem cm_t_up {C : Nat → Option (List Nat)} {a : Nat} {w : List Nat} (ha : a < 6) : cm_t (cm_up C a w) + ((C a).getD []).length = cm_t C + w.length := by
  have key : ∀ n, ((List.range n).map (fun s => ((cm_up C a w s).getD []).length)).sum + (if a < n then ((C a).getD []).length else 0) = ((List.range n).map (fun s => ((C s).getD []).length)).sum + if a < n then w.length else 0 := by
    intro n
    induction n with
    | zero => simp
    | succ n ih =>
      rw [List.range_succ, List.map_append, List.map_append, List.sum_append_nat, List.sum_append_nat]
      simp only [List.map_cons, List.map_nil, List.sum_cons, List.sum_nil, Nat.add_zero]
      by_cases e : n = a
      · subst e
        rw [cm_us]
        rw [if_neg (Nat.lt_irrefl _), if_neg (Nat.lt_irrefl _)] at ih
        rw [if_pos (Nat.lt_succ_self _), if_pos (Nat.lt_succ_self _)]
        simp only [Option.getD_some]; omega
      · rw [cm_un e]
        by_cases c : a < n
        · rw [if_pos c, if_pos c] at ih
          rw [if_pos (show a < n + 1 by omega), if_pos (show a < n + 1 by omega)]; omega
        · rw [if_neg c, if_neg c] at ih
          rw [if_neg (show ¬ a < n + 1 by omega), if_neg (show ¬ a < n + 1 by omega)]; omega
  have := key 6
  rwa [if_pos ha, if_pos ha] at this
/-- what all outputs of a state begin with -/
def hd_is (T : mv_T) (H : Nat → List Nat) : Prop := ∀ s, s < 6 → (∀ o, xo T s o → H s <+: o) ∧ (∀ h', (∃ o, xo T s o) → (∀ o, xo T s o → h' <+: o) → h' <+: H s) ∧ ((¬ ∃ o, xo T s o) → H s = [])
theorem hd_uniq {T : mv_T} {H H' : Nat → List Nat} (h : hd_is T H) (h' : hd_is T H') {s : Nat} (hs : s < 6) : H s = H' s := by
  obtain ⟨a1, a2, a3⟩ := h s hs
  obtain ⟨b1, b2, b3⟩ := h' s hs
  by_cases c : ∃ o, xo T s o
  · have p1 := b2 _ c a1
    have p2 := a2 _ c b1
    exact p1.eq_of_length (Nat.le_antisymm p1.length_le p2.length_le)
  · rw [a3 c, b3 c]
/-- heads are written before the state is come to -/
def pu_w (H : Nat → List Nat) (e : xe_T) : List Nat := (e.2.2.2 ++ H e.2.2.1).drop (H e.1).length
def pu (T : mv_T) (H : Nat → List Nat) : mv_T := (T.1, T.2.1.map (fun e => (e.1, e.2.1, e.2.2.1, pu_w H e)), fun q => (T.2.2.1 q).map (fun f => f.drop (H q).length), if T.1.testBit 0 = true then T.2.2.2 ++ H 0 else T.2.2.2)
theorem pu_tw {T : mv_T} {H : Nat → List Nat} (h : tw T 3) (hl : ∀ s, s < 6 → (H s).length ≤ 18 ∧ ∀ x ∈ H s, x < 8) : tw (pu T H) 21 := by
  obtain ⟨h1, h2, h3, h4, h5, h6, h7⟩ := h
  refine ⟨h1, by simp [pu]; exact h2, fun e he => ?_, fun q hq => by simp [pu, h4 q hq], fun q xs hx => ?_, ?_, ?_⟩
  · obtain ⟨x, hx, rfl⟩ := List.mem_map.mp he
    obtain ⟨y1, y2, y3, y4, y5⟩ := h3 x hx
    have hh := hl _ y3
    refine ⟨y1, y2, y3, ?_, fun y hy => ?_⟩
    · show (pu_w H x).length ≤ 21
      unfold pu_w
      rw [List.length_drop, List.length_append]; omega
    · have hy : y ∈ pu_w H x := hy
      rcases List.mem_append.mp (List.mem_of_mem_drop hy) with q | q
      · exact y5 y q
      · exact hh.2 y q
  · simp only [pu] at hx
    cases c : T.2.2.1 q with
    | none => rw [c] at hx; simp at hx
    | some f =>
      rw [c] at hx
      simp at hx
      subst hx
      have := h5 q f c
      exact ⟨by rw [List.length_drop]; omega, fun x hx => this.2 x (List.mem_of_mem_drop hx)⟩
  · have := (hl 0 (by decide)).1
    simp only [pu]; split
    · rw [List.length_append]; omega
    · omega
  · have := (hl 0 (by decide)).2
    simp only [pu]; split
    · intro x hx
      rcases List.mem_append.mp hx with q | q
      · exact h7 x q
      · exact this x q
    · exact h7
def pj (T : mv_T) (C : Nat → Option (List Nat)) : Prop := (∀ s, s < 6 → (C s = none ↔ ¬ ∃ o, xo T s o)) ∧ ∀ s h, s < 6 → C s = some h → ∀ h', (∀ o, xo T s o → h' <+: o) → h' <+: h
theorem pj_f {T : mv_T} {C : Nat → Option (List Nat)} {s : Nat} {h f : List Nat} (hj : pj T C) (hs : s < 6) (hh : C s = some h) (hf : T.2.2.1 s = some f) : pj T (cm_up C s (h.take (lcpn h f))) := by
  refine ⟨fun q hq => ?_, fun q g hq hg h' hp => ?_⟩
  · by_cases c : q = s
    · subst c
      rw [cm_us, ← hj.1 q hq, hh]; simp
    · rw [cm_un c]; exact hj.1 q hq
  · by_cases c : q = s
    · subst c
      rw [cm_us] at hg
      cases hg
      exact pre_lcp (hj.2 q h hq hh h' hp) (hp f (xo_f hf))
    · rw [cm_un c] at hg; exact hj.2 q g hq hg h' hp
theorem pj_e {T : mv_T} {C : Nat → Option (List Nat)} {e : xe_T} {h g : List Nat} (hj : pj T C) (he : e ∈ T.2.1) (h1 : e.1 < 6) (h2 : e.2.2.1 < 6) (hh : C e.1 = some h) (hg : C e.2.2.1 = some g) : pj T (cm_up C e.1 (h.take (lcpn h (e.2.2.2 ++ g)))) := by
  have hto : ∃ o, xo T e.2.2.1 o := Classical.byContradiction fun q => by
    rw [← hj.1 _ h2, hg] at q; cases q
  refine ⟨fun q hq => ?_, fun q g' hq hg' h' hp => ?_⟩
  · by_cases c : q = e.1
    · subst c
      rw [cm_us, ← hj.1 _ hq, hh]; simp
    · rw [cm_un c]; exact hj.1 q hq
  · by_cases c : q = e.1
    · subst c
      rw [cm_us] at hg'
      cases hg'
      refine pre_lcp (hj.2 _ h hq hh h' hp) ?_
      obtain ⟨o0, ho0⟩ := hto
      by_cases cl : h'.length ≤ e.2.2.2.length
      · have := hp _ (xo_e he ho0)
        exact (List.prefix_of_prefix_length_le this (List.prefix_append _ _) cl).trans (List.prefix_append _ _)
      · have hw : e.2.2.2 <+: h' := List.prefix_of_prefix_length_le (List.prefix_append _ _) (hp _ (xo_e he ho0)) (by omega)
        obtain ⟨t, rfl⟩ := hw
        rw [List.prefix_append_right_inj]
        refine hj.2 _ g h2 hg t (fun o ho => ?_)
        have := hp _ (xo_e he ho)
        rwa [List.prefix_append_right_inj] at this
    · rw [cm_un c] at hg'; exact hj.2 q g' hq hg' h' hp
theorem xo_ind2 {T : mv_T} {P : Nat → List Nat → Prop} (hf : ∀ s f, T.2.2.1 s = some f → P s f) (he : ∀ e ∈ T.2.1, ∀ o, xo T e.2.2.1 o → P e.2.2.1 o → P e.1 (e.2.2.2 ++ o)) {s : Nat} {o : List Nat} (h : xo T s o) : P s o :=
  (xo_ind (P := fun s o => xo T s o ∧ P s o) (fun s f h1 => ⟨xo_f h1, hf s f h1⟩) (fun e hm o hP => ⟨xo_e hm hP.1, he e hm o hP.1 hP.2⟩) h).2
theorem pj_end {T : mv_T} {C : Nat → Option (List Nat)} (w1 : tw T 32) (hj : pj T C) (hf : ∀ s h f, s < 6 → C s = some h → T.2.2.1 s = some f → h <+: f) (he : ∀ e ∈ T.2.1, ∀ h g, C e.1 = some h → C e.2.2.1 = some g → h <+: e.2.2.2 ++ g) : hd_is T (fun s => (C s).getD []) := by
  intro s hs
  refine ⟨fun o ho => ?_, fun h' hx hp => ?_, fun hn => ?_⟩
  · refine xo_ind2 (P := fun s o => s < 6 → (C s).getD [] <+: o) (fun s f h1 hs => ?_) (fun e hm o hxo hP hs => ?_) ho hs
    · cases c : C s with
      | none => simp
      | some h => exact hf s h f hs c h1
    · have b1 := w1.2.2.1 e hm
      have hP := hP b1.2.2.1
      cases c : C e.1 with
      | none => simp
      | some h =>
        cases c2 : C e.2.2.1 with
        | none =>
          rw [hj.1 _ b1.2.2.1] at c2
          exact absurd ⟨o, hxo⟩ c2
        | some g =>
          rw [c2] at hP
          exact (he e hm h g c c2).trans ((List.prefix_append_right_inj _).mpr hP)
  · show h' <+: (C s).getD []
    cases c : C s with
    | none => rw [hj.1 s hs] at c; exact absurd hx c
    | some h => exact hj.2 s h hs c h' hp
  · show (C s).getD [] = []
    rw [(hj.1 s hs).mpr hn]; rfl
set_option maxRecDepth 100000 in
set_option maxHeartbeats 4000000 in
theorem c_Mod_push {w : rz_w} {d : Nat} {G : rz_G} {a : Nat} {I : Nat → Int32} {A : Nat → Nat → Int32} {T : mv_T} (t : re_t A 0 T) (w1 : tw T 3) (hal : ∀ e ∈ T.2.1, ∃ o, xo T e.2.2.1 o) (hal0 : T.1.testBit 0 = true → ∃ o, xo T 0 o) : rz_C w (d + 1) 0 0 y_Mod_push m_Mod_push [.ref a] (re_put G a I A) (fun (r : Option Value) (G' : rz_G) => r = none ∧ ∃ A' H, G' = re_put G a I A' ∧ fa [19, 20, 21, 22, 23, 24, 28, 65, 66] A A' ∧ hd_is T H ∧ (∀ s, s < 6 → (H s).length ≤ 18 ∧ ∀ x ∈ H s, x < 8) ∧ re_t A' 0 (pu T H)) := by
  generalize hQ : (fun (r : Option Value) (G' : rz_G) => r = none ∧ ∃ A' H, G' = re_put G a I A' ∧ fa [19, 20, 21, 22, 23, 24, 28, 65, 66] A A' ∧ hd_is T H ∧ (∀ s, s < 6 → (H s).length ≤ 18 ∧ ∀ x ∈ H s, x < 8) ∧ re_t A' 0 (pu T H)) = Q
  have w1' := tw_m w1 (show 3 ≤ 32 by decide)
  have hl := w1.2.1
  have hos : ∀ {q : Nat}, (os (T.2.2.1 q) < 0) = (T.2.2.1 q = none) := os_lt (fun xs hx => by have := (w1.2.2.2.2.1 _ xs hx).1; omega)
  -- the second half
  have hfin : ∀ (C : Nat → Option (List Nat)) (A0 : Nat → Nat → Int32) (z1 : Int32) (z2 z3 z4 z5 : Option Value), fa [65, 66] A A0 → cm_is A0 C → pj T C → hd_is T (fun s => (C s).getD []) → rz_T w (d + 1) 0 0 m_Mod_push 0 0 126 [some (.ref a), some (.int z1), z2, z3, z4, z5] [] (re_put G a I A0) Q := by
    intro C A0 z1 z2 z3 z4 z5 a0 c0 hj hhd
    generalize hH : (fun s => (C s).getD []) = H at *
    have hHs : ∀ s, (C s).getD [] = H s := fun s => by rw [← hH]
    have hH18 : ∀ s, s < 6 → (H s).length ≤ 18 ∧ ∀ x ∈ H s, x < 8 := fun s hs => by
      rw [← hHs]; exact (c0 s hs).2.2
    have e65 : ∀ s, s < 6 → (∃ o, xo T s o) → A0 65 s = nI (H s).length := fun s hs hx => by
      cases c : C s with
      | none => exact absurd hx ((hj.1 s hs).mp c)
      | some h => rw [(c0 s hs).1, c, ← hHs, c]; rfl
    have e66 : ∀ s, s < 6 → sg (A0 66) (32 * s) (H s) := fun s hs => by rw [← hHs]; exact (c0 s hs).2.1
    -- the last step: the first word
    have s4 : ∀ (A1 : Nat → Nat → Int32) (z1 : Int32) (z3 z4 z5 : Option Value), fa [19, 20, 21, 22, 23, 24, 28, 65, 66] A A1 → A1 65 = A0 65 → A1 66 = A0 66 → A1 23 = A 23 → A1 24 = A 24 → (∀ (A2 : Nat → Nat → Int32), (∀ f, f ≠ 23 → f ≠ 24 → A2 f = A1 f) → A2 23 0 = nI (pu T H).2.2.2.length → sg (A2 24) 0 (pu T H).2.2.2 → re_t A2 0 (pu T H)) → rz_T w (d + 1) 0 0 m_Mod_push 0 0 401 [some (.ref a), some (.int z1), some (.int (nI 0)), z3, z4, z5] [] (re_put G a I A1) Q := by
      intro A1 z1 z3 z4 z5 a1 f65 f66 f23 f24 hre
      have u0 := t.1 0 (by decide)
      rw [Nat.mul_zero, Nat.add_zero] at u0
      have f14 : A1 14 0 = rz_b (T.1.testBit 0) := by rw [a1 14 rfl]; exact u0
      have g23 : A1 23 0 = nI T.2.2.2.length := by rw [f23]; exact t.2.2.2.2.1
      have g24 : sg (A1 24) 0 T.2.2.2 := by rw [f24]; exact t.2.2.2.2.2
      have hsl := w1.2.2.2.2.2.1
      have h18 := (hH18 0 (by decide)).1
      have hret : ∀ (A2 : Nat → Nat → Int32), (∀ f, f ≠ 23 → f ≠ 24 → A2 f = A1 f) → A2 23 0 = nI (pu T H).2.2.2.length → sg (A2 24) 0 (pu T H).2.2.2 → Q none (re_put G a I A2) := by
        intro A2 x1 x2 x3
        rw [← hQ]
        refine ⟨rfl, A2, H, rfl, fun f hf => ?_, hhd, hH18, hre A2 x1 x2 x3⟩
        rw [x1 f (by intro q; subst q; revert hf; decide) (by intro q; subst q; revert hf; decide)]
        exact a1 f hf
      cases hb : T.1.testBit 0 with
      | false =>
        rw [hb] at f14
        have hpu : (pu T H).2.2.2 = T.2.2.2 := by simp [pu, hb]
        refine rz_blk' [(.iload_n 2, 1, 0, 0), (.aload_n 0, 1, 0, 0), (.getfield 166, 3, 10, 65), (.iconst 0, 1, 0, 0), (.iaload, 1, 0, 0), (.if_icmp .ge 37, 3, 0, 0)] (by decide +kernel) (Nat.le_refl _) (Nat.le_refl _) (fun K R hK hR => ?_)
        simp only [rw_c0, ↓rx_aload_n0, ↓rx_getfield, ↓rx_iaload, ↓rx_iconst, ↓rx_if_icmp_ge, ↓rx_iload_n2, ↓rx_nil, ↓ry_i2, ↓ry_iau, ↓ry_li0s, ↓ry_li0z, ↓ry_lr0s, ↓ry_lr0z, ↓ry_obu, ↓ry_r1, ↓ry_ri, true_and, re_a65, ↓re_F65, ↓re_i65, ↓re_ob, f14, g23, re_a23, ↓re_i23, rz_set, rz_nol, rz_clr, List.set_cons_zero, List.set_cons_succ, rz_tr, Nat.reduceAdd, Int.reduceAdd, Int.reduceToNat, Int.reduceSub, Int.reduceNeg, Int.cast_ofNat_Int]
        try simp (disch := omega) only [f14, g23, pk_us, pk_un, va_up_self, va_up_ne, nI_add, pk_mul, nI_clamp, vp_inT, nI_ltI, nI_leI, nI_eqI, pk_sub, true_and, and_true]
        refine ⟨fun q1 => hK _ _ _ _ ?_, fun q1 => hK _ _ _ _ ?_⟩
        · -- 408 taken
          refine rz_blk' [(.aload_n 0, 1, 0, 0), (.getfield 74, 3, 10, 23), (.iconst 0, 1, 0, 0), (.dup2, 1, 0, 0), (.iaload, 1, 0, 0), (.aload_n 0, 1, 0, 0), (.getfield 46, 3, 10, 14), (.iconst 0, 1, 0, 0), (.baload, 1, 0, 0), (.ifCond .eq 12, 3, 0, 0)] (by decide +kernel) (Nat.le_refl _) (Nat.le_refl _) (fun K R hK hR => ?_)
          simp only [Nat.reduceEqDiff, false_or, or_false, or_true, reduceIte, rw_c0, ↓rx_aload_n0, ↓rx_baload, ↓rx_dup2, ↓rx_getfield, ↓rx_iaload, ↓rx_iconst, ↓rx_ifCond_eq, ↓rx_nil, ↓ry_i1, ↓ry_iau, ↓ry_lr0s, ↓ry_lr0z, ↓ry_obu, ↓ry_r1, ↓ry_ri, ↓ry_v2, true_and, true_or, re_a14, re_a23, ↓re_F14, ↓re_F23, ↓re_i14, ↓re_i23, ↓re_ob, f14, g23, re_a23, ↓re_i23, rz_set, rz_nol, rz_clr, List.set_cons_zero, List.set_cons_succ, rz_tr, Nat.reduceAdd, Int.reduceAdd, Int.reduceToNat, Int.reduceSub, Int.reduceNeg, Int.cast_ofNat_Int]
          try simp (disch := omega) only [f14, g23, pk_us, pk_un, va_up_self, va_up_ne, nI_add, pk_mul, nI_clamp, vp_inT, nI_ltI, nI_leI, nI_eqI, pk_sub, true_and, and_true]
          refine ⟨fun q2 => hK _ _ _ _ ?_, fun q2 => by first | exact absurd rfl q2 | exact absurd trivial q2⟩
          refine rz_blk' [(.iconst 0, 1, 0, 0), (.iadd, 1, 0, 0), (.iastore, 1, 0, 0)] (by decide +kernel) (Nat.le_refl _) (Nat.le_refl _) (fun K R hK hR => ?_)
          simp only [rw_c0, ↓rx_iadd, ↓rx_iastore, ↓rx_iconst, ↓rx_nil, ↓ry_i2, ↓ry_iau, ↓ry_rii, true_and, f14, g23, re_a23, ↓re_i23, rz_set, rz_nol, rz_clr, List.set_cons_zero, List.set_cons_succ, rz_tr, Nat.reduceAdd, Int.reduceAdd, Int.reduceToNat, Int.reduceSub, Int.reduceNeg, Int.cast_ofNat_Int]
          try simp (disch := omega) only [f14, g23, pk_us, pk_un, va_up_self, va_up_ne, nI_add, pk_mul, nI_clamp, vp_inT, nI_ltI, nI_leI, nI_eqI, pk_sub, true_and, and_true]
          refine hK _ _ _ _ ?_
          refine rz_blk' [(.return_, 1, 0, 0)] (by decide +kernel) (Nat.le_refl _) (Nat.le_refl _) (fun K R hK hR => ?_)
          simp only [↓rx_nil, ↓rx_return_, f14, g23, re_a23, ↓re_i23, rz_set, rz_nol, rz_clr, List.set_cons_zero, List.set_cons_succ, rz_tr, Nat.reduceAdd, Int.reduceAdd, Int.reduceToNat, Int.reduceSub, Int.reduceNeg, Int.cast_ofNat_Int]
          try simp (disch := omega) only [f14, g23, pk_us, pk_un, va_up_self, va_up_ne, nI_add, pk_mul, nI_clamp, vp_inT, nI_ltI, nI_leI, nI_eqI, pk_sub, true_and, and_true]
          refine hR _ _ (rz_nb_i (by decide)) (hret _ (fun f n1 n2 => by rw [va_up_ne _ _ n1]) ?_ ?_)
          · rw [va_up_self, pk_us, hpu, Nat.add_zero]
          · rw [va_up_ne _ _ (by decide), hpu]; exact g24
        · -- 408 not taken
          refine rz_blk' [(.aload_n 0, 1, 0, 0), (.getfield 46, 3, 10, 14), (.iconst 0, 1, 0, 0), (.baload, 1, 0, 0), (.ifCond .eq 28, 3, 0, 0)] (by decide +kernel) (Nat.le_refl _) (Nat.le_refl _) (fun K R hK hR => ?_)
          simp only [Nat.reduceEqDiff, false_or, or_false, or_true, reduceIte, rw_c0, ↓rx_aload_n0, ↓rx_baload, ↓rx_getfield, ↓rx_iconst, ↓rx_ifCond_eq, ↓rx_nil, ↓ry_i1, ↓ry_iau, ↓ry_lr0s, ↓ry_lr0z, ↓ry_obu, ↓ry_r1, ↓ry_ri, true_and, true_or, re_a14, ↓re_F14, ↓re_i14, ↓re_ob, f14, g23, re_a23, ↓re_i23, rz_set, rz_nol, rz_clr, List.set_cons_zero, List.set_cons_succ, rz_tr, Nat.reduceAdd, Int.reduceAdd, Int.reduceToNat, Int.reduceSub, Int.reduceNeg, Int.cast_ofNat_Int]
          try simp (disch := omega) only [f14, g23, pk_us, pk_un, va_up_self, va_up_ne, nI_add, pk_mul, nI_clamp, vp_inT, nI_ltI, nI_leI, nI_eqI, pk_sub, true_and, and_true]
          refine ⟨fun q3 => hK _ _ _ _ ?_, fun q3 => by first | exact absurd rfl q3 | exact absurd trivial q3⟩
          refine rz_blk' [(.aload_n 0, 1, 0, 0), (.getfield 74, 3, 10, 23), (.iconst 0, 1, 0, 0), (.dup2, 1, 0, 0), (.iaload, 1, 0, 0), (.aload_n 0, 1, 0, 0), (.getfield 46, 3, 10, 14), (.iconst 0, 1, 0, 0), (.baload, 1, 0, 0), (.ifCond .eq 12, 3, 0, 0)] (by decide +kernel) (Nat.le_refl _) (Nat.le_refl _) (fun K R hK hR => ?_)
          simp only [Nat.reduceEqDiff, false_or, or_false, or_true, reduceIte, rw_c0, ↓rx_aload_n0, ↓rx_baload, ↓rx_dup2, ↓rx_getfield, ↓rx_iaload, ↓rx_iconst, ↓rx_ifCond_eq, ↓rx_nil, ↓ry_i1, ↓ry_iau, ↓ry_lr0s, ↓ry_lr0z, ↓ry_obu, ↓ry_r1, ↓ry_ri, ↓ry_v2, true_and, true_or, re_a14, re_a23, ↓re_F14, ↓re_F23, ↓re_i14, ↓re_i23, ↓re_ob, f14, g23, re_a23, ↓re_i23, rz_set, rz_nol, rz_clr, List.set_cons_zero, List.set_cons_succ, rz_tr, Nat.reduceAdd, Int.reduceAdd, Int.reduceToNat, Int.reduceSub, Int.reduceNeg, Int.cast_ofNat_Int]
          try simp (disch := omega) only [f14, g23, pk_us, pk_un, va_up_self, va_up_ne, nI_add, pk_mul, nI_clamp, vp_inT, nI_ltI, nI_leI, nI_eqI, pk_sub, true_and, and_true]
          refine ⟨fun q4 => hK _ _ _ _ ?_, fun q4 => by first | exact absurd rfl q4 | exact absurd trivial q4⟩
          refine rz_blk' [(.iconst 0, 1, 0, 0), (.iadd, 1, 0, 0), (.iastore, 1, 0, 0)] (by decide +kernel) (Nat.le_refl _) (Nat.le_refl _) (fun K R hK hR => ?_)
          simp only [rw_c0, ↓rx_iadd, ↓rx_iastore, ↓rx_iconst, ↓rx_nil, ↓ry_i2, ↓ry_iau, ↓ry_rii, true_and, f14, g23, re_a23, ↓re_i23, rz_set, rz_nol, rz_clr, List.set_cons_zero, List.set_cons_succ, rz_tr, Nat.reduceAdd, Int.reduceAdd, Int.reduceToNat, Int.reduceSub, Int.reduceNeg, Int.cast_ofNat_Int]
          try simp (disch := omega) only [f14, g23, pk_us, pk_un, va_up_self, va_up_ne, nI_add, pk_mul, nI_clamp, vp_inT, nI_ltI, nI_leI, nI_eqI, pk_sub, true_and, and_true]
          refine hK _ _ _ _ ?_
          refine rz_blk' [(.return_, 1, 0, 0)] (by decide +kernel) (Nat.le_refl _) (Nat.le_refl _) (fun K R hK hR => ?_)
          simp only [↓rx_nil, ↓rx_return_, f14, g23, re_a23, ↓re_i23, rz_set, rz_nol, rz_clr, List.set_cons_zero, List.set_cons_succ, rz_tr, Nat.reduceAdd, Int.reduceAdd, Int.reduceToNat, Int.reduceSub, Int.reduceNeg, Int.cast_ofNat_Int]
          try simp (disch := omega) only [f14, g23, pk_us, pk_un, va_up_self, va_up_ne, nI_add, pk_mul, nI_clamp, vp_inT, nI_ltI, nI_leI, nI_eqI, pk_sub, true_and, and_true]
          refine hR _ _ (rz_nb_i (by decide)) (hret _ (fun f n1 n2 => by rw [va_up_ne _ _ n1]) ?_ ?_)
          · rw [va_up_self, pk_us, hpu, Nat.add_zero]
          · rw [va_up_ne _ _ (by decide), hpu]; exact g24
      | true =>
        rw [hb] at f14
        have h65 : A1 65 0 = nI (H 0).length := by rw [f65]; exact e65 0 (by decide) (hal0 hb)
        have hpu : (pu T H).2.2.2 = T.2.2.2 ++ H 0 := by simp [pu, hb]
        have c1 : ∀ (B : Nat → Nat → Int32) , B 65 0 = nI (H 0).length → B 23 0 = nI T.2.2.2.length → B 14 0 = rz_b true → rz_T w (d + 1) 0 0 m_Mod_push 0 0 445 [some (.ref a), some (.int z1), some (.int (nI ((H 0).length))), z3, z4, z5] [] (re_put G a I (va_up B 24 (cp (B 24) (T.2.2.2.length) (B 66) (0) ((H 0).length)))) Q → rz_T w (d + 1) 0 0 m_Mod_push 0 0 401 [some (.ref a), some (.int z1), some (.int (nI 0)), z3, z4, z5] [] (re_put G a I B) Q := by
          intro B  b65 b23 b14 hx
          have lp : ∀ (cj cx : Nat), cx + cj = (H 0).length → rz_T w (d + 1) 0 0 m_Mod_push 0 0 401 [some (.ref a), some (.int z1), some (.int (nI cx)), z3, z4, z5] [] (re_put G a I (va_up B 24 (cp (B 24) (T.2.2.2.length) (B 66) (0) cx))) Q := by
            intro cj
            induction cj with
            | zero =>
              intro cx hij
              have hi : cx = (H 0).length := by omega
              subst hi
              refine rz_blk' [(.iload_n 2, 1, 0, 0), (.aload_n 0, 1, 0, 0), (.getfield 166, 3, 10, 65), (.iconst 0, 1, 0, 0), (.iaload, 1, 0, 0), (.if_icmp .ge 37, 3, 0, 0)] (by decide +kernel) (Nat.le_refl _) (Nat.le_refl _) (fun K R hK hR => ?_)
              simp only [rw_c0, ↓rx_aload_n0, ↓rx_getfield, ↓rx_iaload, ↓rx_iconst, ↓rx_if_icmp_ge, ↓rx_iload_n2, ↓rx_nil, ↓ry_i2, ↓ry_iau, ↓ry_li0s, ↓ry_li0z, ↓ry_lr0s, ↓ry_lr0z, ↓ry_obu, ↓ry_r1, ↓ry_ri, true_and, re_a65, ↓re_F65, ↓re_i65, ↓re_ob, b65, b23, b14, rz_set, rz_nol, rz_clr, List.set_cons_zero, List.set_cons_succ, rz_tr, Nat.reduceAdd, Int.reduceAdd, Int.reduceToNat, Int.reduceSub, Int.reduceNeg, Int.cast_ofNat_Int]
              try simp (disch := omega) only [b65, b23, b14, pk_us, pk_un, va_up_self, va_up_ne, nI_add, pk_mul, nI_clamp, vp_inT, nI_ltI, nI_leI, nI_eqI, pk_sub, true_and, and_true]
              refine ⟨fun q5 => hK _ _ _ _ ?_, fun q5 => by omega⟩
              exact hx
            | succ cj ih =>
              intro cx hij
              refine rz_blk' [(.iload_n 2, 1, 0, 0), (.aload_n 0, 1, 0, 0), (.getfield 166, 3, 10, 65), (.iconst 0, 1, 0, 0), (.iaload, 1, 0, 0), (.if_icmp .ge 37, 3, 0, 0)] (by decide +kernel) (Nat.le_refl _) (Nat.le_refl _) (fun K R hK hR => ?_)
              simp only [rw_c0, ↓rx_aload_n0, ↓rx_getfield, ↓rx_iaload, ↓rx_iconst, ↓rx_if_icmp_ge, ↓rx_iload_n2, ↓rx_nil, ↓ry_i2, ↓ry_iau, ↓ry_li0s, ↓ry_li0z, ↓ry_lr0s, ↓ry_lr0z, ↓ry_obu, ↓ry_r1, ↓ry_ri, true_and, re_a65, ↓re_F65, ↓re_i65, ↓re_ob, b65, b23, b14, rz_set, rz_nol, rz_clr, List.set_cons_zero, List.set_cons_succ, rz_tr, Nat.reduceAdd, Int.reduceAdd, Int.reduceToNat, Int.reduceSub, Int.reduceNeg, Int.cast_ofNat_Int]
              try simp (disch := omega) only [b65, b23, b14, pk_us, pk_un, va_up_self, va_up_ne, nI_add, pk_mul, nI_clamp, vp_inT, nI_ltI, nI_leI, nI_eqI, pk_sub, true_and, and_true]
              refine ⟨fun q6 => by omega, fun q6 => hK _ _ _ _ ?_⟩
              refine rz_blk' [(.aload_n 0, 1, 0, 0), (.getfield 46, 3, 10, 14), (.iconst 0, 1, 0, 0), (.baload, 1, 0, 0), (.ifCond .eq 28, 3, 0, 0)] (by decide +kernel) (Nat.le_refl _) (Nat.le_refl _) (fun K R hK hR => ?_)
              simp only [Nat.reduceEqDiff, false_or, or_false, or_true, reduceIte, rw_c0, ↓rx_aload_n0, ↓rx_baload, ↓rx_getfield, ↓rx_iconst, ↓rx_ifCond_eq, ↓rx_nil, ↓ry_i1, ↓ry_iau, ↓ry_lr0s, ↓ry_lr0z, ↓ry_obu, ↓ry_r1, ↓ry_ri, true_and, true_or, re_a14, ↓re_F14, ↓re_i14, ↓re_ob, b65, b23, b14, rz_set, rz_nol, rz_clr, List.set_cons_zero, List.set_cons_succ, rz_tr, Nat.reduceAdd, Int.reduceAdd, Int.reduceToNat, Int.reduceSub, Int.reduceNeg, Int.cast_ofNat_Int]
              try simp (disch := omega) only [b65, b23, b14, pk_us, pk_un, va_up_self, va_up_ne, nI_add, pk_mul, nI_clamp, vp_inT, nI_ltI, nI_leI, nI_eqI, pk_sub, true_and, and_true]
              refine ⟨fun q7 => absurd q7 (by decide), fun q7 => hK _ _ _ _ ?_⟩
              refine rz_blk' [(.aload_n 0, 1, 0, 0), (.getfield 77, 3, 10, 24), (.aload_n 0, 1, 0, 0), (.getfield 74, 3, 10, 23), (.iconst 0, 1, 0, 0), (.iaload, 1, 0, 0), (.iload_n 2, 1, 0, 0), (.iadd, 1, 0, 0), (.aload_n 0, 1, 0, 0), (.getfield 169, 3, 10, 66), (.iload_n 2, 1, 0, 0), (.iaload, 1, 0, 0), (.iastore, 1, 0, 0)] (by decide +kernel) (Nat.le_refl _) (Nat.le_refl _) (fun K R hK hR => ?_)
              simp only [rw_c0, ↓rx_aload_n0, ↓rx_getfield, ↓rx_iadd, ↓rx_iaload, ↓rx_iastore, ↓rx_iconst, ↓rx_iload_n2, ↓rx_nil, ↓ry_i2, ↓ry_iau, ↓ry_li0s, ↓ry_li0z, ↓ry_lr0s, ↓ry_lr0z, ↓ry_obu, ↓ry_r1, ↓ry_ri, ↓ry_rii, true_and, re_a23, re_a24, re_a66, ↓re_F23, ↓re_F24, ↓re_F66, ↓re_i23, ↓re_i24, ↓re_i66, ↓re_ob, b65, b23, b14, rz_set, rz_nol, rz_clr, List.set_cons_zero, List.set_cons_succ, rz_tr, Nat.reduceAdd, Int.reduceAdd, Int.reduceToNat, Int.reduceSub, Int.reduceNeg, Int.cast_ofNat_Int]
              try simp (disch := omega) only [b65, b23, b14, pk_us, pk_un, va_up_self, va_up_ne, nI_add, pk_mul, nI_clamp, vp_inT, nI_ltI, nI_leI, nI_eqI, pk_sub, true_and, and_true]
              refine hK _ _ _ _ ?_
              refine rz_blk' [(.iinc 2 1, 3, 0, 0)] (by decide +kernel) (Nat.le_refl _) (Nat.le_refl _) (fun K R hK hR => ?_)
              simp only [rw_c1, ↓rx_iinc, ↓rx_nil, ↓ry_li0s, ↓ry_li0z, b65, b23, b14, rz_set, rz_nol, rz_clr, List.set_cons_zero, List.set_cons_succ, rz_tr, Nat.reduceAdd, Int.reduceAdd, Int.reduceToNat, Int.reduceSub, Int.reduceNeg, Int.cast_ofNat_Int]
              try simp (disch := omega) only [b65, b23, b14, pk_us, pk_un, va_up_self, va_up_ne, nI_add, pk_mul, nI_clamp, vp_inT, nI_ltI, nI_leI, nI_eqI, pk_sub, true_and, and_true]
              refine hK _ _ _ _ ?_
              refine rz_blk' [(.goto (-41), 3, 0, 0)] (by decide +kernel) (Nat.le_refl _) (Nat.le_refl _) (fun K R hK hR => ?_)
              simp only [↓rx_goto, ↓rx_nil, b65, b23, b14, rz_set, rz_nol, rz_clr, List.set_cons_zero, List.set_cons_succ, rz_tr, Nat.reduceAdd, Int.reduceAdd, Int.reduceToNat, Int.reduceSub, Int.reduceNeg, Int.cast_ofNat_Int]
              try simp (disch := omega) only [b65, b23, b14, pk_us, pk_un, va_up_self, va_up_ne, nI_add, pk_mul, nI_clamp, vp_inT, nI_ltI, nI_leI, nI_eqI, pk_sub, true_and, and_true]
              refine hK _ _ _ _ ?_
              have ih := ih (cx + 1) (by omega)
              rw [← cp_s] at ih
              simp only [Nat.zero_add] at ih
              rw [re_vv]
              exact ih
          have := lp ((H 0).length) 0 (Nat.zero_add _)
          rw [cp_0, re_ve] at this
          exact this
        refine c1 A1 h65 g23 f14 ?_
        generalize hB : va_up A1 24 _ = B
        have hBo : ∀ f, f ≠ 24 → B f = A1 f := fun f hf => by rw [← hB, va_up_ne _ _ hf]
        have hB24 : B 24 = cp (A1 24) T.2.2.2.length (A1 66) 0 (H 0).length := by rw [← hB, va_up_self]
        have b65 : B 65 0 = nI (H 0).length := by rw [hBo 65 (by decide)]; exact h65
        have b23 : B 23 0 = nI T.2.2.2.length := by rw [hBo 23 (by decide)]; exact g23
        have b14 : B 14 0 = rz_b true := by rw [hBo 14 (by decide)]; exact f14
        clear hB
        refine rz_blk' [(.aload_n 0, 1, 0, 0), (.getfield 74, 3, 10, 23), (.iconst 0, 1, 0, 0), (.dup2, 1, 0, 0), (.iaload, 1, 0, 0), (.aload_n 0, 1, 0, 0), (.getfield 46, 3, 10, 14), (.iconst 0, 1, 0, 0), (.baload, 1, 0, 0), (.ifCond .eq 12, 3, 0, 0)] (by decide +kernel) (Nat.le_refl _) (Nat.le_refl _) (fun K R hK hR => ?_)
        simp only [Nat.reduceEqDiff, false_or, or_false, or_true, reduceIte, rw_c0, ↓rx_aload_n0, ↓rx_baload, ↓rx_dup2, ↓rx_getfield, ↓rx_iaload, ↓rx_iconst, ↓rx_ifCond_eq, ↓rx_nil, ↓ry_i1, ↓ry_iau, ↓ry_lr0s, ↓ry_lr0z, ↓ry_obu, ↓ry_r1, ↓ry_ri, ↓ry_v2, true_and, true_or, re_a14, re_a23, ↓re_F14, ↓re_F23, ↓re_i14, ↓re_i23, ↓re_ob, b65, b23, b14, re_a23, ↓re_i23, rz_set, rz_nol, rz_clr, List.set_cons_zero, List.set_cons_succ, rz_tr, Nat.reduceAdd, Int.reduceAdd, Int.reduceToNat, Int.reduceSub, Int.reduceNeg, Int.cast_ofNat_Int]
        try simp (disch := omega) only [b65, b23, b14, pk_us, pk_un, va_up_self, va_up_ne, nI_add, pk_mul, nI_clamp, vp_inT, nI_ltI, nI_leI, nI_eqI, pk_sub, true_and, and_true]
        refine ⟨fun q8 => absurd q8 (by decide), fun q8 => hK _ _ _ _ ?_⟩
        refine rz_blk' [(.aload_n 0, 1, 0, 0), (.getfield 166, 3, 10, 65), (.iconst 0, 1, 0, 0), (.iaload, 1, 0, 0), (.goto 4, 3, 0, 0)] (by decide +kernel) (Nat.le_refl _) (Nat.le_refl _) (fun K R hK hR => ?_)
        simp only [rw_c0, ↓rx_aload_n0, ↓rx_getfield, ↓rx_goto, ↓rx_iaload, ↓rx_iconst, ↓rx_nil, ↓ry_iau, ↓ry_lr0s, ↓ry_lr0z, ↓ry_obu, ↓ry_r1, ↓ry_ri, true_and, re_a65, ↓re_F65, ↓re_i65, ↓re_ob, b65, b23, b14, re_a23, ↓re_i23, rz_set, rz_nol, rz_clr, List.set_cons_zero, List.set_cons_succ, rz_tr, Nat.reduceAdd, Int.reduceAdd, Int.reduceToNat, Int.reduceSub, Int.reduceNeg, Int.cast_ofNat_Int]
        try simp (disch := omega) only [b65, b23, b14, pk_us, pk_un, va_up_self, va_up_ne, nI_add, pk_mul, nI_clamp, vp_inT, nI_ltI, nI_leI, nI_eqI, pk_sub, true_and, and_true]
        refine hK _ _ _ _ ?_
        refine rz_blk' [(.iadd, 1, 0, 0), (.iastore, 1, 0, 0)] (by decide +kernel) (Nat.le_refl _) (Nat.le_refl _) (fun K R hK hR => ?_)
        simp only [↓rx_iadd, ↓rx_iastore, ↓rx_nil, ↓ry_i2, ↓ry_iau, ↓ry_rii, true_and, b65, b23, b14, re_a23, ↓re_i23, rz_set, rz_nol, rz_clr, List.set_cons_zero, List.set_cons_succ, rz_tr, Nat.reduceAdd, Int.reduceAdd, Int.reduceToNat, Int.reduceSub, Int.reduceNeg, Int.cast_ofNat_Int]
        try simp (disch := omega) only [b65, b23, b14, pk_us, pk_un, va_up_self, va_up_ne, nI_add, pk_mul, nI_clamp, vp_inT, nI_ltI, nI_leI, nI_eqI, pk_sub, true_and, and_true]
        refine hK _ _ _ _ ?_
        refine rz_blk' [(.return_, 1, 0, 0)] (by decide +kernel) (Nat.le_refl _) (Nat.le_refl _) (fun K R hK hR => ?_)
        simp only [↓rx_nil, ↓rx_return_, b65, b23, b14, re_a23, ↓re_i23, rz_set, rz_nol, rz_clr, List.set_cons_zero, List.set_cons_succ, rz_tr, Nat.reduceAdd, Int.reduceAdd, Int.reduceToNat, Int.reduceSub, Int.reduceNeg, Int.cast_ofNat_Int]
        try simp (disch := omega) only [b65, b23, b14, pk_us, pk_un, va_up_self, va_up_ne, nI_add, pk_mul, nI_clamp, vp_inT, nI_ltI, nI_leI, nI_eqI, pk_sub, true_and, and_true]
        refine hR _ _ (rz_nb_i (by decide)) (hret _ (fun f n1 n2 => by rw [va_up_ne _ _ n1, hBo f n2]) ?_ ?_)
        · rw [va_up_self, pk_us, hpu, List.length_append]
        · rw [va_up_ne _ _ (by decide), hpu, hB24]
          refine sg_more g24 ?_
          rw [f66]
          have := e66 0 (by decide)
          rwa [Nat.mul_zero] at this
    have s3 : ∀ (j i : Nat) (A1 : Nat → Nat → Int32) (z1 : Int32) (z3 z4 z5 : Option Value), i + j = 6 → fa [19, 20, 21, 22, 23, 24, 28, 65, 66] A A1 → A1 65 = A0 65 → A1 66 = A0 66 → A1 23 = A 23 → A1 24 = A 24 → (∀ f (hf : f < T.2.1.length), A1 19 f = nI (pu_w H T.2.1[f]).length ∧ sg (A1 20) (32 * f) (pu_w H T.2.1[f])) → (∀ s, s < 6 → A1 21 s = os (if s < i then (T.2.2.1 s).map (fun f => f.drop (H s).length) else T.2.2.1 s) ∧ sg (A1 22) (32 * s) ((if s < i then (T.2.2.1 s).map (fun f => f.drop (H s).length) else T.2.2.1 s).getD [])) → rz_T w (d + 1) 0 0 m_Mod_push 0 0 315 [some (.ref a), some (.int z1), some (.int (nI i)), z3, z4, z5] [] (re_put G a I A1) Q := by
      intro j
      induction j with
      | zero =>
        intro i A1 z1 z3 z4 z5 hij a1 f65 f66 f23 f24 hE hF
        have hi : i = 6 := by omega
        subst hi
        refine rz_blk' [(.iload_n 2, 1, 0, 0), (.bipush 6, 2, 0, 0), (.if_icmp .ge 81, 3, 0, 0)] (by decide +kernel) (Nat.le_refl _) (Nat.le_refl _) (fun K R hK hR => ?_)
        simp only [rw_b6, ↓rx_bipush, ↓rx_if_icmp_ge, ↓rx_iload_n2, ↓rx_nil, ↓ry_i2, ↓ry_li0s, ↓ry_li0z, rz_set, rz_nol, rz_clr, List.set_cons_zero, List.set_cons_succ, rz_tr, Nat.reduceAdd, Int.reduceAdd, Int.reduceToNat, Int.reduceSub, Int.reduceNeg, Int.cast_ofNat_Int]
        try simp (disch := omega) only [pk_us, pk_un, va_up_self, va_up_ne, nI_add, pk_mul, nI_clamp, vp_inT, nI_ltI, nI_leI, nI_eqI, pk_sub, true_and, and_true]
        refine ⟨fun q9 => hK _ _ _ _ ?_, fun q9 => by omega⟩
        refine rz_blk' [(.iconst 0, 1, 0, 0), (.istore_n 2, 1, 0, 0)] (by decide +kernel) (Nat.le_refl _) (Nat.le_refl _) (fun K R hK hR => ?_)
        simp only [rw_c0, ↓rx_iconst, ↓rx_istore_n2, ↓rx_nil, ↓ry_i1, rz_set, rz_nol, rz_clr, List.set_cons_zero, List.set_cons_succ, rz_tr, Nat.reduceAdd, Int.reduceAdd, Int.reduceToNat, Int.reduceSub, Int.reduceNeg, Int.cast_ofNat_Int]
        try simp (disch := omega) only [pk_us, pk_un, va_up_self, va_up_ne, nI_add, pk_mul, nI_clamp, vp_inT, nI_ltI, nI_leI, nI_eqI, pk_sub, true_and, and_true]
        refine hK _ _ _ _ ?_
        refine s4 A1 _ _ _ _ a1 f65 f66 f23 f24 (fun A2 x1 x2 x3 => ⟨fun q hq => ?_, ?_, fun f hf => ?_, fun q hq => ?_, x2, x3⟩)
        · rw [x1 14 (by decide) (by decide), a1 14 rfl]; exact t.1 q hq
        · rw [x1 15 (by decide) (by decide), a1 15 rfl]
          have := t.2.1
          simp only [pu, List.length_map]; exact this
        · simp only [pu, List.length_map] at hf
          obtain ⟨y1, y2, y3, -, -⟩ := t.2.2.1 f hf
          obtain ⟨y4, y5⟩ := hE f hf
          simp only [pu, List.getElem_map]
          rw [Nat.mul_zero, Nat.zero_add] at *
          rw [x1 16 (by decide) (by decide), x1 17 (by decide) (by decide), x1 18 (by decide) (by decide), x1 19 (by decide) (by decide), x1 20 (by decide) (by decide), a1 16 rfl, a1 17 rfl, a1 18 rfl]
          exact ⟨y1, y2, y3, y4, y5⟩
        · have := hF q hq
          rw [if_pos hq] at this
          rw [Nat.mul_zero, Nat.zero_add, x1 21 (by decide) (by decide), x1 22 (by decide) (by decide)]
          exact this
      | succ j ih =>
        intro i A1 z1 z3 z4 z5 hij a1 f65 f66 f23 f24 hE hF
        have hi6 : i < 6 := by omega
        obtain ⟨g1, g2⟩ := hF i hi6
        rw [if_neg (Nat.lt_irrefl _)] at g1 g2
        have so := hos (q := i)
        have hnx : ∀ (A2 : Nat → Nat → Int32) (z3 z4 : Option Value), fa [21, 22] A1 A2 → (∀ s, s < 6 → s ≠ i → A2 21 s = A1 21 s ∧ ∀ x, 32 * s ≤ x → x < 32 * s + 32 → A2 22 x = A1 22 x) → A2 21 i = os ((T.2.2.1 i).map (fun f => f.drop (H i).length)) → sg (A2 22) (32 * i) (((T.2.2.1 i).map (fun f => f.drop (H i).length)).getD []) → rz_T w (d + 1) 0 0 m_Mod_push 0 0 393 [some (.ref a), some (.int z1), some (.int (nI i)), z3, z4, z5] [] (re_put G a I A2) Q := by
          intro A2 z3 z4 a2 x1 x2 x3
          refine rz_blk' [(.iinc 2 1, 3, 0, 0)] (by decide +kernel) (Nat.le_refl _) (Nat.le_refl _) (fun K R hK hR => ?_)
          simp only [rw_c1, ↓rx_iinc, ↓rx_nil, ↓ry_li0s, ↓ry_li0z, rz_set, rz_nol, rz_clr, List.set_cons_zero, List.set_cons_succ, rz_tr, Nat.reduceAdd, Int.reduceAdd, Int.reduceToNat, Int.reduceSub, Int.reduceNeg, Int.cast_ofNat_Int]
          try simp (disch := omega) only [pk_us, pk_un, va_up_self, va_up_ne, nI_add, pk_mul, nI_clamp, vp_inT, nI_ltI, nI_leI, nI_eqI, pk_sub, true_and, and_true]
          refine hK _ _ _ _ ?_
          refine rz_blk' [(.goto (-81), 3, 0, 0)] (by decide +kernel) (Nat.le_refl _) (Nat.le_refl _) (fun K R hK hR => ?_)
          simp only [↓rx_goto, ↓rx_nil, rz_set, rz_nol, rz_clr, List.set_cons_zero, List.set_cons_succ, rz_tr, Nat.reduceAdd, Int.reduceAdd, Int.reduceToNat, Int.reduceSub, Int.reduceNeg, Int.cast_ofNat_Int]
          try simp (disch := omega) only [pk_us, pk_un, va_up_self, va_up_ne, nI_add, pk_mul, nI_clamp, vp_inT, nI_ltI, nI_leI, nI_eqI, pk_sub, true_and, and_true]
          refine hK _ _ _ _ ?_
          refine ih (i + 1) A2 _ _ _ _ (by omega) (a1.t a2 rfl) ((a2 65 rfl).trans f65) ((a2 66 rfl).trans f66) ((a2 23 rfl).trans f23) ((a2 24 rfl).trans f24) (fun f hf => by rw [a2 19 rfl, a2 20 rfl]; exact hE f hf) (fun s hs => ?_)
          by_cases c : s = i
          · subst c
            rw [if_pos (Nat.lt_succ_self _)]; exact ⟨x2, x3⟩
          · obtain ⟨y1, y2⟩ := x1 s hs c
            have := hF s hs
            have e : (if s < i + 1 then (T.2.2.1 s).map (fun f => f.drop (H s).length) else T.2.2.1 s) = (if s < i then (T.2.2.1 s).map (fun f => f.drop (H s).length) else T.2.2.1 s) := by
              by_cases c2 : s < i
              · rw [if_pos c2, if_pos (by omega)]
              · rw [if_neg c2, if_neg (by omega)]
            rw [e, y1]
            refine ⟨this.1, this.2.k (fun x h1 h2 => y2 x h1 ?_)⟩
            have hf3 : ((T.2.2.1 s).getD []).length ≤ 3 := tw_f w1
            have : ((if s < i then (T.2.2.1 s).map (fun f => f.drop (H s).length) else T.2.2.1 s).getD []).length ≤ 3 := by
              split
              · cases c3 : T.2.2.1 s with
                | none => simp
                | some f => rw [c3] at hf3; simp at hf3 ⊢; omega
              · exact hf3
            omega
        cases hfi : T.2.2.1 i with
        | none =>
          rw [hfi] at g1 so hnx
          have so : (os none < 0) = True := by rw [so]; simp
          refine rz_blk' [(.iload_n 2, 1, 0, 0), (.bipush 6, 2, 0, 0), (.if_icmp .ge 81, 3, 0, 0)] (by decide +kernel) (Nat.le_refl _) (Nat.le_refl _) (fun K R hK hR => ?_)
          simp only [rw_b6, ↓rx_bipush, ↓rx_if_icmp_ge, ↓rx_iload_n2, ↓rx_nil, ↓ry_i2, ↓ry_li0s, ↓ry_li0z, g1, rz_set, rz_nol, rz_clr, List.set_cons_zero, List.set_cons_succ, rz_tr, Nat.reduceAdd, Int.reduceAdd, Int.reduceToNat, Int.reduceSub, Int.reduceNeg, Int.cast_ofNat_Int]
          try simp (disch := omega) only [g1, so, pk_us, pk_un, va_up_self, va_up_ne, nI_add, pk_mul, nI_clamp, vp_inT, nI_ltI, nI_leI, nI_eqI, pk_sub, true_and, and_true]
          refine ⟨fun q10 => by omega, fun q10 => hK _ _ _ _ ?_⟩
          refine rz_blk' [(.aload_n 0, 1, 0, 0), (.getfield 68, 3, 10, 21), (.iload_n 2, 1, 0, 0), (.iaload, 1, 0, 0), (.ifCond .lt 66, 3, 0, 0)] (by decide +kernel) (Nat.le_refl _) (Nat.le_refl _) (fun K R hK hR => ?_)
          simp only [↓rx_aload_n0, ↓rx_getfield, ↓rx_iaload, ↓rx_ifCond_lt, ↓rx_iload_n2, ↓rx_nil, ↓ry_i1, ↓ry_iau, ↓ry_li0s, ↓ry_li0z, ↓ry_lr0s, ↓ry_lr0z, ↓ry_obu, ↓ry_r1, ↓ry_ri, true_and, re_a21, ↓re_F21, ↓re_i21, ↓re_ob, g1, rz_set, rz_nol, rz_clr, List.set_cons_zero, List.set_cons_succ, rz_tr, Nat.reduceAdd, Int.reduceAdd, Int.reduceToNat, Int.reduceSub, Int.reduceNeg, Int.cast_ofNat_Int]
          try simp (disch := omega) only [g1, so, pk_us, pk_un, va_up_self, va_up_ne, nI_add, pk_mul, nI_clamp, vp_inT, nI_ltI, nI_leI, nI_eqI, pk_sub, true_and, and_true]
          refine ⟨fun q11 => hK _ _ _ _ ?_, fun q11 => by first | exact absurd trivial q11 | exact absurd (of_eq_true so) q11⟩
          exact hnx A1 _ _ fa.rf (fun _ _ _ => ⟨rfl, fun _ _ _ => rfl⟩) g1 sg_nil
        | some f =>
          rw [hfi] at g1 g2 so hnx
          have g1 : A1 21 i = nI f.length := g1
          have g2 : sg (A1 22) (32 * i) f := g2
          have hf3 := (w1.2.2.2.2.1 _ f hfi).1
          have hx : ∃ o, xo T i o := ⟨f, xo_f hfi⟩
          have h65 : A1 65 i = nI (H i).length := by rw [f65]; exact e65 i hi6 hx
          have hpl := ((hhd i hi6).1 f (xo_f hfi)).length_le
          simp only [Option.map_some, Option.getD_some, os, List.length_drop] at hnx
          generalize hn : f.length - (H i).length = n at *
          have cl : ∀ (j k : Nat), k + j = n → rz_T w (d + 1) 0 0 m_Mod_push 0 0 350 [some (.ref a), some (.int z1), some (.int (nI i)), some (.int (nI (H i).length)), some (.int (nI k)), z5] [] (re_put G a I (va_up (va_up A1 21 (upd (A1 21) i (nI n))) 22 (cp (A1 22) (32 * i) (wsg (f.drop (H i).length)) 0 k))) Q := by
            intro j
            induction j with
            | zero =>
              intro k hkj
              have hk : k = n := by omega
              subst hk
              refine rz_blk' [(.iload 4, 2, 0, 0), (.aload_n 0, 1, 0, 0), (.getfield 68, 3, 10, 21), (.iload_n 2, 1, 0, 0), (.iaload, 1, 0, 0), (.if_icmp .ge 35, 3, 0, 0)] (by decide +kernel) (Nat.le_refl _) (Nat.le_refl _) (fun K R hK hR => ?_)
              simp only [↓rx_aload_n0, ↓rx_getfield, ↓rx_iaload, ↓rx_if_icmp_ge, ↓rx_iload, ↓rx_iload_n2, ↓rx_nil, ↓ry_i2, ↓ry_iau, ↓ry_li0s, ↓ry_li0z, ↓ry_lr0s, ↓ry_lr0z, ↓ry_obu, ↓ry_r1, ↓ry_ri, true_and, re_a21, ↓re_F21, ↓re_i21, ↓re_ob, re_a21, ↓re_i21, rz_set, rz_nol, rz_clr, List.set_cons_zero, List.set_cons_succ, rz_tr, Nat.reduceAdd, Int.reduceAdd, Int.reduceToNat, Int.reduceSub, Int.reduceNeg, Int.cast_ofNat_Int]
              try simp (disch := omega) only [pk_us, pk_un, va_up_self, va_up_ne, nI_add, pk_mul, nI_clamp, vp_inT, nI_ltI, nI_leI, nI_eqI, pk_sub, true_and, and_true]
              refine ⟨fun q12 => hK _ _ _ _ ?_, fun q12 => by omega⟩
              refine hnx _ _ _ ((fa.rf.u rfl).u rfl) (fun s hs hne => ⟨?_, fun x h1 h2 => ?_⟩) ?_ ?_
              · rw [va_up_ne _ _ (by decide), va_up_self, pk_un hne]
              · rw [va_up_self, cp_out (by omega)]
              · rw [va_up_ne _ _ (by decide), va_up_self, pk_us]
              · rw [va_up_self]; exact sg_cp sg_wsg (by rw [List.length_drop]; omega)
            | succ j ihk =>
              intro k hkj
              have hkd : k < (f.drop (H i).length).length := by rw [List.length_drop]; omega
              have ihk := ihk (k + 1) (by omega)
              rw [← cp_s, Nat.zero_add, wsg_at hkd] at ihk
              have e1 : cp (A1 22) (32 * i) (wsg (f.drop (H i).length)) 0 k (32 * i + (H i).length + k) = nI (f.drop (H i).length)[k] := by
                rw [cp_out (by omega), List.getElem_drop]
                have := g2 ((H i).length + k) (by omega)
                rw [← this]; congr 1; omega
              refine rz_blk' [(.iload 4, 2, 0, 0), (.aload_n 0, 1, 0, 0), (.getfield 68, 3, 10, 21), (.iload_n 2, 1, 0, 0), (.iaload, 1, 0, 0), (.if_icmp .ge 35, 3, 0, 0)] (by decide +kernel) (Nat.le_refl _) (Nat.le_refl _) (fun K R hK hR => ?_)
              simp only [↓rx_aload_n0, ↓rx_getfield, ↓rx_iaload, ↓rx_if_icmp_ge, ↓rx_iload, ↓rx_iload_n2, ↓rx_nil, ↓ry_i2, ↓ry_iau, ↓ry_li0s, ↓ry_li0z, ↓ry_lr0s, ↓ry_lr0z, ↓ry_obu, ↓ry_r1, ↓ry_ri, true_and, re_a21, ↓re_F21, ↓re_i21, ↓re_ob, e1, re_a21, re_a22, ↓re_i21, ↓re_i22, rz_set, rz_nol, rz_clr, List.set_cons_zero, List.set_cons_succ, rz_tr, Nat.reduceAdd, Int.reduceAdd, Int.reduceToNat, Int.reduceSub, Int.reduceNeg, Int.cast_ofNat_Int]
              try simp (disch := omega) only [e1, pk_us, pk_un, va_up_self, va_up_ne, nI_add, pk_mul, nI_clamp, vp_inT, nI_ltI, nI_leI, nI_eqI, pk_sub, true_and, and_true]
              refine ⟨fun q13 => by omega, fun q13 => hK _ _ _ _ ?_⟩
              refine rz_blk' [(.aload_n 0, 1, 0, 0), (.getfield 71, 3, 10, 22), (.bipush 32, 2, 0, 0), (.iload_n 2, 1, 0, 0), (.imul, 1, 0, 0), (.iload 4, 2, 0, 0), (.iadd, 1, 0, 0), (.aload_n 0, 1, 0, 0), (.getfield 71, 3, 10, 22), (.bipush 32, 2, 0, 0), (.iload_n 2, 1, 0, 0), (.imul, 1, 0, 0), (.iload_n 3, 1, 0, 0), (.iadd, 1, 0, 0), (.iload 4, 2, 0, 0), (.iadd, 1, 0, 0), (.iaload, 1, 0, 0), (.iastore, 1, 0, 0)] (by decide +kernel) (Nat.le_refl _) (Nat.le_refl _) (fun K R hK hR => ?_)
              simp only [rw_b32, ↓rx_aload_n0, ↓rx_bipush, ↓rx_getfield, ↓rx_iadd, ↓rx_iaload, ↓rx_iastore, ↓rx_iload, ↓rx_iload_n2, ↓rx_iload_n3, ↓rx_imul, ↓rx_nil, ↓ry_i2, ↓ry_iau, ↓ry_li0s, ↓ry_li0z, ↓ry_lr0s, ↓ry_lr0z, ↓ry_obu, ↓ry_r1, ↓ry_ri, ↓ry_rii, true_and, re_a22, ↓re_F22, ↓re_i22, ↓re_ob, e1, re_a21, re_a22, ↓re_i21, ↓re_i22, rz_set, rz_nol, rz_clr, List.set_cons_zero, List.set_cons_succ, rz_tr, Nat.reduceAdd, Int.reduceAdd, Int.reduceToNat, Int.reduceSub, Int.reduceNeg, Int.cast_ofNat_Int]
              try simp (disch := omega) only [e1, pk_us, pk_un, va_up_self, va_up_ne, nI_add, pk_mul, nI_clamp, vp_inT, nI_ltI, nI_leI, nI_eqI, pk_sub, true_and, and_true]
              refine hK _ _ _ _ ?_
              refine rz_blk' [(.iinc 4 1, 3, 0, 0)] (by decide +kernel) (Nat.le_refl _) (Nat.le_refl _) (fun K R hK hR => ?_)
              simp only [rw_c1, ↓rx_iinc, ↓rx_nil, ↓ry_li0s, ↓ry_li0z, e1, re_a21, re_a22, ↓re_i21, ↓re_i22, rz_set, rz_nol, rz_clr, List.set_cons_zero, List.set_cons_succ, rz_tr, Nat.reduceAdd, Int.reduceAdd, Int.reduceToNat, Int.reduceSub, Int.reduceNeg, Int.cast_ofNat_Int]
              try simp (disch := omega) only [e1, pk_us, pk_un, va_up_self, va_up_ne, nI_add, pk_mul, nI_clamp, vp_inT, nI_ltI, nI_leI, nI_eqI, pk_sub, true_and, and_true]
              refine hK _ _ _ _ ?_
              refine rz_blk' [(.goto (-40), 3, 0, 0)] (by decide +kernel) (Nat.le_refl _) (Nat.le_refl _) (fun K R hK hR => ?_)
              simp only [↓rx_goto, ↓rx_nil, e1, re_a21, re_a22, ↓re_i21, ↓re_i22, rz_set, rz_nol, rz_clr, List.set_cons_zero, List.set_cons_succ, rz_tr, Nat.reduceAdd, Int.reduceAdd, Int.reduceToNat, Int.reduceSub, Int.reduceNeg, Int.cast_ofNat_Int]
              try simp (disch := omega) only [e1, pk_us, pk_un, va_up_self, va_up_ne, nI_add, pk_mul, nI_clamp, vp_inT, nI_ltI, nI_leI, nI_eqI, pk_sub, true_and, and_true]
              refine hK _ _ _ _ ?_
              first
                | (rw [re_vv]
                   exact ihk)
                | exact ihk
          refine rz_blk' [(.iload_n 2, 1, 0, 0), (.bipush 6, 2, 0, 0), (.if_icmp .ge 81, 3, 0, 0)] (by decide +kernel) (Nat.le_refl _) (Nat.le_refl _) (fun K R hK hR => ?_)
          simp only [rw_b6, ↓rx_bipush, ↓rx_if_icmp_ge, ↓rx_iload_n2, ↓rx_nil, ↓ry_i2, ↓ry_li0s, ↓ry_li0z, g1, h65, re_a21, ↓re_i21, rz_set, rz_nol, rz_clr, List.set_cons_zero, List.set_cons_succ, rz_tr, Nat.reduceAdd, Int.reduceAdd, Int.reduceToNat, Int.reduceSub, Int.reduceNeg, Int.cast_ofNat_Int]
          try simp (disch := omega) only [g1, h65, hn, pk_us, pk_un, va_up_self, va_up_ne, nI_add, pk_mul, nI_clamp, vp_inT, nI_ltI, nI_leI, nI_eqI, pk_sub, true_and, and_true]
          refine ⟨fun q14 => by omega, fun q14 => hK _ _ _ _ ?_⟩
          refine rz_blk' [(.aload_n 0, 1, 0, 0), (.getfield 68, 3, 10, 21), (.iload_n 2, 1, 0, 0), (.iaload, 1, 0, 0), (.ifCond .lt 66, 3, 0, 0)] (by decide +kernel) (Nat.le_refl _) (Nat.le_refl _) (fun K R hK hR => ?_)
          simp only [↓rx_aload_n0, ↓rx_getfield, ↓rx_iaload, ↓rx_ifCond_lt, ↓rx_iload_n2, ↓rx_nil, ↓ry_i1, ↓ry_iau, ↓ry_li0s, ↓ry_li0z, ↓ry_lr0s, ↓ry_lr0z, ↓ry_obu, ↓ry_r1, ↓ry_ri, true_and, re_a21, ↓re_F21, ↓re_i21, ↓re_ob, g1, h65, re_a21, ↓re_i21, rz_set, rz_nol, rz_clr, List.set_cons_zero, List.set_cons_succ, rz_tr, Nat.reduceAdd, Int.reduceAdd, Int.reduceToNat, Int.reduceSub, Int.reduceNeg, Int.cast_ofNat_Int]
          try simp (disch := omega) only [g1, h65, hn, pk_us, pk_un, va_up_self, va_up_ne, nI_add, pk_mul, nI_clamp, vp_inT, nI_ltI, nI_leI, nI_eqI, pk_sub, true_and, and_true]
          refine ⟨fun q15 => absurd q15 (nI_pos (by omega)), fun q15 => hK _ _ _ _ ?_⟩
          refine rz_blk' [(.aload_n 0, 1, 0, 0), (.getfield 166, 3, 10, 65), (.iload_n 2, 1, 0, 0), (.iaload, 1, 0, 0), (.istore_n 3, 1, 0, 0)] (by decide +kernel) (Nat.le_refl _) (Nat.le_refl _) (fun K R hK hR => ?_)
          simp only [↓rx_aload_n0, ↓rx_getfield, ↓rx_iaload, ↓rx_iload_n2, ↓rx_istore_n3, ↓rx_nil, ↓ry_i1, ↓ry_iau, ↓ry_li0s, ↓ry_li0z, ↓ry_lr0s, ↓ry_lr0z, ↓ry_obu, ↓ry_r1, ↓ry_ri, true_and, re_a65, ↓re_F65, ↓re_i65, ↓re_ob, g1, h65, re_a21, ↓re_i21, rz_set, rz_nol, rz_clr, List.set_cons_zero, List.set_cons_succ, rz_tr, Nat.reduceAdd, Int.reduceAdd, Int.reduceToNat, Int.reduceSub, Int.reduceNeg, Int.cast_ofNat_Int]
          try simp (disch := omega) only [g1, h65, hn, pk_us, pk_un, va_up_self, va_up_ne, nI_add, pk_mul, nI_clamp, vp_inT, nI_ltI, nI_leI, nI_eqI, pk_sub, true_and, and_true]
          refine hK _ _ _ _ ?_
          refine rz_blk' [(.aload_n 0, 1, 0, 0), (.getfield 68, 3, 10, 21), (.iload_n 2, 1, 0, 0), (.dup2, 1, 0, 0), (.iaload, 1, 0, 0), (.iload_n 3, 1, 0, 0), (.isub, 1, 0, 0), (.iastore, 1, 0, 0)] (by decide +kernel) (Nat.le_refl _) (Nat.le_refl _) (fun K R hK hR => ?_)
          simp only [↓rx_aload_n0, ↓rx_dup2, ↓rx_getfield, ↓rx_iaload, ↓rx_iastore, ↓rx_iload_n2, ↓rx_iload_n3, ↓rx_isub, ↓rx_nil, ↓ry_i2, ↓ry_iau, ↓ry_li0s, ↓ry_li0z, ↓ry_lr0s, ↓ry_lr0z, ↓ry_obu, ↓ry_r1, ↓ry_ri, ↓ry_rii, ↓ry_v2, true_and, re_a21, ↓re_F21, ↓re_i21, ↓re_ob, g1, h65, re_a21, ↓re_i21, rz_set, rz_nol, rz_clr, List.set_cons_zero, List.set_cons_succ, rz_tr, Nat.reduceAdd, Int.reduceAdd, Int.reduceToNat, Int.reduceSub, Int.reduceNeg, Int.cast_ofNat_Int]
          try simp (disch := omega) only [g1, h65, hn, pk_us, pk_un, va_up_self, va_up_ne, nI_add, pk_mul, nI_clamp, vp_inT, nI_ltI, nI_leI, nI_eqI, pk_sub, true_and, and_true]
          refine hK _ _ _ _ ?_
          refine rz_blk' [(.iconst 0, 1, 0, 0), (.istore 4, 2, 0, 0)] (by decide +kernel) (Nat.le_refl _) (Nat.le_refl _) (fun K R hK hR => ?_)
          simp only [rw_c0, ↓rx_iconst, ↓rx_istore, ↓rx_nil, ↓ry_i1, g1, h65, re_a21, ↓re_i21, rz_set, rz_nol, rz_clr, List.set_cons_zero, List.set_cons_succ, rz_tr, Nat.reduceAdd, Int.reduceAdd, Int.reduceToNat, Int.reduceSub, Int.reduceNeg, Int.cast_ofNat_Int]
          try simp (disch := omega) only [g1, h65, hn, pk_us, pk_un, va_up_self, va_up_ne, nI_add, pk_mul, nI_clamp, vp_inT, nI_ltI, nI_leI, nI_eqI, pk_sub, true_and, and_true]
          refine hK _ _ _ _ ?_
          have hz := cl n 0 (Nat.zero_add _)
          have e0 : cp (A1 22) (32 * i) (wsg (f.drop (H i).length)) 0 0 = va_up A1 21 (upd (A1 21) i (nI n)) 22 := by rw [cp_0, va_up_ne _ _ (by decide)]
          rw [e0, re_ve] at hz
          exact hz
    have s2 : ∀ (j i : Nat) (A1 : Nat → Nat → Int32) (z1 : Int32) (z3 z4 z5 : Option Value), i + j = T.2.1.length → fa [19, 20, 21, 22, 23, 24, 28, 65, 66] A A1 → A1 65 = A0 65 → A1 66 = A0 66 → A1 23 = A 23 → A1 24 = A 24 → A1 21 = A 21 → A1 22 = A 22 → (∀ f (hf : f < T.2.1.length), A1 19 f = nI (if f < i then pu_w H T.2.1[f] else T.2.1[f].2.2.2).length ∧ sg (A1 20) (32 * f) (if f < i then pu_w H T.2.1[f] else T.2.1[f].2.2.2)) → rz_T w (d + 1) 0 0 m_Mod_push 0 0 128 [some (.ref a), some (.int z1), some (.int (nI i)), z3, z4, z5] [] (re_put G a I A1) Q := by
      intro j
      induction j with
      | zero =>
        intro i A1 z1 z3 z4 z5 hij a1 f65 f66 f23 f24 f21 f22 hE
        have f15 : A1 15 0 = nI T.2.1.length := by rw [a1 15 rfl]; exact t.2.1
        refine rz_blk' [(.iload_n 2, 1, 0, 0), (.aload_n 0, 1, 0, 0), (.getfield 50, 3, 10, 15), (.iconst 0, 1, 0, 0), (.iaload, 1, 0, 0), (.if_icmp .ge 178, 3, 0, 0)] (by decide +kernel) (Nat.le_refl _) (Nat.le_refl _) (fun K R hK hR => ?_)
        simp only [rw_c0, ↓rx_aload_n0, ↓rx_getfield, ↓rx_iaload, ↓rx_iconst, ↓rx_if_icmp_ge, ↓rx_iload_n2, ↓rx_nil, ↓ry_i2, ↓ry_iau, ↓ry_li0s, ↓ry_li0z, ↓ry_lr0s, ↓ry_lr0z, ↓ry_obu, ↓ry_r1, ↓ry_ri, true_and, re_a15, ↓re_F15, ↓re_i15, ↓re_ob, f15, rz_set, rz_nol, rz_clr, List.set_cons_zero, List.set_cons_succ, rz_tr, Nat.reduceAdd, Int.reduceAdd, Int.reduceToNat, Int.reduceSub, Int.reduceNeg, Int.cast_ofNat_Int]
        try simp (disch := omega) only [f15, pk_us, pk_un, va_up_self, va_up_ne, nI_add, pk_mul, nI_clamp, vp_inT, nI_ltI, nI_leI, nI_eqI, pk_sub, true_and, and_true]
        refine ⟨fun q16 => hK _ _ _ _ ?_, fun q16 => by omega⟩
        refine rz_blk' [(.iconst 0, 1, 0, 0), (.istore_n 2, 1, 0, 0)] (by decide +kernel) (Nat.le_refl _) (Nat.le_refl _) (fun K R hK hR => ?_)
        simp only [rw_c0, ↓rx_iconst, ↓rx_istore_n2, ↓rx_nil, ↓ry_i1, f15, rz_set, rz_nol, rz_clr, List.set_cons_zero, List.set_cons_succ, rz_tr, Nat.reduceAdd, Int.reduceAdd, Int.reduceToNat, Int.reduceSub, Int.reduceNeg, Int.cast_ofNat_Int]
        try simp (disch := omega) only [f15, pk_us, pk_un, va_up_self, va_up_ne, nI_add, pk_mul, nI_clamp, vp_inT, nI_ltI, nI_leI, nI_eqI, pk_sub, true_and, and_true]
        refine hK _ _ _ _ ?_
        refine s3 6 0 A1 _ _ _ _ rfl a1 f65 f66 f23 f24 (fun f hf => ?_) (fun s hs => ?_)
        · have := hE f hf
          rwa [if_pos (by omega)] at this
        · rw [if_neg (Nat.not_lt_zero _), f21, f22]
          have := t.2.2.2.1 s hs
          rwa [Nat.mul_zero, Nat.zero_add] at this
      | succ j ih =>
        intro i A1 z1 z3 z4 z5 hij a1 f65 f66 f23 f24 f21 f22 hE
        have f15 : A1 15 0 = nI T.2.1.length := by rw [a1 15 rfl]; exact t.2.1
        have hiT : i < T.2.1.length := by omega
        obtain ⟨b1, b2, b3, b4, b5⟩ := tw_e w1 hiT
        obtain ⟨y1, -, y3, -, -⟩ := t.2.2.1 i hiT
        rw [Nat.mul_zero, Nat.zero_add] at y1 y3
        have f16 : A1 16 i = nI T.2.1[i].1 := by rw [a1 16 rfl]; exact y1
        have f18 : A1 18 i = nI T.2.1[i].2.2.1 := by rw [a1 18 rfl]; exact y3
        obtain ⟨g1, g2⟩ := hE i hiT
        rw [if_neg (Nat.lt_irrefl _)] at g1 g2
        have hm := List.getElem_mem hiT
        have ht1 : ∃ o, xo T T.2.1[i].2.2.1 o := hal _ hm
        have hf1 : ∃ o, xo T T.2.1[i].1 o := by obtain ⟨o, ho⟩ := ht1; exact ⟨_, xo_e hm ho⟩
        have h65t : A1 65 T.2.1[i].2.2.1 = nI (H T.2.1[i].2.2.1).length := by rw [f65]; exact e65 _ b3 ht1
        have h65f : A1 65 T.2.1[i].1 = nI (H T.2.1[i].1).length := by rw [f65]; exact e65 _ b1 hf1
        have h66t : sg (A1 66) (32 * T.2.1[i].2.2.1) (H T.2.1[i].2.2.1) := by rw [f66]; exact e66 _ b3
        have hpw : pu_w H T.2.1[i] = (T.2.1[i].2.2.2 ++ H T.2.1[i].2.2.1).drop (H T.2.1[i].1).length := rfl
        have hlt := (hH18 _ b3).1
        have hlf := (hH18 _ b1).1
        have hcut : (H T.2.1[i].1).length ≤ T.2.1[i].2.2.2.length + (H T.2.1[i].2.2.1).length := by
          have := (hhd _ b1).2.1
          -- the head of from is a beginning of what is written by the edge, and the head of to
          have hp : H T.2.1[i].1 <+: T.2.1[i].2.2.2 ++ H T.2.1[i].2.2.1 := by
            by_cases cl : (H T.2.1[i].1).length ≤ T.2.1[i].2.2.2.length
            · obtain ⟨o, ho⟩ := ht1
              exact (List.prefix_of_prefix_length_le ((hhd _ b1).1 _ (xo_e hm ho)) (List.prefix_append _ _) cl).trans (List.prefix_append _ _)
            · obtain ⟨o0, ho0⟩ := ht1
              have hw : T.2.1[i].2.2.2 <+: H T.2.1[i].1 := List.prefix_of_prefix_length_le (List.prefix_append _ _) ((hhd _ b1).1 _ (xo_e hm ho0)) (by omega)
              obtain ⟨s, hs⟩ := hw
              rw [← hs, List.prefix_append_right_inj]
              refine (hhd _ b3).2.1 s ⟨o0, ho0⟩ (fun o ho => ?_)
              have := (hhd _ b1).1 _ (xo_e hm ho)
              rwa [← hs, List.prefix_append_right_inj] at this
          have := hp.length_le
          rwa [List.length_append] at this
        clear ht1 hf1
        generalize hfr : T.2.1[i].1 = fr at *
        generalize hto : T.2.1[i].2.2.1 = to at *
        generalize hvv : T.2.1[i].2.2.2 = v at *
        have hlen : (pu_w H T.2.1[i]).length = v.length + (H to).length - (H fr).length := by rw [hpw, List.length_drop, List.length_append]
        have c1 : ∀ (B : Nat → Nat → Int32) , B 65 = A1 65 → B 18 = A1 18 → rz_T w (d + 1) 0 0 m_Mod_push 0 0 196 [some (.ref a), some (.int z1), some (.int (nI i)), some (.int (nI v.length)), some (.int (nI ((H to).length))), z5] [] (re_put G a I (va_up B 28 (cp (B 28) (v.length) (B 66) (32 * to) ((H to).length)))) Q → rz_T w (d + 1) 0 0 m_Mod_push 0 0 148 [some (.ref a), some (.int z1), some (.int (nI i)), some (.int (nI v.length)), some (.int (nI 0)), z5] [] (re_put G a I B) Q := by
          intro B  b65 b18 hx
          have lp : ∀ (cj cx : Nat), cx + cj = (H to).length → rz_T w (d + 1) 0 0 m_Mod_push 0 0 148 [some (.ref a), some (.int z1), some (.int (nI i)), some (.int (nI v.length)), some (.int (nI cx)), z5] [] (re_put G a I (va_up B 28 (cp (B 28) (v.length) (B 66) (32 * to) cx))) Q := by
            intro cj
            induction cj with
            | zero =>
              intro cx hij
              have hi : cx = (H to).length := by omega
              subst hi
              refine rz_blk' [(.iload 4, 2, 0, 0), (.aload_n 0, 1, 0, 0), (.getfield 166, 3, 10, 65), (.aload_n 0, 1, 0, 0), (.getfield 59, 3, 10, 18), (.iload_n 2, 1, 0, 0), (.iaload, 1, 0, 0), (.iaload, 1, 0, 0), (.if_icmp .ge 35, 3, 0, 0)] (by decide +kernel) (Nat.le_refl _) (Nat.le_refl _) (fun K R hK hR => ?_)
              simp only [↓rx_aload_n0, ↓rx_getfield, ↓rx_iaload, ↓rx_if_icmp_ge, ↓rx_iload, ↓rx_iload_n2, ↓rx_nil, ↓ry_i2, ↓ry_iau, ↓ry_li0s, ↓ry_li0z, ↓ry_lr0s, ↓ry_lr0z, ↓ry_obu, ↓ry_r1, ↓ry_ri, true_and, re_a18, re_a65, ↓re_F18, ↓re_F65, ↓re_i18, ↓re_i65, ↓re_ob, b65, b18, f18, h65t, rz_set, rz_nol, rz_clr, List.set_cons_zero, List.set_cons_succ, rz_tr, Nat.reduceAdd, Int.reduceAdd, Int.reduceToNat, Int.reduceSub, Int.reduceNeg, Int.cast_ofNat_Int]
              try simp (disch := omega) only [b65, b18, f18, h65t, pk_us, pk_un, va_up_self, va_up_ne, nI_add, pk_mul, nI_clamp, vp_inT, nI_ltI, nI_leI, nI_eqI, pk_sub, true_and, and_true]
              refine ⟨fun q17 => hK _ _ _ _ ?_, fun q17 => by omega⟩
              exact hx
            | succ cj ih =>
              intro cx hij
              refine rz_blk' [(.iload 4, 2, 0, 0), (.aload_n 0, 1, 0, 0), (.getfield 166, 3, 10, 65), (.aload_n 0, 1, 0, 0), (.getfield 59, 3, 10, 18), (.iload_n 2, 1, 0, 0), (.iaload, 1, 0, 0), (.iaload, 1, 0, 0), (.if_icmp .ge 35, 3, 0, 0)] (by decide +kernel) (Nat.le_refl _) (Nat.le_refl _) (fun K R hK hR => ?_)
              simp only [↓rx_aload_n0, ↓rx_getfield, ↓rx_iaload, ↓rx_if_icmp_ge, ↓rx_iload, ↓rx_iload_n2, ↓rx_nil, ↓ry_i2, ↓ry_iau, ↓ry_li0s, ↓ry_li0z, ↓ry_lr0s, ↓ry_lr0z, ↓ry_obu, ↓ry_r1, ↓ry_ri, true_and, re_a18, re_a65, ↓re_F18, ↓re_F65, ↓re_i18, ↓re_i65, ↓re_ob, b65, b18, f18, h65t, rz_set, rz_nol, rz_clr, List.set_cons_zero, List.set_cons_succ, rz_tr, Nat.reduceAdd, Int.reduceAdd, Int.reduceToNat, Int.reduceSub, Int.reduceNeg, Int.cast_ofNat_Int]
              try simp (disch := omega) only [b65, b18, f18, h65t, pk_us, pk_un, va_up_self, va_up_ne, nI_add, pk_mul, nI_clamp, vp_inT, nI_ltI, nI_leI, nI_eqI, pk_sub, true_and, and_true]
              refine ⟨fun q18 => by omega, fun q18 => hK _ _ _ _ ?_⟩
              refine rz_blk' [(.aload_n 0, 1, 0, 0), (.getfield 83, 3, 10, 28), (.iload_n 3, 1, 0, 0), (.iload 4, 2, 0, 0), (.iadd, 1, 0, 0), (.aload_n 0, 1, 0, 0), (.getfield 169, 3, 10, 66), (.bipush 32, 2, 0, 0), (.aload_n 0, 1, 0, 0), (.getfield 59, 3, 10, 18), (.iload_n 2, 1, 0, 0), (.iaload, 1, 0, 0), (.imul, 1, 0, 0), (.iload 4, 2, 0, 0), (.iadd, 1, 0, 0), (.iaload, 1, 0, 0), (.iastore, 1, 0, 0)] (by decide +kernel) (Nat.le_refl _) (Nat.le_refl _) (fun K R hK hR => ?_)
              simp only [rw_b32, ↓rx_aload_n0, ↓rx_bipush, ↓rx_getfield, ↓rx_iadd, ↓rx_iaload, ↓rx_iastore, ↓rx_iload, ↓rx_iload_n2, ↓rx_iload_n3, ↓rx_imul, ↓rx_nil, ↓ry_i2, ↓ry_iau, ↓ry_li0s, ↓ry_li0z, ↓ry_lr0s, ↓ry_lr0z, ↓ry_obu, ↓ry_r1, ↓ry_ri, ↓ry_rii, true_and, re_a18, re_a28, re_a66, ↓re_F18, ↓re_F28, ↓re_F66, ↓re_i18, ↓re_i28, ↓re_i66, ↓re_ob, b65, b18, f18, h65t, rz_set, rz_nol, rz_clr, List.set_cons_zero, List.set_cons_succ, rz_tr, Nat.reduceAdd, Int.reduceAdd, Int.reduceToNat, Int.reduceSub, Int.reduceNeg, Int.cast_ofNat_Int]
              try simp (disch := omega) only [b65, b18, f18, h65t, pk_us, pk_un, va_up_self, va_up_ne, nI_add, pk_mul, nI_clamp, vp_inT, nI_ltI, nI_leI, nI_eqI, pk_sub, true_and, and_true]
              refine hK _ _ _ _ ?_
              refine rz_blk' [(.iinc 4 1, 3, 0, 0)] (by decide +kernel) (Nat.le_refl _) (Nat.le_refl _) (fun K R hK hR => ?_)
              simp only [rw_c1, ↓rx_iinc, ↓rx_nil, ↓ry_li0s, ↓ry_li0z, b65, b18, f18, h65t, rz_set, rz_nol, rz_clr, List.set_cons_zero, List.set_cons_succ, rz_tr, Nat.reduceAdd, Int.reduceAdd, Int.reduceToNat, Int.reduceSub, Int.reduceNeg, Int.cast_ofNat_Int]
              try simp (disch := omega) only [b65, b18, f18, h65t, pk_us, pk_un, va_up_self, va_up_ne, nI_add, pk_mul, nI_clamp, vp_inT, nI_ltI, nI_leI, nI_eqI, pk_sub, true_and, and_true]
              refine hK _ _ _ _ ?_
              refine rz_blk' [(.goto (-45), 3, 0, 0)] (by decide +kernel) (Nat.le_refl _) (Nat.le_refl _) (fun K R hK hR => ?_)
              simp only [↓rx_goto, ↓rx_nil, b65, b18, f18, h65t, rz_set, rz_nol, rz_clr, List.set_cons_zero, List.set_cons_succ, rz_tr, Nat.reduceAdd, Int.reduceAdd, Int.reduceToNat, Int.reduceSub, Int.reduceNeg, Int.cast_ofNat_Int]
              try simp (disch := omega) only [b65, b18, f18, h65t, pk_us, pk_un, va_up_self, va_up_ne, nI_add, pk_mul, nI_clamp, vp_inT, nI_ltI, nI_leI, nI_eqI, pk_sub, true_and, and_true]
              refine hK _ _ _ _ ?_
              have ih := ih (cx + 1) (by omega)
              rw [← cp_s] at ih
              rw [re_vv]
              exact ih
          have := lp ((H to).length) 0 (Nat.zero_add _)
          rw [cp_0, re_ve] at this
          exact this
        have c2 : ∀ (B : Nat → Nat → Int32) , rz_T w (d + 1) 0 0 m_Mod_push 0 0 230 [some (.ref a), some (.int z1), some (.int (nI i)), some (.int (nI v.length)), some (.int (nI (v.length))), z5] [] (re_put G a I (va_up B 28 (cp (B 28) (0) (B 20) (32 * i) (v.length)))) Q → rz_T w (d + 1) 0 0 m_Mod_push 0 0 199 [some (.ref a), some (.int z1), some (.int (nI i)), some (.int (nI v.length)), some (.int (nI 0)), z5] [] (re_put G a I B) Q := by
          intro B   hx
          have lp : ∀ (cj cx : Nat), cx + cj = v.length → rz_T w (d + 1) 0 0 m_Mod_push 0 0 199 [some (.ref a), some (.int z1), some (.int (nI i)), some (.int (nI v.length)), some (.int (nI cx)), z5] [] (re_put G a I (va_up B 28 (cp (B 28) (0) (B 20) (32 * i) cx))) Q := by
            intro cj
            induction cj with
            | zero =>
              intro cx hij
              have hi : cx = v.length := by omega
              subst hi
              refine rz_blk' [(.iload 4, 2, 0, 0), (.iload_n 3, 1, 0, 0), (.if_icmp .ge 28, 3, 0, 0)] (by decide +kernel) (Nat.le_refl _) (Nat.le_refl _) (fun K R hK hR => ?_)
              simp only [↓rx_if_icmp_ge, ↓rx_iload, ↓rx_iload_n3, ↓rx_nil, ↓ry_i2, ↓ry_li0s, ↓ry_li0z, rz_set, rz_nol, rz_clr, List.set_cons_zero, List.set_cons_succ, rz_tr, Nat.reduceAdd, Int.reduceAdd, Int.reduceToNat, Int.reduceSub, Int.reduceNeg, Int.cast_ofNat_Int]
              try simp (disch := omega) only [pk_us, pk_un, va_up_self, va_up_ne, nI_add, pk_mul, nI_clamp, vp_inT, nI_ltI, nI_leI, nI_eqI, pk_sub, true_and, and_true]
              refine ⟨fun q19 => hK _ _ _ _ ?_, fun q19 => by omega⟩
              exact hx
            | succ cj ih =>
              intro cx hij
              refine rz_blk' [(.iload 4, 2, 0, 0), (.iload_n 3, 1, 0, 0), (.if_icmp .ge 28, 3, 0, 0)] (by decide +kernel) (Nat.le_refl _) (Nat.le_refl _) (fun K R hK hR => ?_)
              simp only [↓rx_if_icmp_ge, ↓rx_iload, ↓rx_iload_n3, ↓rx_nil, ↓ry_i2, ↓ry_li0s, ↓ry_li0z, rz_set, rz_nol, rz_clr, List.set_cons_zero, List.set_cons_succ, rz_tr, Nat.reduceAdd, Int.reduceAdd, Int.reduceToNat, Int.reduceSub, Int.reduceNeg, Int.cast_ofNat_Int]
              try simp (disch := omega) only [pk_us, pk_un, va_up_self, va_up_ne, nI_add, pk_mul, nI_clamp, vp_inT, nI_ltI, nI_leI, nI_eqI, pk_sub, true_and, and_true]
              refine ⟨fun q20 => by omega, fun q20 => hK _ _ _ _ ?_⟩
              refine rz_blk' [(.aload_n 0, 1, 0, 0), (.getfield 83, 3, 10, 28), (.iload 4, 2, 0, 0), (.aload_n 0, 1, 0, 0), (.getfield 65, 3, 10, 20), (.bipush 32, 2, 0, 0), (.iload_n 2, 1, 0, 0), (.imul, 1, 0, 0), (.iload 4, 2, 0, 0), (.iadd, 1, 0, 0), (.iaload, 1, 0, 0), (.iastore, 1, 0, 0)] (by decide +kernel) (Nat.le_refl _) (Nat.le_refl _) (fun K R hK hR => ?_)
              simp only [rw_b32, ↓rx_aload_n0, ↓rx_bipush, ↓rx_getfield, ↓rx_iadd, ↓rx_iaload, ↓rx_iastore, ↓rx_iload, ↓rx_iload_n2, ↓rx_imul, ↓rx_nil, ↓ry_i2, ↓ry_iau, ↓ry_li0s, ↓ry_li0z, ↓ry_lr0s, ↓ry_lr0z, ↓ry_obu, ↓ry_r1, ↓ry_ri, ↓ry_rii, true_and, re_a20, re_a28, ↓re_F20, ↓re_F28, ↓re_i20, ↓re_i28, ↓re_ob, rz_set, rz_nol, rz_clr, List.set_cons_zero, List.set_cons_succ, rz_tr, Nat.reduceAdd, Int.reduceAdd, Int.reduceToNat, Int.reduceSub, Int.reduceNeg, Int.cast_ofNat_Int]
              try simp (disch := omega) only [pk_us, pk_un, va_up_self, va_up_ne, nI_add, pk_mul, nI_clamp, vp_inT, nI_ltI, nI_leI, nI_eqI, pk_sub, true_and, and_true]
              refine hK _ _ _ _ ?_
              refine rz_blk' [(.iinc 4 1, 3, 0, 0)] (by decide +kernel) (Nat.le_refl _) (Nat.le_refl _) (fun K R hK hR => ?_)
              simp only [rw_c1, ↓rx_iinc, ↓rx_nil, ↓ry_li0s, ↓ry_li0z, rz_set, rz_nol, rz_clr, List.set_cons_zero, List.set_cons_succ, rz_tr, Nat.reduceAdd, Int.reduceAdd, Int.reduceToNat, Int.reduceSub, Int.reduceNeg, Int.cast_ofNat_Int]
              try simp (disch := omega) only [pk_us, pk_un, va_up_self, va_up_ne, nI_add, pk_mul, nI_clamp, vp_inT, nI_ltI, nI_leI, nI_eqI, pk_sub, true_and, and_true]
              refine hK _ _ _ _ ?_
              refine rz_blk' [(.goto (-28), 3, 0, 0)] (by decide +kernel) (Nat.le_refl _) (Nat.le_refl _) (fun K R hK hR => ?_)
              simp only [↓rx_goto, ↓rx_nil, rz_set, rz_nol, rz_clr, List.set_cons_zero, List.set_cons_succ, rz_tr, Nat.reduceAdd, Int.reduceAdd, Int.reduceToNat, Int.reduceSub, Int.reduceNeg, Int.cast_ofNat_Int]
              try simp (disch := omega) only [pk_us, pk_un, va_up_self, va_up_ne, nI_add, pk_mul, nI_clamp, vp_inT, nI_ltI, nI_leI, nI_eqI, pk_sub, true_and, and_true]
              refine hK _ _ _ _ ?_
              have ih := ih (cx + 1) (by omega)
              rw [← cp_s] at ih
              simp only [Nat.zero_add] at ih
              rw [re_vv]
              exact ih
          have := lp (v.length) 0 (Nat.zero_add _)
          rw [cp_0, re_ve] at this
          exact this
        have c3 : ∀ (B : Nat → Nat → Int32) , B 19 i = nI (v.length + (H to).length - (H fr).length) → rz_T w (d + 1) 0 0 m_Mod_push 0 0 307 [some (.ref a), some (.int z1), some (.int (nI i)), some (.int (nI v.length)), some (.int (nI (H fr).length)), some (.int (nI ((v.length + (H to).length - (H fr).length))))] [] (re_put G a I (va_up B 20 (cp (B 20) (32 * i) (B 28) ((H fr).length) ((v.length + (H to).length - (H fr).length))))) Q → rz_T w (d + 1) 0 0 m_Mod_push 0 0 268 [some (.ref a), some (.int z1), some (.int (nI i)), some (.int (nI v.length)), some (.int (nI (H fr).length)), some (.int (nI 0))] [] (re_put G a I B) Q := by
          intro B  b19 hx
          have lp : ∀ (cj cx : Nat), cx + cj = (v.length + (H to).length - (H fr).length) → rz_T w (d + 1) 0 0 m_Mod_push 0 0 268 [some (.ref a), some (.int z1), some (.int (nI i)), some (.int (nI v.length)), some (.int (nI (H fr).length)), some (.int (nI cx))] [] (re_put G a I (va_up B 20 (cp (B 20) (32 * i) (B 28) ((H fr).length) cx))) Q := by
            intro cj
            induction cj with
            | zero =>
              intro cx hij
              have hi : cx = (v.length + (H to).length - (H fr).length) := by omega
              subst hi
              refine rz_blk' [(.iload 5, 2, 0, 0), (.aload_n 0, 1, 0, 0), (.getfield 62, 3, 10, 19), (.iload_n 2, 1, 0, 0), (.iaload, 1, 0, 0), (.if_icmp .ge 31, 3, 0, 0)] (by decide +kernel) (Nat.le_refl _) (Nat.le_refl _) (fun K R hK hR => ?_)
              simp only [↓rx_aload_n0, ↓rx_getfield, ↓rx_iaload, ↓rx_if_icmp_ge, ↓rx_iload, ↓rx_iload_n2, ↓rx_nil, ↓ry_i2, ↓ry_iau, ↓ry_li0s, ↓ry_li0z, ↓ry_lr0s, ↓ry_lr0z, ↓ry_obu, ↓ry_r1, ↓ry_ri, true_and, re_a19, ↓re_F19, ↓re_i19, ↓re_ob, b19, rz_set, rz_nol, rz_clr, List.set_cons_zero, List.set_cons_succ, rz_tr, Nat.reduceAdd, Int.reduceAdd, Int.reduceToNat, Int.reduceSub, Int.reduceNeg, Int.cast_ofNat_Int]
              try simp (disch := omega) only [b19, pk_us, pk_un, va_up_self, va_up_ne, nI_add, pk_mul, nI_clamp, vp_inT, nI_ltI, nI_leI, nI_eqI, pk_sub, true_and, and_true]
              refine ⟨fun q21 => hK _ _ _ _ ?_, fun q21 => by omega⟩
              exact hx
            | succ cj ih =>
              intro cx hij
              refine rz_blk' [(.iload 5, 2, 0, 0), (.aload_n 0, 1, 0, 0), (.getfield 62, 3, 10, 19), (.iload_n 2, 1, 0, 0), (.iaload, 1, 0, 0), (.if_icmp .ge 31, 3, 0, 0)] (by decide +kernel) (Nat.le_refl _) (Nat.le_refl _) (fun K R hK hR => ?_)
              simp only [↓rx_aload_n0, ↓rx_getfield, ↓rx_iaload, ↓rx_if_icmp_ge, ↓rx_iload, ↓rx_iload_n2, ↓rx_nil, ↓ry_i2, ↓ry_iau, ↓ry_li0s, ↓ry_li0z, ↓ry_lr0s, ↓ry_lr0z, ↓ry_obu, ↓ry_r1, ↓ry_ri, true_and, re_a19, ↓re_F19, ↓re_i19, ↓re_ob, b19, rz_set, rz_nol, rz_clr, List.set_cons_zero, List.set_cons_succ, rz_tr, Nat.reduceAdd, Int.reduceAdd, Int.reduceToNat, Int.reduceSub, Int.reduceNeg, Int.cast_ofNat_Int]
              try simp (disch := omega) only [b19, pk_us, pk_un, va_up_self, va_up_ne, nI_add, pk_mul, nI_clamp, vp_inT, nI_ltI, nI_leI, nI_eqI, pk_sub, true_and, and_true]
              refine ⟨fun q22 => by omega, fun q22 => hK _ _ _ _ ?_⟩
              refine rz_blk' [(.aload_n 0, 1, 0, 0), (.getfield 65, 3, 10, 20), (.bipush 32, 2, 0, 0), (.iload_n 2, 1, 0, 0), (.imul, 1, 0, 0), (.iload 5, 2, 0, 0), (.iadd, 1, 0, 0), (.aload_n 0, 1, 0, 0), (.getfield 83, 3, 10, 28), (.iload 4, 2, 0, 0), (.iload 5, 2, 0, 0), (.iadd, 1, 0, 0), (.iaload, 1, 0, 0), (.iastore, 1, 0, 0)] (by decide +kernel) (Nat.le_refl _) (Nat.le_refl _) (fun K R hK hR => ?_)
              simp only [rw_b32, ↓rx_aload_n0, ↓rx_bipush, ↓rx_getfield, ↓rx_iadd, ↓rx_iaload, ↓rx_iastore, ↓rx_iload, ↓rx_iload_n2, ↓rx_imul, ↓rx_nil, ↓ry_i2, ↓ry_iau, ↓ry_li0s, ↓ry_li0z, ↓ry_lr0s, ↓ry_lr0z, ↓ry_obu, ↓ry_r1, ↓ry_ri, ↓ry_rii, true_and, re_a20, re_a28, ↓re_F20, ↓re_F28, ↓re_i20, ↓re_i28, ↓re_ob, b19, rz_set, rz_nol, rz_clr, List.set_cons_zero, List.set_cons_succ, rz_tr, Nat.reduceAdd, Int.reduceAdd, Int.reduceToNat, Int.reduceSub, Int.reduceNeg, Int.cast_ofNat_Int]
              try simp (disch := omega) only [b19, pk_us, pk_un, va_up_self, va_up_ne, nI_add, pk_mul, nI_clamp, vp_inT, nI_ltI, nI_leI, nI_eqI, pk_sub, true_and, and_true]
              refine hK _ _ _ _ ?_
              refine rz_blk' [(.iinc 5 1, 3, 0, 0)] (by decide +kernel) (Nat.le_refl _) (Nat.le_refl _) (fun K R hK hR => ?_)
              simp only [rw_c1, ↓rx_iinc, ↓rx_nil, ↓ry_li0s, ↓ry_li0z, b19, rz_set, rz_nol, rz_clr, List.set_cons_zero, List.set_cons_succ, rz_tr, Nat.reduceAdd, Int.reduceAdd, Int.reduceToNat, Int.reduceSub, Int.reduceNeg, Int.cast_ofNat_Int]
              try simp (disch := omega) only [b19, pk_us, pk_un, va_up_self, va_up_ne, nI_add, pk_mul, nI_clamp, vp_inT, nI_ltI, nI_leI, nI_eqI, pk_sub, true_and, and_true]
              refine hK _ _ _ _ ?_
              refine rz_blk' [(.goto (-36), 3, 0, 0)] (by decide +kernel) (Nat.le_refl _) (Nat.le_refl _) (fun K R hK hR => ?_)
              simp only [↓rx_goto, ↓rx_nil, b19, rz_set, rz_nol, rz_clr, List.set_cons_zero, List.set_cons_succ, rz_tr, Nat.reduceAdd, Int.reduceAdd, Int.reduceToNat, Int.reduceSub, Int.reduceNeg, Int.cast_ofNat_Int]
              try simp (disch := omega) only [b19, pk_us, pk_un, va_up_self, va_up_ne, nI_add, pk_mul, nI_clamp, vp_inT, nI_ltI, nI_leI, nI_eqI, pk_sub, true_and, and_true]
              refine hK _ _ _ _ ?_
              have ih := ih (cx + 1) (by omega)
              rw [← cp_s] at ih
              rw [re_vv]
              exact ih
          have := lp ((v.length + (H to).length - (H fr).length)) 0 (Nat.zero_add _)
          rw [cp_0, re_ve] at this
          exact this
        refine rz_blk' [(.iload_n 2, 1, 0, 0), (.aload_n 0, 1, 0, 0), (.getfield 50, 3, 10, 15), (.iconst 0, 1, 0, 0), (.iaload, 1, 0, 0), (.if_icmp .ge 178, 3, 0, 0)] (by decide +kernel) (Nat.le_refl _) (Nat.le_refl _) (fun K R hK hR => ?_)
        simp only [rw_c0, ↓rx_aload_n0, ↓rx_getfield, ↓rx_iaload, ↓rx_iconst, ↓rx_if_icmp_ge, ↓rx_iload_n2, ↓rx_nil, ↓ry_i2, ↓ry_iau, ↓ry_li0s, ↓ry_li0z, ↓ry_lr0s, ↓ry_lr0z, ↓ry_obu, ↓ry_r1, ↓ry_ri, true_and, re_a15, ↓re_F15, ↓re_i15, ↓re_ob, f15, g1, rz_set, rz_nol, rz_clr, List.set_cons_zero, List.set_cons_succ, rz_tr, Nat.reduceAdd, Int.reduceAdd, Int.reduceToNat, Int.reduceSub, Int.reduceNeg, Int.cast_ofNat_Int]
        try simp (disch := omega) only [f15, g1, pk_us, pk_un, va_up_self, va_up_ne, nI_add, pk_mul, nI_clamp, vp_inT, nI_ltI, nI_leI, nI_eqI, pk_sub, true_and, and_true]
        refine ⟨fun q23 => by omega, fun q23 => hK _ _ _ _ ?_⟩
        refine rz_blk' [(.aload_n 0, 1, 0, 0), (.getfield 62, 3, 10, 19), (.iload_n 2, 1, 0, 0), (.iaload, 1, 0, 0), (.istore_n 3, 1, 0, 0)] (by decide +kernel) (Nat.le_refl _) (Nat.le_refl _) (fun K R hK hR => ?_)
        simp only [↓rx_aload_n0, ↓rx_getfield, ↓rx_iaload, ↓rx_iload_n2, ↓rx_istore_n3, ↓rx_nil, ↓ry_i1, ↓ry_iau, ↓ry_li0s, ↓ry_li0z, ↓ry_lr0s, ↓ry_lr0z, ↓ry_obu, ↓ry_r1, ↓ry_ri, true_and, re_a19, ↓re_F19, ↓re_i19, ↓re_ob, f15, g1, rz_set, rz_nol, rz_clr, List.set_cons_zero, List.set_cons_succ, rz_tr, Nat.reduceAdd, Int.reduceAdd, Int.reduceToNat, Int.reduceSub, Int.reduceNeg, Int.cast_ofNat_Int]
        try simp (disch := omega) only [f15, g1, pk_us, pk_un, va_up_self, va_up_ne, nI_add, pk_mul, nI_clamp, vp_inT, nI_ltI, nI_leI, nI_eqI, pk_sub, true_and, and_true]
        refine hK _ _ _ _ ?_
        refine rz_blk' [(.iconst 0, 1, 0, 0), (.istore 4, 2, 0, 0)] (by decide +kernel) (Nat.le_refl _) (Nat.le_refl _) (fun K R hK hR => ?_)
        simp only [rw_c0, ↓rx_iconst, ↓rx_istore, ↓rx_nil, ↓ry_i1, f15, g1, rz_set, rz_nol, rz_clr, List.set_cons_zero, List.set_cons_succ, rz_tr, Nat.reduceAdd, Int.reduceAdd, Int.reduceToNat, Int.reduceSub, Int.reduceNeg, Int.cast_ofNat_Int]
        try simp (disch := omega) only [f15, g1, pk_us, pk_un, va_up_self, va_up_ne, nI_add, pk_mul, nI_clamp, vp_inT, nI_ltI, nI_leI, nI_eqI, pk_sub, true_and, and_true]
        refine hK _ _ _ _ ?_
        refine c1 A1 rfl rfl ?_
        refine rz_blk' [(.iconst 0, 1, 0, 0), (.istore 4, 2, 0, 0)] (by decide +kernel) (Nat.le_refl _) (Nat.le_refl _) (fun K R hK hR => ?_)
        simp only [rw_c0, ↓rx_iconst, ↓rx_istore, ↓rx_nil, ↓ry_i1, f15, g1, rz_set, rz_nol, rz_clr, List.set_cons_zero, List.set_cons_succ, rz_tr, Nat.reduceAdd, Int.reduceAdd, Int.reduceToNat, Int.reduceSub, Int.reduceNeg, Int.cast_ofNat_Int]
        try simp (disch := omega) only [f15, g1, pk_us, pk_un, va_up_self, va_up_ne, nI_add, pk_mul, nI_clamp, vp_inT, nI_ltI, nI_leI, nI_eqI, pk_sub, true_and, and_true]
        refine hK _ _ _ _ ?_
        refine c2 _ ?_
        generalize hB1 : va_up A1 28 _ = B1
        generalize hB2 : va_up B1 28 _ = B2
        have hB1o : ∀ f, f ≠ 28 → B1 f = A1 f := fun f hf => by rw [← hB1, va_up_ne _ _ hf]
        have hB2o : ∀ f, f ≠ 28 → B2 f = A1 f := fun f hf => by rw [← hB2, va_up_ne _ _ hf, hB1o f hf]
        have hB128 : B1 28 = cp (A1 28) v.length (A1 66) (32 * to) (H to).length := by rw [← hB1, va_up_self]
        have hB228 : B2 28 = cp (B1 28) 0 (A1 20) (32 * i) v.length := by rw [← hB2, va_up_self, hB1o 20 (by decide)]
        have hs28 : sg (B2 28) 0 (v ++ H to) := by
          rw [hB228]
          refine sg_app (sg_cp g2 (Nat.le_refl _)) ?_
          rw [Nat.zero_add]
          refine sg.k (g := B1 28) ?_ (fun x h1 h2 => cp_out (by omega))
          rw [hB128]; exact sg_cp h66t (Nat.le_refl _)
        have k65 := hB2o 65 (by decide)
        have k16 := hB2o 16 (by decide)
        have k18 := hB2o 18 (by decide)
        have k19 := hB2o 19 (by decide)
        clear hB1 hB2
        refine rz_blk' [(.aload_n 0, 1, 0, 0), (.getfield 166, 3, 10, 65), (.aload_n 0, 1, 0, 0), (.getfield 53, 3, 10, 16), (.iload_n 2, 1, 0, 0), (.iaload, 1, 0, 0), (.iaload, 1, 0, 0), (.istore 4, 2, 0, 0)] (by decide +kernel) (Nat.le_refl _) (Nat.le_refl _) (fun K R hK hR => ?_)
        simp only [↓rx_aload_n0, ↓rx_getfield, ↓rx_iaload, ↓rx_iload_n2, ↓rx_istore, ↓rx_nil, ↓ry_i1, ↓ry_iau, ↓ry_li0s, ↓ry_li0z, ↓ry_lr0s, ↓ry_lr0z, ↓ry_obu, ↓ry_r1, ↓ry_ri, true_and, re_a16, re_a65, ↓re_F16, ↓re_F65, ↓re_i16, ↓re_i65, ↓re_ob, k65, k16, k18, k19, f16, f18, h65f, h65t, rz_set, rz_nol, rz_clr, List.set_cons_zero, List.set_cons_succ, rz_tr, Nat.reduceAdd, Int.reduceAdd, Int.reduceToNat, Int.reduceSub, Int.reduceNeg, Int.cast_ofNat_Int]
        try simp (disch := omega) only [k65, k16, k18, k19, f16, f18, h65f, h65t, pk_us, pk_un, va_up_self, va_up_ne, nI_add, pk_mul, nI_clamp, vp_inT, nI_ltI, nI_leI, nI_eqI, pk_sub, true_and, and_true]
        refine hK _ _ _ _ ?_
        refine rz_blk' [(.aload_n 0, 1, 0, 0), (.getfield 62, 3, 10, 19), (.iload_n 2, 1, 0, 0), (.iload_n 3, 1, 0, 0), (.aload_n 0, 1, 0, 0), (.getfield 166, 3, 10, 65), (.aload_n 0, 1, 0, 0), (.getfield 59, 3, 10, 18), (.iload_n 2, 1, 0, 0), (.iaload, 1, 0, 0), (.iaload, 1, 0, 0), (.iadd, 1, 0, 0), (.iload 4, 2, 0, 0), (.isub, 1, 0, 0), (.iastore, 1, 0, 0)] (by decide +kernel) (Nat.le_refl _) (Nat.le_refl _) (fun K R hK hR => ?_)
        simp only [↓rx_aload_n0, ↓rx_getfield, ↓rx_iadd, ↓rx_iaload, ↓rx_iastore, ↓rx_iload, ↓rx_iload_n2, ↓rx_iload_n3, ↓rx_isub, ↓rx_nil, ↓ry_i2, ↓ry_iau, ↓ry_li0s, ↓ry_li0z, ↓ry_lr0s, ↓ry_lr0z, ↓ry_obu, ↓ry_r1, ↓ry_ri, ↓ry_rii, true_and, re_a18, re_a19, re_a65, ↓re_F18, ↓re_F19, ↓re_F65, ↓re_i18, ↓re_i19, ↓re_i65, ↓re_ob, k65, k16, k18, k19, f16, f18, h65f, h65t, rz_set, rz_nol, rz_clr, List.set_cons_zero, List.set_cons_succ, rz_tr, Nat.reduceAdd, Int.reduceAdd, Int.reduceToNat, Int.reduceSub, Int.reduceNeg, Int.cast_ofNat_Int]
        try simp (disch := omega) only [k65, k16, k18, k19, f16, f18, h65f, h65t, pk_us, pk_un, va_up_self, va_up_ne, nI_add, pk_mul, nI_clamp, vp_inT, nI_ltI, nI_leI, nI_eqI, pk_sub, true_and, and_true]
        refine hK _ _ _ _ ?_
        refine rz_blk' [(.iconst 0, 1, 0, 0), (.istore 5, 2, 0, 0)] (by decide +kernel) (Nat.le_refl _) (Nat.le_refl _) (fun K R hK hR => ?_)
        simp only [rw_c0, ↓rx_iconst, ↓rx_istore, ↓rx_nil, ↓ry_i1, k65, k16, k18, k19, f16, f18, h65f, h65t, rz_set, rz_nol, rz_clr, List.set_cons_zero, List.set_cons_succ, rz_tr, Nat.reduceAdd, Int.reduceAdd, Int.reduceToNat, Int.reduceSub, Int.reduceNeg, Int.cast_ofNat_Int]
        try simp (disch := omega) only [k65, k16, k18, k19, f16, f18, h65f, h65t, pk_us, pk_un, va_up_self, va_up_ne, nI_add, pk_mul, nI_clamp, vp_inT, nI_ltI, nI_leI, nI_eqI, pk_sub, true_and, and_true]
        refine hK _ _ _ _ ?_
        refine c3 _ (by rw [va_up_self, pk_us]) ?_
        generalize hB3 : va_up B2 19 _ = B3
        generalize hB4 : va_up B3 20 _ = B4
        have hB319 : B3 19 = upd (A1 19) i (nI (v.length + (H to).length - (H fr).length)) := by rw [← hB3, va_up_self]
        have hB3o : ∀ f, f ≠ 19 → B3 f = B2 f := fun f hf => by rw [← hB3, va_up_ne _ _ hf]
        have hB4o : ∀ f, f ≠ 20 → B4 f = B3 f := fun f hf => by rw [← hB4, va_up_ne _ _ hf]
        have hB420 : B4 20 = cp (A1 20) (32 * i) (B2 28) (H fr).length (v.length + (H to).length - (H fr).length) := by rw [← hB4, va_up_self, hB3o 20 (by decide), hB3o 28 (by decide), hB2o 20 (by decide)]
        have hB4f : ∀ f, f ≠ 19 → f ≠ 20 → f ≠ 28 → B4 f = A1 f := fun f n1 n2 n3 => by rw [hB4o f n2, hB3o f n1, hB2o f n3]
        have hB419 : B4 19 = upd (A1 19) i (nI (v.length + (H to).length - (H fr).length)) := by rw [hB4o 19 (by decide), hB319]
        clear hB3 hB4
        refine rz_blk' [(.iinc 2 1, 3, 0, 0)] (by decide +kernel) (Nat.le_refl _) (Nat.le_refl _) (fun K R hK hR => ?_)
        simp only [rw_c1, ↓rx_iinc, ↓rx_nil, ↓ry_li0s, ↓ry_li0z, rz_set, rz_nol, rz_clr, List.set_cons_zero, List.set_cons_succ, rz_tr, Nat.reduceAdd, Int.reduceAdd, Int.reduceToNat, Int.reduceSub, Int.reduceNeg, Int.cast_ofNat_Int]
        try simp (disch := omega) only [pk_us, pk_un, va_up_self, va_up_ne, nI_add, pk_mul, nI_clamp, vp_inT, nI_ltI, nI_leI, nI_eqI, pk_sub, true_and, and_true]
        refine hK _ _ _ _ ?_
        refine rz_blk' [(.goto (-182), 3, 0, 0)] (by decide +kernel) (Nat.le_refl _) (Nat.le_refl _) (fun K R hK hR => ?_)
        simp only [↓rx_goto, ↓rx_nil, rz_set, rz_nol, rz_clr, List.set_cons_zero, List.set_cons_succ, rz_tr, Nat.reduceAdd, Int.reduceAdd, Int.reduceToNat, Int.reduceSub, Int.reduceNeg, Int.cast_ofNat_Int]
        try simp (disch := omega) only [pk_us, pk_un, va_up_self, va_up_ne, nI_add, pk_mul, nI_clamp, vp_inT, nI_ltI, nI_leI, nI_eqI, pk_sub, true_and, and_true]
        refine hK _ _ _ _ ?_
        refine ih (i + 1) B4 _ _ _ _ (by omega) (fun f hf => ?_) ((hB4f 65 (by decide) (by decide) (by decide)).trans f65) ((hB4f 66 (by decide) (by decide) (by decide)).trans f66) ((hB4f 23 (by decide) (by decide) (by decide)).trans f23) ((hB4f 24 (by decide) (by decide) (by decide)).trans f24) ((hB4f 21 (by decide) (by decide) (by decide)).trans f21) ((hB4f 22 (by decide) (by decide) (by decide)).trans f22) (fun f hf => ?_)
        · rw [hB4f f (by intro q; subst q; revert hf; decide) (by intro q; subst q; revert hf; decide) (by intro q; subst q; revert hf; decide)]
          exact a1 f hf
        · rw [hB419, hB420]
          by_cases c : f = i
          · subst c
            rw [if_pos (Nat.lt_succ_self _), pk_us]
            refine ⟨by rw [hlen], ?_⟩
            intro k hk
            rw [hlen] at hk
            rw [cp_in hk]
            have hkk := hs28 ((H fr).length + k) (by rw [List.length_append]; omega)
            rw [Nat.zero_add] at hkk
            rw [hkk]
            simp only [hpw, List.getElem_drop]
          · have e : (if f < i + 1 then pu_w H T.2.1[f] else T.2.1[f].2.2.2) = (if f < i then pu_w H T.2.1[f] else T.2.1[f].2.2.2) := by
              by_cases c2 : f < i
              · rw [if_pos c2, if_pos (by omega)]
              · rw [if_neg c2, if_neg (by omega)]
            rw [e, pk_un c]
            obtain ⟨z1, z2⟩ := hE f hf
            refine ⟨z1, z2.k (fun x h1 h2 => cp_out ?_)⟩
            have hb := tw_e w1 hf
            have : (if f < i then pu_w H T.2.1[f] else T.2.1[f].2.2.2).length ≤ 32 := by
              split
              · have hx := (hH18 _ hb.2.2.1).1
                unfold pu_w
                rw [List.length_drop, List.length_append]; omega
              · omega
            omega
    refine rz_blk' [(.iconst 0, 1, 0, 0), (.istore_n 2, 1, 0, 0)] (by decide +kernel) (Nat.le_refl _) (Nat.le_refl _) (fun K R hK hR => ?_)
    simp only [rw_c0, ↓rx_iconst, ↓rx_istore_n2, ↓rx_nil, ↓ry_i1, rz_set, rz_nol, rz_clr, List.set_cons_zero, List.set_cons_succ, rz_tr, Nat.reduceAdd, Int.reduceAdd, Int.reduceToNat, Int.reduceSub, Int.reduceNeg, Int.cast_ofNat_Int]
    try simp (disch := omega) only [pk_us, pk_un, va_up_self, va_up_ne, nI_add, pk_mul, nI_clamp, vp_inT, nI_ltI, nI_leI, nI_eqI, pk_sub, true_and, and_true]
    refine hK _ _ _ _ ?_
    refine s2 T.2.1.length 0 A0 _ _ _ _ (Nat.zero_add _) (a0.m rfl) rfl rfl (a0 23 rfl) (a0 24 rfl) (a0 21 rfl) (a0 22 rfl) (fun f hf => ?_)
    rw [if_neg (Nat.not_lt_zero _), a0 19 rfl, a0 20 rfl]
    obtain ⟨-, -, -, y4, y5⟩ := t.2.2.1 f hf
    rw [Nat.mul_zero, Nat.zero_add] at y4 y5
    exact ⟨y4, y5⟩
  have wl : ∀ (n : Nat) (A0 : Nat → Nat → Int32) (C0 : Nat → Option (List Nat)) (z2 z3 z4 z5 : Option Value), cm_t C0 < n → fa [65, 66] A A0 → cm_is A0 C0 → pj T C0 → rz_T w (d + 1) 0 0 m_Mod_push 0 0 10 [some (.ref a), some (.int (rz_b true)), z2, z3, z4, z5] [] (re_put G a I A0) Q := by
    intro n
    induction n with
    | zero => intro A0 C0 z2 z3 z4 z5 hn; omega
    | succ n ih =>
      intro A0 C0 z2 z3 z4 z5 hn a0 c0 j0
      have el : ∀ (j e : Nat) (A1 : Nat → Nat → Int32) (C : Nat → Option (List Nat)) (b : Bool) (z3 z4 z5 : Option Value), e + j = T.2.1.length → fa [65, 66] A A1 → cm_is A1 C → pj T C → (b = true → cm_t C < cm_t C0) → (b = false → (∀ s, s < 6 → C s = C0 s) ∧ (∀ s h f, s < 6 → C0 s = some h → T.2.2.1 s = some f → h <+: f) ∧ ∀ i (hi : i < T.2.1.length) h g, i < e → C0 T.2.1[i].1 = some h → C0 T.2.1[i].2.2.1 = some g → h <+: T.2.1[i].2.2.2 ++ g) → rz_T w (d + 1) 0 0 m_Mod_push 0 0 67 [some (.ref a), some (.int (rz_b b)), some (.int (nI e)), z3, z4, z5] [] (re_put G a I A1) Q := by
        intro j
        induction j with
        | zero =>
          intro e A1 C b z3 z4 z5 hej a1 c1 j1 k1 k0
          have f15 : A1 15 0 = nI T.2.1.length := by rw [a1 15 rfl]; exact t.2.1
          cases b with
          | true =>
            refine rz_blk' [(.iload_n 2, 1, 0, 0), (.aload_n 0, 1, 0, 0), (.getfield 50, 3, 10, 15), (.iconst 0, 1, 0, 0), (.iaload, 1, 0, 0), (.if_icmp .ge 49, 3, 0, 0)] (by decide +kernel) (Nat.le_refl _) (Nat.le_refl _) (fun K R hK hR => ?_)
            simp only [rw_c0, ↓rx_aload_n0, ↓rx_getfield, ↓rx_iaload, ↓rx_iconst, ↓rx_if_icmp_ge, ↓rx_iload_n2, ↓rx_nil, ↓ry_i2, ↓ry_iau, ↓ry_li0s, ↓ry_li0z, ↓ry_lr0s, ↓ry_lr0z, ↓ry_obu, ↓ry_r1, ↓ry_ri, true_and, re_a15, ↓re_F15, ↓re_i15, ↓re_ob, f15, rz_set, rz_nol, rz_clr, List.set_cons_zero, List.set_cons_succ, rz_tr, Nat.reduceAdd, Int.reduceAdd, Int.reduceToNat, Int.reduceSub, Int.reduceNeg, Int.cast_ofNat_Int]
            try simp (disch := omega) only [f15, pk_us, pk_un, va_up_self, va_up_ne, nI_add, pk_mul, nI_clamp, vp_inT, nI_ltI, nI_leI, nI_eqI, pk_sub, true_and, and_true]
            refine ⟨fun q24 => hK _ _ _ _ ?_, fun q24 => by omega⟩
            refine rz_blk' [(.goto (-117), 3, 0, 0)] (by decide +kernel) (Nat.le_refl _) (Nat.le_refl _) (fun K R hK hR => ?_)
            simp only [↓rx_goto, ↓rx_nil, f15, rz_set, rz_nol, rz_clr, List.set_cons_zero, List.set_cons_succ, rz_tr, Nat.reduceAdd, Int.reduceAdd, Int.reduceToNat, Int.reduceSub, Int.reduceNeg, Int.cast_ofNat_Int]
            try simp (disch := omega) only [f15, pk_us, pk_un, va_up_self, va_up_ne, nI_add, pk_mul, nI_clamp, vp_inT, nI_ltI, nI_leI, nI_eqI, pk_sub, true_and, and_true]
            refine hK _ _ _ _ ?_
            refine rz_blk' [(.iload_n 1, 1, 0, 0), (.ifCond .eq 119, 3, 0, 0)] (by decide +kernel) (Nat.le_refl _) (Nat.le_refl _) (fun K R hK hR => ?_)
            simp only [↓rx_ifCond_eq, ↓rx_iload_n1, ↓rx_nil, ↓ry_i1, ↓ry_li0s, ↓ry_li0z, f15, rz_set, rz_nol, rz_clr, List.set_cons_zero, List.set_cons_succ, rz_tr, Nat.reduceAdd, Int.reduceAdd, Int.reduceToNat, Int.reduceSub, Int.reduceNeg, Int.cast_ofNat_Int]
            try simp (disch := omega) only [f15, pk_us, pk_un, va_up_self, va_up_ne, nI_add, pk_mul, nI_clamp, vp_inT, nI_ltI, nI_leI, nI_eqI, pk_sub, true_and, and_true]
            refine ⟨fun q25 => absurd q25 (by decide), fun q25 => hK _ _ _ _ ?_⟩
            exact ih A1 C _ _ _ _ (by have := k1 rfl; omega) a1 c1 j1
          | false =>
            refine rz_blk' [(.iload_n 2, 1, 0, 0), (.aload_n 0, 1, 0, 0), (.getfield 50, 3, 10, 15), (.iconst 0, 1, 0, 0), (.iaload, 1, 0, 0), (.if_icmp .ge 49, 3, 0, 0)] (by decide +kernel) (Nat.le_refl _) (Nat.le_refl _) (fun K R hK hR => ?_)
            simp only [rw_c0, ↓rx_aload_n0, ↓rx_getfield, ↓rx_iaload, ↓rx_iconst, ↓rx_if_icmp_ge, ↓rx_iload_n2, ↓rx_nil, ↓ry_i2, ↓ry_iau, ↓ry_li0s, ↓ry_li0z, ↓ry_lr0s, ↓ry_lr0z, ↓ry_obu, ↓ry_r1, ↓ry_ri, true_and, re_a15, ↓re_F15, ↓re_i15, ↓re_ob, f15, rz_set, rz_nol, rz_clr, List.set_cons_zero, List.set_cons_succ, rz_tr, Nat.reduceAdd, Int.reduceAdd, Int.reduceToNat, Int.reduceSub, Int.reduceNeg, Int.cast_ofNat_Int]
            try simp (disch := omega) only [f15, pk_us, pk_un, va_up_self, va_up_ne, nI_add, pk_mul, nI_clamp, vp_inT, nI_ltI, nI_leI, nI_eqI, pk_sub, true_and, and_true]
            refine ⟨fun q26 => hK _ _ _ _ ?_, fun q26 => by omega⟩
            refine rz_blk' [(.goto (-117), 3, 0, 0)] (by decide +kernel) (Nat.le_refl _) (Nat.le_refl _) (fun K R hK hR => ?_)
            simp only [↓rx_goto, ↓rx_nil, f15, rz_set, rz_nol, rz_clr, List.set_cons_zero, List.set_cons_succ, rz_tr, Nat.reduceAdd, Int.reduceAdd, Int.reduceToNat, Int.reduceSub, Int.reduceNeg, Int.cast_ofNat_Int]
            try simp (disch := omega) only [f15, pk_us, pk_un, va_up_self, va_up_ne, nI_add, pk_mul, nI_clamp, vp_inT, nI_ltI, nI_leI, nI_eqI, pk_sub, true_and, and_true]
            refine hK _ _ _ _ ?_
            refine rz_blk' [(.iload_n 1, 1, 0, 0), (.ifCond .eq 119, 3, 0, 0)] (by decide +kernel) (Nat.le_refl _) (Nat.le_refl _) (fun K R hK hR => ?_)
            simp only [↓rx_ifCond_eq, ↓rx_iload_n1, ↓rx_nil, ↓ry_i1, ↓ry_li0s, ↓ry_li0z, f15, rz_set, rz_nol, rz_clr, List.set_cons_zero, List.set_cons_succ, rz_tr, Nat.reduceAdd, Int.reduceAdd, Int.reduceToNat, Int.reduceSub, Int.reduceNeg, Int.cast_ofNat_Int]
            try simp (disch := omega) only [f15, pk_us, pk_un, va_up_self, va_up_ne, nI_add, pk_mul, nI_clamp, vp_inT, nI_ltI, nI_leI, nI_eqI, pk_sub, true_and, and_true]
            refine ⟨fun q27 => hK _ _ _ _ ?_, fun q27 => by first | exact absurd rfl q27 | exact absurd trivial q27⟩
            obtain ⟨y1, y2, y3⟩ := k0 rfl
            refine hfin C A1 _ _ _ _ _ a1 c1 j1 (pj_end w1' j1 (fun s h f hs hc hf => y2 s h f hs (by rw [← y1 s hs]; exact hc) hf) (fun x hx h g hc hg => ?_))
            obtain ⟨i, hi, rfl⟩ := List.mem_iff_getElem.mp hx
            have b1 := tw_e w1 hi
            exact y3 i hi h g (by omega) (by rw [← y1 _ b1.1]; exact hc) (by rw [← y1 _ b1.2.2.1]; exact hg)
        | succ j ihe =>
          intro e A1 C b z3 z4 z5 hej a1 c1 j1 k1 k0
          have t' := re_t_fa (K := [65, 66]) t a1 rfl
          have heT : e < T.2.1.length := by omega
          obtain ⟨-, f15, u3, -⟩ := id t'
          obtain ⟨p1, -, p3, p4, p5⟩ := u3 e heT
          rw [Nat.mul_zero, Nat.zero_add] at p1 p3 p4 p5
          obtain ⟨b1, b2, b3, b4, b5⟩ := tw_e w1 heT
          have hm := List.getElem_mem heT
          have ht1 := hal _ hm
          have hf1 : ∃ o, xo T T.2.1[e].1 o := by obtain ⟨o, ho⟩ := ht1; exact ⟨_, xo_e hm ho⟩
          obtain ⟨g, hg⟩ := Option.ne_none_iff_exists'.mp (fun q => ((j1.1 _ b3).mp q) ht1)
          obtain ⟨h, hh⟩ := Option.ne_none_iff_exists'.mp (fun q => ((j1.1 _ b1).mp q) hf1)
          have hcl := c_Mod_shorten (w := w) (d := d) (G := G) (a := a) (I := I) (A := A1) (o := 32 * e) (b := true) (th := nI T.2.1[e].2.2.1) (u := T.2.1[e].2.2.2) (t := g) c1 b1 hh (Or.inl ⟨rfl, p5, by omega⟩) b5 (by omega) (Or.inr ⟨_, b3, rfl, hg⟩)
          have hjn := pj_e j1 hm b1 b3 hh hg
          have htl := cm_t_up (C := C) (a := T.2.1[e].1) (w := h.take (lcpn h (T.2.1[e].2.2.2 ++ g))) b1
          have hlle := lcpn_le h (T.2.1[e].2.2.2 ++ g)
          rw [hh] at htl
          simp only [Option.getD_some, List.length_take] at htl
          generalize hk : lcpn h (T.2.1[e].2.2.2 ++ g) = k at *
          have hnx : ∀ (A2 : Nat → Nat → Int32) (z : Int32), fa [65] A1 A2 → cm_is A2 (cm_up C T.2.1[e].1 (h.take k)) → z = rz_b (decide (k < h.length) || b) → rz_T w (d + 1) 0 0 m_Mod_push 0 0 117 [some (.ref a), some (.int z), some (.int (nI e)), z3, z4, z5] [] (re_put G a I A2) Q := by
            rintro A2 z a2 c2 rfl
            have hgo := ihe (e + 1) A2 (cm_up C T.2.1[e].1 (h.take k)) (decide (k < h.length) || b) z3 z4 z5 (by omega) (a1.t a2 rfl) c2 hjn (fun hb => ?_) (fun hb => ?_)
            · refine rz_blk' [(.iinc 2 1, 3, 0, 0)] (by decide +kernel) (Nat.le_refl _) (Nat.le_refl _) (fun K R hK hR => ?_)
              simp only [rw_c1, ↓rx_iinc, ↓rx_nil, ↓ry_li0s, ↓ry_li0z, rz_set, rz_nol, rz_clr, List.set_cons_zero, List.set_cons_succ, rz_tr, Nat.reduceAdd, Int.reduceAdd, Int.reduceToNat, Int.reduceSub, Int.reduceNeg, Int.cast_ofNat_Int]
              try simp (disch := omega) only [pk_us, pk_un, va_up_self, va_up_ne, nI_add, pk_mul, nI_clamp, vp_inT, nI_ltI, nI_leI, nI_eqI, pk_sub, true_and, and_true]
              refine hK _ _ _ _ ?_
              refine rz_blk' [(.goto (-53), 3, 0, 0)] (by decide +kernel) (Nat.le_refl _) (Nat.le_refl _) (fun K R hK hR => ?_)
              simp only [↓rx_goto, ↓rx_nil, rz_set, rz_nol, rz_clr, List.set_cons_zero, List.set_cons_succ, rz_tr, Nat.reduceAdd, Int.reduceAdd, Int.reduceToNat, Int.reduceSub, Int.reduceNeg, Int.cast_ofNat_Int]
              try simp (disch := omega) only [pk_us, pk_un, va_up_self, va_up_ne, nI_add, pk_mul, nI_clamp, vp_inT, nI_ltI, nI_leI, nI_eqI, pk_sub, true_and, and_true]
              refine hK _ _ _ _ ?_
              exact hgo
            · rw [Bool.or_eq_true, decide_eq_true_eq] at hb
              by_cases ck : k < h.length
              · have hbb : cm_t C ≤ cm_t C0 := by
                  cases b with
                  | true => exact Nat.le_of_lt (k1 rfl)
                  | false =>
                    refine Nat.le_of_eq ?_
                    unfold cm_t
                    congr 1
                    refine List.map_congr_left (fun s hs => ?_)
                    rw [(k0 rfl).1 s (by simpa using hs)]
                omega
              · have := k1 (hb.resolve_left ck)
                omega
            · rw [Bool.or_eq_false_iff, decide_eq_false_iff_not] at hb
              obtain ⟨y1, y2, y3⟩ := k0 hb.2
              have hkk : h.take k = h := List.take_of_length_le (by omega)
              refine ⟨fun s hs => ?_, y2, fun i hi h' g' hie hc hgc => ?_⟩
              · by_cases c : s = T.2.1[e].1
                · rw [c, cm_us, hkk, ← y1 _ b1, hh]
                · rw [cm_un c]; exact y1 s hs
              · by_cases c : i = e
                · subst c
                  rw [← y1 _ b1, hh] at hc
                  rw [← y1 _ b3, hg] at hgc
                  cases hc; cases hgc
                  exact lcp_full (by rw [hk]; exact hb.1)
                · exact y3 i hi h' g' (by omega) hc hgc
          refine rz_blk' [(.iload_n 2, 1, 0, 0), (.aload_n 0, 1, 0, 0), (.getfield 50, 3, 10, 15), (.iconst 0, 1, 0, 0), (.iaload, 1, 0, 0), (.if_icmp .ge 49, 3, 0, 0)] (by decide +kernel) (Nat.le_refl _) (Nat.le_refl _) (fun K R hK hR => ?_)
          simp only [rw_c0, ↓rx_aload_n0, ↓rx_getfield, ↓rx_iaload, ↓rx_iconst, ↓rx_if_icmp_ge, ↓rx_iload_n2, ↓rx_nil, ↓ry_i2, ↓ry_iau, ↓ry_li0s, ↓ry_li0z, ↓ry_lr0s, ↓ry_lr0z, ↓ry_obu, ↓ry_r1, ↓ry_ri, true_and, re_a15, ↓re_F15, ↓re_i15, ↓re_ob, f15, p1, p3, p4, rz_set, rz_nol, rz_clr, List.set_cons_zero, List.set_cons_succ, rz_tr, Nat.reduceAdd, Int.reduceAdd, Int.reduceToNat, Int.reduceSub, Int.reduceNeg, Int.cast_ofNat_Int]
          try simp (disch := omega) only [f15, p1, p3, p4, rb_0, pk_us, pk_un, va_up_self, va_up_ne, nI_add, pk_mul, nI_clamp, vp_inT, nI_ltI, nI_leI, nI_eqI, pk_sub, true_and, and_true]
          refine ⟨fun q28 => by omega, fun q28 => hK _ _ _ _ ?_⟩
          refine rz_blk' [(.aload_n 0, 1, 0, 0), (.aload_n 0, 1, 0, 0), (.getfield 53, 3, 10, 16), (.iload_n 2, 1, 0, 0), (.iaload, 1, 0, 0), (.bipush 32, 2, 0, 0), (.iload_n 2, 1, 0, 0), (.imul, 1, 0, 0), (.aload_n 0, 1, 0, 0), (.getfield 62, 3, 10, 19), (.iload_n 2, 1, 0, 0), (.iaload, 1, 0, 0), (.iconst 1, 1, 0, 0), (.aload_n 0, 1, 0, 0), (.getfield 59, 3, 10, 18), (.iload_n 2, 1, 0, 0), (.iaload, 1, 0, 0)] (by decide +kernel) (Nat.le_refl _) (Nat.le_refl _) (fun K R hK hR => ?_)
          simp only [rw_b32, rw_c1, ↓rx_aload_n0, ↓rx_bipush, ↓rx_getfield, ↓rx_iaload, ↓rx_iconst, ↓rx_iload_n2, ↓rx_imul, ↓rx_nil, ↓ry_i2, ↓ry_iau, ↓ry_li0s, ↓ry_li0z, ↓ry_lr0s, ↓ry_lr0z, ↓ry_obu, ↓ry_r1, ↓ry_ri, true_and, re_a16, re_a18, re_a19, ↓re_F16, ↓re_F18, ↓re_F19, ↓re_i16, ↓re_i18, ↓re_i19, ↓re_ob, f15, p1, p3, p4, rz_set, rz_nol, rz_clr, List.set_cons_zero, List.set_cons_succ, rz_tr, Nat.reduceAdd, Int.reduceAdd, Int.reduceToNat, Int.reduceSub, Int.reduceNeg, Int.cast_ofNat_Int]
          try simp (disch := omega) only [f15, p1, p3, p4, rb_0, pk_us, pk_un, va_up_self, va_up_ne, nI_add, pk_mul, nI_clamp, vp_inT, nI_ltI, nI_leI, nI_eqI, pk_sub, true_and, and_true]
          refine hK _ _ _ _ ?_
          refine rz_cV (As := [.int (nI T.2.1[e].1), .int (nI (32 * e)), .int (nI T.2.1[e].2.2.2.length), .int (rz_b true), .int (nI T.2.1[e].2.2.1)]) (b := a) (S := []) l_Mod_369 (by decide +kernel) rfl re_at0 rfl (Nat.le_of_ble_eq_true rfl) (Nat.le_refl _) (Nat.le_refl _) (hcl) (fun r G' hr => ?_)
          obtain ⟨rfl, A2, rfl, a2, c2⟩ := hr
          simp only [Option.toList, List.cons_append, List.nil_append]
          refine rz_blk' [(.ifCond .ne 7, 3, 0, 0)] (by decide +kernel) (Nat.le_refl _) (Nat.le_refl _) (fun K R hK hR => ?_)
          simp only [↓rx_ifCond_ne, ↓rx_nil, ↓ry_i1, f15, p1, p3, p4, rz_set, rz_nol, rz_clr, List.set_cons_zero, List.set_cons_succ, rz_tr, Nat.reduceAdd, Int.reduceAdd, Int.reduceToNat, Int.reduceSub, Int.reduceNeg, Int.cast_ofNat_Int]
          try simp (disch := omega) only [f15, p1, p3, p4, rb_0, pk_us, pk_un, va_up_self, va_up_ne, nI_add, pk_mul, nI_clamp, vp_inT, nI_ltI, nI_leI, nI_eqI, pk_sub, true_and, and_true]
          refine ⟨fun q29 => hK _ _ _ _ ?_, fun q29 => hK _ _ _ _ ?_⟩
          · -- 104 taken
            refine rz_blk' [(.iconst 1, 1, 0, 0), (.goto 4, 3, 0, 0)] (by decide +kernel) (Nat.le_refl _) (Nat.le_refl _) (fun K R hK hR => ?_)
            simp only [rw_c1, ↓rx_goto, ↓rx_iconst, ↓rx_nil, f15, p1, p3, p4, rz_set, rz_nol, rz_clr, List.set_cons_zero, List.set_cons_succ, rz_tr, Nat.reduceAdd, Int.reduceAdd, Int.reduceToNat, Int.reduceSub, Int.reduceNeg, Int.cast_ofNat_Int]
            try simp (disch := omega) only [f15, p1, p3, p4, rb_0, pk_us, pk_un, va_up_self, va_up_ne, nI_add, pk_mul, nI_clamp, vp_inT, nI_ltI, nI_leI, nI_eqI, pk_sub, true_and, and_true]
            refine hK _ _ _ _ ?_
            refine rz_blk' [(.istore_n 1, 1, 0, 0)] (by decide +kernel) (Nat.le_refl _) (Nat.le_refl _) (fun K R hK hR => ?_)
            simp only [↓rx_istore_n1, ↓rx_nil, ↓ry_i1, f15, p1, p3, p4, rz_set, rz_nol, rz_clr, List.set_cons_zero, List.set_cons_succ, rz_tr, Nat.reduceAdd, Int.reduceAdd, Int.reduceToNat, Int.reduceSub, Int.reduceNeg, Int.cast_ofNat_Int]
            try simp (disch := omega) only [f15, p1, p3, p4, rb_0, pk_us, pk_un, va_up_self, va_up_ne, nI_add, pk_mul, nI_clamp, vp_inT, nI_ltI, nI_leI, nI_eqI, pk_sub, true_and, and_true]
            refine hK _ _ _ _ ?_
            first
              | exact hnx A2 _ a2 c2 (by rw [show decide (k < h.length) = true by simpa using q29]; rfl)
              | exact hnx A2 _ a2 c2 (by rw [show b = true by simpa using q29]; simp; rfl)
              | exact hnx A2 _ a2 c2 (by rw [show decide (k < h.length) = false by simpa using q28, show b = false by simpa using q29]; rfl)
          · -- 104 not taken
            refine rz_blk' [(.iload_n 1, 1, 0, 0), (.ifCond .eq 7, 3, 0, 0)] (by decide +kernel) (Nat.le_refl _) (Nat.le_refl _) (fun K R hK hR => ?_)
            simp only [↓rx_ifCond_eq, ↓rx_iload_n1, ↓rx_nil, ↓ry_i1, ↓ry_li0s, ↓ry_li0z, f15, p1, p3, p4, rz_set, rz_nol, rz_clr, List.set_cons_zero, List.set_cons_succ, rz_tr, Nat.reduceAdd, Int.reduceAdd, Int.reduceToNat, Int.reduceSub, Int.reduceNeg, Int.cast_ofNat_Int]
            try simp (disch := omega) only [f15, p1, p3, p4, rb_0, pk_us, pk_un, va_up_self, va_up_ne, nI_add, pk_mul, nI_clamp, vp_inT, nI_ltI, nI_leI, nI_eqI, pk_sub, true_and, and_true]
            refine ⟨fun q30 => hK _ _ _ _ ?_, fun q30 => hK _ _ _ _ ?_⟩
            · -- 108 taken
              refine rz_blk' [(.iconst 0, 1, 0, 0), (.istore_n 1, 1, 0, 0)] (by decide +kernel) (Nat.le_refl _) (Nat.le_refl _) (fun K R hK hR => ?_)
              simp only [rw_c0, ↓rx_iconst, ↓rx_istore_n1, ↓rx_nil, ↓ry_i1, f15, p1, p3, p4, rz_set, rz_nol, rz_clr, List.set_cons_zero, List.set_cons_succ, rz_tr, Nat.reduceAdd, Int.reduceAdd, Int.reduceToNat, Int.reduceSub, Int.reduceNeg, Int.cast_ofNat_Int]
              try simp (disch := omega) only [f15, p1, p3, p4, rb_0, pk_us, pk_un, va_up_self, va_up_ne, nI_add, pk_mul, nI_clamp, vp_inT, nI_ltI, nI_leI, nI_eqI, pk_sub, true_and, and_true]
              refine hK _ _ _ _ ?_
              first
                | exact hnx A2 _ a2 c2 (by rw [show decide (k < h.length) = true by simpa using q30]; rfl)
                | exact hnx A2 _ a2 c2 (by rw [show b = true by simpa using q30]; simp; rfl)
                | exact hnx A2 _ a2 c2 (by rw [show decide (k < h.length) = false by simpa using q29, show b = false by simpa using q30]; rfl)
            · -- 108 not taken
              refine rz_blk' [(.iconst 1, 1, 0, 0), (.goto 4, 3, 0, 0)] (by decide +kernel) (Nat.le_refl _) (Nat.le_refl _) (fun K R hK hR => ?_)
              simp only [rw_c1, ↓rx_goto, ↓rx_iconst, ↓rx_nil, f15, p1, p3, p4, rz_set, rz_nol, rz_clr, List.set_cons_zero, List.set_cons_succ, rz_tr, Nat.reduceAdd, Int.reduceAdd, Int.reduceToNat, Int.reduceSub, Int.reduceNeg, Int.cast_ofNat_Int]
              try simp (disch := omega) only [f15, p1, p3, p4, rb_0, pk_us, pk_un, va_up_self, va_up_ne, nI_add, pk_mul, nI_clamp, vp_inT, nI_ltI, nI_leI, nI_eqI, pk_sub, true_and, and_true]
              refine hK _ _ _ _ ?_
              refine rz_blk' [(.istore_n 1, 1, 0, 0)] (by decide +kernel) (Nat.le_refl _) (Nat.le_refl _) (fun K R hK hR => ?_)
              simp only [↓rx_istore_n1, ↓rx_nil, ↓ry_i1, f15, p1, p3, p4, rz_set, rz_nol, rz_clr, List.set_cons_zero, List.set_cons_succ, rz_tr, Nat.reduceAdd, Int.reduceAdd, Int.reduceToNat, Int.reduceSub, Int.reduceNeg, Int.cast_ofNat_Int]
              try simp (disch := omega) only [f15, p1, p3, p4, rb_0, pk_us, pk_un, va_up_self, va_up_ne, nI_add, pk_mul, nI_clamp, vp_inT, nI_ltI, nI_leI, nI_eqI, pk_sub, true_and, and_true]
              refine hK _ _ _ _ ?_
              first
                | exact hnx A2 _ a2 c2 (by rw [show decide (k < h.length) = true by simpa using q30]; rfl)
                | exact hnx A2 _ a2 c2 (by rw [show b = true by simpa using q30]; simp; rfl)
                | exact hnx A2 _ a2 c2 (by rw [show decide (k < h.length) = false by simpa using q29, show b = false by simpa using q30]; rfl)
      have sl : ∀ (j i : Nat) (A1 : Nat → Nat → Int32) (C : Nat → Option (List Nat)) (b : Bool) (z3 z4 z5 : Option Value), i + j = 6 → fa [65, 66] A A1 → cm_is A1 C → pj T C → (b = true → cm_t C < cm_t C0) → (b = false → (∀ s, s < 6 → C s = C0 s) ∧ (∀ s h f, s < i → C0 s = some h → T.2.2.1 s = some f → h <+: f) ∧ ∀ i (hi : i < T.2.1.length) h g, i < 0 → C0 T.2.1[i].1 = some h → C0 T.2.1[i].2.2.1 = some g → h <+: T.2.1[i].2.2.2 ++ g) → rz_T w (d + 1) 0 0 m_Mod_push 0 0 14 [some (.ref a), some (.int (rz_b b)), some (.int (nI i)), z3, z4, z5] [] (re_put G a I A1) Q := by
        intro j
        induction j with
        | zero =>
          intro i A1 C b z3 z4 z5 hij a1 c1 j1 k1 k0
          have hi : i = 6 := by omega
          subst hi
          refine rz_blk' [(.iload_n 2, 1, 0, 0), (.bipush 6, 2, 0, 0), (.if_icmp .ge 48, 3, 0, 0)] (by decide +kernel) (Nat.le_refl _) (Nat.le_refl _) (fun K R hK hR => ?_)
          simp only [rw_b6, ↓rx_bipush, ↓rx_if_icmp_ge, ↓rx_iload_n2, ↓rx_nil, ↓ry_i2, ↓ry_li0s, ↓ry_li0z, rz_set, rz_nol, rz_clr, List.set_cons_zero, List.set_cons_succ, rz_tr, Nat.reduceAdd, Int.reduceAdd, Int.reduceToNat, Int.reduceSub, Int.reduceNeg, Int.cast_ofNat_Int]
          try simp (disch := omega) only [pk_us, pk_un, va_up_self, va_up_ne, nI_add, pk_mul, nI_clamp, vp_inT, nI_ltI, nI_leI, nI_eqI, pk_sub, true_and, and_true]
          refine ⟨fun q31 => hK _ _ _ _ ?_, fun q31 => by omega⟩
          refine rz_blk' [(.iconst 0, 1, 0, 0), (.istore_n 2, 1, 0, 0)] (by decide +kernel) (Nat.le_refl _) (Nat.le_refl _) (fun K R hK hR => ?_)
          simp only [rw_c0, ↓rx_iconst, ↓rx_istore_n2, ↓rx_nil, ↓ry_i1, rz_set, rz_nol, rz_clr, List.set_cons_zero, List.set_cons_succ, rz_tr, Nat.reduceAdd, Int.reduceAdd, Int.reduceToNat, Int.reduceSub, Int.reduceNeg, Int.cast_ofNat_Int]
          try simp (disch := omega) only [pk_us, pk_un, va_up_self, va_up_ne, nI_add, pk_mul, nI_clamp, vp_inT, nI_ltI, nI_leI, nI_eqI, pk_sub, true_and, and_true]
          refine hK _ _ _ _ ?_
          exact el T.2.1.length 0 A1 C b _ _ _ (Nat.zero_add _) a1 c1 j1 k1 k0
        | succ j ihs =>
          intro i A1 C b z3 z4 z5 hij a1 c1 j1 k1 k0
          have hi6 : i < 6 := by omega
          have t' := re_t_fa (K := [65, 66]) t a1 rfl
          obtain ⟨g1, g2⟩ := t'.2.2.2.1 i hi6
          rw [Nat.mul_zero, Nat.zero_add] at g1 g2
          have so := hos (q := i)
          cases hfi : T.2.2.1 i with
          | none =>
            rw [hfi] at g1 so
            have so : (os none < 0) = True := by rw [so]; simp
            have hgo := ihs (i + 1) A1 C b z3 z4 z5 (by omega) a1 c1 j1 k1 (fun hb => ⟨(k0 hb).1, fun s h f hs hc hf => by
              by_cases c : s = i
              · subst c; rw [hfi] at hf; cases hf
              · exact (k0 hb).2.1 s h f (by omega) hc hf, (k0 hb).2.2⟩)
            refine rz_blk' [(.iload_n 2, 1, 0, 0), (.bipush 6, 2, 0, 0), (.if_icmp .ge 48, 3, 0, 0)] (by decide +kernel) (Nat.le_refl _) (Nat.le_refl _) (fun K R hK hR => ?_)
            simp only [rw_b6, ↓rx_bipush, ↓rx_if_icmp_ge, ↓rx_iload_n2, ↓rx_nil, ↓ry_i2, ↓ry_li0s, ↓ry_li0z, g1, rz_set, rz_nol, rz_clr, List.set_cons_zero, List.set_cons_succ, rz_tr, Nat.reduceAdd, Int.reduceAdd, Int.reduceToNat, Int.reduceSub, Int.reduceNeg, Int.cast_ofNat_Int]
            try simp (disch := omega) only [g1, so, pk_us, pk_un, va_up_self, va_up_ne, nI_add, pk_mul, nI_clamp, vp_inT, nI_ltI, nI_leI, nI_eqI, pk_sub, true_and, and_true]
            refine ⟨fun q32 => by omega, fun q32 => hK _ _ _ _ ?_⟩
            refine rz_blk' [(.aload_n 0, 1, 0, 0), (.getfield 68, 3, 10, 21), (.iload_n 2, 1, 0, 0), (.iaload, 1, 0, 0), (.ifCond .lt 33, 3, 0, 0)] (by decide +kernel) (Nat.le_refl _) (Nat.le_refl _) (fun K R hK hR => ?_)
            simp only [↓rx_aload_n0, ↓rx_getfield, ↓rx_iaload, ↓rx_ifCond_lt, ↓rx_iload_n2, ↓rx_nil, ↓ry_i1, ↓ry_iau, ↓ry_li0s, ↓ry_li0z, ↓ry_lr0s, ↓ry_lr0z, ↓ry_obu, ↓ry_r1, ↓ry_ri, true_and, re_a21, ↓re_F21, ↓re_i21, ↓re_ob, g1, rz_set, rz_nol, rz_clr, List.set_cons_zero, List.set_cons_succ, rz_tr, Nat.reduceAdd, Int.reduceAdd, Int.reduceToNat, Int.reduceSub, Int.reduceNeg, Int.cast_ofNat_Int]
            try simp (disch := omega) only [g1, so, pk_us, pk_un, va_up_self, va_up_ne, nI_add, pk_mul, nI_clamp, vp_inT, nI_ltI, nI_leI, nI_eqI, pk_sub, true_and, and_true]
            refine ⟨fun q33 => hK _ _ _ _ ?_, fun q33 => by first | exact absurd trivial q33 | exact absurd (of_eq_true so) q33⟩
            refine rz_blk' [(.iinc 2 1, 3, 0, 0)] (by decide +kernel) (Nat.le_refl _) (Nat.le_refl _) (fun K R hK hR => ?_)
            simp only [rw_c1, ↓rx_iinc, ↓rx_nil, ↓ry_li0s, ↓ry_li0z, g1, rz_set, rz_nol, rz_clr, List.set_cons_zero, List.set_cons_succ, rz_tr, Nat.reduceAdd, Int.reduceAdd, Int.reduceToNat, Int.reduceSub, Int.reduceNeg, Int.cast_ofNat_Int]
            try simp (disch := omega) only [g1, so, pk_us, pk_un, va_up_self, va_up_ne, nI_add, pk_mul, nI_clamp, vp_inT, nI_ltI, nI_leI, nI_eqI, pk_sub, true_and, and_true]
            refine hK _ _ _ _ ?_
            refine rz_blk' [(.goto (-48), 3, 0, 0)] (by decide +kernel) (Nat.le_refl _) (Nat.le_refl _) (fun K R hK hR => ?_)
            simp only [↓rx_goto, ↓rx_nil, g1, rz_set, rz_nol, rz_clr, List.set_cons_zero, List.set_cons_succ, rz_tr, Nat.reduceAdd, Int.reduceAdd, Int.reduceToNat, Int.reduceSub, Int.reduceNeg, Int.cast_ofNat_Int]
            try simp (disch := omega) only [g1, so, pk_us, pk_un, va_up_self, va_up_ne, nI_add, pk_mul, nI_clamp, vp_inT, nI_ltI, nI_leI, nI_eqI, pk_sub, true_and, and_true]
            refine hK _ _ _ _ ?_
            exact hgo
          | some f =>
            rw [hfi] at g1 g2 so
            have g1 : A1 21 i = nI f.length := g1
            have g2 : sg (A1 22) (32 * i) f := g2
            have hf3 := w1.2.2.2.2.1 _ f hfi
            obtain ⟨h, hh⟩ := Option.ne_none_iff_exists'.mp (fun q => ((j1.1 _ hi6).mp q) ⟨f, xo_f hfi⟩)
            have hcl := c_Mod_shorten (w := w) (d := d) (G := G) (a := a) (I := I) (A := A1) (o := 32 * i) (b := false) (th := -1) (u := f) (t := []) c1 hi6 hh (Or.inr ⟨rfl, g2, by omega⟩) hf3.2 (by omega) (Or.inl ⟨rfl, rfl⟩)
            rw [List.append_nil] at hcl
            have hjn := pj_f j1 hi6 hh hfi
            have htl := cm_t_up (C := C) (a := i) (w := h.take (lcpn h f)) hi6
            have hlle := lcpn_le h f
            rw [hh] at htl
            simp only [Option.getD_some, List.length_take] at htl
            generalize hk : lcpn h f = k at *
            have hnx : ∀ (A2 : Nat → Nat → Int32) (z : Int32), fa [65] A1 A2 → cm_is A2 (cm_up C i (h.take k)) → z = rz_b (decide (k < h.length) || b) → rz_T w (d + 1) 0 0 m_Mod_push 0 0 59 [some (.ref a), some (.int z), some (.int (nI i)), z3, z4, z5] [] (re_put G a I A2) Q := by
              rintro A2 z a2 c2 rfl
              have hgo := ihs (i + 1) A2 (cm_up C i (h.take k)) (decide (k < h.length) || b) z3 z4 z5 (by omega) (a1.t a2 rfl) c2 hjn (fun hb => ?_) (fun hb => ?_)
              · refine rz_blk' [(.iinc 2 1, 3, 0, 0)] (by decide +kernel) (Nat.le_refl _) (Nat.le_refl _) (fun K R hK hR => ?_)
                simp only [rw_c1, ↓rx_iinc, ↓rx_nil, ↓ry_li0s, ↓ry_li0z, rz_set, rz_nol, rz_clr, List.set_cons_zero, List.set_cons_succ, rz_tr, Nat.reduceAdd, Int.reduceAdd, Int.reduceToNat, Int.reduceSub, Int.reduceNeg, Int.cast_ofNat_Int]
                try simp (disch := omega) only [pk_us, pk_un, va_up_self, va_up_ne, nI_add, pk_mul, nI_clamp, vp_inT, nI_ltI, nI_leI, nI_eqI, pk_sub, true_and, and_true]
                refine hK _ _ _ _ ?_
                refine rz_blk' [(.goto (-48), 3, 0, 0)] (by decide +kernel) (Nat.le_refl _) (Nat.le_refl _) (fun K R hK hR => ?_)
                simp only [↓rx_goto, ↓rx_nil, rz_set, rz_nol, rz_clr, List.set_cons_zero, List.set_cons_succ, rz_tr, Nat.reduceAdd, Int.reduceAdd, Int.reduceToNat, Int.reduceSub, Int.reduceNeg, Int.cast_ofNat_Int]
                try simp (disch := omega) only [pk_us, pk_un, va_up_self, va_up_ne, nI_add, pk_mul, nI_clamp, vp_inT, nI_ltI, nI_leI, nI_eqI, pk_sub, true_and, and_true]
                refine hK _ _ _ _ ?_
                exact hgo
              · rw [Bool.or_eq_true, decide_eq_true_eq] at hb
                by_cases ck : k < h.length
                · have hbb : cm_t C ≤ cm_t C0 := by
                    cases b with
                    | true => exact Nat.le_of_lt (k1 rfl)
                    | false =>
                      refine Nat.le_of_eq ?_
                      unfold cm_t
                      congr 1
                      refine List.map_congr_left (fun s hs => ?_)
                      rw [(k0 rfl).1 s (by simpa using hs)]
                  omega
                · have := k1 (hb.resolve_left ck)
                  omega
              · rw [Bool.or_eq_false_iff, decide_eq_false_iff_not] at hb
                obtain ⟨y1, y2, y3⟩ := k0 hb.2
                have hkk : h.take k = h := List.take_of_length_le (by omega)
                refine ⟨fun s hs => ?_, fun s h' f' hs hc hf' => ?_, y3⟩
                · by_cases c : s = i
                  · rw [c, cm_us, hkk, ← y1 _ hi6, hh]
                  · rw [cm_un c]; exact y1 s hs
                · by_cases c : s = i
                  · subst c
                    rw [← y1 _ hi6, hh] at hc
                    rw [hfi] at hf'
                    cases hc; cases hf'
                    exact lcp_full (by rw [hk]; exact hb.1)
                  · exact y2 s h' f' (by omega) hc hf'
            refine rz_blk' [(.iload_n 2, 1, 0, 0), (.bipush 6, 2, 0, 0), (.if_icmp .ge 48, 3, 0, 0)] (by decide +kernel) (Nat.le_refl _) (Nat.le_refl _) (fun K R hK hR => ?_)
            simp only [rw_b6, ↓rx_bipush, ↓rx_if_icmp_ge, ↓rx_iload_n2, ↓rx_nil, ↓ry_i2, ↓ry_li0s, ↓ry_li0z, g1, rz_set, rz_nol, rz_clr, List.set_cons_zero, List.set_cons_succ, rz_tr, Nat.reduceAdd, Int.reduceAdd, Int.reduceToNat, Int.reduceSub, Int.reduceNeg, Int.cast_ofNat_Int]
            try simp (disch := omega) only [g1, rb_0, pk_us, pk_un, va_up_self, va_up_ne, nI_add, pk_mul, nI_clamp, vp_inT, nI_ltI, nI_leI, nI_eqI, pk_sub, true_and, and_true]
            refine ⟨fun q34 => by omega, fun q34 => hK _ _ _ _ ?_⟩
            refine rz_blk' [(.aload_n 0, 1, 0, 0), (.getfield 68, 3, 10, 21), (.iload_n 2, 1, 0, 0), (.iaload, 1, 0, 0), (.ifCond .lt 33, 3, 0, 0)] (by decide +kernel) (Nat.le_refl _) (Nat.le_refl _) (fun K R hK hR => ?_)
            simp only [↓rx_aload_n0, ↓rx_getfield, ↓rx_iaload, ↓rx_ifCond_lt, ↓rx_iload_n2, ↓rx_nil, ↓ry_i1, ↓ry_iau, ↓ry_li0s, ↓ry_li0z, ↓ry_lr0s, ↓ry_lr0z, ↓ry_obu, ↓ry_r1, ↓ry_ri, true_and, re_a21, ↓re_F21, ↓re_i21, ↓re_ob, g1, rz_set, rz_nol, rz_clr, List.set_cons_zero, List.set_cons_succ, rz_tr, Nat.reduceAdd, Int.reduceAdd, Int.reduceToNat, Int.reduceSub, Int.reduceNeg, Int.cast_ofNat_Int]
            try simp (disch := omega) only [g1, rb_0, pk_us, pk_un, va_up_self, va_up_ne, nI_add, pk_mul, nI_clamp, vp_inT, nI_ltI, nI_leI, nI_eqI, pk_sub, true_and, and_true]
            refine ⟨fun q35 => absurd q35 (nI_pos (by omega)), fun q35 => hK _ _ _ _ ?_⟩
            refine rz_blk' [(.aload_n 0, 1, 0, 0), (.iload_n 2, 1, 0, 0), (.bipush 32, 2, 0, 0), (.iload_n 2, 1, 0, 0), (.imul, 1, 0, 0), (.aload_n 0, 1, 0, 0), (.getfield 68, 3, 10, 21), (.iload_n 2, 1, 0, 0), (.iaload, 1, 0, 0), (.iconst 0, 1, 0, 0), (.iconst (-1), 1, 0, 0)] (by decide +kernel) (Nat.le_refl _) (Nat.le_refl _) (fun K R hK hR => ?_)
            simp only [rw_b32, rw_c0, rw_cm1, ↓rx_aload_n0, ↓rx_bipush, ↓rx_getfield, ↓rx_iaload, ↓rx_iconst, ↓rx_iload_n2, ↓rx_imul, ↓rx_nil, ↓ry_i2, ↓ry_iau, ↓ry_li0s, ↓ry_li0z, ↓ry_lr0s, ↓ry_lr0z, ↓ry_obu, ↓ry_r1, ↓ry_ri, true_and, re_a21, ↓re_F21, ↓re_i21, ↓re_ob, g1, rz_set, rz_nol, rz_clr, List.set_cons_zero, List.set_cons_succ, rz_tr, Nat.reduceAdd, Int.reduceAdd, Int.reduceToNat, Int.reduceSub, Int.reduceNeg, Int.cast_ofNat_Int]
            try simp (disch := omega) only [g1, rb_0, pk_us, pk_un, va_up_self, va_up_ne, nI_add, pk_mul, nI_clamp, vp_inT, nI_ltI, nI_leI, nI_eqI, pk_sub, true_and, and_true]
            refine hK _ _ _ _ ?_
            refine rz_cV (As := [.int (nI i), .int (nI (32 * i)), .int (nI f.length), .int (rz_b false), .int (-1)]) (b := a) (S := []) l_Mod_369 (by decide +kernel) rfl re_at0 rfl (Nat.le_of_ble_eq_true rfl) (Nat.le_refl _) (Nat.le_refl _) (hcl) (fun r G' hr => ?_)
            obtain ⟨rfl, A2, rfl, a2, c2⟩ := hr
            simp only [Option.toList, List.cons_append, List.nil_append]
            refine rz_blk' [(.ifCond .ne 7, 3, 0, 0)] (by decide +kernel) (Nat.le_refl _) (Nat.le_refl _) (fun K R hK hR => ?_)
            simp only [↓rx_ifCond_ne, ↓rx_nil, ↓ry_i1, g1, rz_set, rz_nol, rz_clr, List.set_cons_zero, List.set_cons_succ, rz_tr, Nat.reduceAdd, Int.reduceAdd, Int.reduceToNat, Int.reduceSub, Int.reduceNeg, Int.cast_ofNat_Int]
            try simp (disch := omega) only [g1, rb_0, pk_us, pk_un, va_up_self, va_up_ne, nI_add, pk_mul, nI_clamp, vp_inT, nI_ltI, nI_leI, nI_eqI, pk_sub, true_and, and_true]
            refine ⟨fun q36 => hK _ _ _ _ ?_, fun q36 => hK _ _ _ _ ?_⟩
            · -- 46 taken
              refine rz_blk' [(.iconst 1, 1, 0, 0), (.goto 4, 3, 0, 0)] (by decide +kernel) (Nat.le_refl _) (Nat.le_refl _) (fun K R hK hR => ?_)
              simp only [rw_c1, ↓rx_goto, ↓rx_iconst, ↓rx_nil, g1, rz_set, rz_nol, rz_clr, List.set_cons_zero, List.set_cons_succ, rz_tr, Nat.reduceAdd, Int.reduceAdd, Int.reduceToNat, Int.reduceSub, Int.reduceNeg, Int.cast_ofNat_Int]
              try simp (disch := omega) only [g1, rb_0, pk_us, pk_un, va_up_self, va_up_ne, nI_add, pk_mul, nI_clamp, vp_inT, nI_ltI, nI_leI, nI_eqI, pk_sub, true_and, and_true]
              refine hK _ _ _ _ ?_
              refine rz_blk' [(.istore_n 1, 1, 0, 0)] (by decide +kernel) (Nat.le_refl _) (Nat.le_refl _) (fun K R hK hR => ?_)
              simp only [↓rx_istore_n1, ↓rx_nil, ↓ry_i1, g1, rz_set, rz_nol, rz_clr, List.set_cons_zero, List.set_cons_succ, rz_tr, Nat.reduceAdd, Int.reduceAdd, Int.reduceToNat, Int.reduceSub, Int.reduceNeg, Int.cast_ofNat_Int]
              try simp (disch := omega) only [g1, rb_0, pk_us, pk_un, va_up_self, va_up_ne, nI_add, pk_mul, nI_clamp, vp_inT, nI_ltI, nI_leI, nI_eqI, pk_sub, true_and, and_true]
              refine hK _ _ _ _ ?_
              first
                | exact hnx A2 _ a2 c2 (by rw [show decide (k < h.length) = true by simpa using q36]; rfl)
                | exact hnx A2 _ a2 c2 (by rw [show b = true by simpa using q36]; simp; rfl)
                | exact hnx A2 _ a2 c2 (by rw [show decide (k < h.length) = false by simpa using q35, show b = false by simpa using q36]; rfl)
            · -- 46 not taken
              refine rz_blk' [(.iload_n 1, 1, 0, 0), (.ifCond .eq 7, 3, 0, 0)] (by decide +kernel) (Nat.le_refl _) (Nat.le_refl _) (fun K R hK hR => ?_)
              simp only [↓rx_ifCond_eq, ↓rx_iload_n1, ↓rx_nil, ↓ry_i1, ↓ry_li0s, ↓ry_li0z, g1, rz_set, rz_nol, rz_clr, List.set_cons_zero, List.set_cons_succ, rz_tr, Nat.reduceAdd, Int.reduceAdd, Int.reduceToNat, Int.reduceSub, Int.reduceNeg, Int.cast_ofNat_Int]
              try simp (disch := omega) only [g1, rb_0, pk_us, pk_un, va_up_self, va_up_ne, nI_add, pk_mul, nI_clamp, vp_inT, nI_ltI, nI_leI, nI_eqI, pk_sub, true_and, and_true]
              refine ⟨fun q37 => hK _ _ _ _ ?_, fun q37 => hK _ _ _ _ ?_⟩
              · -- 50 taken
                refine rz_blk' [(.iconst 0, 1, 0, 0), (.istore_n 1, 1, 0, 0)] (by decide +kernel) (Nat.le_refl _) (Nat.le_refl _) (fun K R hK hR => ?_)
                simp only [rw_c0, ↓rx_iconst, ↓rx_istore_n1, ↓rx_nil, ↓ry_i1, g1, rz_set, rz_nol, rz_clr, List.set_cons_zero, List.set_cons_succ, rz_tr, Nat.reduceAdd, Int.reduceAdd, Int.reduceToNat, Int.reduceSub, Int.reduceNeg, Int.cast_ofNat_Int]
                try simp (disch := omega) only [g1, rb_0, pk_us, pk_un, va_up_self, va_up_ne, nI_add, pk_mul, nI_clamp, vp_inT, nI_ltI, nI_leI, nI_eqI, pk_sub, true_and, and_true]
                refine hK _ _ _ _ ?_
                first
                  | exact hnx A2 _ a2 c2 (by rw [show decide (k < h.length) = true by simpa using q37]; rfl)
                  | exact hnx A2 _ a2 c2 (by rw [show b = true by simpa using q37]; simp; rfl)
                  | exact hnx A2 _ a2 c2 (by rw [show decide (k < h.length) = false by simpa using q36, show b = false by simpa using q37]; rfl)
              · -- 50 not taken
                refine rz_blk' [(.iconst 1, 1, 0, 0), (.goto 4, 3, 0, 0)] (by decide +kernel) (Nat.le_refl _) (Nat.le_refl _) (fun K R hK hR => ?_)
                simp only [rw_c1, ↓rx_goto, ↓rx_iconst, ↓rx_nil, g1, rz_set, rz_nol, rz_clr, List.set_cons_zero, List.set_cons_succ, rz_tr, Nat.reduceAdd, Int.reduceAdd, Int.reduceToNat, Int.reduceSub, Int.reduceNeg, Int.cast_ofNat_Int]
                try simp (disch := omega) only [g1, rb_0, pk_us, pk_un, va_up_self, va_up_ne, nI_add, pk_mul, nI_clamp, vp_inT, nI_ltI, nI_leI, nI_eqI, pk_sub, true_and, and_true]
                refine hK _ _ _ _ ?_
                refine rz_blk' [(.istore_n 1, 1, 0, 0)] (by decide +kernel) (Nat.le_refl _) (Nat.le_refl _) (fun K R hK hR => ?_)
                simp only [↓rx_istore_n1, ↓rx_nil, ↓ry_i1, g1, rz_set, rz_nol, rz_clr, List.set_cons_zero, List.set_cons_succ, rz_tr, Nat.reduceAdd, Int.reduceAdd, Int.reduceToNat, Int.reduceSub, Int.reduceNeg, Int.cast_ofNat_Int]
                try simp (disch := omega) only [g1, rb_0, pk_us, pk_un, va_up_self, va_up_ne, nI_add, pk_mul, nI_clamp, vp_inT, nI_ltI, nI_leI, nI_eqI, pk_sub, true_and, and_true]
                refine hK _ _ _ _ ?_
                first
                  | exact hnx A2 _ a2 c2 (by rw [show decide (k < h.length) = true by simpa using q37]; rfl)
                  | exact hnx A2 _ a2 c2 (by rw [show b = true by simpa using q37]; simp; rfl)
                  | exact hnx A2 _ a2 c2 (by rw [show decide (k < h.length) = false by simpa using q36, show b = false by simpa using q37]; rfl)
      refine rz_blk' [(.iconst 0, 1, 0, 0), (.istore_n 1, 1, 0, 0)] (by decide +kernel) (Nat.le_refl _) (Nat.le_refl _) (fun K R hK hR => ?_)
      simp only [rw_c0, ↓rx_iconst, ↓rx_istore_n1, ↓rx_nil, ↓ry_i1, rz_set, rz_nol, rz_clr, List.set_cons_zero, List.set_cons_succ, rz_tr, Nat.reduceAdd, Int.reduceAdd, Int.reduceToNat, Int.reduceSub, Int.reduceNeg, Int.cast_ofNat_Int]
      try simp (disch := omega) only [pk_us, pk_un, va_up_self, va_up_ne, nI_add, pk_mul, nI_clamp, vp_inT, nI_ltI, nI_leI, nI_eqI, pk_sub, true_and, and_true]
      refine hK _ _ _ _ ?_
      refine rz_blk' [(.iconst 0, 1, 0, 0), (.istore_n 2, 1, 0, 0)] (by decide +kernel) (Nat.le_refl _) (Nat.le_refl _) (fun K R hK hR => ?_)
      simp only [rw_c0, ↓rx_iconst, ↓rx_istore_n2, ↓rx_nil, ↓ry_i1, rz_set, rz_nol, rz_clr, List.set_cons_zero, List.set_cons_succ, rz_tr, Nat.reduceAdd, Int.reduceAdd, Int.reduceToNat, Int.reduceSub, Int.reduceNeg, Int.cast_ofNat_Int]
      try simp (disch := omega) only [pk_us, pk_un, va_up_self, va_up_ne, nI_add, pk_mul, nI_clamp, vp_inT, nI_ltI, nI_leI, nI_eqI, pk_sub, true_and, and_true]
      refine hK _ _ _ _ ?_
      exact sl 6 0 A0 C0 false _ _ _ rfl a0 c0 j0 (fun q => by cases q) (fun _ => ⟨fun _ _ => rfl, fun s h f hs => absurd hs (Nat.not_lt_zero _), fun i _ h g hi => absurd hi (Nat.not_lt_zero _)⟩)
  have hso := c_Mod_someOutputs (w := w) (d := d) (G := G) (a := a) (I := I) t w1
  refine rz_enter' [some (.ref a), none, none, none, none, none] (by decide +kernel) rfl rfl (Nat.le_of_ble_eq_true rfl) rfl ?_
  refine rz_blk' [(.aload_n 0, 1, 0, 0)] (by decide +kernel) (Nat.le_refl _) (Nat.le_refl _) (fun K R hK hR => ?_)
  simp only [↓rx_aload_n0, ↓rx_nil, ↓ry_lr0s, ↓ry_lr0z, rz_set, rz_nol, rz_clr, List.set_cons_zero, List.set_cons_succ, rz_tr, Nat.reduceAdd, Int.reduceAdd, Int.reduceToNat, Int.reduceSub, Int.reduceNeg, Int.cast_ofNat_Int]
  try simp (disch := omega) only [pk_us, pk_un, va_up_self, va_up_ne, nI_add, pk_mul, nI_clamp, vp_inT, nI_ltI, nI_leI, nI_eqI, pk_sub, true_and, and_true]
  refine hK _ _ _ _ ?_
  refine rz_cV (As := []) (b := a) (S := []) l_Mod_366 (by decide +kernel) rfl re_at0 rfl (Nat.le_of_ble_eq_true rfl) (Nat.le_refl _) (Nat.le_refl _) (hso) (fun r G' hr => ?_)
  obtain ⟨rfl, A1, C, rfl, a1, c1, x1, x2⟩ := hr
  simp only [Option.toList, List.nil_append]
  refine rz_blk' [(.iconst 1, 1, 0, 0), (.istore_n 1, 1, 0, 0)] (by decide +kernel) (Nat.le_refl _) (Nat.le_refl _) (fun K R hK hR => ?_)
  simp only [rw_c1, ↓rx_iconst, ↓rx_istore_n1, ↓rx_nil, ↓ry_i1, rz_set, rz_nol, rz_clr, List.set_cons_zero, List.set_cons_succ, rz_tr, Nat.reduceAdd, Int.reduceAdd, Int.reduceToNat, Int.reduceSub, Int.reduceNeg, Int.cast_ofNat_Int]
  try simp (disch := omega) only [pk_us, pk_un, va_up_self, va_up_ne, nI_add, pk_mul, nI_clamp, vp_inT, nI_ltI, nI_leI, nI_eqI, pk_sub, true_and, and_true]
  refine hK _ _ _ _ ?_
  refine rz_blk' [(.iload_n 1, 1, 0, 0), (.ifCond .eq 119, 3, 0, 0)] (by decide +kernel) (Nat.le_refl _) (Nat.le_refl _) (fun K R hK hR => ?_)
  simp only [↓rx_ifCond_eq, ↓rx_iload_n1, ↓rx_nil, ↓ry_i1, ↓ry_li0s, ↓ry_li0z, rz_set, rz_nol, rz_clr, List.set_cons_zero, List.set_cons_succ, rz_tr, Nat.reduceAdd, Int.reduceAdd, Int.reduceToNat, Int.reduceSub, Int.reduceNeg, Int.cast_ofNat_Int]
  try simp (disch := omega) only [pk_us, pk_un, va_up_self, va_up_ne, nI_add, pk_mul, nI_clamp, vp_inT, nI_ltI, nI_leI, nI_eqI, pk_sub, true_and, and_true]
  refine ⟨fun q38 => absurd q38 (by decide), fun q38 => hK _ _ _ _ ?_⟩
  refine wl (cm_t C + 1) A1 C _ _ _ _ (Nat.lt_succ_self _) a1 c1 ⟨fun s hs => ⟨fun hn hx => ?_, fun hn => ?_⟩, fun s h hs hc h' hp => hp h (x1 s h hs hc)⟩
  · obtain ⟨o, ho⟩ := hx
    exact x2 s o hs ho hn
  · cases c : C s with
    | none => rfl
    | some o => exact absurd ⟨o, x1 s o hs c⟩ hn
