/-! mathematics: domains -/
theorem bit_or_pow {n k q : Nat} : (n ||| 2 ^ k).testBit q = (n.testBit q || decide (k = q)) := by rw [Nat.testBit_or, Nat.testBit_two_pow]
theorem xt_bit {T : mv_T} {l s q : Nat} : (xt T l s).testBit q = true ↔ ∃ e ∈ T.2.1, s.testBit e.1 = true ∧ e.2.1 = l ∧ e.2.2.1 = q := by
  have key : ∀ (es : List xe_T) (n : Nat), (es.foldl (xt_1 l s) n).testBit q = true ↔ n.testBit q = true ∨ ∃ e ∈ es, s.testBit e.1 = true ∧ e.2.1 = l ∧ e.2.2.1 = q := by
    intro es
    induction es with
    | nil => intro n; simp
    | cons e es ih =>
      intro n
      rw [List.foldl_cons, ih]
      unfold xt_1
      constructor
      · rintro (h | ⟨e', h1, h2⟩)
        · split at h
          · next c =>
            rw [bit_or_pow, Bool.or_eq_true, decide_eq_true_eq] at h
            rcases h with h | h
            · exact Or.inl h
            · exact Or.inr ⟨e, List.mem_cons_self, c.1, c.2, h⟩
          · exact Or.inl h
        · exact Or.inr ⟨e', List.mem_cons_of_mem _ h1, h2⟩
      · rintro (h | ⟨e', h1, h2, h3, h4⟩)
        · left
          split
          · rw [bit_or_pow, h]; rfl
          · exact h
        · rcases List.mem_cons.mp h1 with q1 | q1
          · subst q1
            left
            rw [if_pos ⟨h2, h3⟩, bit_or_pow, h4]; simp
          · exact Or.inr ⟨e', q1, h2, h3, h4⟩
  have := key T.2.1 0
  rw [Nat.zero_testBit] at this
  unfold xt
  rw [this]
  simp
theorem af_xt {m : mv_T} (h : wf m) {s l : Nat} (hl : l < 3) : mv_af m (al m) s l = xt (tk m) l s := by
  apply Nat.eq_of_testBit_eq
  intro q
  rw [Bool.eq_iff_iff, xt_bit]
  have h1 : ∀ (es : List Nat) (r : Nat), (mv_a1 m es r).testBit q = true ↔ r.testBit q = true ∨ ∃ e ∈ es, (mv_e m e).2.2.1 = q := by
    intro es
    induction es with
    | nil => intro r; simp [mv_a1]
    | cons e es ih =>
      intro r
      have e1 : mv_a1 m (e :: es) r = mv_a1 m es (r ||| 2 ^ (mv_e m e).2.2.1) := rfl
      rw [e1, ih, bit_or_pow, Bool.or_eq_true, decide_eq_true_eq]
      simp only [List.mem_cons, exists_eq_or_imp]
      constructor
      · rintro ((a | a) | a)
        · exact Or.inl a
        · exact Or.inr (Or.inl a)
        · exact Or.inr (Or.inr a)
      · rintro (a | a | a)
        · exact Or.inl (Or.inl a)
        · exact Or.inl (Or.inr a)
        · exact Or.inr a
  have h2 : ∀ k, (mv_ak m (al m) s l k).testBit q = true ↔ ∃ p, p < k ∧ s.testBit p = true ∧ ∃ e ∈ mv_pl m (al m) (p * 3 + l), (mv_e m e).2.2.1 = q := by
    intro k
    induction k with
    | zero => simp [mv_ak]
    | succ k ih =>
      simp only [mv_ak]
      split
      · next c =>
        rw [h1, ih]
        constructor
        · rintro (⟨p, a1, a2⟩ | a)
          · exact ⟨p, by omega, a2⟩
          · exact ⟨k, by omega, c, a⟩
        · rintro ⟨p, a1, a2, a3⟩
          by_cases cp : p = k
          · subst cp; exact Or.inr a3
          · exact Or.inl ⟨p, by omega, a2, a3⟩
      · next c =>
        rw [ih]
        constructor
        · rintro ⟨p, a1, a2⟩; exact ⟨p, by omega, a2⟩
        · rintro ⟨p, a1, a2, a3⟩
          by_cases cp : p = k
          · subst cp; exact absurd a2 c
          · exact ⟨p, by omega, a2, a3⟩
  unfold mv_af
  rw [h2]
  constructor
  · rintro ⟨p, -, a2, e, he, a3⟩
    obtain ⟨e', he', b1, b2, b3, b4⟩ := (pl_mem h hl).mp ⟨e, he, rfl, rfl⟩
    exact ⟨e', he', by rw [b1]; exact a2, b2, b3.trans a3⟩
  · rintro ⟨e', he', a2, a3, a4⟩
    obtain ⟨e, he, c1, c2⟩ := (pl_mem h hl).mpr ⟨e', he', rfl, a3, rfl, rfl⟩
    have hb := h.2.2.2.1 e' (List.mem_filter.mp he').1
    exact ⟨e'.1, hb.1, a2, e, he, c1.trans a4⟩
theorem acc_xe {m : mv_T} (h : wf m) {s : Nat} : dm_acc (mk_cl m) (al m) s = xe (tk m) s := by
  rw [Bool.eq_iff_iff]
  unfold dm_acc xe
  rw [Bool.not_eq_true', decide_eq_false_iff_not, List.any_eq_true]
  have hb : ∀ q, (s &&& mk_cl m &&& al m).testBit q = (s.testBit q && (decide (q < 6) && ((al m).testBit q && (m.2.2.1 q).isSome))) := fun q => by
    rw [Nat.and_assoc, Nat.testBit_and, cl_al h]
  have hf : ∀ q, ((tk m).2.2.1 q).isSome = ((al m).testBit q && (m.2.2.1 q).isSome) := fun q => by
    show (if (al m).testBit q then m.2.2.1 q else none).isSome = _
    cases (al m).testBit q <;> simp
  constructor
  · intro hne
    have : ∃ q, (s &&& mk_cl m &&& al m).testBit q = true := by
      refine Classical.byContradiction fun hno => hne ?_
      apply Nat.eq_of_testBit_eq
      intro q
      rw [Nat.zero_testBit]
      cases c : (s &&& mk_cl m &&& al m).testBit q with
      | false => rfl
      | true => exact absurd ⟨q, c⟩ hno
    obtain ⟨q, hq⟩ := this
    rw [hb, Bool.and_eq_true, Bool.and_eq_true, decide_eq_true_eq] at hq
    exact ⟨q, by simp; exact hq.2.1, by rw [hf, hq.1, hq.2.2]; rfl⟩
  · rintro ⟨q, hq, hx⟩ e
    rw [hf, Bool.and_eq_true] at hx
    have := hb q
    rw [e, Nat.zero_testBit, hx.1, hx.2, decide_eq_true (by simpa using hq)] at this
    cases this
theorem xa_skip {T1 T2 : mv_T} {a b k l c1 c2 : Nat} {L : List (Nat × Nat)} {W : List (List Nat)} {u : List Nat} (h : xa_i T1 T2 a b L W k l) (hx : L[k]? = some (c1, c2)) (hu : W[k]? = some u) (hin : (xt T1 l c1, xt T2 l c2) ∈ L) : xa_i T1 T2 a b L W k (l + 1) := by
  obtain ⟨y1, y2, y3, y4, y5, y6, y7, y8⟩ := h
  refine ⟨y1, y2, y3, y4, y5, fun v hv v' hv' => by have := y6 v hv v' hv'; omega, y7, fun x v hx' hv m hm => ?_⟩
  by_cases c : m = l
  · subst c
    rw [hx] at hx'
    cases hx'
    obtain ⟨i, hi⟩ := List.mem_iff_getElem?.mp hin
    have hil := (List.getElem?_eq_some_iff.mp hi).1
    obtain ⟨t, ht⟩ : ∃ t, W[i]? = some t := ⟨_, List.getElem?_eq_getElem (by omega)⟩
    refine ⟨i, t, hi, ht, ?_⟩
    have := y6 t (List.mem_of_getElem? ht) v hv
    rw [vl_app]; omega
  · exact y8 x v hx' hv m (by omega)
theorem xa_add {T1 T2 : mv_T} {a b k l c1 c2 : Nat} {L : List (Nat × Nat)} {W : List (List Nat)} {u : List Nat} (h : xa_i T1 T2 a b L W k l) (hl : l < 3) (hx : L[k]? = some (c1, c2)) (hu : W[k]? = some u) (hin : (xt T1 l c1, xt T2 l c2) ∉ L) : xa_i T1 T2 a b (L ++ [(xt T1 l c1, xt T2 l c2)]) (W ++ [u ++ [l]]) k (l + 1) := by
  obtain ⟨y1, y2, y3, y4, y5, y6, y7, y8⟩ := h
  have hkl := (List.getElem?_eq_some_iff.mp hx).1
  have hck := y3 k _ u hx hu
  generalize hx1 : xt T1 l c1 = x1 at *
  generalize hx2 : xt T2 l c2 = x2 at *
  have hnd2 : (L ++ [(x1, x2)]).Nodup := by
    rw [List.nodup_append]
    refine ⟨y1, by simp, fun p hp q hq => ?_⟩
    simp at hq
    subst hq
    rintro rfl
    exact hin hp
  have hWk : (W ++ [u ++ [l]])[W.length]? = some (u ++ [l]) := by rw [List.getElem?_append_right (Nat.le_refl _)]; simp
  have hLk : (L ++ [(x1, x2)])[L.length]? = some (x1, x2) := by rw [List.getElem?_append_right (Nat.le_refl _)]; simp
  have gL : ∀ {i : Nat} {x}, L[i]? = some x → (L ++ [(x1, x2)])[i]? = some x := fun {i x} q => by rw [List.getElem?_append_left (List.getElem?_eq_some_iff.mp q).1]; exact q
  have gW : ∀ {i : Nat} {x}, W[i]? = some x → (W ++ [u ++ [l]])[i]? = some x := fun {i x} q => by rw [List.getElem?_append_left (List.getElem?_eq_some_iff.mp q).1]; exact q
  have bW : ∀ {i : Nat} {x}, (W ++ [u ++ [l]])[i]? = some x → W[i]? = some x ∨ (i = W.length ∧ x = u ++ [l]) := fun {i x} q => by
    by_cases c : i < W.length
    · rw [List.getElem?_append_left c] at q; exact Or.inl q
    · have hil := (List.getElem?_eq_some_iff.mp q).1
      simp only [List.length_append, List.length_cons, List.length_nil, Nat.zero_add] at hil
      have e : i = W.length := by omega
      subst e
      rw [hWk] at q; cases q; exact Or.inr ⟨rfl, rfl⟩
  refine ⟨hnd2, by rw [List.length_append, List.length_append, y2]; rfl, fun i x v hx' hv => ?_, gW y4, fun i j v v' hij hv hv' => ?_, fun v hv v' hv' => ?_, fun i x v hi hx' hv => ?_, fun x v hx' hv m hm => ?_⟩
  · rcases bW hv with q | ⟨q1, q2⟩
    · have hil := (List.getElem?_eq_some_iff.mp q).1
      rw [List.getElem?_append_left (by omega)] at hx'
      exact y3 i x v hx' q
    · subst q1; subst q2
      rw [← y2, hLk] at hx'
      cases hx'
      rw [xr_app, xr_app]
      have e := hck.1
      have e1 : c1 = xr T1 a u := congrArg Prod.fst e
      have e2 : c2 = xr T2 b u := congrArg Prod.snd e
      rw [← e1, ← e2, hx1, hx2]
      refine ⟨rfl, fun y hy => ?_⟩
      rcases List.mem_append.mp hy with q | q
      · exact hck.2 y q
      · simp at q; omega
  · rcases bW hv with q | ⟨q1, q2⟩
    · rcases bW hv' with q' | ⟨q1', q2'⟩
      · exact y5 i j v v' hij q q'
      · subst q2'
        have := y6 v (List.mem_of_getElem? q) u hu
        rw [vl_app]; omega
    · have := (List.getElem?_eq_some_iff.mp hv').1
      simp at this; omega
  · rw [gW hu] at hv'
    cases hv'
    rcases List.mem_append.mp hv with q | q
    · have := y6 v q u hu; omega
    · simp at q; subst q; rw [vl_app]; omega
  · rw [List.getElem?_append_left (by omega)] at hx' hv
    obtain ⟨z1, z2⟩ := y7 i x v hi hx' hv
    refine ⟨z1, fun m hm => ?_⟩
    obtain ⟨j, v', z3, z4, z5⟩ := z2 m hm
    exact ⟨j, v', gL z3, gW z4, z5⟩
  · rw [List.getElem?_append_left (by omega)] at hx' hv
    by_cases c : m = l
    · subst c
      rw [hx] at hx'
      cases hx'
      rw [hu] at hv
      cases hv
      exact ⟨L.length, u ++ [m], by rw [hx1, hx2]; exact hLk, by rw [y2]; exact hWk, Nat.le_refl _⟩
    · obtain ⟨j, v', z3, z4, z5⟩ := y8 x v hx' hv m (by omega)
      exact ⟨j, v', gL z3, gW z4, z5⟩
theorem xa_next {T1 T2 : mv_T} {a b k c1 c2 : Nat} {L : List (Nat × Nat)} {W : List (List Nat)} {u : List Nat} (h : xa_i T1 T2 a b L W k 3) (hx : L[k]? = some (c1, c2)) (hu : W[k]? = some u) (he : xe T1 c1 = xe T2 c2) : xa_i T1 T2 a b L W (k + 1) 0 := by
  obtain ⟨x1, x2, x3, x4, x5, x6, x7, x8⟩ := h
  refine ⟨x1, x2, x3, x4, x5, fun v hv v' hv' => ?_, fun i x v hi hx' hv => ?_, fun x v hx hv m hm => absurd hm (Nat.not_lt_zero _)⟩
  · have := x6 v hv u hu
    have := x5 k (k + 1) u v' (by omega) hu hv'
    omega
  · by_cases c : i = k
    · subst c
      rw [hx] at hx'
      cases hx'
      exact ⟨he, x8 _ v hx hv⟩
    · exact x7 i x v (by omega) hx' hv
theorem xa_end {T1 T2 : mv_T} {a b : Nat} {L : List (Nat × Nat)} {W : List (List Nat)} (h : xa_i T1 T2 a b L W L.length 0) : ∀ v : List Nat, (∀ x ∈ v, x < 3) → xe T1 (xr T1 a v) = xe T2 (xr T2 b v) := by
  obtain ⟨x1, x2, x3, x4, x5, x6, x7, x8⟩ := h
  intro v hv
  have key : ∀ (v : List Nat) (i : Nat) (x : Nat × Nat), (∀ y ∈ v, y < 3) → L[i]? = some x → xe T1 (xr T1 x.1 v) = xe T2 (xr T2 x.2 v) := by
    intro v
    induction v with
    | nil =>
      intro i x _ hx
      have hil := (List.getElem?_eq_some_iff.mp hx).1
      exact (x7 i x _ (by omega) hx (List.getElem?_eq_getElem (by omega))).1
    | cons m v ihv =>
      intro i x hv hx
      have hil := (List.getElem?_eq_some_iff.mp hx).1
      obtain ⟨j, v', h1, h2, h3⟩ := (x7 i x _ (by omega) hx (List.getElem?_eq_getElem (by omega))).2 m (hv m List.mem_cons_self)
      exact ihv j _ (fun y hy => hv y (List.mem_cons_of_mem _ hy)) h1
  obtain ⟨x0, hx0⟩ : ∃ x, L[0]? = some x := ⟨_, List.getElem?_eq_getElem (by have := (List.getElem?_eq_some_iff.mp x4).1; omega)⟩
  have e0 := (x3 0 x0 [] hx0 x4).1
  have := key v 0 x0 hv hx0
  rw [e0] at this
  exact this
theorem xa_found {T1 T2 : mv_T} {a b k l c1 c2 : Nat} {L : List (Nat × Nat)} {W : List (List Nat)} {u : List Nat} (h : xa_i T1 T2 a b L W k l) (hl : l < 3) (hx : L[k]? = some (c1, c2)) (hu : W[k]? = some u) (heq : ∀ x ∈ L, xe T1 x.1 = xe T2 x.2) (hne : xe T1 (xt T1 l c1) ≠ xe T2 (xt T2 l c2)) : xl_is T1 T2 a b true (u ++ [l]) := by
  obtain ⟨x1, x2, x3, x4, x5, x6, x7, x8⟩ := h
  have hck := (x3 k _ u hx hu).1
  have e1 : c1 = xr T1 a u := congrArg Prod.fst hck
  have e2 : c2 = xr T2 b u := congrArg Prod.snd hck
  refine Or.inr ⟨rfl, by rw [xr_app, xr_app, ← e1, ← e2]; exact hne, fun v hv hd => ?_⟩
  have key : ∀ (v : List Nat) (i : Nat) (x : Nat × Nat) (t : List Nat), (∀ y ∈ v, y < 3) → L[i]? = some x → W[i]? = some t → xe T1 (xr T1 x.1 v) ≠ xe T2 (xr T2 x.2 v) → vl (u ++ [l]) ≤ vl (t ++ v) := by
    intro v
    induction v with
    | nil =>
      intro i x t _ hx' ht hd
      exact absurd (heq x (List.mem_of_getElem? hx')) hd
    | cons m v ihv =>
      intro i x t hv hx' ht hd
      have hgo : ∀ (j : Nat) (v' : List Nat), L[j]? = some (xt T1 m x.1, xt T2 m x.2) → W[j]? = some v' → vl v' ≤ vl (t ++ [m]) → vl (u ++ [l]) ≤ vl (t ++ m :: v) := by
        intro j v' h1 h2 h3
        have := ihv j _ v' (fun y hy => hv y (List.mem_cons_of_mem _ hy)) h1 h2 hd
        refine Nat.le_trans this ?_
        rw [List.append_cons t]
        exact vl_mono v h3
      have hbig : vl (u ++ [l]) ≤ vl (t ++ [m]) → vl (u ++ [l]) ≤ vl (t ++ m :: v) := fun q => by
        rw [List.append_cons t]
        exact Nat.le_trans q (vl_ext _ _)
      by_cases c : i < k
      · obtain ⟨j, v', h1, h2, h3⟩ := (x7 i x t c hx' ht).2 m (hv m List.mem_cons_self)
        exact hgo j v' h1 h2 h3
      · by_cases c2 : i = k
        · subst c2
          rw [hu] at ht
          cases ht
          by_cases cm : m < l
          · obtain ⟨j, v', h1, h2, h3⟩ := x8 x u hx' hu m cm
            exact hgo j v' h1 h2 h3
          · refine hbig ?_
            rw [vl_app, vl_app]; omega
        · refine hbig ?_
          have := x5 k i u t (by omega) hu ht
          rw [vl_app, vl_app]; omega
  obtain ⟨x0, hx0⟩ : ∃ x, L[0]? = some x := ⟨_, List.getElem?_eq_getElem (by have := (List.getElem?_eq_some_iff.mp x4).1; omega)⟩
  have e0 := (x3 0 x0 [] hx0 x4).1
  have := key v 0 x0 [] hv hx0 x4 (by rw [e0]; exact hd)
  exact this
/-- the class's nodes, with their words -/
def dm_k (D : List dm_nd) (W : List (List Nat)) : Prop := D.length = W.length ∧ W[0]? = some [] ∧ ∀ (i : Nat) (n : dm_nd), D[i]? = some n → 0 < i → n.2.2.1 < i ∧ ∃ u, W[n.2.2.1]? = some u ∧ W[i]? = some (u ++ [n.2.2.2])
def dm_L (D : List dm_nd) : List (Nat × Nat) := D.map (fun n => (n.1, n.2.1))
theorem dm_in_mem {D : List dm_nd} {s t : Nat} : dm_in D s t = true ↔ (s, t) ∈ dm_L D := by
  unfold dm_in dm_L
  rw [List.any_eq_true]
  simp only [Bool.and_eq_true, decide_eq_true_eq, List.mem_map, Prod.mk.injEq]
theorem dm_k_W {D : List dm_nd} {W : List (List Nat)} (h : dm_k D W) : ∀ (k i : Nat) (w : List Nat), dm_Wk D k i w → W[i]? = some w
  | 0, i, w, hw => by obtain ⟨rfl, rfl⟩ := hw; exact h.2.1
  | k + 1, i, w, hw => by
    rcases hw with ⟨rfl, rfl⟩ | ⟨hi, n, W', h1, rfl, h3⟩
    · exact h.2.1
    · obtain ⟨-, u, h4, h5⟩ := h.2.2 i n h1 hi
      have := dm_k_W h k _ _ h3
      rw [h4] at this
      cases this
      exact h5
/-- where the class's search stands -/
def dm_i (T1 T2 : mv_T) (a b : Nat) (S : dm_sT) (k l : Nat) : Prop := ∃ W, dm_k S.1 W ∧ (∀ x ∈ dm_L S.1, x.1 < 64 ∧ x.2 < 64) ∧ ((S.2 = none ∧ xa_i T1 T2 a b (dm_L S.1) W k l ∧ ∀ x ∈ dm_L S.1, xe T1 x.1 = xe T2 x.2) ∨ ∃ g u, S.2 = some g ∧ W[g]? = some u ∧ (∀ y ∈ u, y < 3) ∧ xl_is T1 T2 a b true u)
theorem dm_stp_i {m1 m2 : mv_T} (w1 : wf m1) (w2 : wf m2) {a b k l : Nat} {S : dm_sT} (hl : l < 3) (hk : k < S.1.length) (h : dm_i (tk m1) (tk m2) a b S k l) (hn : S.2 = none) : dm_i (tk m1) (tk m2) a b (dm_stp m1 m2 (mk_cl m1) (mk_cl m2) k l S) k (l + 1) ∧ S.1.length ≤ (dm_stp m1 m2 (mk_cl m1) (mk_cl m2) k l S).1.length := by
  obtain ⟨W, hW, h64, hc⟩ := h
  rcases hc with ⟨-, hx, heq⟩ | ⟨g, u, q, -⟩
  rotate_left
  · rw [hn] at q; cases q
  obtain ⟨n, hnk⟩ : ∃ n, S.1[k]? = some n := ⟨_, List.getElem?_eq_getElem hk⟩
  have hgn : dm_gn S.1 k = n := by unfold dm_gn; rw [List.getD_eq_getElem?_getD, hnk]; rfl
  have hLk : (dm_L S.1)[k]? = some (n.1, n.2.1) := by unfold dm_L; rw [List.getElem?_map, hnk]; rfl
  obtain ⟨u, hu⟩ : ∃ u, W[k]? = some u := ⟨_, List.getElem?_eq_getElem (by have := hW.1; omega)⟩
  have hu3 := (hx.2.2.1 k _ u hLk hu).2
  unfold dm_stp
  rw [hgn]
  have e1 : mv_af m1 (mv_al m1 (mk_cl m1)) n.1 l = xt (tk m1) l n.1 := af_xt w1 hl
  have e2 : mv_af m2 (mv_al m2 (mk_cl m2)) n.2.1 l = xt (tk m2) l n.2.1 := af_xt w2 hl
  rw [e1, e2]
  have g1 : xt (tk m1) l n.1 < 64 := xt_64 (tk_tw w1)
  have g2 : xt (tk m2) l n.2.1 < 64 := xt_64 (tk_tw w2)
  unfold dm_v
  cases hin : dm_in S.1 (xt (tk m1) l n.1) (xt (tk m2) l n.2.1) with
  | true =>
    have hnw : dm_nw S.1 (xt (tk m1) l n.1) (xt (tk m2) l n.2.1) = false := by unfold dm_nw; rw [hin]; rfl
    simp only [hnw, Bool.false_eq_true, if_false]
    exact ⟨⟨W, hW, h64, Or.inl ⟨hn, xa_skip hx hLk hu (dm_in_mem.mp hin), heq⟩⟩, Nat.le_refl _⟩
  | false =>
    have hnin : (xt (tk m1) l n.1, xt (tk m2) l n.2.1) ∉ dm_L S.1 := fun q => by rw [dm_in_mem.mpr q] at hin; cases hin
    have hadd := xa_add hx hl hLk hu hnin
    have hlen := xa_len hadd.1 (fun x hx => by
      rcases List.mem_append.mp hx with q | q
      · exact h64 x q
      · simp at q; subst q; exact ⟨g1, g2⟩)
    have hlen2 : S.1.length < 4096 := by
      rw [List.length_append] at hlen
      unfold dm_L at hlen
      rw [List.length_map] at hlen
      simp at hlen; omega
    have hnw : dm_nw S.1 (xt (tk m1) l n.1) (xt (tk m2) l n.2.1) = true := by unfold dm_nw; rw [hin, decide_eq_true hlen2]; rfl
    simp only [hnw, if_true]
    have hL2 : dm_L (S.1 ++ [(xt (tk m1) l n.1, xt (tk m2) l n.2.1, k, l)]) = dm_L S.1 ++ [(xt (tk m1) l n.1, xt (tk m2) l n.2.1)] := by unfold dm_L; rw [List.map_append]; rfl
    have hk2 : dm_k (S.1 ++ [(xt (tk m1) l n.1, xt (tk m2) l n.2.1, k, l)]) (W ++ [u ++ [l]]) := by
      obtain ⟨a1, a2, a3⟩ := hW
      refine ⟨by rw [List.length_append, List.length_append, a1]; rfl, by rw [List.getElem?_append_left (by omega)]; exact a2, fun i x hxi hi => ?_⟩
      by_cases c : i < S.1.length
      · rw [List.getElem?_append_left c] at hxi
        obtain ⟨b1, t, b2, b3⟩ := a3 i x hxi hi
        exact ⟨b1, t, by rw [List.getElem?_append_left (by omega)]; exact b2, by rw [List.getElem?_append_left (by omega)]; exact b3⟩
      · have hil := (List.getElem?_eq_some_iff.mp hxi).1
        simp only [List.length_append, List.length_cons, List.length_nil, Nat.zero_add] at hil
        have e : i = S.1.length := by omega
        subst e
        rw [List.getElem?_append_right (Nat.le_refl _)] at hxi
        simp at hxi
        subst hxi
        exact ⟨hk, u, (by show (W ++ [u ++ [l]])[k]? = some u; rw [List.getElem?_append_left (show k < W.length by omega)]; exact hu), by rw [a1, List.getElem?_append_right (Nat.le_refl _)]; simp⟩
    have h642 : ∀ x ∈ dm_L S.1 ++ [(xt (tk m1) l n.1, xt (tk m2) l n.2.1)], x.1 < 64 ∧ x.2 < 64 := fun x hx => by
      rcases List.mem_append.mp hx with q | q
      · exact h64 x q
      · simp at q; subst q; exact ⟨g1, g2⟩
    have hdf : dm_df m1 m2 (mk_cl m1) (mk_cl m2) (xt (tk m1) l n.1) (xt (tk m2) l n.2.1) = (xe (tk m1) (xt (tk m1) l n.1) != xe (tk m2) (xt (tk m2) l n.2.1)) := by
      unfold dm_df
      rw [acc_xe w1, acc_xe w2]
    refine ⟨?_, by rw [List.length_append]; omega⟩
    rw [hdf]
    refine ⟨W ++ [u ++ [l]], hk2, by rw [hL2]; exact h642, ?_⟩
    by_cases ce : xe (tk m1) (xt (tk m1) l n.1) = xe (tk m2) (xt (tk m2) l n.2.1)
    · left
      have e0 : (xe (tk m1) (xt (tk m1) l n.1) != xe (tk m2) (xt (tk m2) l n.2.1)) = false := by rw [ce]; simp
      rw [e0]
      simp only [Bool.false_eq_true, if_false]
      rw [hL2]
      refine ⟨hn, hadd, fun x hx' => ?_⟩
      rcases List.mem_append.mp hx' with q | q
      · exact heq x q
      · simp at q; subst q; exact ce
    · right
      have e0 : (xe (tk m1) (xt (tk m1) l n.1) != xe (tk m2) (xt (tk m2) l n.2.1)) = true := by simpa using ce
      rw [e0]
      simp only [if_true]
      refine ⟨S.1.length, u ++ [l], rfl, by rw [hW.1, List.getElem?_append_right (Nat.le_refl _)]; simp, fun y hy => ?_, xa_found hx hl hLk hu heq ce⟩
      rcases List.mem_append.mp hy with q | q
      · exact hu3 y q
      · simp at q; omega
theorem dm_i_mono {T1 T2 : mv_T} {a b k l k' l' : Nat} {S : dm_sT} (h : dm_i T1 T2 a b S k l) (hs : S.2 ≠ none) : dm_i T1 T2 a b S k' l' := by
  obtain ⟨W, hW, h64, hc⟩ := h
  rcases hc with ⟨q, -⟩ | q
  · exact absurd q hs
  · exact ⟨W, hW, h64, Or.inr q⟩
theorem dm_ll_i {m1 m2 : mv_T} (w1 : wf m1) (w2 : wf m2) {a b k : Nat} : ∀ (j l : Nat) (S : dm_sT), l + j = 3 → k < S.1.length → dm_i (tk m1) (tk m2) a b S k l → dm_i (tk m1) (tk m2) a b (dm_ll m1 m2 (mk_cl m1) (mk_cl m2) k j l S) k 3 ∧ S.1.length ≤ (dm_ll m1 m2 (mk_cl m1) (mk_cl m2) k j l S).1.length
  | 0, l, S, hj, hk, h => by
    have e : l = 3 := by omega
    subst e
    exact ⟨h, Nat.le_refl _⟩
  | j + 1, l, S, hj, hk, h => by
    simp only [dm_ll]
    by_cases c : S.2 = none
    · rw [if_pos c]
      obtain ⟨h1, h2⟩ := dm_stp_i w1 w2 (by omega) hk h c
      obtain ⟨h3, h4⟩ := dm_ll_i w1 w2 j (l + 1) _ (by omega) (by omega) h1
      exact ⟨h3, by omega⟩
    · rw [if_neg c]
      exact ⟨dm_i_mono h c, Nat.le_refl _⟩
theorem dm_lo_i {m1 m2 : mv_T} (w1 : wf m1) (w2 : wf m2) {a b : Nat} : ∀ (j k : Nat) (S : dm_sT), 4097 - k ≤ j → k ≤ S.1.length → dm_i (tk m1) (tk m2) a b S k 0 → ∃ W, dm_k (dm_lo m1 m2 (mk_cl m1) (mk_cl m2) j k S).1 W ∧ (((dm_lo m1 m2 (mk_cl m1) (mk_cl m2) j k S).2 = none ∧ xl_is (tk m1) (tk m2) a b false []) ∨ ∃ g u, (dm_lo m1 m2 (mk_cl m1) (mk_cl m2) j k S).2 = some g ∧ W[g]? = some u ∧ (∀ y ∈ u, y < 3) ∧ xl_is (tk m1) (tk m2) a b true u) := by
  have hfin : ∀ (k : Nat) (S : dm_sT), k ≤ S.1.length → dm_i (tk m1) (tk m2) a b S k 0 → ¬ (S.2 = none ∧ k < S.1.length ∧ k < 4096) → ∃ W, dm_k S.1 W ∧ ((S.2 = none ∧ xl_is (tk m1) (tk m2) a b false []) ∨ ∃ g u, S.2 = some g ∧ W[g]? = some u ∧ (∀ y ∈ u, y < 3) ∧ xl_is (tk m1) (tk m2) a b true u) := by
    intro k S hk h hno
    obtain ⟨W, hW, h64, hc⟩ := h
    refine ⟨W, hW, ?_⟩
    rcases hc with ⟨q, hx, heq⟩ | q
    · left
      refine ⟨q, Or.inl ⟨rfl, ?_⟩⟩
      have hlen := xa_len hx.1 h64
      have hL : (dm_L S.1).length = S.1.length := by unfold dm_L; rw [List.length_map]
      have e : k = (dm_L S.1).length := by
        rw [hL] at hlen ⊢
        refine Nat.le_antisymm hk (Nat.le_of_not_lt fun z => hno ⟨q, z, by omega⟩)
      rw [e] at hx
      exact xa_end hx
    · exact Or.inr q
  intro j
  induction j with
  | zero =>
    intro k S hj hk h
    exact hfin k S hk h (fun q => by omega)
  | succ j ih =>
    intro k S hj hk h
    simp only [dm_lo]
    by_cases c : S.2 = none ∧ k < S.1.length ∧ k < 4096
    · rw [if_pos c]
      obtain ⟨h1, h2⟩ := dm_ll_i w1 w2 3 0 S rfl c.2.1 h
      refine ih (k + 1) _ (by omega) (by omega) ?_
      generalize dm_ll m1 m2 (mk_cl m1) (mk_cl m2) k 3 0 S = S' at *
      obtain ⟨W, hW, h64, hc⟩ := h1
      refine ⟨W, hW, h64, ?_⟩
      rcases hc with ⟨q, hx, heq⟩ | q
      · left
        obtain ⟨x, hxk⟩ : ∃ x, (dm_L S'.1)[k]? = some x := ⟨_, List.getElem?_eq_getElem (by unfold dm_L; rw [List.length_map]; omega)⟩
        obtain ⟨u, hu⟩ : ∃ u, W[k]? = some u := ⟨_, List.getElem?_eq_getElem (by have := hW.1; omega)⟩
        exact ⟨q, xa_next hx hxk hu (heq x (List.mem_of_getElem? hxk)), heq⟩
      · exact Or.inr q
    · rw [if_neg c]
      exact hfin k S hk h c
theorem al_1 {m : mv_T} : mv_al m (mk_cl m) &&& 1 = if (tk m).1.testBit 0 = true then 1 else 0 := by
  have e : (tk m).1 = al m := rfl
  rw [e, Nat.and_one_is_mod]
  have := Nat.testBit_zero (al m)
  rw [this]
  by_cases c : al m % 2 = 1
  · rw [if_pos (by simpa using c)]; exact c
  · rw [if_neg (by simpa using c)]
    show al m % 2 = 0
    omega
/-- what the class's search for other domains finds -/
theorem dm_xl {m1 m2 : mv_T} (w1 : wf m1) (w2 : wf m2) {W0 : List Nat} (h0 : dk_w0 m1 m2 W0) : xl_is (tk m1) (tk m2) (if (tk m1).1.testBit 0 = true then 1 else 0) (if (tk m2).1.testBit 0 = true then 1 else 0) (dk_dm m1 m2).2.isSome W0 ∧ ∀ y ∈ W0, y < 3 := by
  generalize ha : (if (tk m1).1.testBit 0 = true then 1 else 0) = a
  generalize hb : (if (tk m2).1.testBit 0 = true then 1 else 0) = b
  have ha64 : a < 64 := by rw [← ha]; split <;> decide
  have hb64 : b < 64 := by rw [← hb]; split <;> decide
  have hs0 : dm_s0 m1 m2 (mk_cl m1) (mk_cl m2) = ([(a, b, 0, 0)], if dm_df m1 m2 (mk_cl m1) (mk_cl m2) a b then some 0 else none) := by
    unfold dm_s0
    rw [al_1, al_1, ha, hb]
    rfl
  have hi : dm_i (tk m1) (tk m2) a b (dm_s0 m1 m2 (mk_cl m1) (mk_cl m2)) 0 0 := by
    rw [hs0]
    have hdf : dm_df m1 m2 (mk_cl m1) (mk_cl m2) a b = (xe (tk m1) a != xe (tk m2) b) := by unfold dm_df; rw [acc_xe w1, acc_xe w2]
    rw [hdf]
    have hone : ∀ {i : Nat} {α : Type} {x y : α}, [x][i]? = some y → i = 0 ∧ y = x := fun {i α x y} q => by
      have hil := (List.getElem?_eq_some_iff.mp q).1
      have e : i = 0 := by simpa using hil
      subst e
      simp at q
      exact ⟨rfl, q.symm⟩
    refine ⟨[[]], ⟨rfl, rfl, fun i n hn h0 => by have := (hone hn).1; omega⟩, fun x hx => ?_, ?_⟩
    · simp [dm_L] at hx; subst hx; exact ⟨ha64, hb64⟩
    · by_cases c : xe (tk m1) a = xe (tk m2) b
      · left
        have e0 : (xe (tk m1) a != xe (tk m2) b) = false := by rw [c]; simp
        rw [e0]
        refine ⟨rfl, ⟨by simp [dm_L], rfl, fun i x u hx hu => ?_, rfl, fun i j u v hij hu hv => ?_, fun u hu v hv => ?_, fun i x u hi => absurd hi (Nat.not_lt_zero _), fun x u hx hu m hm => absurd hm (Nat.not_lt_zero _)⟩, fun x hx => ?_⟩
        · obtain ⟨rfl, rfl⟩ := hone hx
          obtain ⟨-, rfl⟩ := hone hu
          exact ⟨rfl, by simp⟩
        · have := (hone hv).1; omega
        · obtain ⟨-, rfl⟩ := hone hv
          simp at hu; subst hu; decide
        · simp [dm_L] at hx; subst hx; exact c
      · right
        have e0 : (xe (tk m1) a != xe (tk m2) b) = true := by simpa using c
        rw [e0]
        exact ⟨0, [], rfl, rfl, by simp, Or.inr ⟨rfl, c, fun v _ _ => Nat.zero_le _⟩⟩
  obtain ⟨W, hW, hr⟩ := dm_lo_i w1 w2 4097 0 _ (by omega) (Nat.zero_le _) hi
  have eS : dm_lo m1 m2 (mk_cl m1) (mk_cl m2) 4097 0 (dm_s0 m1 m2 (mk_cl m1) (mk_cl m2)) = dk_dm m1 m2 := rfl
  rw [eS] at hW hr
  unfold dk_w0 at h0
  rcases hr with ⟨q, hx⟩ | ⟨g, u, q, hu, hu3, hx⟩
  · rw [q] at h0 ⊢
    have h0 : W0 = [] := h0
    subst h0
    exact ⟨hx, by simp⟩
  · rw [q] at h0 ⊢
    obtain ⟨k, hk⟩ := (show dm_W (dk_dm m1 m2).1 g W0 from h0)
    have := dm_k_W hW k g W0 hk
    rw [hu] at this
    cases this
    exact ⟨hx, hu3⟩
