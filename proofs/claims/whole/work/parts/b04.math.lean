/-! mathematics: isFunction, isSame, isSteady, read: the class and the reference agree -/
theorem nil_or (v : List Nat) : v = [] ∨ ∃ v' x, v = v' ++ [x] := by
  rcases List.eq_nil_or_concat v with q | ⟨v', x, q⟩
  · exact Or.inl q
  · exact Or.inr ⟨v', x, by rw [q, List.concat_eq_append]⟩
theorem vl_inj : ∀ (n : Nat) (u v : List Nat), u.length ≤ n → (∀ x ∈ u, x < 3) → (∀ x ∈ v, x < 3) → vl u = vl v → u = v := by
  intro n
  induction n with
  | zero =>
    intro u v hn hu hv h
    have e : u = [] := List.length_eq_zero_iff.mp (by omega)
    subst e
    rcases nil_or v with q | ⟨v', x, q⟩
    · exact q.symm
    · rw [q, vl_nil, vl_app] at h; omega
  | succ n ih =>
    intro u v hn hu hv h
    rcases nil_or u with q | ⟨u', x, q⟩
    · subst q
      rcases nil_or v with q | ⟨v', x, q⟩
      · exact q.symm
      · rw [q, vl_nil, vl_app] at h; omega
    · rcases nil_or v with q' | ⟨v', x', q'⟩
      · rw [q', q, vl_nil, vl_app] at h; omega
      · subst q q'
        rw [vl_app, vl_app] at h
        have h1 := hu x (by simp)
        have h2 := hv x' (by simp)
        have := ih u' v' (by rw [List.length_append] at hn; simp at hn; omega) (fun y hy => hu y (by simp [hy])) (fun y hy => hv y (by simp [hy])) (by omega)
        subst this
        have : x = x' := by omega
        rw [this]
theorem vl_i {u v : List Nat} (hu : ∀ x ∈ u, x < 3) (hv : ∀ x ∈ v, x < 3) (h : vl u = vl v) : u = v := vl_inj u.length u v (Nat.le_refl _) hu hv h
theorem xm_uniq {T1 T2 : mv_T} {S : List ps_nd} {b b' : Bool} {u u' : List Nat} (h : xm_is T1 T2 S b u) (h' : xm_is T1 T2 S b' u') (hu : ∀ x ∈ u, x < 3) (hu' : ∀ x ∈ u', x < 3) : b = b' ∧ (b = true → u = u') := by
  rcases h with ⟨rfl, h⟩ | ⟨rfl, h1, h2⟩ <;> rcases h' with ⟨rfl, h'⟩ | ⟨rfl, h1', h2'⟩
  · exact ⟨rfl, fun q => by cases q⟩
  · exact absurd h1' (h _)
  · exact absurd h1 (h' _)
  · exact ⟨rfl, fun _ => vl_i hu hu' (Nat.le_antisymm (h2 _ h1') (h2' _ h1))⟩
theorem xl_uniq {T1 T2 : mv_T} {a b : Nat} {r r' : Bool} {u u' : List Nat} (h : xl_is T1 T2 a b r u) (h' : xl_is T1 T2 a b r' u') (hu : ∀ x ∈ u, x < 3) (hu' : ∀ x ∈ u', x < 3) : r = r' ∧ (r = true → u = u') := by
  rcases h with ⟨rfl, h⟩ | ⟨rfl, h1, h2⟩ <;> rcases h' with ⟨rfl, h'⟩ | ⟨rfl, h1', h2'⟩
  · exact ⟨rfl, fun q => by cases q⟩
  · exact absurd (h _ hu') h1'
  · exact absurd (h' _ hu) h1
  · exact ⟨rfl, fun _ => vl_i hu hu' (Nat.le_antisymm (h2 _ hu' h1') (h2' _ hu h1))⟩
theorem df_xm {m1 m2 : mv_T} (w1 : wf m1) (w2 : wf m2) : ((df_S m1 m2).2.2 = none ∧ xm_is (tk m1) (tk m2) (xd_st (tk m1) (tk m2)) false []) ∨ ∃ k, (df_S m1 m2).2.2 = some k ∧ xm_is (tk m1) (tk m2) (xd_st (tk m1) (tk m2)) true (ps_wf k (df_S m1 m2)) ∧ ∀ t ∈ ps_wf k (df_S m1 m2), t < 3 := by
  have t1 := tk_tw w1
  have t2 := tk_tw w2
  refine ps_xm (c1 := mk_cl m1) (c2 := mk_cl m2) (tw_m t1 (by decide)) (tw_m t2 (by decide)) (mrel_tk w1) (mrel_tk w2) (fun s hs => ?_) ?_
  · unfold xd_st at hs
    split at hs
    · simp at hs; subst hs
      exact xf_ok (by decide) (by decide) t1.2.2.2.2.2.2 t2.2.2.2.2.2.2
    · cases hs
  · have e : df_N m1 m2 = ps_fld m1 m2 (mk_cl m1) (mk_cl m2) 0 ([], none) (xd_st (tk m1) (tk m2)) := by
      unfold df_N xd_st
      have z1 : mv_al m1 (mk_cl m1) = 0 ↔ ¬ (tk m1).1.testBit 0 = true := by
        rw [Bool.not_eq_true]; exact al_0 w1
      have z2 : mv_al m2 (mk_cl m2) = 0 ↔ ¬ (tk m2).1.testBit 0 = true := by
        rw [Bool.not_eq_true]; exact al_0 w2
      by_cases c : mv_al m1 (mk_cl m1) = 0 ∨ mv_al m2 (mk_cl m2) = 0
      · rw [if_pos c, if_neg (by rw [z1, z2] at c; rcases c with c | c <;> simp [c])]
        rfl
      · rw [if_neg c, if_pos (by rw [z1, z2] at c; simpa using c)]
        rfl
    unfold df_S
    rw [e]
theorem df_none {m1 m2 : mv_T} (w1 : wf m1) (w2 : wf m2) : (df_S m1 m2).2.2 = none ↔ ∀ v, ¬ df (tk m1) (tk m2) (xd_st (tk m1) (tk m2)) v := by
  rcases df_xm w1 w2 with ⟨h1, h2⟩ | ⟨k, h1, h2, -⟩
  · rcases h2 with ⟨-, h2⟩ | ⟨q, -⟩
    · exact ⟨fun _ => h2, fun _ => h1⟩
    · cases q
  · rcases h2 with ⟨q, -⟩ | ⟨-, h2, -⟩
    · cases q
    · exact ⟨fun q => (by rw [h1] at q; cases q), fun q => absurd h2 (q _)⟩
/-- the values agree, but for which of two machines made is the newer -/
def vq (V V' : dk_V) : Prop := V.1 = V'.1 ∧ V.2.1 = V'.2.1 ∧ V.2.2.1 = V'.2.2.1
theorem vq_rf {I : Nat → Int32} {A : Nat → Nat → Int32} {V V' : dk_V} (h : vq V V') (hr : rf I A V') : rf I A V := by
  obtain ⟨h1, h2, h3⟩ := h
  unfold rf at *
  rw [h1, h2, h3]; exact hr
/-- what the class answers (f, e) and what the reference answers (f', e') is the same; its number for a class of exceptions is cd -/
def mt (cd : Nat → Nat) (f : Option Value → dk_V → Prop) (e : Nat → Prop) (f' : Option Value → dk_V → Prop) (e' : Nat → Prop) : Prop :=
  (∀ r V r' V', f r V → f' r' V' → r = r' ∧ vq V V') ∧ (∀ r V c', f r V → e' c' → False) ∧ (∀ c r' V', e c → f' r' V' → False) ∧ ∀ c c', e c → e' c' → c' = cd c
theorem nI_6 {k k' : Nat} (hk : k < 6) (hk' : k' < 6) {x : Int32} (h : x = nI k) (h' : x = nI k') : k = k' := (nI_eq (by omega) (by omega)).mp (h.symm.trans h')
def cdA (c : Nat) : Nat := c + 1
def cdB (c : Nat) : Nat := if c = 0 then 1 else if c = 3 then 2 else 3
def cdC (c : Nat) : Nat := if c = 3 then 1 else 2
theorem mt_isFunction {V : dk_V} {x : Int32} (hw : ∀ k, k < 6 → wf (V.1 k)) : mt cdA (fun r V' => ∃ k, k < 6 ∧ x = nI k ∧ r = some (.int (rz_b (!(df_S (V.1 k) (V.1 k)).2.2.isSome))) ∧ V' = dk_ur V (dk_fw (V.1 k))) (fun c => (c = 0 ∧ dk_no x)) (fun r V' => ∃ k b u, k < 6 ∧ x = nI k ∧ xm_is (tk (V.1 k)) (tk (V.1 k)) (xd_st (tk (V.1 k)) (tk (V.1 k))) b u ∧ (∀ y ∈ u, y < 3) ∧ r = some (.int (rz_b (!b))) ∧ V' = dk_ur V (if b then u else [])) (fun c => c = 1 ∧ dk_no x) := by
  refine ⟨fun r V1 r' V2 h h' => ?_, fun r V1 c' h h' => ?_, fun c r' V2 h h' => ?_, fun c c' h h' => by rw [h.1, h'.1]; rfl⟩
  · obtain ⟨k, hk, hx, rfl, rfl⟩ := h
    obtain ⟨k', b, u, hk', hx', h1, h2, rfl, rfl⟩ := h'
    have e := nI_6 hk' hk hx' hx
    subst e
    unfold dk_fw
    rcases df_xm (hw _ hk) (hw _ hk) with ⟨q1, q2⟩ | ⟨g, q1, q2, q3⟩
    · obtain ⟨e, -⟩ := xm_uniq q2 h1 (fun x hx => by cases hx) h2
      subst e
      rw [q1]
      exact ⟨rfl, rfl, rfl, rfl⟩
    · obtain ⟨e, e2⟩ := xm_uniq q2 h1 q3 h2
      subst e
      rw [q1]
      exact ⟨rfl, rfl, e2 rfl, rfl⟩
  · obtain ⟨k, hk, hx, -⟩ := h
    exact h'.2 k hk hx
  · obtain ⟨k, b, u, hk, hx, -⟩ := h'
    exact h.2 k hk hx
theorem mt_useful {V : dk_V} {x : Int32} : mt cdA (fun r V' => V' = V ∧ ∃ k, k < 6 ∧ x = nI k ∧ r = some (.int (nI (hp_cnt (mv_al (V.1 k) (mk_cl (V.1 k))))))) (fun c => (c = 0 ∧ dk_no x)) (fun r V' => V' = V ∧ ∃ k, k < 6 ∧ x = nI k ∧ r = some (.int (nI (hp_cnt (al (V.1 k)))))) (fun c => c = 1 ∧ dk_no x) := by
  refine ⟨fun r V1 r' V2 h h' => ?_, fun r V1 c' h h' => ?_, fun c r' V2 h h' => ?_, fun c c' h h' => by rw [h.1, h'.1]; rfl⟩
  · obtain ⟨rfl, k, hk, hx, rfl⟩ := h
    obtain ⟨rfl, k', hk', hx', rfl⟩ := h'
    have e := nI_6 hk' hk hx' hx
    subst e
    exact ⟨rfl, rfl, rfl, rfl⟩
  · obtain ⟨-, k, hk, hx, -⟩ := h
    exact h'.2 k hk hx
  · obtain ⟨-, k, hk, hx, -⟩ := h'
    exact h.2 k hk hx
theorem mt_isSteady {V : dk_V} {x : Int32} (hw : ∀ k, k < 6 → wf (V.1 k)) : mt cdB (fun r V' => V' = V ∧ ∃ k, k < 6 ∧ x = nI k ∧ (df_S (V.1 k) (V.1 k)).2.2 = none ∧ rs_ver (V.1 k) (mk_cl (V.1 k)) ≠ 2 ∧ r = some (.int (rz_b (decide (rs_ver (V.1 k) (mk_cl (V.1 k)) = 0))))) (fun c => (c = 0 ∧ dk_no x) ∨ ∃ k, k < 6 ∧ x = nI k ∧ ((c = 3 ∧ (df_S (V.1 k) (V.1 k)).2.2 ≠ none) ∨ (c = 2 ∧ (df_S (V.1 k) (V.1 k)).2.2 = none ∧ rs_ver (V.1 k) (mk_cl (V.1 k)) = 2))) (fun r V' => V' = V ∧ ∃ k v, k < 6 ∧ x = nI k ∧ (∀ v, ¬ df (tk (V.1 k)) (tk (V.1 k)) (xd_st (tk (V.1 k)) (tk (V.1 k))) v) ∧ sdv (tk (V.1 k)) v ∧ v < 2 ∧ r = some (.int (rz_b (decide (v = 1))))) (fun c => (c = 1 ∧ dk_no x) ∨ ∃ k, k < 6 ∧ x = nI k ∧ ((c = 2 ∧ (∃ v, df (tk (V.1 k)) (tk (V.1 k)) (xd_st (tk (V.1 k)) (tk (V.1 k))) v)) ∨ (c = 3 ∧ (∀ v, ¬ df (tk (V.1 k)) (tk (V.1 k)) (xd_st (tk (V.1 k)) (tk (V.1 k))) v) ∧ sdv (tk (V.1 k)) 2))) := by
  refine ⟨fun r V1 r' V2 h h' => ?_, fun r V1 c' h h' => ?_, fun c r' V2 h h' => ?_, fun c c' h h' => ?_⟩
  · obtain ⟨rfl, k, hk, hx, h1, h2, rfl⟩ := h
    obtain ⟨rfl, k', v, hk', hx', h1', h2', h3', rfl⟩ := h'
    have e := nI_6 hk' hk hx' hx
    subst e
    refine ⟨?_, rfl, rfl, rfl⟩
    obtain ⟨v', q1, q2⟩ := rs_sdv (hw _ hk)
    have := sdv_uniq q1 h2'
    subst this
    rcases q2 with ⟨q2, rfl⟩ | ⟨q2, rfl⟩ | ⟨q2, rfl⟩
    · rw [q2]; rfl
    · rw [q2]; rfl
    · exact absurd q2 h2
  · obtain ⟨rfl, k, hk, hx, h1, h2, rfl⟩ := h
    rcases h' with ⟨-, h'⟩ | ⟨k', hk', hx', h'⟩
    · exact h' k hk hx
    · have e := nI_6 hk' hk hx' hx
      subst e
      rcases h' with ⟨-, v, h'⟩ | ⟨-, -, h'⟩
      · exact (df_none (hw _ hk) (hw _ hk)).mp h1 v h'
      · obtain ⟨v', q1, q2⟩ := rs_sdv (hw _ hk)
        have := sdv_uniq q1 h'
        subst this
        rcases q2 with ⟨q2, q3⟩ | ⟨q2, q3⟩ | ⟨q2, q3⟩
        · cases q3
        · cases q3
        · exact h2 q2
  · obtain ⟨rfl, k, v, hk, hx, h1, h2, h3, rfl⟩ := h'
    rcases h with ⟨-, h⟩ | ⟨k', hk', hx', h⟩
    · exact h k hk hx
    · have e := nI_6 hk' hk hx' hx
      subst e
      rcases h with ⟨-, h⟩ | ⟨-, -, h⟩
      · exact h ((df_none (hw _ hk) (hw _ hk)).mpr h1)
      · obtain ⟨v', q1, q2⟩ := rs_sdv (hw _ hk)
        have := sdv_uniq q1 h2
        subst this
        rcases q2 with ⟨q2, q3⟩ | ⟨q2, q3⟩ | ⟨q2, q3⟩ <;> omega
  · rcases h with ⟨rfl, h⟩ | ⟨k, hk, hx, h⟩ <;> rcases h' with ⟨rfl, h'⟩ | ⟨k', hk', hx', h'⟩
    · rfl
    · exact absurd hx' (h k' hk')
    · exact absurd hx (h' k hk)
    · have e := nI_6 hk' hk hx' hx
      subst e
      rcases h with ⟨rfl, h⟩ | ⟨rfl, h, h2⟩ <;> rcases h' with ⟨rfl, v, h'⟩ | ⟨rfl, h', h2'⟩
      · rfl
      · exact absurd ((df_none (hw _ hk) (hw _ hk)).mpr h') h
      · exact absurd h' ((df_none (hw _ hk) (hw _ hk)).mp h v)
      · rfl
theorem mt_isSame {V : dk_V} {x y : Int32} (hw : ∀ k, k < 6 → wf (V.1 k)) : mt cdB (fun r V' => ∃ k1 k2 W0, k1 < 6 ∧ k2 < 6 ∧ x = nI k1 ∧ y = nI k2 ∧ (df_S (V.1 k1) (V.1 k1)).2.2 = none ∧ (df_S (V.1 k2) (V.1 k2)).2.2 = none ∧ dk_w0 (V.1 k1) (V.1 k2) W0 ∧ W0.length ≤ 4096 ∧ (∀ x ∈ W0, x < 3) ∧ (∀ x ∈ dk_w1 (V.1 k1) (V.1 k2) W0, x < 3) ∧ r = some (.int (rz_b (!(dk_dm (V.1 k1) (V.1 k2)).2.isSome && !(df_S (V.1 k1) (V.1 k2)).2.2.isSome))) ∧ V' = dk_ur V (dk_w1 (V.1 k1) (V.1 k2) W0)) (fun c => (c = 0 ∧ (dk_no x ∨ dk_no y)) ∨ (c = 3 ∧ ∃ k1 k2, k1 < 6 ∧ k2 < 6 ∧ x = nI k1 ∧ y = nI k2 ∧ ¬ ((df_S (V.1 k1) (V.1 k1)).2.2 = none ∧ (df_S (V.1 k2) (V.1 k2)).2.2 = none))) (fun r V' => ∃ k1 k2 rb u1 wb u2, k1 < 6 ∧ k2 < 6 ∧ x = nI k1 ∧ y = nI k2 ∧ (∀ v, ¬ df (tk (V.1 k1)) (tk (V.1 k1)) (xd_st (tk (V.1 k1)) (tk (V.1 k1))) v) ∧ (∀ v, ¬ df (tk (V.1 k2)) (tk (V.1 k2)) (xd_st (tk (V.1 k2)) (tk (V.1 k2))) v) ∧ xl_is (tk (V.1 k1)) (tk (V.1 k2)) (if (tk (V.1 k1)).1.testBit 0 = true then 1 else 0) (if (tk (V.1 k2)).1.testBit 0 = true then 1 else 0) rb u1 ∧ xm_is (tk (V.1 k1)) (tk (V.1 k2)) (xd_st (tk (V.1 k1)) (tk (V.1 k2))) wb u2 ∧ (∀ t ∈ u1, t < 3) ∧ (∀ t ∈ u2, t < 3) ∧ r = some (.int (rz_b (!rb && !wb))) ∧ V' = dk_ur V (xw_s rb u1 wb u2)) (fun c => (c = 1 ∧ (dk_no x ∨ dk_no y)) ∨ (c = 2 ∧ ∃ k1 k2, k1 < 6 ∧ k2 < 6 ∧ x = nI k1 ∧ y = nI k2 ∧ ((∃ v, df (tk (V.1 k1)) (tk (V.1 k1)) (xd_st (tk (V.1 k1)) (tk (V.1 k1))) v) ∨ (∃ v, df (tk (V.1 k2)) (tk (V.1 k2)) (xd_st (tk (V.1 k2)) (tk (V.1 k2))) v)))) := by
  refine ⟨fun r V1 r' V2 h h' => ?_, fun r V1 c' h h' => ?_, fun c r' V2 h h' => ?_, fun c c' h h' => ?_⟩
  · obtain ⟨k1, k2, W0, hk1, hk2, hx, hy, h1, h2, h3, -, h4, h5, rfl, rfl⟩ := h
    obtain ⟨j1, j2, rb, u1, wb, u2, hj1, hj2, hx', hy', h1', h2', h3', h4', h5', h6', rfl, rfl⟩ := h'
    have e := nI_6 hj1 hk1 hx' hx
    subst e
    have e := nI_6 hj2 hk2 hy' hy
    subst e
    obtain ⟨q1, -⟩ := dm_xl (hw _ hk1) (hw _ hk2) h3
    obtain ⟨e1, e2⟩ := xl_uniq q1 h3' h4 h5'
    subst e1
    unfold dk_w1 xw_s
    rcases df_xm (hw _ hk1) (hw _ hk2) with ⟨q1, q2⟩ | ⟨g, q1, q2, q3⟩
    · obtain ⟨e, -⟩ := xm_uniq q2 h4' (fun x hx => by cases hx) h6'
      subst e
      rw [q1]
      refine ⟨rfl, rfl, ?_, rfl⟩
      show W0 = _
      cases c : (dk_dm (V.1 j1) (V.1 j2)).2 with
      | none =>
        simp only [Option.isSome_none, Bool.false_eq_true, if_false]
        unfold dk_w0 at h3
        rw [c] at h3
        exact h3
      | some g =>
        simp only [Option.isSome_some, if_true, Bool.false_and, Bool.false_eq_true, if_false]
        rw [c] at e2
        exact e2 rfl
    · obtain ⟨e, e3⟩ := xm_uniq q2 h4' q3 h6'
      subst e
      rw [q1]
      refine ⟨rfl, rfl, ?_, rfl⟩
      show (if (dk_dm (V.1 j1) (V.1 j2)).2 = none ∨ wd_bef (ps_wf g (df_S (V.1 j1) (V.1 j2))) W0 = true then ps_wf g (df_S (V.1 j1) (V.1 j2)) else W0) = (if (dk_dm (V.1 j1) (V.1 j2)).2.isSome = true then if (true && wd_bef u2 u1) = true then u2 else u1 else if true = true then u2 else [])
      rw [e3 rfl]
      cases c : (dk_dm (V.1 j1) (V.1 j2)).2 with
      | none => simp
      | some g =>
        rw [c] at e2
        rw [e2 rfl]
        simp
  · obtain ⟨k1, k2, W0, hk1, hk2, hx, hy, h1, h2, -⟩ := h
    rcases h' with ⟨-, h' | h'⟩ | ⟨-, j1, j2, hj1, hj2, hx', hy', h'⟩
    · exact h' k1 hk1 hx
    · exact h' k2 hk2 hy
    · have e := nI_6 hj1 hk1 hx' hx
      subst e
      have e := nI_6 hj2 hk2 hy' hy
      subst e
      rcases h' with ⟨v, h'⟩ | ⟨v, h'⟩
      · exact (df_none (hw _ hk1) (hw _ hk1)).mp h1 v h'
      · exact (df_none (hw _ hk2) (hw _ hk2)).mp h2 v h'
  · obtain ⟨j1, j2, rb, u1, wb, u2, hj1, hj2, hx', hy', h1', h2', -⟩ := h'
    rcases h with ⟨-, h | h⟩ | ⟨-, k1, k2, hk1, hk2, hx, hy, h⟩
    · exact h j1 hj1 hx'
    · exact h j2 hj2 hy'
    · have e := nI_6 hj1 hk1 hx' hx
      subst e
      have e := nI_6 hj2 hk2 hy' hy
      subst e
      exact h ⟨(df_none (hw _ hk1) (hw _ hk1)).mpr h1', (df_none (hw _ hk2) (hw _ hk2)).mpr h2'⟩
  · rcases h with ⟨rfl, h⟩ | ⟨rfl, k1, k2, hk1, hk2, hx, hy, h⟩ <;> rcases h' with ⟨rfl, h'⟩ | ⟨rfl, j1, j2, hj1, hj2, hx', hy', h'⟩
    · rfl
    · rcases h with h | h
      · exact absurd hx' (h j1 hj1)
      · exact absurd hy' (h j2 hj2)
    · rcases h' with h' | h'
      · exact absurd hx (h' k1 hk1)
      · exact absurd hy (h' k2 hk2)
    · rfl
theorem mt_read {V : dk_V} {x yn u yk : Int32} (hw : ∀ k, k < 6 → wf (V.1 k)) : mt cdA (fun r V' => ∃ k n ws, k < 6 ∧ n ≤ 10 ∧ x = nI k ∧ yn = nI n ∧ dk_rok yn u ∧ dk_rk (V.1 k) u n = some ws ∧ r = some (.int (nI (dk_ro (V.1 k) ws).length)) ∧ V' = dk_ur V (dk_rt (dk_ro (V.1 k) ws) yk)) (fun c => (c = 0 ∧ dk_no x) ∨ ∃ k, k < 6 ∧ x = nI k ∧ ((c = 1 ∧ ¬ dk_rok yn u) ∨ (c = 2 ∧ ∃ n, n ≤ 10 ∧ yn = nI n ∧ dk_rok yn u ∧ dk_rk (V.1 k) u n = none))) (fun r V' => ∃ k n W, k < 6 ∧ n ≤ 10 ∧ x = nI k ∧ yn = nI n ∧ dk_rok yn u ∧ rr_k (tk (V.1 k)) (dk_let u.toBitVec.toNat) n = some W ∧ r = some (.int (nI (rr_f (tk (V.1 k)) W).length)) ∧ V' = dk_ur V (rd_out (rr_f (tk (V.1 k)) W) yk (rr_f (tk (V.1 k)) W).length)) (fun c => (c = 1 ∧ dk_no x) ∨ ∃ k, k < 6 ∧ x = nI k ∧ ((c = 2 ∧ ¬ dk_rok yn u) ∨ (c = 3 ∧ ∃ n, n ≤ 10 ∧ yn = nI n ∧ dk_rok yn u ∧ rr_k (tk (V.1 k)) (dk_let u.toBitVec.toNat) n = none))) := by
  have hlet : ∀ {n}, yn = nI n → n ≤ 10 → dk_rok yn u → ∀ k, k < n → dk_let u.toBitVec.toNat k < 3 := fun {n} hn h10 ⟨j, h1, h2, h3⟩ => by
    have e : j = n := (nI_eq (by omega) (by omega)).mp (h2.symm.trans hn)
    subst e
    exact h3
  have hrk : ∀ {k n}, k < 6 → yn = nI n → n ≤ 10 → dk_rok yn u → dk_rk (V.1 k) u n = rr_k (tk (V.1 k)) (dk_let u.toBitVec.toNat) n ∧ ∀ W, rr_k (tk (V.1 k)) (dk_let u.toBitVec.toNat) n = some W → W.length ≤ 200 := fun {k n} hk hn h10 hr => rd_rr (hw k hk) n (hlet hn h10 hr)
  refine ⟨fun r V1 r' V2 h h' => ?_, fun r V1 c' h h' => ?_, fun c r' V2 h h' => ?_, fun c c' h h' => ?_⟩
  · obtain ⟨k, n, W, hk, hn, hx, hy, h1, h2, rfl, rfl⟩ := h
    obtain ⟨k', n', W', hk', hn', hx', hy', h1', h2', rfl, rfl⟩ := h'
    have e := nI_6 hk' hk hx' hx
    subst e
    have e : n' = n := (nI_eq (by omega) (by omega)).mp (hy'.symm.trans hy)
    subst e
    obtain ⟨q1, q2⟩ := hrk hk hy hn h1
    rw [q1, h2'] at h2
    have e := Option.some.inj h2
    subst e
    have hl := q2 _ h2'
    have e : dk_ro (V.1 k') W' = rr_f (tk (V.1 k')) W' := rd_rf (hw _ hk) W' [] (by simpa using hl)
    rw [e]
    refine ⟨rfl, rfl, ?_, rfl⟩
    show dk_rt _ _ = rd_out _ _ _
    unfold dk_rt
    split
    · next c =>
      refine (rd_out_nil ?_ c _).symm
      have hlen : ∀ (W A : List (Nat × List Nat)), (W.foldl (rr_g (tk (V.1 k'))) A).length ≤ A.length + W.length := by
        intro W
        induction W with
        | nil => intro A; simp
        | cons w W ih =>
          intro A
          rw [List.foldl_cons]
          have h1 := ih (rr_g (tk (V.1 k')) A w)
          have h2 : (rr_g (tk (V.1 k')) A w).length ≤ A.length + 1 := by
            unfold rr_g
            cases (tk (V.1 k')).2.2.1 w.1 with
            | none => simp
            | some v =>
              simp only [wadd]
              repeat' split
              all_goals simp
          simp only [List.length_cons]; omega
      have := hlen W' []
      simp only [List.length_nil, Nat.zero_add] at this
      exact Nat.le_trans this hl
    · rfl
  · obtain ⟨k, n, W, hk, hn, hx, hy, h1, h2, -⟩ := h
    rcases h' with ⟨-, h'⟩ | ⟨k', hk', hx', h'⟩
    · exact h' k hk hx
    · have e := nI_6 hk' hk hx' hx
      subst e
      rcases h' with ⟨-, h'⟩ | ⟨-, n', hn', hy', -, h'⟩
      · exact h' h1
      · have e : n' = n := (nI_eq (by omega) (by omega)).mp (hy'.symm.trans hy)
        subst e
        rw [(hrk hk hy hn h1).1, h'] at h2
        cases h2
  · obtain ⟨k', n', W, hk', hn', hx', hy', h1', h2', -⟩ := h'
    rcases h with ⟨-, h⟩ | ⟨k, hk, hx, h⟩
    · exact h k' hk' hx'
    · have e := nI_6 hk' hk hx' hx
      subst e
      rcases h with ⟨-, h⟩ | ⟨-, n, hn, hy, -, h⟩
      · exact h h1'
      · have e : n' = n := (nI_eq (by omega) (by omega)).mp (hy'.symm.trans hy)
        subst e
        rw [(hrk hk hy hn h1').1, h2'] at h
        cases h
  · rcases h with ⟨rfl, h⟩ | ⟨k, hk, hx, h⟩ <;> rcases h' with ⟨rfl, h'⟩ | ⟨k', hk', hx', h'⟩
    · rfl
    · exact absurd hx' (h k' hk')
    · exact absurd hx (h' k hk)
    · rcases h with ⟨rfl, h⟩ | ⟨rfl, n, hn, hy, h, h2⟩ <;> rcases h' with ⟨rfl, h'⟩ | ⟨rfl, n', hn', hy', h', h2'⟩
      · rfl
      · exact absurd h' h
      · exact absurd h h'
      · rfl
