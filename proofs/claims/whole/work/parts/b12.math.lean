/-! mathematics: smallest: the class and the reference agree -/
/-- machines made that answer alike -/
def svq (v v' : sv_T) : Prop := v.1 = v'.1 ∧ v.2.1 = v'.2.1 ∧ ∀ i, i < 3 * v.2.1.length → bb_t v.2.2[i]? = bb_t v'.2.2[i]? ∧ bb_w v.2.2[i]? = bb_w v'.2.2[i]?
def vqw (V V' : dk_V) : Prop := V.1 = V'.1 ∧ V.2.1 = V'.2.1 ∧ svq V.2.2.1 V'.2.2.1
theorem vqw_rf {I : Nat → Int32} {A : Nat → Nat → Int32} {V V' : dk_V} (h : vqw V V') (hr : rf I A V') : rf I A V := by
  obtain ⟨h1, h2, h3, h4, h5⟩ := h
  unfold rf at *
  obtain ⟨r1, r2, r3⟩ := hr
  refine ⟨by rw [h1]; exact r1, by rw [h2]; exact r2, ?_⟩
  unfold re_w at *
  obtain ⟨a1, a2, a3, a4, a5, a6, a7, a8, a9⟩ := r3
  rw [← h4] at a2 a3 a4 a8 a9
  rw [← h3] at a5 a6 a7
  refine ⟨a1, a2, a3, a4, a5, a6, a7, fun i hi => ?_, a9⟩
  obtain ⟨b1, b2⟩ := h5 i hi
  rw [b1, b2]
  exact a8 i hi
/-- as mt, but machines made need only answer alike -/
def mtw (cd : Nat → Nat) (f : Option Value → dk_V → Prop) (e : Nat → Prop) (f' : Option Value → dk_V → Prop) (e' : Nat → Prop) : Prop :=
  (∀ r V r' V', f r V → f' r' V' → r = r' ∧ vqw V V') ∧ (∀ r V c', f r V → e' c' → False) ∧ (∀ c r' V', e c → f' r' V' → False) ∧ ∀ c c', e c → e' c' → c' = cd c
theorem vq_w {V V' : dk_V} (h : vq V V') : vqw V V' := ⟨h.1, h.2.1, by rw [h.2.2], by rw [h.2.2], fun i _ => by rw [h.2.2]; exact ⟨rfl, rfl⟩⟩
theorem mt_w {cd : Nat → Nat} {f : Option Value → dk_V → Prop} {e : Nat → Prop} {f' : Option Value → dk_V → Prop} {e' : Nat → Prop} (h : mt cd f e f' e') : mtw cd f e f' e' := ⟨fun r V r' V' h1 h2 => ⟨(h.1 r V r' V' h1 h2).1, vq_w (h.1 r V r' V' h1 h2).2⟩, h.2.1, h.2.2.1, h.2.2.2⟩
theorem rs_vs {m : mv_T} (h : wf m) : (rs_ver m (mk_cl m) = 0 ↔ sdv (tk m) 1) ∧ (rs_ver m (mk_cl m) = 1 ↔ sdv (tk m) 0) ∧ (rs_ver m (mk_cl m) = 2 ↔ sdv (tk m) 2) := by
  obtain ⟨v, h1, h2⟩ := rs_sdv h
  have u : ∀ {v'}, sdv (tk m) v' → v = v' := fun h' => sdv_uniq h1 h'
  rcases h2 with ⟨q, rfl⟩ | ⟨q, rfl⟩ | ⟨q, rfl⟩
  · exact ⟨⟨fun _ => h1, fun _ => q⟩, ⟨fun z => (by rw [q] at z; cases z), fun z => absurd (u z) (by decide)⟩, ⟨fun z => (by rw [q] at z; cases z), fun z => absurd (u z) (by decide)⟩⟩
  · exact ⟨⟨fun z => (by rw [q] at z; cases z), fun z => absurd (u z) (by decide)⟩, ⟨fun _ => h1, fun _ => q⟩, ⟨fun z => (by rw [q] at z; cases z), fun z => absurd (u z) (by decide)⟩⟩
  · exact ⟨⟨fun z => (by rw [q] at z; cases z), fun z => absurd (u z) (by decide)⟩, ⟨fun z => (by rw [q] at z; cases z), fun z => absurd (u z) (by decide)⟩, ⟨fun _ => h1, fun _ => q⟩⟩
theorem cls_n {m : mv_T} {H : Nat → List Nat} (h0 : al m = 0) : ∀ (n : Nat) (Ks : List kt_T) (gs : List g_T), cls (pu (tk m) H) n Ks gs → Ks = [k0 (pu (tk m) H)] ∧ ∀ g ∈ gs, g = none
  | 0, Ks, gs, h => ⟨h.1, by rw [h.2]; simp⟩
  | n + 1, Ks', gs', h => by
    obtain ⟨Ks, gs, X, z, h1, h2, rfl, h4⟩ := h
    obtain ⟨rfl, hg⟩ := cls_n h0 n Ks gs h1
    rcases h4 with ⟨-, rfl, rfl⟩ | ⟨⟨s, hs, q⟩, -⟩
    · exact ⟨rfl, fun g hg' => by
        rcases List.mem_append.mp hg' with a | a
        · exact hg g a
        · simpa using a⟩
    · exfalso
      have e : mx (pu (tk m) H) (n % 3) X s = (pu (tk m) H).2.1.foldl (mx_1 (n % 3) X) (fun _ => none) s := rfl
      rw [e, mx_n] at q
      rcases q with q | ⟨e, he, -⟩
      · exact q rfl
      · obtain ⟨e0, he0, -⟩ := pu_e.mp he
        have := (tk_e he0).2.1
        rw [h0, Nat.zero_testBit] at this; cases this
theorem clf_n {m : mv_T} {H : Nat → List Nat} (h0 : al m = 0) : ¬ clf (pu (tk m) H) := by
  rintro ⟨n, Ks, gs, X, L, a1, a2, a3, a4, a5, a6⟩
  obtain ⟨rfl, -⟩ := cls_n h0 n Ks gs a1
  simp at a5
theorem sv_n {m : mv_T} {H : Nat → List Nat} (h0 : al m = 0) {Ks : List kt_T} {gs : List g_T} (hc : cls (pu (tk m) H) (3 * Ks.length) Ks gs) : svq ([], [none], []) (kfw (pu (tk m) H), Ks.map (kcl (pu (tk m) H)), gs) ∧ Ks.length = 1 := by
  obtain ⟨rfl, hg⟩ := cls_n h0 _ Ks gs hc
  have hb : ((pu (tk m) H).1).testBit 0 = false := by
    show (al m).testBit 0 = false
    rw [h0]; rfl
  have e1 : kfw (pu (tk m) H) = [] := if_neg (by rw [hb]; simp)
  have hk : ∀ s, k0 (pu (tk m) H) s = none := fun s => if_neg (by rw [hb]; simp)
  have e2 : kcl (pu (tk m) H) (k0 (pu (tk m) H)) = none := by
    have st : ∀ q acc, kc_1 (pu (tk m) H) (k0 (pu (tk m) H)) acc q = acc := fun q acc => by unfold kc_1; rw [hk q]
    unfold kcl
    have e : List.range 6 = [0, 1, 2, 3, 4, 5] := rfl
    rw [e]
    simp only [List.foldl_cons, List.foldl_nil, st]
  refine ⟨⟨e1.symm, by rw [List.map_cons, e2]; rfl, fun i _ => ?_⟩, rfl⟩
  show bb_t ([] : List g_T)[i]? = bb_t gs[i]? ∧ bb_w ([] : List g_T)[i]? = bb_w gs[i]?
  cases c : gs[i]? with
  | none => exact ⟨rfl, rfl⟩
  | some g =>
    have := hg g (List.mem_of_getElem? c)
    subst this
    exact ⟨rfl, rfl⟩
theorem mt_smallest {V : dk_V} {x : Int32} (hw : ∀ k, k < 6 → wf (V.1 k)) : mtw cdB (fun r V' => ∃ k hd nr v, k < 6 ∧ x = nI k ∧ (df_S (V.1 k) (V.1 k)).2.2 = none ∧ rs_ver (V.1 k) (mk_cl (V.1 k)) = 0 ∧ bu_v (V.1 k) (mk_cl (V.1 k)) hd nr = some v ∧ r = some (.int (nI v.2.1.length)) ∧ V' = (V.1, V.2.1, v, !V.2.2.2)) (fun c => (c = 0 ∧ dk_no x) ∨ ∃ k, k < 6 ∧ x = nI k ∧ ((c = 3 ∧ ((df_S (V.1 k) (V.1 k)).2.2 ≠ none ∨ rs_ver (V.1 k) (mk_cl (V.1 k)) = 1)) ∨ (c = 2 ∧ (df_S (V.1 k) (V.1 k)).2.2 = none ∧ (rs_ver (V.1 k) (mk_cl (V.1 k)) = 2 ∨ (rs_ver (V.1 k) (mk_cl (V.1 k)) = 0 ∧ ∃ hd nr, bu_v (V.1 k) (mk_cl (V.1 k)) hd nr = none))))) (fun r V' => ∃ k H Ks gs, k < 6 ∧ x = nI k ∧ (∀ v, ¬ df (tk (V.1 k)) (tk (V.1 k)) (xd_st (tk (V.1 k)) (tk (V.1 k))) v) ∧ sdv (tk (V.1 k)) 1 ∧ hd_is (tk (V.1 k)) H ∧ cls (pu (tk (V.1 k)) H) (3 * Ks.length) Ks gs ∧ Ks.length ≤ 40 ∧ r = some (.int (nI Ks.length)) ∧ V' = (V.1, V.2.1, (kfw (pu (tk (V.1 k)) H), Ks.map (kcl (pu (tk (V.1 k)) H)), gs), V.2.2.2)) (fun c => (c = 1 ∧ dk_no x) ∨ ∃ k, k < 6 ∧ x = nI k ∧ ((c = 2 ∧ ((∃ v, df (tk (V.1 k)) (tk (V.1 k)) (xd_st (tk (V.1 k)) (tk (V.1 k))) v) ∨ ((∀ v, ¬ df (tk (V.1 k)) (tk (V.1 k)) (xd_st (tk (V.1 k)) (tk (V.1 k))) v) ∧ sdv (tk (V.1 k)) 0))) ∨ (c = 3 ∧ (∀ v, ¬ df (tk (V.1 k)) (tk (V.1 k)) (xd_st (tk (V.1 k)) (tk (V.1 k))) v) ∧ (sdv (tk (V.1 k)) 2 ∨ (sdv (tk (V.1 k)) 1 ∧ ∃ H, hd_is (tk (V.1 k)) H ∧ clf (pu (tk (V.1 k)) H)))))) := by
  refine ⟨fun r V1 r' V2 h h' => ?_, fun r V1 c' h h' => ?_, fun c r' V2 h h' => ?_, fun c c' h h' => ?_⟩
  · obtain ⟨k, hd, nr, v, hk, hx, h1, h2, h3, rfl, rfl⟩ := h
    obtain ⟨k', H, Ks, gs, hk', hx', h1', h2', h3', h4', h5', rfl, rfl⟩ := h'
    have e := nI_6 hk' hk hx' hx
    subst e
    by_cases h0 : al (V.1 k') = 0
    · have e : bu_v (V.1 k') (mk_cl (V.1 k')) hd nr = some ([], [none], []) := if_pos h0
      rw [e] at h3
      cases h3
      obtain ⟨q1, q2⟩ := sv_n h0 h4'
      exact ⟨by rw [q2]; rfl, rfl, rfl, q1⟩
    · have := (bu_fin ⟨hw _ hk, h3', h1', h2', h0⟩ hd nr).1 Ks gs h4'
      rw [this] at h3
      cases h3
      exact ⟨by simp, rfl, rfl, rfl, rfl, fun _ _ => ⟨rfl, rfl⟩⟩
  · obtain ⟨k, hd, nr, v, hk, hx, h1, h2, h3, rfl, rfl⟩ := h
    have hf := (df_none (hw _ hk) (hw _ hk)).mp h1
    have hs := (rs_vs (hw _ hk)).1.mp h2
    rcases h' with ⟨-, h'⟩ | ⟨k', hk', hx', h'⟩
    · exact h' k hk hx
    · have e := nI_6 hk' hk hx' hx
      subst e
      rcases h' with ⟨-, ⟨v, h'⟩ | ⟨-, h'⟩⟩ | ⟨-, -, h' | ⟨-, H, hH, h'⟩⟩
      · exact hf v h'
      · exact absurd (sdv_uniq hs h') (by decide)
      · exact absurd (sdv_uniq hs h') (by decide)
      · by_cases h0 : al (V.1 k') = 0
        · exact clf_n h0 h'
        · have := (bu_fin ⟨hw _ hk, hH, hf, hs, h0⟩ hd nr).2 h'
          rw [this] at h3; cases h3
  · obtain ⟨k', H, Ks, gs, hk', hx', h1', h2', h3', h4', h5', rfl, rfl⟩ := h'
    rcases h with ⟨-, h⟩ | ⟨k, hk, hx, h⟩
    · exact h k' hk' hx'
    · have e := nI_6 hk' hk hx' hx
      subst e
      have hf := (df_none (hw _ hk) (hw _ hk)).mpr h1'
      have hs := (rs_vs (hw _ hk)).1.mpr h2'
      rcases h with ⟨-, h | h⟩ | ⟨-, -, h | ⟨-, hd, nr, h⟩⟩
      · exact h hf
      · rw [hs] at h; cases h
      · rw [hs] at h; cases h
      · by_cases h0 : al (V.1 k') = 0
        · have e : bu_v (V.1 k') (mk_cl (V.1 k')) hd nr = some ([], [none], []) := if_pos h0
          rw [e] at h; cases h
        · have := (bu_fin ⟨hw _ hk, h3', h1', h2', h0⟩ hd nr).1 Ks gs h4'
          rw [this] at h; cases h
  · rcases h with ⟨rfl, h⟩ | ⟨k, hk, hx, h⟩ <;> rcases h' with ⟨rfl, h'⟩ | ⟨k', hk', hx', h'⟩
    · rfl
    · exact absurd hx' (h k' hk')
    · exact absurd hx (h' k hk)
    · have e := nI_6 hk' hk hx' hx
      subst e
      have w := hw _ hk
      rcases h with ⟨rfl, h⟩ | ⟨rfl, h, h2⟩ <;> rcases h' with ⟨rfl, h'⟩ | ⟨rfl, h', h2'⟩
      · rfl
      · rcases h with h | h
        · exact absurd ((df_none w w).mpr h') h
        · have h := (rs_vs w).2.1.mp h
          rcases h2' with h2' | ⟨h2', -⟩
          · exact absurd (sdv_uniq h h2') (by decide)
          · exact absurd (sdv_uniq h h2') (by decide)
      · rcases h' with ⟨v, h'⟩ | ⟨-, h'⟩
        · exact absurd h' ((df_none w w).mp h v)
        · rcases h2 with h2 | ⟨h2, -⟩
          · exact absurd (sdv_uniq ((rs_vs w).2.2.mp h2) h') (by decide)
          · exact absurd (sdv_uniq ((rs_vs w).1.mp h2) h') (by decide)
      · rfl
