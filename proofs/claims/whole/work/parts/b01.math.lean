/-! mathematics: residuals -/
theorem pk_mem {m : mv_T} {al p : Nat} {t : Nat} {w : List Nat} : ∀ k, (∃ e ∈ mv_pk m al p k, (mv_e m e).2.2.1 = t ∧ (mv_e m e).2.2.2 = w) ↔ ∃ e, e < k ∧ (mv_e m e).1 * 3 + (mv_e m e).2.1 = p ∧ mv_ae m al e = true ∧ (mv_e m e).2.2.1 = t ∧ (mv_e m e).2.2.2 = w
  | 0 => by
    constructor
    · rintro ⟨e, he, -⟩; simp [mv_pk] at he
    · rintro ⟨e, he, -⟩; omega
  | k + 1 => by
    have ih := pk_mem (m := m) (al := al) (p := p) (t := t) (w := w) k
    simp only [mv_pk]
    constructor
    · intro h
      split at h
      · next c =>
        obtain ⟨e, he, h1, h2⟩ := h
        rcases List.mem_append.mp he with q | q
        · obtain ⟨i, a1, a2⟩ := ih.mp ⟨e, q, h1, h2⟩
          exact ⟨i, by omega, a2⟩
        · simp at q
          subst q
          exact ⟨e, by omega, c.1, c.2.1, h1, h2⟩
      · obtain ⟨i, a1, a2⟩ := ih.mp h
        exact ⟨i, by omega, a2⟩
    · rintro ⟨e, he, a1, a2, a3, a4⟩
      by_cases ce : e = k
      · subst ce
        cases cl : mv_li m (mv_pk m al p e) e with
        | false =>
          rw [if_pos ⟨a1, a2, rfl⟩]
          exact ⟨e, by simp, a3, a4⟩
        | true =>
          rw [if_neg (fun q => by cases q.2.2)]
          unfold mv_li at cl
          obtain ⟨i, hi, hc⟩ := List.any_eq_true.mp cl
          simp only [Bool.and_eq_true, decide_eq_true_eq] at hc
          exact ⟨i, hi, hc.1.trans a3, hc.2.trans a4⟩
      · obtain ⟨i, hi, b1, b2⟩ := ih.mpr ⟨e, by omega, a1, a2, a3, a4⟩
        split
        · exact ⟨i, List.mem_append_left _ hi, b1, b2⟩
        · exact ⟨i, hi, b1, b2⟩
/-- the edges of a place are the useful edges there, doubles apart -/
theorem pl_mem {m : mv_T} (h : wf m) {p l t : Nat} {w : List Nat} (hl : l < 3) : (∃ e ∈ mv_pl m (al m) (p * 3 + l), (mv_e m e).2.2.1 = t ∧ (mv_e m e).2.2.2 = w) ↔ ∃ e ∈ (tk m).2.1, e.1 = p ∧ e.2.1 = l ∧ e.2.2.1 = t ∧ e.2.2.2 = w := by
  unfold mv_pl
  rw [pk_mem]
  constructor
  · rintro ⟨i, hi, a1, a2, a3, a4⟩
    rw [mv_e_get hi] at a1 a3 a4
    have hb := h.2.2.2.1 _ (List.getElem_mem hi)
    unfold mv_ae at a2
    rw [mv_e_get hi] at a2
    exact ⟨m.2.1[i], List.mem_filter.mpr ⟨List.getElem_mem hi, a2⟩, by omega, by omega, a3, a4⟩
  · rintro ⟨e, he, a1, a2, a3, a4⟩
    obtain ⟨hm, ha⟩ := List.mem_filter.mp he
    obtain ⟨i, hi, rfl⟩ := List.mem_iff_getElem.mp hm
    refine ⟨i, hi, ?_, ?_, ?_, ?_⟩
    · rw [mv_e_get hi, a1, a2]
    · unfold mv_ae; rw [mv_e_get hi]; exact ha
    · rw [mv_e_get hi]; exact a3
    · rw [mv_e_get hi]; exact a4
theorem rs_step {m : mv_T} (h : wf m) {x y : rs_nd} : y ∈ rs_nk m (al m) x 3 0 ↔ pd_st (tk m) x y := by
  have h1 : ∀ l, l < 3 → (y ∈ rs_nl m (al m) x l ↔ ∃ e ∈ (tk m).2.1, ∃ f ∈ (tk m).2.1, e.1 = x.1 ∧ f.1 = x.2.1 ∧ e.2.1 = l ∧ f.2.1 = l ∧ y = pd_go x e f) := by
    intro l hl
    unfold rs_nl rs_c2
    simp only [List.mem_flatMap, List.mem_map]
    constructor
    · rintro ⟨e, he, f, hf, rfl⟩
      obtain ⟨e', he', a1, a2, a3, a4⟩ := (pl_mem h hl).mp ⟨e, he, rfl, rfl⟩
      obtain ⟨f', hf', b1, b2, b3, b4⟩ := (pl_mem h hl).mp ⟨f, hf, rfl, rfl⟩
      refine ⟨e', he', f', hf', a1, b1, a2, b2, ?_⟩
      unfold rs_go pd_go pd_cut
      rw [a3, a4, b3, b4, lcpn_wd]
    · rintro ⟨e', he', f', hf', a1, b1, a2, b2, rfl⟩
      obtain ⟨e, he, c1, c2⟩ := (pl_mem h hl).mpr ⟨e', he', a1, a2, rfl, rfl⟩
      obtain ⟨f, hf, d1, d2⟩ := (pl_mem h hl).mpr ⟨f', hf', b1, b2, rfl, rfl⟩
      refine ⟨e, he, f, hf, ?_⟩
      unfold rs_go pd_go pd_cut
      rw [c1, c2, d1, d2, lcpn_wd]
  have e3 : rs_nk m (al m) x 3 0 = rs_nl m (al m) x 0 ++ (rs_nl m (al m) x 1 ++ (rs_nl m (al m) x 2 ++ [])) := rfl
  rw [e3, List.append_nil]
  simp only [List.mem_append]
  rw [h1 0 (by decide), h1 1 (by decide), h1 2 (by decide)]
  constructor
  · rintro (⟨e, he, f, hf, a1, a2, a3, a4, a5⟩ | ⟨e, he, f, hf, a1, a2, a3, a4, a5⟩ | ⟨e, he, f, hf, a1, a2, a3, a4, a5⟩) <;> exact ⟨e, he, f, hf, a1, a2, a3.trans a4.symm, a5⟩
  · rintro ⟨e, he, f, hf, a1, a2, a3, a4⟩
    have hl := (tk_tw h).2.2.1 e he
    have : e.2.1 = 0 ∨ e.2.1 = 1 ∨ e.2.1 = 2 := by omega
    rcases this with q | q | q
    · exact Or.inl ⟨e, he, f, hf, a1, a2, q, a3.symm.trans q, a4⟩
    · exact Or.inr (Or.inl ⟨e, he, f, hf, a1, a2, q, a3.symm.trans q, a4⟩)
    · exact Or.inr (Or.inr ⟨e, he, f, hf, a1, a2, q, a3.symm.trans q, a4⟩)
/-- what a part of a level does -/
def rx (bd : Nat) (R : pd_T → Prop) (S S' : rs_sT) : Prop :=
  (∃ ext, S'.1 = S.1 ++ ext ∧ ∀ y ∈ ext, R y ∧ ¬ pd_fr bd y) ∧ (S.1.Nodup → S'.1.Nodup) ∧ (S.1.length ≤ 3000 → S'.1.length ≤ 3000) ∧ (S.2.1 = true → S'.2.1 = true) ∧ (S'.2.1 = true → S.2.1 = true ∨ ∃ y, R y ∧ pd_fr bd y) ∧ (S.2.2 = true → S'.2.2 = true ∧ S'.1 = S.1) ∧ (S'.2.2 = true → S.2.2 = true ∨ (3000 ≤ S'.1.length ∧ ∃ y, R y ∧ ¬ pd_fr bd y ∧ y ∉ S'.1))
theorem rx.rf {bd : Nat} {R : pd_T → Prop} {S : rs_sT} : rx bd R S S := ⟨⟨[], by simp, by simp⟩, id, id, id, Or.inl, fun h => ⟨h, rfl⟩, Or.inl⟩
theorem rx.t {bd : Nat} {R : pd_T → Prop} {S S1 S2 : rs_sT} (h : rx bd R S S1) (h2 : rx bd R S1 S2) : rx bd R S S2 := by
  obtain ⟨⟨e1, a1, b1⟩, c1, d1, f1, g1, i1, j1⟩ := h
  obtain ⟨⟨e2, a2, b2⟩, c2, d2, f2, g2, i2, j2⟩ := h2
  refine ⟨⟨e1 ++ e2, by rw [a2, a1, List.append_assoc], fun y hy => ?_⟩, fun x => c2 (c1 x), fun x => d2 (d1 x), fun x => f2 (f1 x), fun x => ?_, fun x => ?_, fun x => ?_⟩
  · rcases List.mem_append.mp hy with q | q
    · exact b1 y q
    · exact b2 y q
  · rcases g2 x with q | q
    · exact g1 q
    · exact Or.inr q
  · obtain ⟨y1, y2⟩ := i1 x
    obtain ⟨z1, z2⟩ := i2 y1
    exact ⟨z1, z2.trans y2⟩
  · rcases j2 x with q | q
    · rcases j1 q with q1 | ⟨q1, y, q2, q3, q4⟩
      · exact Or.inl q1
      · have := (i2 q).2
        rw [this]
        exact Or.inr ⟨q1, y, q2, q3, q4⟩
    · exact Or.inr q
theorem rx.m {bd : Nat} {R R' : pd_T → Prop} {S S' : rs_sT} (h : rx bd R S S') (hR : ∀ y, R y → R' y) : rx bd R' S S' := by
  obtain ⟨⟨e1, a1, b1⟩, c1, d1, f1, g1, i1, j1⟩ := h
  refine ⟨⟨e1, a1, fun y hy => ⟨hR y (b1 y hy).1, (b1 y hy).2⟩⟩, c1, d1, f1, fun x => ?_, i1, fun x => ?_⟩
  · rcases g1 x with q | ⟨y, q1, q2⟩
    · exact Or.inl q
    · exact Or.inr ⟨y, hR y q1, q2⟩
  · rcases j1 x with q | ⟨q0, y, q1, q2⟩
    · exact Or.inl q
    · exact Or.inr ⟨q0, y, hR y q1, q2⟩
theorem rx.mem {bd : Nat} {R : pd_T → Prop} {S S' : rs_sT} (h : rx bd R S S') : ∀ x ∈ S.1, x ∈ S'.1 := by
  obtain ⟨⟨e1, a1, -⟩, -⟩ := h
  intro x hx; rw [a1]; exact List.mem_append_left _ hx
theorem rx.get {bd i : Nat} {R : pd_T → Prop} {S S' : rs_sT} {x : pd_T} (h : rx bd R S S') (hx : S.1[i]? = some x) : S'.1[i]? = some x := by
  obtain ⟨⟨e1, a1, -⟩, -⟩ := h
  rw [a1, List.getElem?_append_left (List.getElem?_eq_some_iff.mp hx).1]; exact hx
theorem rs_v_r {bd : Nat} {R : pd_T → Prop} {S : rs_sT} {n : rs_nd} (hR : R n) : rx bd R S (rs_v bd S n) ∧ (pd_fr bd n → (rs_v bd S n).2.1 = true) ∧ (¬ pd_fr bd n → n ∈ (rs_v bd S n).1 ∨ (rs_v bd S n).2.2 = true) := by
  obtain ⟨P, fa0, ma⟩ := S
  by_cases c : pd_fr bd n
  · have e : rs_v bd (P, fa0, ma) n = (P, true, ma) := if_pos c
    rw [e]
    exact ⟨⟨⟨[], by simp, by simp⟩, id, id, fun _ => rfl, fun _ => Or.inr ⟨n, hR, c⟩, fun h => ⟨h, rfl⟩, Or.inl⟩, fun _ => rfl, fun q => absurd c q⟩
  · have e : rs_v bd (P, fa0, ma) n = if ma then (P, fa0, ma) else ((rs_k (P, ma) n).1, fa0, (rs_k (P, ma) n).2) := if_neg c
    rw [e]
    cases ma with
    | true => exact ⟨rx.rf, fun q => absurd q c, fun _ => Or.inr rfl⟩
    | false =>
      simp only [Bool.false_eq_true, if_false]
      unfold rs_k
      by_cases c1 : n ∈ P
      · rw [if_pos c1]
        exact ⟨rx.rf, fun q => absurd q c, fun _ => Or.inl c1⟩
      · rw [if_neg c1]
        by_cases c2 : P.length < 3000
        · rw [if_pos c2]
          refine ⟨⟨⟨[n], rfl, fun y hy => ?_⟩, fun hd => ?_, fun _ => ?_, id, Or.inl, fun q => (by cases q), fun q => (by cases q)⟩, fun q => absurd q c, fun _ => Or.inl (by simp)⟩
          · simp at hy; subst hy; exact ⟨hR, c⟩
          · rw [List.nodup_append]
            refine ⟨hd, by simp, fun a ha b hb => ?_⟩
            simp at hb
            subst hb
            rintro rfl
            exact c1 ha
          · simp; omega
        · rw [if_neg c2]
          exact ⟨⟨⟨[], by simp, by simp⟩, id, id, id, Or.inl, fun q => (by cases q), fun _ => Or.inr ⟨by show 3000 ≤ P.length; omega, n, hR, c, c1⟩⟩, fun q => absurd q c, fun _ => Or.inr rfl⟩
theorem rs_fld_r {bd : Nat} {R : pd_T → Prop} (ns : List rs_nd) (S : rs_sT) (hR : ∀ n ∈ ns, R n) : rx bd R S (rs_fld bd S ns) ∧ ∀ n ∈ ns, (pd_fr bd n → (rs_fld bd S ns).2.1 = true) ∧ (¬ pd_fr bd n → n ∈ (rs_fld bd S ns).1 ∨ (rs_fld bd S ns).2.2 = true) := by
  have h := fold_r (rel := rx bd R) (fun _ => rx.rf) (fun _ _ _ => rx.t) (f := rs_v bd) ns S (fun _ n hn => (rs_v_r (hR n hn)).1)
  refine ⟨h.1, fun n hn => ?_⟩
  obtain ⟨b1, r1, r2⟩ := h.2 n hn
  have h3 := rs_v_r (bd := bd) (S := b1) (hR n hn)
  refine ⟨fun q => r2.2.2.2.1 (h3.2.1 q), fun q => ?_⟩
  rcases h3.2.2 q with z | z
  · exact Or.inl (r2.mem n z)
  · exact Or.inr (r2.2.2.2.2.2.1 z).1
theorem rs_in_r {m : mv_T} (hw : wf m) {bd : Nat} {P : List pd_T} : ∀ (k i : Nat) (S : rs_sT), i + k = P.length → (∀ (j : Nat) (x : pd_T), P[j]? = some x → S.1[j]? = some x) → rx bd (fun y => ∃ x ∈ P.drop i, pd_st (tk m) x y) S (rs_in m (al m) bd k i S) ∧ ((rs_in m (al m) bd k i S).2.1 = false → ∀ x ∈ P.drop i, ∀ y, pd_st (tk m) x y → ¬ pd_fr bd y ∧ (y ∈ (rs_in m (al m) bd k i S).1 ∨ (rs_in m (al m) bd k i S).2.2 = true))
  | 0, i, S, hi, hP => by
    refine ⟨rx.rf, fun _ x hx => ?_⟩
    rw [List.drop_of_length_le (by omega)] at hx
    cases hx
  | k + 1, i, S, hi, hP => by
    simp only [rs_in]
    cases c : S.2.1 with
    | true =>
      simp only [if_true]
      exact ⟨rx.rf, fun q => by rw [c] at q; cases q⟩
    | false =>
      simp only [Bool.false_eq_true, if_false]
      have hil : i < P.length := by omega
      obtain ⟨x, hx⟩ : ∃ x, P[i]? = some x := ⟨_, List.getElem?_eq_getElem hil⟩
      have hgn : rs_gn S i = x := by unfold rs_gn; rw [List.getD_eq_getElem?_getD, hP i x hx]; rfl
      rw [hgn]
      have hdr : P.drop i = x :: P.drop (i + 1) := by
        rw [List.drop_eq_getElem_cons hil, (List.getElem?_eq_some_iff.mp hx).2]
      obtain ⟨f1, f2⟩ := rs_fld_r (bd := bd) (R := fun y => ∃ x ∈ P.drop i, pd_st (tk m) x y) (rs_nk m (al m) x 3 0) S (fun n hn => ⟨x, by rw [hdr]; exact List.mem_cons_self, (rs_step hw).mp hn⟩)
      obtain ⟨g1, g2⟩ := rs_in_r hw (bd := bd) (P := P) k (i + 1) (rs_fld bd S (rs_nk m (al m) x 3 0)) (by omega) (fun j y hy => f1.get (hP j y hy))
      have g1' := g1.m (R' := fun y => ∃ x ∈ P.drop i, pd_st (tk m) x y) (fun y ⟨z, hz, hz2⟩ => ⟨z, by rw [hdr]; exact List.mem_cons_of_mem _ hz, hz2⟩)
      refine ⟨f1.t g1', fun hf z hz y hst => ?_⟩
      rw [hdr] at hz
      rcases List.mem_cons.mp hz with q | q
      · subst q
        obtain ⟨u1, u2⟩ := f2 y ((rs_step hw).mpr hst)
        have hnf : ¬ pd_fr bd y := fun q => by
          have := g1.2.2.2.1 (u1 q)
          rw [hf] at this; cases this
        refine ⟨hnf, ?_⟩
        rcases u2 hnf with q | q
        · exact Or.inl (g1.mem y q)
        · exact Or.inr (g1.2.2.2.2.2.1 q).1
      · exact g2 hf z q y hst
theorem rs_lv_vd {m : mv_T} (hw : wf m) {bd : Nat} : ∀ (k dn : Nat) (P : List pd_T), 3001 - dn ≤ k → ((dn < P.length ∧ sd_i (tk m) bd P dn) ∨ (dn = P.length ∧ vd (tk m) bd 1)) → ∃ v, vd (tk m) bd v ∧ ((rs_lv m (al m) bd k dn (P, false, false) = 0 ∧ v = 1) ∨ (rs_lv m (al m) bd k dn (P, false, false) = 1 ∧ v = 0) ∨ (rs_lv m (al m) bd k dn (P, false, false) = 2 ∧ v = 2))
  | 0, dn, P, hk, h => by
    rcases h with ⟨h1, kk, h2, h3, -⟩ | ⟨-, h⟩
    · omega
    · exact ⟨1, h, Or.inl ⟨rfl, rfl⟩⟩
  | k + 1, dn, P, hk, h => by
    simp only [rs_lv]
    rcases h with ⟨h1, h⟩ | ⟨h1, h⟩
    rotate_left
    · rw [if_neg (by omega)]
      exact ⟨1, h, Or.inl ⟨rfl, rfl⟩⟩
    rw [if_pos h1]
    obtain ⟨kk, a1, a2, a3, a4, a5⟩ := h
    obtain ⟨hr, hc⟩ := rs_in_r hw (bd := bd) (P := P) (P.length - dn) dn (P, false, false) (by omega) (fun _ _ q => q)
    generalize hS : rs_in m (al m) bd (P.length - dn) dn (P, false, false) = S at *
    obtain ⟨⟨ext, hext, hex2⟩, hnd, hln, -, hfar, -, hmany⟩ := id hr
    simp only at hext hnd hfar hln hmany
    have hln := hln a2
    have hdrop : ∀ x ∈ P.drop dn, lev (tk m) bd kk x := fun x hx => (a3 x).mp (List.mem_of_mem_drop hx)
    have hsplit : ∀ x ∈ P, x ∈ P.take dn ∨ x ∈ P.drop dn := fun x hx => by
      rw [← List.take_append_drop dn P] at hx
      exact List.mem_append.mp hx
    have hnew : ∀ x ∈ S.1, lev (tk m) bd (kk + 1) x := fun x hx => by
      rw [hext] at hx
      rcases List.mem_append.mp hx with q | q
      · exact Or.inl ((a3 x).mp q)
      · obtain ⟨⟨y, hy, hst⟩, hnf⟩ := hex2 x q
        exact Or.inr ⟨y, hdrop y hy, hst, hnf⟩
    cases cf : S.2.1 with
    | true =>
      simp only [if_true]
      refine ⟨0, ⟨kk, a5, Or.inl ⟨rfl, ?_⟩⟩, Or.inr (Or.inl ⟨by simp, rfl⟩)⟩
      rcases hfar cf with q | ⟨y, ⟨x, hx, hst⟩, hfr⟩
      · cases q
      · exact ⟨x, y, hdrop x hx, hst, hfr⟩
    | false =>
      simp only [Bool.false_eq_true, if_false]
      have hc := hc cf
      have hnof : ¬ levf (tk m) bd kk := by
        rintro ⟨x, y, hx, hst, hfr⟩
        rcases hsplit x ((a3 x).mpr hx) with q | q
        · exact (a4 x q y hst).2 hfr
        · exact (hc x q y hst).1 hfr
      cases cm : S.2.2 with
      | true =>
        simp only [if_true]
        refine ⟨2, ⟨kk, a5, Or.inr (Or.inl ⟨rfl, hnof, ?_⟩)⟩, Or.inr (Or.inr ⟨by simp, rfl⟩)⟩
        rintro ⟨L, hL, hL2⟩
        rcases hmany cm with q | ⟨q1, y, ⟨x, hx, hst⟩, hnf, hy⟩
        · cases q
        · have hy2 : lev (tk m) bd (kk + 1) y := Or.inr ⟨x, hdrop x hx, hst, hnf⟩
          have := sub_len (y :: S.1) L (List.nodup_cons.mpr ⟨hy, hnd a1⟩) (fun z hz => by
            rcases List.mem_cons.mp hz with q | q
            · subst q; exact hL2 _ hy2
            · exact hL2 z (hnew z q))
          simp only [List.length_cons] at this
          omega
      | false =>
        simp only [Bool.false_eq_true, if_false]
        have hall : ∀ x, lev (tk m) bd (kk + 1) x → x ∈ S.1 := by
          intro x hx
          rcases hx with q | ⟨y, hy, hst, hnf⟩
          · exact hr.mem x ((a3 x).mpr q)
          · rcases hsplit y ((a3 y).mpr hy) with q | q
            · exact hr.mem x (a4 y q x hst).1
            · rcases (hc y q x hst).2 with z | z
              · exact z
              · rw [cm] at z; cases z
        have hfw : few (lev (tk m) bd (kk + 1)) := ⟨S.1, hln, hall⟩
        have eS : S = (S.1, false, false) := Prod.ext rfl (Prod.ext cf cm)
        rw [eS]
        refine rs_lv_vd hw k P.length S.1 (by omega) ?_
        have hlen : S.1.length = P.length + ext.length := by rw [hext, List.length_append]
        by_cases c : ext = []
        · right
          rw [c, List.append_nil] at hext
          refine ⟨by rw [hext], kk, a5, Or.inr (Or.inr ⟨rfl, hnof, hfw, fun x hx => ?_⟩)⟩
          have := hall x hx
          rw [hext] at this
          exact (a3 x).mp this
        · left
          have hpos : 0 < ext.length := List.length_pos_iff.mpr c
          refine ⟨by omega, kk + 1, hnd a1, hln, fun x => ⟨hnew x, hall x⟩, fun x hx y hst => ?_, fun j hj => ?_⟩
          · rw [hext, List.take_left'] at hx
            · have hnf : ¬ pd_fr bd y := fun hfr => hnof ⟨x, y, (a3 x).mp hx, hst, hfr⟩
              exact ⟨hall y (Or.inr ⟨x, (a3 x).mp hx, hst, hnf⟩), hnf⟩
            · rfl
          · by_cases cj : j = kk
            · subst cj
              refine ⟨hnof, hfw, ?_⟩
              obtain ⟨z, hz⟩ := List.exists_mem_of_ne_nil ext c
              refine ⟨z, hnew z (by rw [hext]; exact List.mem_append_right _ hz), fun q => ?_⟩
              have h1 := hnd a1
              rw [hext, List.nodup_append] at h1
              exact h1.2.2 z ((a3 z).mpr q) z hz rfl
            · exact a5 j (by omega)
theorem so_mem {m : mv_T} {al : Nat} {e : Nat} : ∀ n, e ∈ mv_so m al n ↔ ∃ p, p < n ∧ e ∈ mv_pl m al p
  | 0 => by simp [mv_so]
  | n + 1 => by
    simp only [mv_so, List.mem_append, so_mem n]
    constructor
    · rintro (⟨p, h1, h2⟩ | h)
      · exact ⟨p, by omega, h2⟩
      · exact ⟨n, by omega, h⟩
    · rintro ⟨p, h1, h2⟩
      by_cases c : p = n
      · subst c; exact Or.inr h2
      · exact Or.inl ⟨p, by omega, h2⟩
theorem max_iff {g : Nat} {P : Nat → Prop} (h1 : P g) (h2 : ∀ x, P x → x ≤ g) {g' : Nat} (h1' : P g') (h2' : ∀ x, P x → x ≤ g') : g = g' := Nat.le_antisymm (h2' _ h1) (h2 _ h1')
/-- the lengths that longest words are looked for among -/
def lgP (T : mv_T) (x : Nat) : Prop := x = 1 ∨ x = T.2.2.2.length ∨ (∃ e ∈ T.2.1, x = e.2.2.2.length) ∨ ∃ q f, q < 6 ∧ T.2.2.1 q = some f ∧ x = f.length
theorem max_or {a b : Nat} : max a b = a ∨ max a b = b := by
  rcases Nat.le_total a b with h | h
  · exact Or.inr (Nat.max_eq_right h)
  · exact Or.inl (Nat.max_eq_left h)
theorem fold_max {α : Type} (f : α → Nat) : ∀ (l : List α) (g : Nat), (l.foldl (fun g e => max g (f e)) g = g ∨ ∃ e ∈ l, l.foldl (fun g e => max g (f e)) g = f e) ∧ g ≤ l.foldl (fun g e => max g (f e)) g ∧ ∀ e ∈ l, f e ≤ l.foldl (fun g e => max g (f e)) g
  | [], g => ⟨Or.inl rfl, Nat.le_refl _, fun e h => by cases h⟩
  | a :: l, g => by
    obtain ⟨h1, h2, h3⟩ := fold_max f l (max g (f a))
    rw [List.foldl_cons]
    refine ⟨?_, Nat.le_trans (Nat.le_max_left _ _) h2, fun e he => ?_⟩
    · rcases h1 with q | ⟨e, he, q⟩
      · rw [q]
        rcases max_or (a := g) (b := f a) with z | z
        · exact Or.inl z
        · exact Or.inr ⟨a, List.mem_cons_self, z⟩
      · exact Or.inr ⟨e, List.mem_cons_of_mem _ he, q⟩
    · rcases List.mem_cons.mp he with q | q
      · subst q; exact Nat.le_trans (Nat.le_max_right _ _) h2
      · exact h3 e q
theorem lgx_P {T : mv_T} : lgP T (lgx T) ∧ ∀ x, lgP T x → x ≤ lgx T := by
  obtain ⟨a1, a2, a3⟩ := fold_max (fun q => ((T.2.2.1 q).getD []).length) (List.range 6) (max 1 T.2.2.2.length)
  obtain ⟨b1, b2, b3⟩ := fold_max (fun (e : xe_T) => e.2.2.2.length) T.2.1 ((List.range 6).foldl (fun g q => max g ((T.2.2.1 q).getD []).length) (max 1 T.2.2.2.length))
  have h0 : 1 ≤ max 1 T.2.2.2.length := Nat.le_max_left _ _
  have h00 : T.2.2.2.length ≤ max 1 T.2.2.2.length := Nat.le_max_right _ _
  have hi : (List.range 6).foldl (fun g q => max g ((T.2.2.1 q).getD []).length) (max 1 T.2.2.2.length) ≤ lgx T := b2
  refine ⟨?_, fun x hx => ?_⟩
  · have hin : lgP T ((List.range 6).foldl (fun g q => max g ((T.2.2.1 q).getD []).length) (max 1 T.2.2.2.length)) := by
      rcases a1 with q | ⟨s, hs, q⟩
      · rw [q]
        rcases max_or (a := 1) (b := T.2.2.2.length) with z | z
        · exact Or.inl z
        · exact Or.inr (Or.inl z)
      · cases c : T.2.2.1 s with
        | some f =>
          have hl : ((T.2.2.1 s).getD []).length = f.length := by rw [c]; rfl
          exact Or.inr (Or.inr (Or.inr ⟨s, f, by simpa using hs, c, by rw [q]; exact hl⟩))
        | none =>
          exfalso
          have hl : ((T.2.2.1 s).getD []).length = 0 := by rw [c]; rfl
          have q : (List.range 6).foldl (fun g q => max g ((T.2.2.1 q).getD []).length) (max 1 T.2.2.2.length) = ((T.2.2.1 s).getD []).length := q
          omega
    rcases b1 with q | ⟨e, he, q⟩
    · have q : lgx T = _ := q
      rw [q]; exact hin
    · exact Or.inr (Or.inr (Or.inl ⟨e, he, q⟩))
  · rcases hx with q | q | ⟨e, he, q⟩ | ⟨s, f, hs, hf, q⟩
    · omega
    · omega
    · rw [q]; exact b3 e he
    · have := a3 s (by simpa using hs)
      simp only [hf, Option.getD_some] at this
      omega
theorem mv_l1_P {m : mv_T} {al : Nat} : ∀ i, i ≤ (mv_so m al 18).length → ((mv_l1 m al i = 1 ∨ mv_l1 m al i = m.2.2.2.length ∨ ∃ e ∈ mv_so m al 18, mv_l1 m al i = (mv_e m e).2.2.2.length) ∧ 1 ≤ mv_l1 m al i ∧ m.2.2.2.length ≤ mv_l1 m al i ∧ ∀ e ∈ (mv_so m al 18).take i, (mv_e m e).2.2.2.length ≤ mv_l1 m al i)
  | 0, _ => by
    simp only [mv_l1]
    refine ⟨?_, Nat.le_max_left _ _, Nat.le_max_right _ _, fun e he => by simp at he⟩
    rcases max_or (a := 1) (b := m.2.2.2.length) with z | z
    · exact Or.inl z
    · exact Or.inr (Or.inl z)
  | i + 1, hi => by
    obtain ⟨h1, h2, h3, h4⟩ := mv_l1_P i (by omega) (m := m) (al := al)
    have hil : i < (mv_so m al 18).length := by omega
    have hg : (mv_so m al 18).getD i 0 = (mv_so m al 18)[i] := by rw [List.getD_eq_getElem?_getD, List.getElem?_eq_getElem hil]; rfl
    simp only [mv_l1, hg]
    refine ⟨?_, Nat.le_trans h2 (Nat.le_max_left _ _), Nat.le_trans h3 (Nat.le_max_left _ _), fun e he => ?_⟩
    · rcases max_or (a := mv_l1 m al i) (b := (mv_e m (mv_so m al 18)[i]).2.2.2.length) with z | z
      · rw [z]; exact h1
      · exact Or.inr (Or.inr ⟨_, List.getElem_mem hil, z⟩)
    · rw [List.take_succ_eq_append_getElem hil] at he
      rcases List.mem_append.mp he with q | q
      · exact Nat.le_trans (h4 e q) (Nat.le_max_left _ _)
      · simp at q; subst q; exact Nat.le_max_right _ _
theorem lg_eq {m : mv_T} (h : wf m) : mv_lg m (mk_cl m) (al m) = lgx (tk m) := by
  obtain ⟨p1, p2⟩ := lgx_P (T := tk m)
  obtain ⟨b1, b2, b3, b4⟩ := mv_l1_P (m := m) (al := al m) (mv_so m (al m) 18).length (Nat.le_refl _)
  rw [List.take_length] at b4
  have hedge : ∀ x, (∃ e ∈ mv_so m (al m) 18, x = (mv_e m e).2.2.2.length) ↔ ∃ e ∈ (tk m).2.1, x = e.2.2.2.length := by
    intro x
    constructor
    · rintro ⟨e, he, rfl⟩
      obtain ⟨p, hp, he2⟩ := (so_mem 18).mp he
      obtain ⟨e', he', a1, a2, a3, a4⟩ := (pl_mem h (p := p / 3) (l := p % 3) (t := (mv_e m e).2.2.1) (w := (mv_e m e).2.2.2) (by omega)).mp ⟨e, by rw [show p / 3 * 3 + p % 3 = p by omega]; exact he2, rfl, rfl⟩
      exact ⟨e', he', by rw [a4]⟩
    · rintro ⟨e', he', rfl⟩
      have hb := (tk_tw h).2.2.1 e' he'
      obtain ⟨e, he, c1, c2⟩ := (pl_mem h (p := e'.1) (l := e'.2.1) hb.2.1).mpr ⟨e', he', rfl, rfl, rfl, rfl⟩
      exact ⟨e, (so_mem 18).mpr ⟨e'.1 * 3 + e'.2.1, by omega, he⟩, by rw [c2]⟩
  have key : ∀ q, q ≤ m.1 → (lgP (tk m) (mv_l2 m (mk_cl m) (al m) q) ∧ mv_l1 m (al m) (mv_so m (al m) 18).length ≤ mv_l2 m (mk_cl m) (al m) q ∧ ∀ s f, s < q → (tk m).2.2.1 s = some f → f.length ≤ mv_l2 m (mk_cl m) (al m) q) := by
    intro q
    induction q with
    | zero =>
      intro _
      simp only [mv_l2]
      refine ⟨?_, Nat.le_refl _, fun s f hs => absurd hs (Nat.not_lt_zero _)⟩
      rcases b1 with z | z | z
      · exact Or.inl z
      · exact Or.inr (Or.inl z)
      · exact Or.inr (Or.inr (Or.inl ((hedge _).mp z)))
    | succ q ih =>
      intro hq
      obtain ⟨i1, i2, i3⟩ := ih (by omega)
      have hq6 : q < 6 := by have := h.2.1; omega
      simp only [mv_l2]
      rw [cl_al h, decide_eq_true hq6, Bool.true_and]
      cases ca : (al m).testBit q with
      | false =>
        simp only [Bool.false_and, Bool.false_eq_true, if_false]
        refine ⟨i1, i2, fun s f hs hf => ?_⟩
        by_cases c : s = q
        · subst c
          have hf : (if (al m).testBit s then m.2.2.1 s else none) = some f := hf
          rw [ca] at hf; cases hf
        · exact i3 s f (by omega) hf
      | true =>
        cases cf : m.2.2.1 q with
        | none =>
          simp only [Bool.true_and, Option.isSome_none, Bool.false_eq_true, if_false]
          refine ⟨i1, i2, fun s f hs hf => ?_⟩
          by_cases c : s = q
          · subst c
            have hf : (if (al m).testBit s then m.2.2.1 s else none) = some f := hf
            rw [ca, cf] at hf; cases hf
          · exact i3 s f (by omega) hf
        | some g =>
          simp only [Bool.true_and, Option.isSome_some, if_true, Option.getD_some]
          have hg : (tk m).2.2.1 q = some g := by
            show (if (al m).testBit q then m.2.2.1 q else none) = some g
            rw [ca]; exact cf
          refine ⟨?_, Nat.le_trans i2 (Nat.le_max_left _ _), fun s f hs hf => ?_⟩
          · rcases max_or (a := mv_l2 m (mk_cl m) (al m) q) (b := g.length) with z | z
            · rw [z]; exact i1
            · exact Or.inr (Or.inr (Or.inr ⟨q, g, hq6, hg, z⟩))
          · by_cases c : s = q
            · subst c
              rw [hg] at hf
              cases hf
              exact Nat.le_max_right _ _
            · exact Nat.le_trans (i3 s f (by omega) hf) (Nat.le_max_left _ _)
  obtain ⟨k1, k2, k3⟩ := key m.1 (Nat.le_refl _)
  refine max_iff k1 (fun x hx => ?_) p1 p2
  show x ≤ mv_l2 m (mk_cl m) (al m) m.1
  rcases hx with q | q | q | ⟨s, f, hs, hf, q⟩
  · omega
  · have : x = m.2.2.2.length := q
    omega
  · obtain ⟨e, he, q2⟩ := (hedge x).mpr q
    have := b4 e he
    omega
  · by_cases c : s < m.1
    · have := k3 s f c hf; omega
    · have hf2 : (if (al m).testBit s then m.2.2.1 s else none) = some f := hf
      rw [h.2.2.2.2.1 s (by omega)] at hf2
      split at hf2 <;> cases hf2
/-- the verdicts agree -/
theorem rs_sdv {m : mv_T} (h : wf m) : ∃ v, sdv (tk m) v ∧ ((rs_ver m (mk_cl m) = 0 ∧ v = 1) ∨ (rs_ver m (mk_cl m) = 1 ∧ v = 0) ∨ (rs_ver m (mk_cl m) = 2 ∧ v = 2)) := by
  have e0 : (tk m).1 = al m := rfl
  have e1 : rs_bd m (mk_cl m) = lgm (tk m) := by unfold rs_bd lgm; rw [e0]; show _ = _ * _ * _; rw [← lg_eq h]
  unfold sdv rs_ver rs_s0
  rw [e0, e1]
  by_cases c : hp_cnt (al m) = 0
  · rw [if_neg (show ¬ 0 < hp_cnt (mv_al m (mk_cl m)) by show ¬ 0 < hp_cnt (al m); omega)]
    exact ⟨1, by rw [if_pos c], Or.inl ⟨rfl, rfl⟩⟩
  · rw [if_pos (show 0 < hp_cnt (mv_al m (mk_cl m)) by show 0 < hp_cnt (al m); omega)]
    obtain ⟨v, h1, h2⟩ := rs_lv_vd h (bd := lgm (tk m)) 3001 0 [(0, 0, [], [])] (by omega) (Or.inl ⟨by simp, 0, by simp, by simp, fun x => by simp [lev], fun x hx => (by simp at hx), fun j hj => absurd hj (Nat.not_lt_zero _)⟩)
    exact ⟨v, by rw [if_neg c]; exact h1, h2⟩
theorem sdv_uniq {T : mv_T} {v v' : Nat} (h : sdv T v) (h' : sdv T v') : v = v' := by
  unfold sdv at h h'
  split at h
  · next c => rw [if_pos c] at h'; omega
  · next c => rw [if_neg c] at h'; exact vd_uniq h h'
