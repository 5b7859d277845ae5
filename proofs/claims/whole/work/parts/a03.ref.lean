/-! what a search finds: the least word by which outputs differ -/
/-- a run: from p on v to q, writing o -/
def rn : (T : mv_T) → Nat → List Nat → Nat → List Nat → Prop
  | _, p, [], q, o => p = q ∧ o = []
  | T, p, l :: v, q, o => ∃ e ∈ T.2.1, e.1 = p ∧ e.2.1 = l ∧ ∃ o', rn T e.2.2.1 v q o' ∧ o = e.2.2.2 ++ o'
theorem rn_app {T : mv_T} : ∀ {u v : List Nat} {p q s : Nat} {o o' : List Nat}, rn T p u q o → rn T q v s o' → rn T p (u ++ v) s (o ++ o')
  | [], v, p, q, s, o, o', h, h2 => by
    obtain ⟨rfl, rfl⟩ := h
    exact h2
  | l :: u, v, p, q, s, o, o', h, h2 => by
    obtain ⟨e, he, e1, e2, o1, h1, rfl⟩ := h
    exact ⟨e, he, e1, e2, o1 ++ o', rn_app h1 h2, by rw [List.append_assoc]⟩
theorem rn_split {T : mv_T} : ∀ {u v : List Nat} {p s : Nat} {o : List Nat}, rn T p (u ++ v) s o → ∃ q o1 o2, rn T p u q o1 ∧ rn T q v s o2 ∧ o = o1 ++ o2
  | [], v, p, s, o, h => ⟨p, [], o, ⟨rfl, rfl⟩, h, rfl⟩
  | l :: u, v, p, s, o, h => by
    obtain ⟨e, he, e1, e2, o1, h1, rfl⟩ := h
    obtain ⟨q, x, y, h3, h4, rfl⟩ := rn_split h1
    exact ⟨q, e.2.2.2 ++ x, y, ⟨e, he, e1, e2, x, h3, rfl⟩, h4, by rw [List.append_assoc]⟩
theorem rn_one {T : mv_T} {e : xe_T} (he : e ∈ T.2.1) : rn T e.1 [e.2.1] e.2.2.1 e.2.2.2 := ⟨e, he, rfl, rfl, [], ⟨rfl, rfl⟩, by simp⟩
/-- with these outputs still to come the two differ -/
def nd_C (n : ps_nd) (x y : List Nat) : Prop := n.2.2.1 = true ∨ n.2.2.2.1 ++ x ≠ n.2.2.2.2 ++ y
/-- a word by which outputs differ -/
def df (T1 T2 : mv_T) (S : List ps_nd) (v : List Nat) : Prop := ∃ s ∈ S, ∃ p q x y f g, rn T1 s.1 v p x ∧ rn T2 s.2.1 v q y ∧ T1.2.2.1 p = some f ∧ T2.2.2.1 q = some g ∧ nd_C s (x ++ f) (y ++ g)
theorem lcp_take : ∀ (u v : List Nat), u.take (lcpn u v) = v.take (lcpn u v)
  | [], v => by simp [lcpn]
  | x :: u, [] => by simp [lcpn]
  | x :: u, y :: v => by
    simp only [lcpn]
    split
    · next e => subst e; simp [lcp_take u v]
    · simp
theorem lcp_drop (u v x y : List Nat) : (u ++ x = v ++ y) ↔ (u.drop (lcpn u v) ++ x = v.drop (lcpn u v) ++ y) := by
  have key : ∀ k, u.take k = v.take k → ((u ++ x = v ++ y) ↔ (u.drop k ++ x = v.drop k ++ y)) := by
    intro k h
    have e1 : u ++ x = u.take k ++ (u.drop k ++ x) := by rw [← List.append_assoc, List.take_append_drop]
    have e2 : v ++ y = v.take k ++ (v.drop k ++ y) := by rw [← List.append_assoc, List.take_append_drop]
    rw [e1, e2, h]
    exact ⟨fun e => List.append_cancel_left e, fun e => by rw [e]⟩
  exact key _ (lcp_take u v)
theorem ap_ne {u v : List Nat} (h : ps_ap u v = true) (x y : List Nat) : u ++ x ≠ v ++ y := by
  simp only [ps_ap, ← lcpn_wd, Bool.and_eq_true, decide_eq_true_eq] at h
  intro e
  have h2 := lcpn_ne u v h.1 h.2
  have h3 : (u ++ x)[lcpn u v]? = (v ++ y)[lcpn u v]? := by rw [e]
  rw [List.getElem?_append_left h.1, List.getElem?_append_left h.2] at h3
  exact h2 h3
theorem go_C {n : ps_nd} {e f : xe_T} {x y : List Nat} : nd_C (xf_go n e f) x y ↔ nd_C n (e.2.2.2 ++ x) (f.2.2.2 ++ y) := by
  unfold nd_C xf_go
  cases c : n.2.2.1 with
  | true => simp [xf_mk]
  | false =>
    rw [← List.append_assoc, ← List.append_assoc]
    generalize n.2.2.2.1 ++ e.2.2.2 = u
    generalize n.2.2.2.2 ++ f.2.2.2 = v
    cases h : ps_ap u v with
    | true =>
      simp only [xf_mk, h, Bool.or_true, true_or, true_iff]
      exact Or.inr (ap_ne h x y)
    | false =>
      simp only [xf_mk, h, ps_cl, ps_cr, Bool.false_or, Bool.false_eq_true, if_false, false_or, ← lcpn_wd]
      exact not_congr (lcp_drop u v x y).symm
theorem two_C {n m : ps_nd} (hn : xn_ok n) (hm : xn_ok m) (hpq : xs_pq n m) (hne : n ≠ m) (x y : List Nat) : nd_C n x y ∨ nd_C m x y := by
  by_cases c : nd_C n x y
  · exact Or.inl c
  · right
    unfold nd_C at c ⊢
    rw [not_or] at c
    obtain ⟨c1, c2⟩ := c
    have c2 : n.2.2.2.1 ++ x = n.2.2.2.2 ++ y := Classical.not_not.mp c2
    by_cases d1 : m.2.2.1 = true
    · exact Or.inl d1
    · right
      intro d2
      apply hne
      obtain ⟨p, q, cl, u, v⟩ := n
      obtain ⟨p', q', cl', u', v'⟩ := m
      obtain ⟨-, -, -, h4, -⟩ := hn
      obtain ⟨-, -, -, h4', -⟩ := hm
      obtain ⟨e1, e2⟩ := hpq
      simp only at *
      have l1 := congrArg List.length c2
      have l2 := congrArg List.length d2
      simp only [List.length_append] at l1 l2
      have key : u = u' ∧ v = v' := by
        rcases h4 with rfl | rfl <;> rcases h4' with rfl | rfl
        · refine ⟨rfl, ?_⟩
          simp only [List.nil_append, List.length_nil] at *
          rw [c2] at d2
          exact List.append_inj_left d2 (by omega)
        · simp only [List.nil_append, List.length_nil] at *
          have a : v.length = 0 := by omega
          have b : u'.length = 0 := by omega
          rw [List.length_eq_zero_iff] at a b
          rw [a, b]; exact ⟨rfl, rfl⟩
        · simp only [List.nil_append, List.length_nil] at *
          have a : u.length = 0 := by omega
          have b : v'.length = 0 := by omega
          rw [List.length_eq_zero_iff] at a b
          rw [a, b]; exact ⟨rfl, rfl⟩
        · refine ⟨?_, rfl⟩
          simp only [List.nil_append, List.length_nil] at *
          rw [← d2] at c2
          exact List.append_inj_left c2 (by omega)
      obtain ⟨rfl, rfl⟩ := key
      have : cl = cl' := by cases cl <;> cases cl' <;> simp_all
      rw [e1, e2, this]
theorem vl_mono : ∀ (v : List Nat) {a b : List Nat}, vl a ≤ vl b → vl (a ++ v) ≤ vl (b ++ v)
  | [], a, b, h => by simpa using h
  | x :: v, a, b, h => by
    rw [List.append_cons a, List.append_cons b]
    exact vl_mono v (by rw [vl_app, vl_app]; omega)
theorem vl_ext : ∀ (v a : List Nat), vl a ≤ vl (a ++ v)
  | [], a => by simp
  | x :: v, a => by
    rw [List.append_cons a]
    exact Nat.le_trans (by rw [vl_app]; omega) (vl_ext v (a ++ [x]))
theorem ce_run {T1 T2 : mv_T} {c : Nat → Bool} (h : rk_is T1 T2 c) (w1 : tw T1 32) (w2 : tw T2 32) : ∀ {v : List Nat} {p q p' q' : Nat} {x y f g : List Nat}, p < 6 → q < 6 → rn T1 p v p' x → rn T2 q v q' y → T1.2.2.1 p' = some f → T2.2.2.1 q' = some g → c (6 * p + q) = true
  | [], p, q, p', q', x, y, f, g, hp, hq, r1, r2, h1, h2 => by
    obtain ⟨rfl, -⟩ := r1
    obtain ⟨rfl, -⟩ := r2
    exact h.1.1 p q hp hq (by rw [h1]; rfl) (by rw [h2]; rfl)
  | l :: v, p, q, p', q', x, y, f, g, hp, hq, r1, r2, h1, h2 => by
    obtain ⟨e, he, e1, e2, o1, k1, -⟩ := r1
    obtain ⟨e', he', e1', e2', o1', k1', -⟩ := r2
    have b1 := w1.2.2.1 e he
    have b2 := w2.2.2.1 e' he'
    have := ce_run h w1 w2 b1.2.2.1 b2.2.2.1 k1 k1' h1 h2
    have := h.1.2 e he e' he' (e2.trans e2'.symm) this
    rw [e1, e1'] at this
    exact this
theorem cov_C {c : Nat → Bool} {N : List xn_T} {B : Nat} {n : ps_nd} {x y : List Nat} (h : xs_cov c N B n) (hok : ∀ z ∈ N, xn_ok z.1) (hc : c (6 * n.1 + n.2.1) = true) (hC : nd_C n x y) : ∃ z ∈ N, xs_pq z.1 n ∧ z.2 ≤ B ∧ nd_C z.1 x y := by
  rcases h with h | ⟨z, h1, h2, h3⟩ | ⟨z, h1, h2, h3, h4⟩ | ⟨z, h1, z', h2, h3, h4, h5, h6, h7⟩
  · rw [hc] at h; cases h
  · exact ⟨z, h1, by rw [h2]; exact ⟨rfl, rfl⟩, h3, by rw [h2]; exact hC⟩
  · exact ⟨z, h1, h2, h4, Or.inl h3⟩
  · rcases two_C (hok z h1) (hok z' h2) ⟨h3.1.trans h4.1.symm, h3.2.trans h4.2.symm⟩ h5 x y with q | q
    · exact ⟨z, h1, h3, h6, q⟩
    · exact ⟨z', h2, h4, h7, q⟩
theorem ea_C {T1 T2 : mv_T} {n : ps_nd} : xn_ea T1 T2 n = true ↔ ∃ f g, T1.2.2.1 n.1 = some f ∧ T2.2.2.1 n.2.1 = some g ∧ nd_C n f g := by
  unfold xn_ea nd_C
  constructor
  · intro h
    simp only [Bool.and_eq_true, Bool.or_eq_true, Bool.not_eq_true', decide_eq_false_iff_not] at h
    obtain ⟨⟨h1, h2⟩, h3⟩ := h
    obtain ⟨f, hf⟩ := Option.isSome_iff_exists.mp h1
    obtain ⟨g, hg⟩ := Option.isSome_iff_exists.mp h2
    refine ⟨f, g, hf, hg, ?_⟩
    simp only [ps_fin, hf, hg, Option.getD_some] at h3
    exact h3
  · rintro ⟨f, g, hf, hg, h3⟩
    simp only [hf, hg, ps_fin, Option.isSome_some, Option.getD_some, Bool.and_true, Bool.true_and, Bool.or_eq_true, Bool.not_eq_true', decide_eq_false_iff_not]
    exact h3
/-- what a search finds -/
def xm_is (T1 T2 : mv_T) (S : List ps_nd) (b : Bool) (u : List Nat) : Prop := (b = false ∧ ∀ v, ¬ df T1 T2 S v) ∨ (b = true ∧ df T1 T2 S u ∧ ∀ v, df T1 T2 S v → vl u ≤ vl v)
theorem xs_min {T1 T2 : mv_T} {c : Nat → Bool} {S : List ps_nd} {N0 N : List xn_T} {W : List (List Nat)} {I : Nat → Int32} {A : Nat → Nat → Int32} {b : Bool} (h : rk_is T1 T2 c) (w1 : tw T1 32) (w2 : tw T2 32) (hS : ∀ s ∈ S, xn_ok s ∧ xs_cov c N0 0 s) (h0 : ∀ x ∈ N0, x.1 ∈ S ∧ x.2 = 0) (hw : xw_is I A W) (hend : xs_end T1 T2 c N0 I N W b) : ∃ k u, (b = true → I 41 = nI k) ∧ k < W.length ∧ W[k]? = some u ∧ xm_is T1 T2 S b u := by
  obtain ⟨-, -, hW0, -⟩ := id hw
  have hi : ∃ done, xs_i T1 T2 c N0 N W done := by
    rcases hend with ⟨-, q⟩ | ⟨-, done, k, q, -⟩
    · exact ⟨_, q⟩
    · exact ⟨_, q⟩
  obtain ⟨done0, a1, a2, a3, a4, a5, a6, a7, a8, a9⟩ := hi
  -- every node is come to
  have hsound : ∀ (m : Nat) (z : xn_T), z ∈ N → z.2 ≤ m → xn_ok z.1 ∧ ∃ s ∈ S, ∃ u x y, W[z.2]? = some u ∧ rn T1 s.1 u z.1.1 x ∧ rn T2 s.2.1 u z.1.2.1 y ∧ ∀ x' y', nd_C z.1 x' y' ↔ nd_C s (x ++ x') (y ++ y') := by
    intro m
    induction m with
    | zero =>
      intro z hz hm
      rcases a8 z hz with q | ⟨y, hy, l, u, e, f, q1, q2, q3, q4, q5, q6, q7, q8⟩
      · have := h0 z q
        exact ⟨(hS _ this.1).1, z.1, this.1, [], [], [], by rw [this.2]; exact hW0, ⟨rfl, rfl⟩, ⟨rfl, rfl⟩, fun _ _ => Iff.rfl⟩
      · omega
    | succ m ih =>
      intro z hz hm
      rcases a8 z hz with q | ⟨y, hy, l, u, e, f, q1, q2, q3, q4, q5, q6, q7, q8⟩
      · have := h0 z q
        exact ⟨(hS _ this.1).1, z.1, this.1, [], [], [], by rw [this.2]; exact hW0, ⟨rfl, rfl⟩, ⟨rfl, rfl⟩, fun _ _ => Iff.rfl⟩
      · obtain ⟨hok, s, hs, u', x, y', r1, r2, r3, r4⟩ := ih y hy (by omega)
        rw [q5] at r1
        have r1 := Option.some.inj r1
        subst r1
        obtain ⟨s1, s2, s3, s4⟩ := q4
        have b1 := w1.2.2.1 e q2
        have b2 := w2.2.2.1 f q3
        refine ⟨?_, s, hs, u ++ [l], x ++ e.2.2.2, y' ++ f.2.2.2, q6, ?_, ?_, fun x' y'' => ?_⟩
        · rw [q7]
          refine xf_ok b1.2.2.1 b2.2.2.1 (fun t ht => ?_) (fun t ht => ?_)
          · rcases List.mem_append.mp ht with q | q
            · exact hok.2.2.2.2.1 t q
            · exact b1.2.2.2.2 t q
          · rcases List.mem_append.mp ht with q | q
            · exact hok.2.2.2.2.2 t q
            · exact b2.2.2.2.2 t q
        · rw [q7]
          refine rn_app r2 ?_
          have := rn_one q2
          rw [s1, s3] at this
          exact this
        · rw [q7]
          refine rn_app r3 ?_
          have := rn_one q3
          rw [s2, s4] at this
          exact this
        · rw [q7, go_C, r4, List.append_assoc, List.append_assoc]
  have hok : ∀ z ∈ N, xn_ok z.1 := fun z hz => (hsound z.2 z hz (Nat.le_refl _)).1
  have hvm : ∀ (i j : Nat) (u v : List Nat), i ≤ j → W[i]? = some u → W[j]? = some v → vl u ≤ vl v := fun i j u v hij hu hv => by
    rcases Nat.lt_or_ge i j with q | q
    · exact Nat.le_of_lt (a4 i j u v q hu hv)
    · have e : i = j := by omega
      subst e
      rw [hu] at hv; cases hv; exact Nat.le_refl _
  -- from a node on
  have hcomp : ∀ (F : xn_T → Prop), (∀ z ∈ N, F z ∨ (xn_ea T1 T2 z.1 = false ∧ ∀ l, l < 3 → xs_cl T1 T2 c N W z l)) → ∀ (v : List Nat) (z : xn_T), z ∈ N → ∀ u p q x y f g, W[z.2]? = some u → rn T1 z.1.1 v p x → rn T2 z.1.2.1 v q y → T1.2.2.1 p = some f → T2.2.2.1 q = some g → nd_C z.1 (x ++ f) (y ++ g) → ∃ t ∈ N, F t ∧ ∃ u', W[t.2]? = some u' ∧ vl u' ≤ vl (u ++ v) := by
    intro F hF v
    induction v with
    | nil =>
      intro z hz u p q x y f g hu r1 r2 hf hg hC
      obtain ⟨rfl, rfl⟩ := r1
      obtain ⟨rfl, rfl⟩ := r2
      rcases hF z hz with k | ⟨k, -⟩
      · exact ⟨z, hz, k, u, hu, by simp⟩
      · rw [ea_C.mpr ⟨f, g, hf, hg, hC⟩] at k; cases k
    | cons l v ih =>
      intro z hz u p q x y f g hu r1 r2 hf hg hC
      rcases hF z hz with k | ⟨-, k⟩
      · exact ⟨z, hz, k, u, hu, vl_ext _ _⟩
      · obtain ⟨e, he, e1, e2, o1, k1, rfl⟩ := r1
        obtain ⟨e', he', e1', e2', o1', k1', rfl⟩ := r2
        have b1 := w1.2.2.1 e he
        have b2 := w2.2.2.1 e' he'
        obtain ⟨k', u2, c1, c2, c3⟩ := k l (by rw [← e2]; exact b1.2.1)
        rw [hu] at c1
        cases c1
        have hcov := c3 e he e' he' ⟨e1, e1', e2, e2'⟩
        have hct := ce_run h w1 w2 b1.2.2.1 b2.2.2.1 k1 k1' hf hg
        have hC2 : nd_C (xf_go z.1 e e') (o1 ++ f) (o1' ++ g) := by
          rw [go_C, ← List.append_assoc, ← List.append_assoc]; exact hC
        obtain ⟨z', hz', hpq, hle, hC3⟩ := cov_C hcov hok hct hC2
        have hz'l := a3 z' hz'
        obtain ⟨u3, hu3⟩ : ∃ u3, W[z'.2]? = some u3 := ⟨_, List.getElem?_eq_getElem hz'l⟩
        obtain ⟨t, ht, hFt, u4, hu4, hle4⟩ := ih z' hz' u3 p q o1 o1' f g hu3 (by rw [hpq.1]; exact k1) (by rw [hpq.2]; exact k1') hf hg hC3
        refine ⟨t, ht, hFt, u4, hu4, Nat.le_trans hle4 ?_⟩
        have := vl_mono v (hvm _ _ _ _ hle hu3 c2)
        rwa [List.append_assoc] at this
  have hmain : ∀ (F : xn_T → Prop), (∀ z ∈ N, F z ∨ (xn_ea T1 T2 z.1 = false ∧ ∀ l, l < 3 → xs_cl T1 T2 c N W z l)) → ∀ v, df T1 T2 S v → ∃ t ∈ N, F t ∧ ∃ u', W[t.2]? = some u' ∧ vl u' ≤ vl v := by
    rintro F hF v ⟨s, hs, p, q, x, y, f, g, r1, r2, hf, hg, hC⟩
    obtain ⟨sok, scov⟩ := hS s hs
    have hct := ce_run h w1 w2 sok.1 sok.2.1 r1 r2 hf hg
    obtain ⟨z, hz, hpq, hle, hC2⟩ := cov_C (xs_cov_m scov a9 (Nat.le_refl _)) hok hct hC
    have hz0 : z.2 = 0 := by omega
    obtain ⟨t, ht, hFt, u', hu', hle'⟩ := hcomp F hF v z hz [] p q x y f g (by rw [hz0]; exact hW0) (by rw [hpq.1]; exact r1) (by rw [hpq.2]; exact r2) hf hg hC2
    exact ⟨t, ht, hFt, u', hu', hle'⟩
  clear hcomp a5 a6 a7
  rcases hend with ⟨rfl, q⟩ | ⟨rfl, done, k, q, q1, q2, ⟨j, x, q3, q4, q5, q6⟩, q7⟩
  · refine ⟨0, [], (fun q => by cases q), (List.getElem?_eq_some_iff.mp hW0).1, hW0, Or.inl ⟨rfl, fun v hv => ?_⟩⟩
    have hcl : ∀ z ∈ N, False ∨ (xn_ea T1 T2 z.1 = false ∧ ∀ l, l < 3 → xs_cl T1 T2 c N W z l) := fun z hz => by
      obtain ⟨i, hi, e⟩ := List.mem_iff_getElem.mp hz
      exact Or.inr (q.2.2.2.2.2.2.1 i z hi (by rw [List.getElem?_eq_getElem hi, e]))
    obtain ⟨t, -, hF, -⟩ := hmain (fun _ => False) hcl v hv
    exact hF
  · obtain ⟨u, hu⟩ : ∃ u, W[k]? = some u := ⟨_, List.getElem?_eq_getElem q2⟩
    refine ⟨k, u, fun _ => q1, q2, hu, Or.inr ⟨rfl, ?_, fun v hv => ?_⟩⟩
    · obtain ⟨-, s, hs, u', x', y', r1, r2, r3, r4⟩ := hsound x.2 x (List.mem_of_getElem? q4) (Nat.le_refl _)
      rw [q5, hu] at r1
      cases r1
      obtain ⟨f, g, hf, hg, hC⟩ := ea_C.mp q6
      exact ⟨s, hs, _, _, x', y', f, g, r2, r3, hf, hg, (r4 f g).mp hC⟩
    · have hcl : ∀ z ∈ N, k ≤ z.2 ∨ (xn_ea T1 T2 z.1 = false ∧ ∀ l, l < 3 → xs_cl T1 T2 c N W z l) := fun z hz => by
        obtain ⟨i, hi, e⟩ := List.mem_iff_getElem.mp hz
        have hiz : N[i]? = some z := by rw [List.getElem?_eq_getElem hi, e]
        by_cases c2 : i < done
        · exact Or.inr (q.2.2.2.2.2.2.1 i z c2 hiz)
        · exact Or.inl (q7 i z (by omega) hiz)
      obtain ⟨t, ht, hF, u', hu', hle⟩ := hmain (fun z => k ≤ z.2) hcl v hv
      exact Nat.le_trans (hvm _ _ _ _ hF hu hu') hle
