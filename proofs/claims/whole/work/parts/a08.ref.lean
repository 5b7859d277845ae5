/-! the reference: stepPair, longest, steadiness, isSteady -/
def pd_go (x : pd_T) (e f : xe_T) : pd_T := pd_cut e.2.2.1 f.2.2.1 (x.2.2.1 ++ e.2.2.2) (x.2.2.2 ++ f.2.2.2)
def pd_fr (most : Nat) (x : pd_T) : Prop := most < x.2.2.1.length ∨ most < x.2.2.2.length
def sp_1 (most : Nat) (x : pd_T) (e : xe_T) (S : List pd_T × Nat) (f : xe_T) : List pd_T × Nat := if e.1 = x.1 ∧ f.1 = x.2.1 ∧ e.2.1 = f.2.1 then (pd_add most S.1 (pd_go x e f), S.2 + pd_far most (pd_go x e f)) else S
def sp_2 (most : Nat) (x : pd_T) (es : List xe_T) (S : List pd_T × Nat) (e : xe_T) : List pd_T × Nat := es.foldl (sp_1 most x e) S
def sp_3 (most : Nat) (es : List xe_T) (S : List pd_T × Nat) (x : pd_T) : List pd_T × Nat := es.foldl (sp_2 most x es) S
/-- a step of two ways by the same letter -/
def pd_st (T : mv_T) (x y : pd_T) : Prop := ∃ e ∈ T.2.1, ∃ f ∈ T.2.1, e.1 = x.1 ∧ f.1 = x.2.1 ∧ e.2.1 = f.2.1 ∧ y = pd_go x e f
def pd_r (most : Nat) (R : pd_T → Prop) (S S' : List pd_T × Nat) : Prop := (∃ ext, S'.1 = S.1 ++ ext ∧ ∀ y ∈ ext, R y ∧ ¬ pd_fr most y) ∧ (S.1.Nodup → S'.1.Nodup) ∧ S.2 ≤ S'.2 ∧ (S.2 < S'.2 → ∃ y, R y ∧ pd_fr most y)
theorem pd_r.rf {most : Nat} {R : pd_T → Prop} {S : List pd_T × Nat} : pd_r most R S S := ⟨⟨[], by simp, by simp⟩, id, Nat.le_refl _, fun h => absurd h (Nat.lt_irrefl _)⟩
theorem pd_r.t {most : Nat} {R : pd_T → Prop} {S S1 S2 : List pd_T × Nat} (h : pd_r most R S S1) (h2 : pd_r most R S1 S2) : pd_r most R S S2 := by
  obtain ⟨⟨e1, a1, b1⟩, c1, d1, f1⟩ := h
  obtain ⟨⟨e2, a2, b2⟩, c2, d2, f2⟩ := h2
  refine ⟨⟨e1 ++ e2, by rw [a2, a1, List.append_assoc], fun y hy => ?_⟩, fun x => c2 (c1 x), by omega, fun x => ?_⟩
  · rcases List.mem_append.mp hy with q | q
    · exact b1 y q
    · exact b2 y q
  · by_cases c : S.2 < S1.2
    · exact f1 c
    · exact f2 (by omega)
theorem pd_r.m {most : Nat} {R R' : pd_T → Prop} {S S' : List pd_T × Nat} (h : pd_r most R S S') (hR : ∀ y, R y → R' y) : pd_r most R' S S' := by
  obtain ⟨⟨e1, a1, b1⟩, c1, d1, f1⟩ := h
  exact ⟨⟨e1, a1, fun y hy => ⟨hR y (b1 y hy).1, (b1 y hy).2⟩⟩, c1, d1, fun x => by obtain ⟨y, z⟩ := f1 x; exact ⟨y, hR y z.1, z.2⟩⟩
theorem pd_r.mem {most : Nat} {R : pd_T → Prop} {S S' : List pd_T × Nat} (h : pd_r most R S S') : ∀ x ∈ S.1, x ∈ S'.1 := by
  obtain ⟨⟨e1, a1, -⟩, -⟩ := h
  intro x hx; rw [a1]; exact List.mem_append_left _ hx
theorem pd_r.len {most : Nat} {R : pd_T → Prop} {S S' : List pd_T × Nat} (h : pd_r most R S S') : S.1.length ≤ S'.1.length := by
  obtain ⟨⟨e1, a1, -⟩, -⟩ := h
  rw [a1, List.length_append]; omega
theorem pd_r.get {most i : Nat} {R : pd_T → Prop} {S S' : List pd_T × Nat} {x : pd_T} (h : pd_r most R S S') (hx : S.1[i]? = some x) : S'.1[i]? = some x := by
  obtain ⟨⟨e1, a1, -⟩, -⟩ := h
  rw [a1, List.getElem?_append_left (List.getElem?_eq_some_iff.mp hx).1]; exact hx
theorem sp_1_r {most : Nat} {T : mv_T} {x : pd_T} {S : List pd_T × Nat} {e f : xe_T} (he : e ∈ T.2.1) (hf : f ∈ T.2.1) : pd_r most (pd_st T x) S (sp_1 most x e S f) := by
  unfold sp_1
  split
  · next h =>
    have hR : pd_st T x (pd_go x e f) := ⟨e, he, f, hf, h.1, h.2.1, h.2.2, rfl⟩
    generalize pd_go x e f = y at *
    by_cases c : pd_fr most y
    · have e1 : pd_add most S.1 y = S.1 := if_pos c
      have e2 : pd_far most y = 1 := if_pos c
      rw [e1, e2]
      exact ⟨⟨[], by simp, by simp⟩, id, by simp, fun _ => ⟨y, hR, c⟩⟩
    · have e2 : pd_far most y = 0 := if_neg c
      have e3 : pd_add most S.1 y = if 3000 < S.1.length ∨ y ∈ S.1 then S.1 else S.1 ++ [y] := if_neg c
      rw [e2, Nat.add_zero, e3]
      split
      · exact pd_r.rf
      · next h2 =>
        refine ⟨⟨[y], rfl, fun z hz => ?_⟩, fun hd => ?_, Nat.le_refl _, fun q => absurd q (Nat.lt_irrefl _)⟩
        · simp at hz; subst hz; exact ⟨hR, c⟩
        · rw [List.nodup_append]
          refine ⟨hd, by simp, fun a ha b hb => ?_⟩
          simp at hb
          subst hb
          rintro rfl
          exact h2 (Or.inr ha)
  · exact pd_r.rf
theorem sp_2_r {most : Nat} {T : mv_T} {x : pd_T} {S : List pd_T × Nat} {e : xe_T} (he : e ∈ T.2.1) : pd_r most (pd_st T x) S (sp_2 most x T.2.1 S e) ∧ ∀ f ∈ T.2.1, ∃ b1, pd_r most (pd_st T x) S b1 ∧ pd_r most (pd_st T x) (sp_1 most x e b1 f) (sp_2 most x T.2.1 S e) :=
  fold_r (rel := pd_r most (pd_st T x)) (fun _ => pd_r.rf) (fun _ _ _ => pd_r.t) T.2.1 S (fun _ f hf => sp_1_r he hf)
theorem sp_3_r {most : Nat} {T : mv_T} {x : pd_T} {S : List pd_T × Nat} : pd_r most (pd_st T x) S (sp_3 most T.2.1 S x) ∧ ∀ y, pd_st T x y → (pd_fr most y → S.2 < (sp_3 most T.2.1 S x).2) ∧ (¬ pd_fr most y → (sp_3 most T.2.1 S x).1.length ≤ 3000 → y ∈ (sp_3 most T.2.1 S x).1) := by
  have h := fold_r (rel := pd_r most (pd_st T x)) (fun _ => pd_r.rf) (fun _ _ _ => pd_r.t) (f := sp_2 most x T.2.1) T.2.1 S (fun _ e he => (sp_2_r he).1)
  refine ⟨h.1, fun y hy => ?_⟩
  obtain ⟨e, he, f, hf, h1, h2, h3, rfl⟩ := hy
  obtain ⟨b1, r1, r2⟩ := h.2 e he
  obtain ⟨b2, r3, r4⟩ := (sp_2_r (most := most) (x := x) (S := b1) he).2 f hf
  have r5 := r1.t r3
  have r6 : pd_r most (pd_st T x) (sp_1 most x e b2 f) (sp_3 most T.2.1 S x) := r4.t r2
  have e1 : sp_1 most x e b2 f = (pd_add most b2.1 (pd_go x e f), b2.2 + pd_far most (pd_go x e f)) := by unfold sp_1; rw [if_pos ⟨h1, h2, h3⟩]
  rw [e1] at r6
  generalize pd_go x e f = y at *
  constructor
  · intro c
    have e2 : pd_far most y = 1 := if_pos c
    rw [e2] at r6
    have := r6.2.2.1
    have := r5.2.2.1
    simp only at *
    omega
  · intro c hl
    refine r6.mem y ?_
    have hl2 := r6.len
    simp only at hl2 ⊢
    have e3 : pd_add most b2.1 y = if 3000 < b2.1.length ∨ y ∈ b2.1 then b2.1 else b2.1 ++ [y] := if_neg c
    rw [e3] at hl2 ⊢
    split
    · next q =>
      rw [if_pos q] at hl2
      rcases q with q | q
      · omega
      · exact q
    · simp
/-- the residuals that words of at most k letters come to -/
def lev (T : mv_T) (most : Nat) : Nat → pd_T → Prop
  | 0, x => x = (0, 0, [], [])
  | k + 1, x => lev T most k x ∨ ∃ y, lev T most k y ∧ pd_st T y x ∧ ¬ pd_fr most x
def levf (T : mv_T) (most k : Nat) : Prop := ∃ x y, lev T most k x ∧ pd_st T x y ∧ pd_fr most y
def few (S : pd_T → Prop) : Prop := ∃ L : List pd_T, L.length ≤ 3000 ∧ ∀ x, S x → x ∈ L
/-- the verdict: 0 too long, 1 all within, 2 too many -/
def vd (T : mv_T) (most v : Nat) : Prop := ∃ k, (∀ j, j < k → ¬ levf T most j ∧ few (lev T most (j + 1)) ∧ ∃ x, lev T most (j + 1) x ∧ ¬ lev T most j x) ∧ ((v = 0 ∧ levf T most k) ∨ (v = 2 ∧ ¬ levf T most k ∧ ¬ few (lev T most (k + 1))) ∨ (v = 1 ∧ ¬ levf T most k ∧ few (lev T most (k + 1)) ∧ ∀ x, lev T most (k + 1) x → lev T most k x))
theorem vd_uniq {T : mv_T} {most v v' : Nat} (h : vd T most v) (h' : vd T most v') : v = v' := by
  obtain ⟨k, a, b⟩ := h
  obtain ⟨k', a', b'⟩ := h'
  have key : ∀ {k k' v : Nat}, k < k' → (∀ j, j < k' → ¬ levf T most j ∧ few (lev T most (j + 1)) ∧ ∃ x, lev T most (j + 1) x ∧ ¬ lev T most j x) → ((v = 0 ∧ levf T most k) ∨ (v = 2 ∧ ¬ levf T most k ∧ ¬ few (lev T most (k + 1))) ∨ (v = 1 ∧ ¬ levf T most k ∧ few (lev T most (k + 1)) ∧ ∀ x, lev T most (k + 1) x → lev T most k x)) → False := by
    intro k k' v hk ha hb
    obtain ⟨c1, c2, x, c3, c4⟩ := ha k hk
    rcases hb with ⟨-, q⟩ | ⟨-, -, q⟩ | ⟨-, -, -, q⟩
    · exact c1 q
    · exact q c2
    · exact c4 (q x c3)
  rcases Nat.lt_trichotomy k k' with q | q | q
  · exact absurd b (fun z => key q a' z)
  · subst q
    rcases b with ⟨e, q⟩ | ⟨e, q, q2⟩ | ⟨e, q, q2, q3⟩ <;> rcases b' with ⟨e', p⟩ | ⟨e', p, p2⟩ | ⟨e', p, p2, p3⟩ <;> first | omega | exact absurd p q | exact absurd q p | exact absurd p2 q2 | exact absurd q2 p2
  · exact absurd b' (fun z => key q a z)
theorem sub_len : ∀ (P L : List pd_T), P.Nodup → (∀ x ∈ P, x ∈ L) → P.length ≤ L.length
  | [], L, _, _ => Nat.zero_le _
  | x :: P, L, hd, h => by
    rw [List.nodup_cons] at hd
    have hx := h x List.mem_cons_self
    have := sub_len P (L.erase x) hd.2 (fun y hy => by
      have hne : y ≠ x := fun e => hd.1 (e ▸ hy)
      exact (List.mem_erase_of_ne hne).mpr (h y (List.mem_cons_of_mem _ hy)))
    have h2 := List.length_erase_of_mem hx
    have h3 := List.length_pos_of_mem hx
    simp only [List.length_cons]; omega
/-- one level -/
def sp_l (most : Nat) (es : List xe_T) (S : List pd_T × Nat) (xs : List pd_T) : List pd_T × Nat := xs.foldl (sp_3 most es) S
theorem sp_l_r {most : Nat} {T : mv_T} {xs : List pd_T} {S : List pd_T × Nat} : pd_r most (fun y => ∃ x ∈ xs, pd_st T x y) S (sp_l most T.2.1 S xs) ∧ ∀ x ∈ xs, ∀ y, pd_st T x y → (pd_fr most y → S.2 < (sp_l most T.2.1 S xs).2) ∧ (¬ pd_fr most y → (sp_l most T.2.1 S xs).1.length ≤ 3000 → y ∈ (sp_l most T.2.1 S xs).1) := by
  have h := fold_r (rel := pd_r most (fun y => ∃ x ∈ xs, pd_st T x y)) (fun _ => pd_r.rf) (fun _ _ _ => pd_r.t) (f := sp_3 most T.2.1) xs S (fun _ x hx => sp_3_r.1.m (fun y hy => ⟨x, hx, hy⟩))
  refine ⟨h.1, fun x hx y hy => ?_⟩
  obtain ⟨b1, r1, r2⟩ := h.2 x hx
  have h3 := (sp_3_r (most := most) (T := T) (x := x) (S := b1)).2 y hy
  constructor
  · intro c
    have q1 := h3.1 c
    have q2 := r1.2.2.1
    have q3 := r2.2.2.1
    exact Nat.lt_of_le_of_lt q2 (Nat.lt_of_lt_of_le q1 q3)
  · intro c hl
    exact r2.mem y (h3.2 c (Nat.le_trans r2.len hl))
/-- what holds at the head of the loop over the levels -/
def sd_i (T : mv_T) (most : Nat) (P : List pd_T) (done : Nat) : Prop := ∃ k, P.Nodup ∧ P.length ≤ 3000 ∧ (∀ x, x ∈ P ↔ lev T most k x) ∧ (∀ x ∈ P.take done, ∀ y, pd_st T x y → y ∈ P ∧ ¬ pd_fr most y) ∧ ∀ j, j < k → ¬ levf T most j ∧ few (lev T most (j + 1)) ∧ ∃ x, lev T most (j + 1) x ∧ ¬ lev T most j x
theorem sd_step {T : mv_T} {most done : Nat} {P : List pd_T} {S : List pd_T × Nat} (h : sd_i T most P done) (hd : done < P.length) (hS : S = sp_l most T.2.1 (P, 0) (P.drop done)) : (0 < S.2 → vd T most 0) ∧ (S.2 = 0 → 3000 < S.1.length → vd T most 2) ∧ (S.2 = 0 → S.1.length ≤ 3000 → (S.1.length = P.length ∧ vd T most 1) ∨ (P.length < S.1.length ∧ sd_i T most S.1 P.length)) := by
  obtain ⟨k, a1, a2, a3, a4, a5⟩ := h
  obtain ⟨hr, hc⟩ := sp_l_r (most := most) (T := T) (xs := P.drop done) (S := (P, 0))
  rw [← hS] at hr hc
  obtain ⟨⟨ext, hext, hex2⟩, hnd, hle, hfar⟩ := id hr
  simp only at hext hnd hfar hle
  have hdrop : ∀ x ∈ P.drop done, lev T most k x := fun x hx => (a3 x).mp (List.mem_of_mem_drop hx)
  have hsplit : ∀ x ∈ P, x ∈ P.take done ∨ x ∈ P.drop done := fun x hx => by
    rw [← List.take_append_drop done P] at hx
    exact List.mem_append.mp hx
  have hnew : ∀ x ∈ S.1, lev T most (k + 1) x := fun x hx => by
    rw [hext] at hx
    rcases List.mem_append.mp hx with q | q
    · exact Or.inl ((a3 x).mp q)
    · obtain ⟨⟨y, hy, hst⟩, hnf⟩ := hex2 x q
      exact Or.inr ⟨y, hdrop y hy, hst, hnf⟩
  have hnof : S.2 = 0 → ¬ levf T most k := by
    rintro h0 ⟨x, y, hx, hst, hfr⟩
    rcases hsplit x ((a3 x).mpr hx) with q | q
    · exact (a4 x q y hst).2 hfr
    · have := (hc x q y hst).1 hfr
      simp only at this; omega
  have hall : S.1.length ≤ 3000 → ∀ x, lev T most (k + 1) x → x ∈ S.1 := by
    intro hl x hx
    rcases hx with q | ⟨y, hy, hst, hnf⟩
    · exact hr.mem x ((a3 x).mpr q)
    · rcases hsplit y ((a3 y).mpr hy) with q | q
      · exact hr.mem x (a4 y q x hst).1
      · exact (hc y q x hst).2 hnf hl
  refine ⟨fun h0 => ?_, fun h0 hl => ?_, fun h0 hl => ?_⟩
  · obtain ⟨y, ⟨x, hx, hst⟩, hfr⟩ := hfar h0
    exact ⟨k, a5, Or.inl ⟨rfl, x, y, hdrop x hx, hst, hfr⟩⟩
  · refine ⟨k, a5, Or.inr (Or.inl ⟨rfl, hnof h0, ?_⟩)⟩
    rintro ⟨L, hL, hL2⟩
    have := sub_len S.1 L (hnd a1) (fun x hx => hL2 x (hnew x hx))
    omega
  · have hfw : few (lev T most (k + 1)) := ⟨S.1, hl, hall hl⟩
    have hlen : S.1.length = P.length + ext.length := by rw [hext, List.length_append]
    by_cases c : ext = []
    · left
      rw [c, List.append_nil] at hext
      refine ⟨by rw [hext], k, a5, Or.inr (Or.inr ⟨rfl, hnof h0, hfw, fun x hx => ?_⟩)⟩
      have := hall hl x hx
      rw [hext] at this
      exact (a3 x).mp this
    · right
      have hpos : 0 < ext.length := List.length_pos_iff.mpr c
      refine ⟨by omega, k + 1, hnd a1, hl, fun x => ⟨hnew x, hall hl x⟩, fun x hx y hst => ?_, fun j hj => ?_⟩
      · rw [hext, List.take_left'] at hx
        · have hnf : ¬ pd_fr most y := fun hfr => hnof h0 ⟨x, y, (a3 x).mp hx, hst, hfr⟩
          exact ⟨hall hl y (Or.inr ⟨x, (a3 x).mp hx, hst, hnf⟩), hnf⟩
        · rfl
      · by_cases cj : j = k
        · subst cj
          refine ⟨hnof h0, hfw, ?_⟩
          obtain ⟨z, hz⟩ := List.exists_mem_of_ne_nil ext c
          refine ⟨z, hnew z (by rw [hext]; exact List.mem_append_right _ hz), fun q => ?_⟩
          have h1 := hnd a1
          rw [hext, List.nodup_append] at h1
          exact h1.2.2 z ((a3 z).mpr q) z hz rfl
        · exact a5 j (by omega)
/-- the longest word -/
def lgx (T : mv_T) : Nat := T.2.1.foldl (fun g e => max g e.2.2.2.length) ((List.range 6).foldl (fun g q => max g ((T.2.2.1 q).getD []).length) (max 1 T.2.2.2.length))
def lgm (T : mv_T) : Nat := hp_cnt T.1 * hp_cnt T.1 * lgx T
def sdv (T : mv_T) (v : Nat) : Prop := if hp_cnt T.1 = 0 then v = 1 else vd T (lgm T) v
set_option maxRecDepth 100000 in
set_option maxHeartbeats 4000000 in
theorem c_Mod_stepPair {w : rz_w} {d : Nat} {G : rz_G} {a : Nat} {I : Nat → Int32} {A : Nat → Nat → Int32} {T : mv_T} {c most : Nat} {P : List pd_T} {x : pd_T} (t : re_t A 0 T) (w1 : tw T 3) (hP : pd_is I A P) (hm : I 64 = nI most) (hm2 : most ≤ 108) (hx : P[c]? = some x) : rz_C w (d + 2) 0 0 y_Mod_stepPair m_Mod_stepPair [.ref a, .int (nI c)] (re_put G a I A) (fun (r : Option Value) (G' : rz_G) => r = some (.int (nI (sp_3 most T.2.1 (P, 0) x).2)) ∧ (sp_3 most T.2.1 (P, 0) x).2 ≤ 576 ∧ ∃ I' A', G' = re_put G a I' A' ∧ fi [26, 27, 58] I I' ∧ fa [28, 29, 59, 60, 61, 62, 63] A A' ∧ pd_is I' A' (sp_3 most T.2.1 (P, 0) x).1) := by
  generalize hQ : (fun (r : Option Value) (G' : rz_G) => r = some (.int (nI (sp_3 most T.2.1 (P, 0) x).2)) ∧ (sp_3 most T.2.1 (P, 0) x).2 ≤ 576 ∧ ∃ I' A', G' = re_put G a I' A' ∧ fi [26, 27, 58] I I' ∧ fa [28, 29, 59, 60, 61, 62, 63] A A' ∧ pd_is I' A' (sp_3 most T.2.1 (P, 0) x).1) = Q
  have hl := w1.2.1
  have hcl := (List.getElem?_eq_some_iff.mp hx).1
  have hPl := hP.2.1
  have el : ∀ (j e : Nat) (S : List pd_T × Nat) (I1 : Nat → Int32) (A1 : Nat → Nat → Int32) (z4 z5 : Option Value), e + j = T.2.1.length → S = (T.2.1.take e).foldl (sp_2 most x T.2.1) (P, 0) → S.2 ≤ 24 * e → fi [26, 27, 58] I I1 → fa [28, 29, 59, 60, 61, 62, 63] A A1 → pd_is I1 A1 S.1 → S.1[c]? = some x → rz_T w (d + 2) 0 0 m_Mod_stepPair 0 0 4 [some (.ref a), some (.int (nI c)), some (.int (nI S.2)), some (.int (nI e)), z4, z5] [] (re_put G a I1 A1) Q := by
    intro j
    induction j with
    | zero =>
      intro e S I1 A1 z4 z5 hej hS hS2 ki ka kp kx
      obtain ⟨-, r2, -⟩ := re_t_fa t ka rfl
      have he : e = T.2.1.length := by omega
      rw [he, List.take_length] at hS
      have hS' : (sp_3 most T.2.1 (P, 0) x) = S := hS.symm
      refine rz_blk' [(.iload_n 3, 1, 0, 0), (.aload_n 0, 1, 0, 0), (.getfield 50, 3, 10, 15), (.iconst 0, 1, 0, 0), (.iaload, 1, 0, 0), (.if_icmp .ge 219, 3, 0, 0)] (by decide +kernel) (Nat.le_refl _) (Nat.le_refl _) (fun K R hK hR => ?_)
      simp only [rw_c0, ↓rx_aload_n0, ↓rx_getfield, ↓rx_iaload, ↓rx_iconst, ↓rx_if_icmp_ge, ↓rx_iload_n3, ↓rx_nil, ↓ry_i2, ↓ry_iau, ↓ry_li0s, ↓ry_li0z, ↓ry_lr0s, ↓ry_lr0z, ↓ry_obu, ↓ry_r1, ↓ry_ri, true_and, re_a15, ↓re_F15, ↓re_i15, ↓re_ob, r2, rz_set, rz_nol, rz_clr, List.set_cons_zero, List.set_cons_succ, rz_tr, Nat.reduceAdd, Int.reduceAdd, Int.reduceToNat, Int.reduceSub, Int.reduceNeg, Int.cast_ofNat_Int]
      try simp (disch := omega) only [r2, pk_us, pk_un, va_up_self, va_up_ne, nI_add, pk_mul, nI_clamp, vp_inT, nI_ltI, nI_leI, nI_eqI, pk_sub, true_and, and_true]
      refine ⟨fun q1 => hK _ _ _ _ ?_, fun q1 => by omega⟩
      refine rz_blk' [(.iload_n 2, 1, 0, 0), (.ireturn, 1, 0, 0)] (by decide +kernel) (Nat.le_refl _) (Nat.le_refl _) (fun K R hK hR => ?_)
      simp only [↓rx_iload_n2, ↓rx_ireturn, ↓rx_nil, ↓ry_li0s, ↓ry_li0z, r2, rz_set, rz_nol, rz_clr, List.set_cons_zero, List.set_cons_succ, rz_tr, Nat.reduceAdd, Int.reduceAdd, Int.reduceToNat, Int.reduceSub, Int.reduceNeg, Int.cast_ofNat_Int]
      try simp (disch := omega) only [r2, pk_us, pk_un, va_up_self, va_up_ne, nI_add, pk_mul, nI_clamp, vp_inT, nI_ltI, nI_leI, nI_eqI, pk_sub, true_and, and_true]
      refine hR _ _ (rz_nb_i (by decide)) ?_
      rw [← hQ, hS']
      exact ⟨rfl, by omega, _, _, rfl, ki, ka, kp⟩
    | succ j ihe =>
      intro e S0 I0 A0 z4 z5 hej hS0 hS02 ki0 ka0 kp0 kx0
      have heT : e < T.2.1.length := by omega
      obtain ⟨-, r2, -⟩ := re_t_fa t ka0 rfl
      have fl : ∀ (j f : Nat) (S : List pd_T × Nat) (I1 : Nat → Int32) (A1 : Nat → Nat → Int32) (z5 : Option Value), f + j = T.2.1.length → S = (T.2.1.take f).foldl (sp_1 most x T.2.1[e]) S0 → S.2 ≤ 24 * e + f → fi [26, 27, 58] I I1 → fa [28, 29, 59, 60, 61, 62, 63] A A1 → pd_is I1 A1 S.1 → S.1[c]? = some x → rz_T w (d + 2) 0 0 m_Mod_stepPair 0 0 17 [some (.ref a), some (.int (nI c)), some (.int (nI S.2)), some (.int (nI e)), some (.int (nI f)), z5] [] (re_put G a I1 A1) Q := by
        intro j
        induction j with
        | zero =>
          intro f S I1 A1 z5 hfj hS hS2 ki ka kp kx
          obtain ⟨-, r2, -⟩ := re_t_fa t ka rfl
          have hf : f = T.2.1.length := by omega
          rw [hf, List.take_length] at hS
          refine rz_blk' [(.iload 4, 2, 0, 0), (.aload_n 0, 1, 0, 0), (.getfield 50, 3, 10, 15), (.iconst 0, 1, 0, 0), (.iaload, 1, 0, 0), (.if_icmp .ge 199, 3, 0, 0)] (by decide +kernel) (Nat.le_refl _) (Nat.le_refl _) (fun K R hK hR => ?_)
          simp only [rw_c0, ↓rx_aload_n0, ↓rx_getfield, ↓rx_iaload, ↓rx_iconst, ↓rx_if_icmp_ge, ↓rx_iload, ↓rx_nil, ↓ry_i2, ↓ry_iau, ↓ry_li0s, ↓ry_li0z, ↓ry_lr0s, ↓ry_lr0z, ↓ry_obu, ↓ry_r1, ↓ry_ri, true_and, re_a15, ↓re_F15, ↓re_i15, ↓re_ob, r2, rz_set, rz_nol, rz_clr, List.set_cons_zero, List.set_cons_succ, rz_tr, Nat.reduceAdd, Int.reduceAdd, Int.reduceToNat, Int.reduceSub, Int.reduceNeg, Int.cast_ofNat_Int]
          try simp (disch := omega) only [r2, pk_us, pk_un, va_up_self, va_up_ne, nI_add, pk_mul, nI_clamp, vp_inT, nI_ltI, nI_leI, nI_eqI, pk_sub, true_and, and_true]
          refine ⟨fun q2 => hK _ _ _ _ ?_, fun q2 => by omega⟩
          refine rz_blk' [(.iinc 3 1, 3, 0, 0)] (by decide +kernel) (Nat.le_refl _) (Nat.le_refl _) (fun K R hK hR => ?_)
          simp only [rw_c1, ↓rx_iinc, ↓rx_nil, ↓ry_li0s, ↓ry_li0z, r2, rz_set, rz_nol, rz_clr, List.set_cons_zero, List.set_cons_succ, rz_tr, Nat.reduceAdd, Int.reduceAdd, Int.reduceToNat, Int.reduceSub, Int.reduceNeg, Int.cast_ofNat_Int]
          try simp (disch := omega) only [r2, pk_us, pk_un, va_up_self, va_up_ne, nI_add, pk_mul, nI_clamp, vp_inT, nI_ltI, nI_leI, nI_eqI, pk_sub, true_and, and_true]
          refine hK _ _ _ _ ?_
          refine rz_blk' [(.goto (-223), 3, 0, 0)] (by decide +kernel) (Nat.le_refl _) (Nat.le_refl _) (fun K R hK hR => ?_)
          simp only [↓rx_goto, ↓rx_nil, r2, rz_set, rz_nol, rz_clr, List.set_cons_zero, List.set_cons_succ, rz_tr, Nat.reduceAdd, Int.reduceAdd, Int.reduceToNat, Int.reduceSub, Int.reduceNeg, Int.cast_ofNat_Int]
          try simp (disch := omega) only [r2, pk_us, pk_un, va_up_self, va_up_ne, nI_add, pk_mul, nI_clamp, vp_inT, nI_ltI, nI_leI, nI_eqI, pk_sub, true_and, and_true]
          refine hK _ _ _ _ ?_
          refine ihe (e + 1) S I1 A1 _ _ (by omega) ?_ (by omega) ki ka kp kx
          rw [foldl_take _ _ _ heT, ← hS0, hS]; rfl
        | succ j ihf =>
          intro f S I1 A1 z5 hfj hS hS2 ki ka kp kx
          have t' := re_t_fa t ka rfl
          obtain ⟨-, r2, u3, -⟩ := id t'
          have hfT : f < T.2.1.length := by omega
          obtain ⟨a1, a2, a3, a4, a5⟩ := u3 e heT
          obtain ⟨b1, b2, b3, b4, b5⟩ := u3 f hfT
          rw [Nat.mul_zero, Nat.zero_add] at a1 a2 a3 a4 a5 b1 b2 b3 b4 b5
          obtain ⟨x1, x2, x3, x4, x5⟩ := tw_e w1 heT
          obtain ⟨y1, y2, y3, y4, y5⟩ := tw_e w1 hfT
          obtain ⟨⟨p1, p2, p3, p4⟩, ⟨o1, o2, o3, o4, o5, o6⟩, -⟩ := kp.2.2.1 c x kx
          have hSl := kp.2.1
          have hz6 : (nI 6 = 0) = False := by decide
          have hz256 : (nI 256 = 0) = False := by decide
          have d1 : nI (6 * x.1 + x.2.1) / nI 6 = nI x.1 := by rw [nI_div (by omega) (by decide) (by decide)]; congr 1; omega
          have d2 : nI (6 * x.1 + x.2.1) - nI x.1 * nI 6 = nI x.2.1 := by rw [← d1, nI_rem (by omega) (by decide) (by decide)]; congr 1; omega
          have d3 : nI (256 * x.2.2.1.length + x.2.2.2.length) / nI 256 = nI x.2.2.1.length := by rw [nI_div (by omega) (by decide) (by decide)]; congr 1; omega
          have d4 : nI (256 * x.2.2.1.length + x.2.2.2.length) - nI x.2.2.1.length * nI 256 = nI x.2.2.2.length := by rw [← d3, nI_rem (by omega) (by decide) (by decide)]; congr 1; omega
          have d4' : 256 * x.2.2.1.length + x.2.2.2.length - x.2.2.1.length * 256 = x.2.2.2.length := by omega
          have hstep : (T.2.1.take (f + 1)).foldl (sp_1 most x T.2.1[e]) S0 = sp_1 most x T.2.1[e] S T.2.1[f] := by rw [foldl_take _ _ _ hfT, hS]
          have m64 : I1 64 = nI most := by rw [ki 64 rfl]; exact hm
          have hm2' : most ≤ 108 := hm2
          have hfo : ∀ (I3 : Nat → Int32) (A3 : Nat → Nat → Int32), T.2.1[e].1 = x.1 → T.2.1[f].1 = x.2.1 → T.2.1[e].2.1 = T.2.1[f].2.1 → fi [26, 27] I1 I3 → fa [28, 29] A1 A3 → re_12 I3 A3 x.2.2.1 x.2.2.2 → rz_T w (d + 2) 0 0 m_Mod_stepPair 0 0 168 [some (.ref a), some (.int (nI c)), some (.int (nI S.2)), some (.int (nI e)), some (.int (nI f)), some (.int (nI 120))] [] (re_put G a I3 A3) Q := by
            intro I3 A3 s1 s2 s3 i3 a3' h12
            have e19 := a3' 19 rfl
            have e20 := a3' 20 rfl
            have hm1 := c_Mod_moreOne (w := w) (d := d + 1) (G := G) (a := a) (o := 32 * e) h12 (by omega) (by rw [e20]; exact a5) x5 (by omega)
            refine rz_blk' [(.aload_n 0, 1, 0, 0), (.bipush 32, 2, 0, 0), (.iload_n 3, 1, 0, 0), (.imul, 1, 0, 0), (.aload_n 0, 1, 0, 0), (.getfield 62, 3, 10, 19), (.iload_n 3, 1, 0, 0), (.iaload, 1, 0, 0)] (by decide +kernel) (Nat.le_refl _) (Nat.le_refl _) (fun K R hK hR => ?_)
            simp only [rw_b32, ↓rx_aload_n0, ↓rx_bipush, ↓rx_getfield, ↓rx_iaload, ↓rx_iload_n3, ↓rx_imul, ↓rx_nil, ↓ry_i2, ↓ry_iau, ↓ry_li0s, ↓ry_li0z, ↓ry_lr0s, ↓ry_lr0z, ↓ry_obu, ↓ry_r1, ↓ry_ri, true_and, re_a19, ↓re_F19, ↓re_i19, ↓re_ob, e19, a4, rz_set, rz_nol, rz_clr, List.set_cons_zero, List.set_cons_succ, rz_tr, Nat.reduceAdd, Int.reduceAdd, Int.reduceToNat, Int.reduceSub, Int.reduceNeg, Int.cast_ofNat_Int]
            try simp (disch := omega) only [e19, a4, pk_us, pk_un, va_up_self, va_up_ne, nI_add, pk_mul, nI_clamp, vp_inT, nI_ltI, nI_leI, nI_eqI, pk_sub, true_and, and_true]
            refine hK _ _ _ _ ?_
            refine rz_cV (As := [.int (nI (32 * e)), .int (nI T.2.1[e].2.2.2.length)]) (b := a) (S := []) l_Mod_273 (by decide +kernel) rfl re_at0 rfl (Nat.le_of_ble_eq_true rfl) (Nat.le_refl _) (Nat.le_refl _) (hm1) (fun r G' hr => ?_)
            obtain ⟨rfl, I4, A4, rfl, i4, a4', k4⟩ := hr
            simp only [Option.toList, List.nil_append]
            have i5 : fi [26, 27] I1 I4 := i3.t i4 rfl
            have a5' : fa [28, 29] A1 A4 := a3'.t a4' rfl
            have f19 := a5' 19 rfl
            have f20 := a5' 20 rfl
            have hm2 := c_Mod_moreTwo (w := w) (d := d + 1) (G := G) (a := a) (o := 32 * f) k4 (by omega) (by rw [f20]; exact b5) y5 (by omega)
            refine rz_blk' [(.aload_n 0, 1, 0, 0), (.bipush 32, 2, 0, 0), (.iload 4, 2, 0, 0), (.imul, 1, 0, 0), (.aload_n 0, 1, 0, 0), (.getfield 62, 3, 10, 19), (.iload 4, 2, 0, 0), (.iaload, 1, 0, 0)] (by decide +kernel) (Nat.le_refl _) (Nat.le_refl _) (fun K R hK hR => ?_)
            simp only [rw_b32, ↓rx_aload_n0, ↓rx_bipush, ↓rx_getfield, ↓rx_iaload, ↓rx_iload, ↓rx_imul, ↓rx_nil, ↓ry_i2, ↓ry_iau, ↓ry_li0s, ↓ry_li0z, ↓ry_lr0s, ↓ry_lr0z, ↓ry_obu, ↓ry_r1, ↓ry_ri, true_and, re_a19, ↓re_F19, ↓re_i19, ↓re_ob, f19, b4, rz_set, rz_nol, rz_clr, List.set_cons_zero, List.set_cons_succ, rz_tr, Nat.reduceAdd, Int.reduceAdd, Int.reduceToNat, Int.reduceSub, Int.reduceNeg, Int.cast_ofNat_Int]
            try simp (disch := omega) only [f19, b4, pk_us, pk_un, va_up_self, va_up_ne, nI_add, pk_mul, nI_clamp, vp_inT, nI_ltI, nI_leI, nI_eqI, pk_sub, true_and, and_true]
            refine hK _ _ _ _ ?_
            refine rz_cV (As := [.int (nI (32 * f)), .int (nI T.2.1[f].2.2.2.length)]) (b := a) (S := []) l_Mod_276 (by decide +kernel) rfl re_at0 rfl (Nat.le_of_ble_eq_true rfl) (Nat.le_refl _) (Nat.le_refl _) (hm2) (fun r G' hr => ?_)
            obtain ⟨rfl, I6, A6, rfl, i6, a6, k6⟩ := hr
            simp only [Option.toList, List.nil_append]
            have i7 : fi [26, 27] I1 I6 := i5.t i6 rfl
            have a7 : fa [28, 29] A1 A6 := a5'.t a6 rfl
            have g18 := a7 18 rfl
            have hpk : pd_is I6 A6 S.1 := by
              unfold pd_is pd_at at *
              rw [i7 58 rfl, a7 59 rfl, a7 60 rfl, a7 61 rfl, a7 62 rfl, a7 63 rfl]; exact kp
            have hap := c_Mod_addPair (w := w) (d := d) (G := G) (a := a) (p := T.2.1[e].2.2.1) (q := T.2.1[f].2.2.1) (most := most) k6 hpk (by rw [i7 64 rfl]; exact m64) hm2' x3 y3 (fun t ht => (List.mem_append.mp ht).elim (o5 t) (x5 t)) (fun t ht => (List.mem_append.mp ht).elim (o6 t) (y5 t))
            refine rz_blk' [(.iload_n 2, 1, 0, 0), (.aload_n 0, 1, 0, 0), (.aload_n 0, 1, 0, 0), (.getfield 59, 3, 10, 18), (.iload_n 3, 1, 0, 0), (.iaload, 1, 0, 0), (.aload_n 0, 1, 0, 0), (.getfield 59, 3, 10, 18), (.iload 4, 2, 0, 0), (.iaload, 1, 0, 0)] (by decide +kernel) (Nat.le_refl _) (Nat.le_refl _) (fun K R hK hR => ?_)
            simp only [↓rx_aload_n0, ↓rx_getfield, ↓rx_iaload, ↓rx_iload, ↓rx_iload_n2, ↓rx_iload_n3, ↓rx_nil, ↓ry_iau, ↓ry_li0s, ↓ry_li0z, ↓ry_lr0s, ↓ry_lr0z, ↓ry_obu, ↓ry_r1, ↓ry_ri, true_and, re_a18, ↓re_F18, ↓re_i18, ↓re_ob, g18, a3, b3, rz_set, rz_nol, rz_clr, List.set_cons_zero, List.set_cons_succ, rz_tr, Nat.reduceAdd, Int.reduceAdd, Int.reduceToNat, Int.reduceSub, Int.reduceNeg, Int.cast_ofNat_Int]
            try simp (disch := omega) only [g18, a3, b3, pk_us, pk_un, va_up_self, va_up_ne, nI_add, pk_mul, nI_clamp, vp_inT, nI_ltI, nI_leI, nI_eqI, pk_sub, true_and, and_true]
            refine hK _ _ _ _ ?_
            refine rz_cV (As := [.int (nI T.2.1[e].2.2.1), .int (nI T.2.1[f].2.2.1)]) (b := a) (S := [.int (nI S.2)]) l_Mod_354 (by decide +kernel) rfl re_at0 rfl (Nat.le_of_ble_eq_true rfl) (Nat.le_refl _) (Nat.le_refl _) (hap) (fun r G' hr => ?_)
            obtain ⟨rfl, I8, A8, rfl, i8, a8, k8⟩ := hr
            simp only [Option.toList, List.cons_append, List.nil_append]
            have hst2 : sp_1 most x T.2.1[e] S T.2.1[f] = (pd_add most S.1 (pd_go x T.2.1[e] T.2.1[f]), S.2 + pd_far most (pd_go x T.2.1[e] T.2.1[f])) := by unfold sp_1; rw [if_pos ⟨s1, s2, s3⟩]
            have hfr : pd_far most (pd_go x T.2.1[e] T.2.1[f]) ≤ 1 := by unfold pd_far; split <;> omega
            have hgx : (sp_1 most x T.2.1[e] S T.2.1[f]).1[c]? = some x := (sp_1_r (T := T) (List.getElem_mem heT) (List.getElem_mem hfT)).get kx
            refine rz_blk' [(.iadd, 1, 0, 0), (.istore_n 2, 1, 0, 0)] (by decide +kernel) (Nat.le_refl _) (Nat.le_refl _) (fun K R hK hR => ?_)
            simp only [↓rx_iadd, ↓rx_istore_n2, ↓rx_nil, ↓ry_i1, ↓ry_i2, rz_set, rz_nol, rz_clr, List.set_cons_zero, List.set_cons_succ, rz_tr, Nat.reduceAdd, Int.reduceAdd, Int.reduceToNat, Int.reduceSub, Int.reduceNeg, Int.cast_ofNat_Int]
            try simp (disch := omega) only [pk_us, pk_un, va_up_self, va_up_ne, nI_add, pk_mul, nI_clamp, vp_inT, nI_ltI, nI_leI, nI_eqI, pk_sub, true_and, and_true]
            refine hK _ _ _ _ ?_
            refine rz_blk' [(.iinc 4 1, 3, 0, 0)] (by decide +kernel) (Nat.le_refl _) (Nat.le_refl _) (fun K R hK hR => ?_)
            simp only [rw_c1, ↓rx_iinc, ↓rx_nil, ↓ry_li0s, ↓ry_li0z, rz_set, rz_nol, rz_clr, List.set_cons_zero, List.set_cons_succ, rz_tr, Nat.reduceAdd, Int.reduceAdd, Int.reduceToNat, Int.reduceSub, Int.reduceNeg, Int.cast_ofNat_Int]
            try simp (disch := omega) only [pk_us, pk_un, va_up_self, va_up_ne, nI_add, pk_mul, nI_clamp, vp_inT, nI_ltI, nI_leI, nI_eqI, pk_sub, true_and, and_true]
            refine hK _ _ _ _ ?_
            refine rz_blk' [(.goto (-204), 3, 0, 0)] (by decide +kernel) (Nat.le_refl _) (Nat.le_refl _) (fun K R hK hR => ?_)
            simp only [↓rx_goto, ↓rx_nil, rz_set, rz_nol, rz_clr, List.set_cons_zero, List.set_cons_succ, rz_tr, Nat.reduceAdd, Int.reduceAdd, Int.reduceToNat, Int.reduceSub, Int.reduceNeg, Int.cast_ofNat_Int]
            try simp (disch := omega) only [pk_us, pk_un, va_up_self, va_up_ne, nI_add, pk_mul, nI_clamp, vp_inT, nI_ltI, nI_leI, nI_eqI, pk_sub, true_and, and_true]
            refine hK _ _ _ _ ?_
            have hgo := ihf (f + 1) (pd_add most S.1 (pd_go x T.2.1[e] T.2.1[f]), S.2 + pd_far most (pd_go x T.2.1[e] T.2.1[f])) I8 A8 (some (.int (nI 120))) (by omega) (by rw [hstep, hst2]) (by show S.2 + _ ≤ _; omega) ((ki.t i7 rfl).t i8 rfl) ((ka.t a7 rfl).t a8 rfl) k8 (by rw [hst2] at hgx; exact hgx)
            exact hgo
          have cl : ∀ (j i : Nat) (A3 : Nat → Nat → Int32), i + j = 120 → T.2.1[e].1 = x.1 → T.2.1[f].1 = x.2.1 → T.2.1[e].2.1 = T.2.1[f].2.1 → fa [28, 29] A1 A3 → (∀ k, k < i → A3 28 k = A1 61 (240 * c + k) ∧ A3 29 k = A1 61 (240 * c + 120 + k)) → rz_T w (d + 2) 0 0 m_Mod_stepPair 0 0 112 [some (.ref a), some (.int (nI c)), some (.int (nI S.2)), some (.int (nI e)), some (.int (nI f)), some (.int (nI i))] [] (re_put G a (upd (upd I1 26 (nI x.2.2.1.length)) 27 (nI x.2.2.2.length)) A3) Q := by
            intro j
            induction j with
            | zero =>
              intro i A3 hij s1 s2 s3 a3' hk
              have hi : i = 120 := by omega
              subst hi
              refine rz_blk' [(.iload 5, 2, 0, 0), (.bipush 120, 2, 0, 0), (.if_icmp .ge 52, 3, 0, 0)] (by decide +kernel) (Nat.le_refl _) (Nat.le_refl _) (fun K R hK hR => ?_)
              simp only [rw_b120, ↓rx_bipush, ↓rx_if_icmp_ge, ↓rx_iload, ↓rx_nil, ↓ry_i2, ↓ry_li0s, ↓ry_li0z, rz_set, rz_nol, rz_clr, List.set_cons_zero, List.set_cons_succ, rz_tr, Nat.reduceAdd, Int.reduceAdd, Int.reduceToNat, Int.reduceSub, Int.reduceNeg, Int.cast_ofNat_Int]
              try simp (disch := omega) only [pk_us, pk_un, va_up_self, va_up_ne, nI_add, pk_mul, nI_clamp, vp_inT, nI_ltI, nI_leI, nI_eqI, pk_sub, true_and, and_true]
              refine ⟨fun q3 => hK _ _ _ _ ?_, fun q3 => by omega⟩
              refine hfo _ A3 s1 s2 s3 ((fi.rf.u rfl).u rfl) a3' ⟨by rw [pk_un (by decide), pk_us], pk_us, fun k h => ?_, fun k h => ?_, by omega, by omega, lt8 o5, lt8 o6⟩
              · rw [Nat.zero_add, (hk k (by omega)).1]; exact p3 k h
              · rw [Nat.zero_add, (hk k (by omega)).2]; exact p4 k h
            | succ j ihc =>
              intro i A3 hij s1 s2 s3 a3' hk
              have e61 := a3' 61 rfl
              refine rz_blk' [(.iload 5, 2, 0, 0), (.bipush 120, 2, 0, 0), (.if_icmp .ge 52, 3, 0, 0)] (by decide +kernel) (Nat.le_refl _) (Nat.le_refl _) (fun K R hK hR => ?_)
              simp only [rw_b120, ↓rx_bipush, ↓rx_if_icmp_ge, ↓rx_iload, ↓rx_nil, ↓ry_i2, ↓ry_li0s, ↓ry_li0z, e61, rz_set, rz_nol, rz_clr, List.set_cons_zero, List.set_cons_succ, rz_tr, Nat.reduceAdd, Int.reduceAdd, Int.reduceToNat, Int.reduceSub, Int.reduceNeg, Int.cast_ofNat_Int]
              try simp (disch := omega) only [e61, pk_us, pk_un, va_up_self, va_up_ne, nI_add, pk_mul, nI_clamp, vp_inT, nI_ltI, nI_leI, nI_eqI, pk_sub, true_and, and_true]
              refine ⟨fun q4 => by omega, fun q4 => hK _ _ _ _ ?_⟩
              refine rz_blk' [(.aload_n 0, 1, 0, 0), (.getfield 83, 3, 10, 28), (.iload 5, 2, 0, 0), (.aload_n 0, 1, 0, 0), (.getfield 157, 3, 10, 61), (.sipush 240, 3, 0, 0), (.iload_n 1, 1, 0, 0), (.imul, 1, 0, 0), (.iload 5, 2, 0, 0), (.iadd, 1, 0, 0), (.iaload, 1, 0, 0), (.iastore, 1, 0, 0)] (by decide +kernel) (Nat.le_refl _) (Nat.le_refl _) (fun K R hK hR => ?_)
              simp only [rw_s240, ↓rx_aload_n0, ↓rx_getfield, ↓rx_iadd, ↓rx_iaload, ↓rx_iastore, ↓rx_iload, ↓rx_iload_n1, ↓rx_imul, ↓rx_nil, ↓rx_sipush, ↓ry_i2, ↓ry_iau, ↓ry_li0s, ↓ry_li0z, ↓ry_lr0s, ↓ry_lr0z, ↓ry_obu, ↓ry_r1, ↓ry_ri, ↓ry_rii, true_and, re_a28, re_a61, ↓re_F28, ↓re_F61, ↓re_i28, ↓re_i61, ↓re_ob, e61, rz_set, rz_nol, rz_clr, List.set_cons_zero, List.set_cons_succ, rz_tr, Nat.reduceAdd, Int.reduceAdd, Int.reduceToNat, Int.reduceSub, Int.reduceNeg, Int.cast_ofNat_Int]
              try simp (disch := omega) only [e61, pk_us, pk_un, va_up_self, va_up_ne, nI_add, pk_mul, nI_clamp, vp_inT, nI_ltI, nI_leI, nI_eqI, pk_sub, true_and, and_true]
              refine hK _ _ _ _ ?_
              refine rz_blk' [(.aload_n 0, 1, 0, 0), (.getfield 86, 3, 10, 29), (.iload 5, 2, 0, 0), (.aload_n 0, 1, 0, 0), (.getfield 157, 3, 10, 61), (.sipush 240, 3, 0, 0), (.iload_n 1, 1, 0, 0), (.imul, 1, 0, 0), (.bipush 120, 2, 0, 0), (.iadd, 1, 0, 0), (.iload 5, 2, 0, 0), (.iadd, 1, 0, 0), (.iaload, 1, 0, 0), (.iastore, 1, 0, 0)] (by decide +kernel) (Nat.le_refl _) (Nat.le_refl _) (fun K R hK hR => ?_)
              simp only [rw_b120, rw_s240, ↓rx_aload_n0, ↓rx_bipush, ↓rx_getfield, ↓rx_iadd, ↓rx_iaload, ↓rx_iastore, ↓rx_iload, ↓rx_iload_n1, ↓rx_imul, ↓rx_nil, ↓rx_sipush, ↓ry_i2, ↓ry_iau, ↓ry_li0s, ↓ry_li0z, ↓ry_lr0s, ↓ry_lr0z, ↓ry_obu, ↓ry_r1, ↓ry_ri, ↓ry_rii, true_and, re_a29, re_a61, ↓re_F29, ↓re_F61, ↓re_i29, ↓re_i61, ↓re_ob, e61, rz_set, rz_nol, rz_clr, List.set_cons_zero, List.set_cons_succ, rz_tr, Nat.reduceAdd, Int.reduceAdd, Int.reduceToNat, Int.reduceSub, Int.reduceNeg, Int.cast_ofNat_Int]
              try simp (disch := omega) only [e61, pk_us, pk_un, va_up_self, va_up_ne, nI_add, pk_mul, nI_clamp, vp_inT, nI_ltI, nI_leI, nI_eqI, pk_sub, true_and, and_true]
              refine hK _ _ _ _ ?_
              refine rz_blk' [(.iinc 5 1, 3, 0, 0)] (by decide +kernel) (Nat.le_refl _) (Nat.le_refl _) (fun K R hK hR => ?_)
              simp only [rw_c1, ↓rx_iinc, ↓rx_nil, ↓ry_li0s, ↓ry_li0z, e61, rz_set, rz_nol, rz_clr, List.set_cons_zero, List.set_cons_succ, rz_tr, Nat.reduceAdd, Int.reduceAdd, Int.reduceToNat, Int.reduceSub, Int.reduceNeg, Int.cast_ofNat_Int]
              try simp (disch := omega) only [e61, pk_us, pk_un, va_up_self, va_up_ne, nI_add, pk_mul, nI_clamp, vp_inT, nI_ltI, nI_leI, nI_eqI, pk_sub, true_and, and_true]
              refine hK _ _ _ _ ?_
              refine rz_blk' [(.goto (-53), 3, 0, 0)] (by decide +kernel) (Nat.le_refl _) (Nat.le_refl _) (fun K R hK hR => ?_)
              simp only [↓rx_goto, ↓rx_nil, e61, rz_set, rz_nol, rz_clr, List.set_cons_zero, List.set_cons_succ, rz_tr, Nat.reduceAdd, Int.reduceAdd, Int.reduceToNat, Int.reduceSub, Int.reduceNeg, Int.cast_ofNat_Int]
              try simp (disch := omega) only [e61, pk_us, pk_un, va_up_self, va_up_ne, nI_add, pk_mul, nI_clamp, vp_inT, nI_ltI, nI_leI, nI_eqI, pk_sub, true_and, and_true]
              refine hK _ _ _ _ ?_
              refine ihc (i + 1) _ (by omega) s1 s2 s3 ((a3'.u rfl).u rfl) (fun k hk2 => ?_)
              rw [va_up_self, va_up_ne _ _ (by decide), va_up_self]
              by_cases ck : k = i
              · subst ck; rw [pk_us, pk_us]; exact ⟨rfl, rfl⟩
              · rw [pk_un ck, pk_un ck]; exact hk k (by omega)
          refine rz_blk' [(.iload 4, 2, 0, 0), (.aload_n 0, 1, 0, 0), (.getfield 50, 3, 10, 15), (.iconst 0, 1, 0, 0), (.iaload, 1, 0, 0), (.if_icmp .ge 199, 3, 0, 0)] (by decide +kernel) (Nat.le_refl _) (Nat.le_refl _) (fun K R hK hR => ?_)
          simp only [rw_c0, ↓rx_aload_n0, ↓rx_getfield, ↓rx_iaload, ↓rx_iconst, ↓rx_if_icmp_ge, ↓rx_iload, ↓rx_nil, ↓ry_i2, ↓ry_iau, ↓ry_li0s, ↓ry_li0z, ↓ry_lr0s, ↓ry_lr0z, ↓ry_obu, ↓ry_r1, ↓ry_ri, true_and, re_a15, ↓re_F15, ↓re_i15, ↓re_ob, r2, a1, a2, b1, b2, p1, p2, rz_set, rz_nol, rz_clr, List.set_cons_zero, List.set_cons_succ, rz_tr, Nat.reduceAdd, Int.reduceAdd, Int.reduceToNat, Int.reduceSub, Int.reduceNeg, Int.cast_ofNat_Int]
          try simp (disch := omega) only [r2, a1, a2, b1, b2, p1, p2, hz6, hz256, d1, d2, d3, d4, d4', not_false_eq_true, pk_us, pk_un, va_up_self, va_up_ne, nI_add, pk_mul, nI_clamp, vp_inT, nI_ltI, nI_leI, nI_eqI, pk_sub, true_and, and_true]
          refine ⟨fun q5 => by omega, fun q5 => hK _ _ _ _ ?_⟩
          refine rz_blk' [(.aload_n 0, 1, 0, 0), (.getfield 53, 3, 10, 16), (.iload_n 3, 1, 0, 0), (.iaload, 1, 0, 0), (.aload_n 0, 1, 0, 0), (.getfield 150, 3, 10, 59), (.iload_n 1, 1, 0, 0), (.iaload, 1, 0, 0), (.bipush 6, 2, 0, 0), (.idiv, 1, 0, 0), (.if_icmp .ne 175, 3, 0, 0)] (by decide +kernel) (Nat.le_refl _) (Nat.le_refl _) (fun K R hK hR => ?_)
          simp only [rw_b6, ↓rx_aload_n0, ↓rx_bipush, ↓rx_getfield, ↓rx_iaload, ↓rx_idiv, ↓rx_if_icmp_ne, ↓rx_iload_n1, ↓rx_iload_n3, ↓rx_nil, ↓ry_i2, ↓ry_iau, ↓ry_li0s, ↓ry_li0z, ↓ry_lr0s, ↓ry_lr0z, ↓ry_obu, ↓ry_r1, ↓ry_ri, true_and, re_a16, re_a59, ↓re_F16, ↓re_F59, ↓re_i16, ↓re_i59, ↓re_ob, r2, a1, a2, b1, b2, p1, p2, rz_set, rz_nol, rz_clr, List.set_cons_zero, List.set_cons_succ, rz_tr, Nat.reduceAdd, Int.reduceAdd, Int.reduceToNat, Int.reduceSub, Int.reduceNeg, Int.cast_ofNat_Int]
          try simp (disch := omega) only [r2, a1, a2, b1, b2, p1, p2, hz6, hz256, d1, d2, d3, d4, d4', not_false_eq_true, pk_us, pk_un, va_up_self, va_up_ne, nI_add, pk_mul, nI_clamp, vp_inT, nI_ltI, nI_leI, nI_eqI, pk_sub, true_and, and_true]
          refine ⟨fun q6 => hK _ _ _ _ ?_, fun q6 => hK _ _ _ _ ?_⟩
          · -- 43 taken
            refine rz_blk' [(.iinc 4 1, 3, 0, 0)] (by decide +kernel) (Nat.le_refl _) (Nat.le_refl _) (fun K R hK hR => ?_)
            simp only [rw_c1, ↓rx_iinc, ↓rx_nil, ↓ry_li0s, ↓ry_li0z, r2, a1, a2, b1, b2, p1, p2, rz_set, rz_nol, rz_clr, List.set_cons_zero, List.set_cons_succ, rz_tr, Nat.reduceAdd, Int.reduceAdd, Int.reduceToNat, Int.reduceSub, Int.reduceNeg, Int.cast_ofNat_Int]
            try simp (disch := omega) only [r2, a1, a2, b1, b2, p1, p2, hz6, hz256, d1, d2, d3, d4, d4', not_false_eq_true, pk_us, pk_un, va_up_self, va_up_ne, nI_add, pk_mul, nI_clamp, vp_inT, nI_ltI, nI_leI, nI_eqI, pk_sub, true_and, and_true]
            refine hK _ _ _ _ ?_
            refine rz_blk' [(.goto (-204), 3, 0, 0)] (by decide +kernel) (Nat.le_refl _) (Nat.le_refl _) (fun K R hK hR => ?_)
            simp only [↓rx_goto, ↓rx_nil, r2, a1, a2, b1, b2, p1, p2, rz_set, rz_nol, rz_clr, List.set_cons_zero, List.set_cons_succ, rz_tr, Nat.reduceAdd, Int.reduceAdd, Int.reduceToNat, Int.reduceSub, Int.reduceNeg, Int.cast_ofNat_Int]
            try simp (disch := omega) only [r2, a1, a2, b1, b2, p1, p2, hz6, hz256, d1, d2, d3, d4, d4', not_false_eq_true, pk_us, pk_un, va_up_self, va_up_ne, nI_add, pk_mul, nI_clamp, vp_inT, nI_ltI, nI_leI, nI_eqI, pk_sub, true_and, and_true]
            refine hK _ _ _ _ ?_
            refine ihf (f + 1) S I1 A1 _ (by omega) ?_ (by omega) ki ka kp kx
            rw [hstep, sp_1, if_neg (by omega)]
          · -- 43 not taken
            refine rz_blk' [(.aload_n 0, 1, 0, 0), (.getfield 53, 3, 10, 16), (.iload 4, 2, 0, 0), (.iaload, 1, 0, 0), (.aload_n 0, 1, 0, 0), (.getfield 150, 3, 10, 59), (.iload_n 1, 1, 0, 0), (.iaload, 1, 0, 0), (.bipush 6, 2, 0, 0), (.irem, 1, 0, 0), (.if_icmp .ne 156, 3, 0, 0)] (by decide +kernel) (Nat.le_refl _) (Nat.le_refl _) (fun K R hK hR => ?_)
            simp only [rw_b6, ↓rx_aload_n0, ↓rx_bipush, ↓rx_getfield, ↓rx_iaload, ↓rx_if_icmp_ne, ↓rx_iload, ↓rx_iload_n1, ↓rx_irem, ↓rx_nil, ↓ry_i2, ↓ry_iau, ↓ry_li0s, ↓ry_li0z, ↓ry_lr0s, ↓ry_lr0z, ↓ry_obu, ↓ry_r1, ↓ry_ri, true_and, re_a16, re_a59, ↓re_F16, ↓re_F59, ↓re_i16, ↓re_i59, ↓re_ob, r2, a1, a2, b1, b2, p1, p2, rz_set, rz_nol, rz_clr, List.set_cons_zero, List.set_cons_succ, rz_tr, Nat.reduceAdd, Int.reduceAdd, Int.reduceToNat, Int.reduceSub, Int.reduceNeg, Int.cast_ofNat_Int]
            try simp (disch := omega) only [r2, a1, a2, b1, b2, p1, p2, hz6, hz256, d1, d2, d3, d4, d4', not_false_eq_true, pk_us, pk_un, va_up_self, va_up_ne, nI_add, pk_mul, nI_clamp, vp_inT, nI_ltI, nI_leI, nI_eqI, pk_sub, true_and, and_true]
            refine ⟨fun q7 => hK _ _ _ _ ?_, fun q7 => hK _ _ _ _ ?_⟩
            · -- 62 taken
              refine rz_blk' [(.iinc 4 1, 3, 0, 0)] (by decide +kernel) (Nat.le_refl _) (Nat.le_refl _) (fun K R hK hR => ?_)
              simp only [rw_c1, ↓rx_iinc, ↓rx_nil, ↓ry_li0s, ↓ry_li0z, r2, a1, a2, b1, b2, p1, p2, rz_set, rz_nol, rz_clr, List.set_cons_zero, List.set_cons_succ, rz_tr, Nat.reduceAdd, Int.reduceAdd, Int.reduceToNat, Int.reduceSub, Int.reduceNeg, Int.cast_ofNat_Int]
              try simp (disch := omega) only [r2, a1, a2, b1, b2, p1, p2, hz6, hz256, d1, d2, d3, d4, d4', not_false_eq_true, pk_us, pk_un, va_up_self, va_up_ne, nI_add, pk_mul, nI_clamp, vp_inT, nI_ltI, nI_leI, nI_eqI, pk_sub, true_and, and_true]
              refine hK _ _ _ _ ?_
              refine rz_blk' [(.goto (-204), 3, 0, 0)] (by decide +kernel) (Nat.le_refl _) (Nat.le_refl _) (fun K R hK hR => ?_)
              simp only [↓rx_goto, ↓rx_nil, r2, a1, a2, b1, b2, p1, p2, rz_set, rz_nol, rz_clr, List.set_cons_zero, List.set_cons_succ, rz_tr, Nat.reduceAdd, Int.reduceAdd, Int.reduceToNat, Int.reduceSub, Int.reduceNeg, Int.cast_ofNat_Int]
              try simp (disch := omega) only [r2, a1, a2, b1, b2, p1, p2, hz6, hz256, d1, d2, d3, d4, d4', not_false_eq_true, pk_us, pk_un, va_up_self, va_up_ne, nI_add, pk_mul, nI_clamp, vp_inT, nI_ltI, nI_leI, nI_eqI, pk_sub, true_and, and_true]
              refine hK _ _ _ _ ?_
              refine ihf (f + 1) S I1 A1 _ (by omega) ?_ (by omega) ki ka kp kx
              rw [hstep, sp_1, if_neg (by omega)]
            · -- 62 not taken
              refine rz_blk' [(.aload_n 0, 1, 0, 0), (.getfield 56, 3, 10, 17), (.iload_n 3, 1, 0, 0), (.iaload, 1, 0, 0), (.aload_n 0, 1, 0, 0), (.getfield 56, 3, 10, 17), (.iload 4, 2, 0, 0), (.iaload, 1, 0, 0), (.if_icmp .ne 140, 3, 0, 0)] (by decide +kernel) (Nat.le_refl _) (Nat.le_refl _) (fun K R hK hR => ?_)
              simp only [↓rx_aload_n0, ↓rx_getfield, ↓rx_iaload, ↓rx_if_icmp_ne, ↓rx_iload, ↓rx_iload_n3, ↓rx_nil, ↓ry_i2, ↓ry_iau, ↓ry_li0s, ↓ry_li0z, ↓ry_lr0s, ↓ry_lr0z, ↓ry_obu, ↓ry_r1, ↓ry_ri, true_and, re_a17, ↓re_F17, ↓re_i17, ↓re_ob, r2, a1, a2, b1, b2, p1, p2, rz_set, rz_nol, rz_clr, List.set_cons_zero, List.set_cons_succ, rz_tr, Nat.reduceAdd, Int.reduceAdd, Int.reduceToNat, Int.reduceSub, Int.reduceNeg, Int.cast_ofNat_Int]
              try simp (disch := omega) only [r2, a1, a2, b1, b2, p1, p2, hz6, hz256, d1, d2, d3, d4, d4', not_false_eq_true, pk_us, pk_un, va_up_self, va_up_ne, nI_add, pk_mul, nI_clamp, vp_inT, nI_ltI, nI_leI, nI_eqI, pk_sub, true_and, and_true]
              refine ⟨fun q8 => hK _ _ _ _ ?_, fun q8 => hK _ _ _ _ ?_⟩
              · -- 78 taken
                refine rz_blk' [(.iinc 4 1, 3, 0, 0)] (by decide +kernel) (Nat.le_refl _) (Nat.le_refl _) (fun K R hK hR => ?_)
                simp only [rw_c1, ↓rx_iinc, ↓rx_nil, ↓ry_li0s, ↓ry_li0z, r2, a1, a2, b1, b2, p1, p2, rz_set, rz_nol, rz_clr, List.set_cons_zero, List.set_cons_succ, rz_tr, Nat.reduceAdd, Int.reduceAdd, Int.reduceToNat, Int.reduceSub, Int.reduceNeg, Int.cast_ofNat_Int]
                try simp (disch := omega) only [r2, a1, a2, b1, b2, p1, p2, hz6, hz256, d1, d2, d3, d4, d4', not_false_eq_true, pk_us, pk_un, va_up_self, va_up_ne, nI_add, pk_mul, nI_clamp, vp_inT, nI_ltI, nI_leI, nI_eqI, pk_sub, true_and, and_true]
                refine hK _ _ _ _ ?_
                refine rz_blk' [(.goto (-204), 3, 0, 0)] (by decide +kernel) (Nat.le_refl _) (Nat.le_refl _) (fun K R hK hR => ?_)
                simp only [↓rx_goto, ↓rx_nil, r2, a1, a2, b1, b2, p1, p2, rz_set, rz_nol, rz_clr, List.set_cons_zero, List.set_cons_succ, rz_tr, Nat.reduceAdd, Int.reduceAdd, Int.reduceToNat, Int.reduceSub, Int.reduceNeg, Int.cast_ofNat_Int]
                try simp (disch := omega) only [r2, a1, a2, b1, b2, p1, p2, hz6, hz256, d1, d2, d3, d4, d4', not_false_eq_true, pk_us, pk_un, va_up_self, va_up_ne, nI_add, pk_mul, nI_clamp, vp_inT, nI_ltI, nI_leI, nI_eqI, pk_sub, true_and, and_true]
                refine hK _ _ _ _ ?_
                refine ihf (f + 1) S I1 A1 _ (by omega) ?_ (by omega) ki ka kp kx
                rw [hstep, sp_1, if_neg (by omega)]
              · -- 78 not taken
                refine rz_blk' [(.aload_n 0, 1, 0, 0), (.aload_n 0, 1, 0, 0), (.getfield 153, 3, 10, 60), (.iload_n 1, 1, 0, 0), (.iaload, 1, 0, 0), (.sipush 256, 3, 0, 0), (.idiv, 1, 0, 0), (.putfield 253, 3, 10, 26)] (by decide +kernel) (Nat.le_refl _) (Nat.le_refl _) (fun K R hK hR => ?_)
                simp only [List.length_cons, List.length_nil, Nat.reduceLT, rf_10_26, rw_s256, ↓rx_aload_n0, ↓rx_getfield, ↓rx_iaload, ↓rx_idiv, ↓rx_iload_n1, ↓rx_nil, ↓rx_putfield, ↓rx_sipush, ↓ry_i2, ↓ry_iau, ↓ry_li0s, ↓ry_li0z, ↓ry_lr0s, ↓ry_lr0z, ↓ry_obu, ↓ry_r1, ↓ry_ri, ↓ry_vr, true_and, re_a60, re_len, re_u26, ↓re_F60, ↓re_i60, ↓re_ob, r2, a1, a2, b1, b2, p1, p2, rz_set, rz_nol, rz_clr, List.set_cons_zero, List.set_cons_succ, rz_tr, Nat.reduceAdd, Int.reduceAdd, Int.reduceToNat, Int.reduceSub, Int.reduceNeg, Int.cast_ofNat_Int]
                try simp (disch := omega) only [r2, a1, a2, b1, b2, p1, p2, hz6, hz256, d1, d2, d3, d4, d4', not_false_eq_true, pk_us, pk_un, va_up_self, va_up_ne, nI_add, pk_mul, nI_clamp, vp_inT, nI_ltI, nI_leI, nI_eqI, pk_sub, true_and, and_true]
                refine hK _ _ _ _ ?_
                refine rz_blk' [(.aload_n 0, 1, 0, 0), (.aload_n 0, 1, 0, 0), (.getfield 153, 3, 10, 60), (.iload_n 1, 1, 0, 0), (.iaload, 1, 0, 0), (.sipush 256, 3, 0, 0), (.irem, 1, 0, 0), (.putfield 256, 3, 10, 27)] (by decide +kernel) (Nat.le_refl _) (Nat.le_refl _) (fun K R hK hR => ?_)
                simp only [List.length_cons, List.length_nil, Nat.reduceLT, rf_10_27, rw_s256, ↓rx_aload_n0, ↓rx_getfield, ↓rx_iaload, ↓rx_iload_n1, ↓rx_irem, ↓rx_nil, ↓rx_putfield, ↓rx_sipush, ↓ry_i2, ↓ry_iau, ↓ry_li0s, ↓ry_li0z, ↓ry_lr0s, ↓ry_lr0z, ↓ry_obu, ↓ry_r1, ↓ry_ri, ↓ry_vr, true_and, re_a60, re_len, re_u27, ↓re_F60, ↓re_i60, ↓re_ob, r2, a1, a2, b1, b2, p1, p2, rz_set, rz_nol, rz_clr, List.set_cons_zero, List.set_cons_succ, rz_tr, Nat.reduceAdd, Int.reduceAdd, Int.reduceToNat, Int.reduceSub, Int.reduceNeg, Int.cast_ofNat_Int]
                try simp (disch := omega) only [r2, a1, a2, b1, b2, p1, p2, hz6, hz256, d1, d2, d3, d4, d4', not_false_eq_true, pk_us, pk_un, va_up_self, va_up_ne, nI_add, pk_mul, nI_clamp, vp_inT, nI_ltI, nI_leI, nI_eqI, pk_sub, true_and, and_true]
                refine hK _ _ _ _ ?_
                refine rz_blk' [(.iconst 0, 1, 0, 0), (.istore 5, 2, 0, 0)] (by decide +kernel) (Nat.le_refl _) (Nat.le_refl _) (fun K R hK hR => ?_)
                simp only [rw_c0, ↓rx_iconst, ↓rx_istore, ↓rx_nil, ↓ry_i1, r2, a1, a2, b1, b2, p1, p2, rz_set, rz_nol, rz_clr, List.set_cons_zero, List.set_cons_succ, rz_tr, Nat.reduceAdd, Int.reduceAdd, Int.reduceToNat, Int.reduceSub, Int.reduceNeg, Int.cast_ofNat_Int]
                try simp (disch := omega) only [r2, a1, a2, b1, b2, p1, p2, hz6, hz256, d1, d2, d3, d4, d4', not_false_eq_true, pk_us, pk_un, va_up_self, va_up_ne, nI_add, pk_mul, nI_clamp, vp_inT, nI_ltI, nI_leI, nI_eqI, pk_sub, true_and, and_true]
                refine hK _ _ _ _ ?_
                exact cl 120 0 A1 rfl (by omega) (by omega) (by omega) fa.rf (fun k hk => absurd hk (Nat.not_lt_zero _))
      refine rz_blk' [(.iload_n 3, 1, 0, 0), (.aload_n 0, 1, 0, 0), (.getfield 50, 3, 10, 15), (.iconst 0, 1, 0, 0), (.iaload, 1, 0, 0), (.if_icmp .ge 219, 3, 0, 0)] (by decide +kernel) (Nat.le_refl _) (Nat.le_refl _) (fun K R hK hR => ?_)
      simp only [rw_c0, ↓rx_aload_n0, ↓rx_getfield, ↓rx_iaload, ↓rx_iconst, ↓rx_if_icmp_ge, ↓rx_iload_n3, ↓rx_nil, ↓ry_i2, ↓ry_iau, ↓ry_li0s, ↓ry_li0z, ↓ry_lr0s, ↓ry_lr0z, ↓ry_obu, ↓ry_r1, ↓ry_ri, true_and, re_a15, ↓re_F15, ↓re_i15, ↓re_ob, r2, rz_set, rz_nol, rz_clr, List.set_cons_zero, List.set_cons_succ, rz_tr, Nat.reduceAdd, Int.reduceAdd, Int.reduceToNat, Int.reduceSub, Int.reduceNeg, Int.cast_ofNat_Int]
      try simp (disch := omega) only [r2, pk_us, pk_un, va_up_self, va_up_ne, nI_add, pk_mul, nI_clamp, vp_inT, nI_ltI, nI_leI, nI_eqI, pk_sub, true_and, and_true]
      refine ⟨fun q9 => by omega, fun q9 => hK _ _ _ _ ?_⟩
      refine rz_blk' [(.iconst 0, 1, 0, 0), (.istore 4, 2, 0, 0)] (by decide +kernel) (Nat.le_refl _) (Nat.le_refl _) (fun K R hK hR => ?_)
      simp only [rw_c0, ↓rx_iconst, ↓rx_istore, ↓rx_nil, ↓ry_i1, r2, rz_set, rz_nol, rz_clr, List.set_cons_zero, List.set_cons_succ, rz_tr, Nat.reduceAdd, Int.reduceAdd, Int.reduceToNat, Int.reduceSub, Int.reduceNeg, Int.cast_ofNat_Int]
      try simp (disch := omega) only [r2, pk_us, pk_un, va_up_self, va_up_ne, nI_add, pk_mul, nI_clamp, vp_inT, nI_ltI, nI_leI, nI_eqI, pk_sub, true_and, and_true]
      refine hK _ _ _ _ ?_
      exact fl T.2.1.length 0 S0 I0 A0 _ (by omega) rfl (by omega) ki0 ka0 kp0 kx0
  refine rz_enter' [some (.ref a), some (.int (nI c)), none, none, none, none] (by decide +kernel) rfl rfl (Nat.le_of_ble_eq_true rfl) rfl ?_
  refine rz_blk' [(.iconst 0, 1, 0, 0), (.istore_n 2, 1, 0, 0)] (by decide +kernel) (Nat.le_refl _) (Nat.le_refl _) (fun K R hK hR => ?_)
  simp only [rw_c0, ↓rx_iconst, ↓rx_istore_n2, ↓rx_nil, ↓ry_i1, rz_set, rz_nol, rz_clr, List.set_cons_zero, List.set_cons_succ, rz_tr, Nat.reduceAdd, Int.reduceAdd, Int.reduceToNat, Int.reduceSub, Int.reduceNeg, Int.cast_ofNat_Int]
  try simp (disch := omega) only [pk_us, pk_un, va_up_self, va_up_ne, nI_add, pk_mul, nI_clamp, vp_inT, nI_ltI, nI_leI, nI_eqI, pk_sub, true_and, and_true]
  refine hK _ _ _ _ ?_
  refine rz_blk' [(.iconst 0, 1, 0, 0), (.istore_n 3, 1, 0, 0)] (by decide +kernel) (Nat.le_refl _) (Nat.le_refl _) (fun K R hK hR => ?_)
  simp only [rw_c0, ↓rx_iconst, ↓rx_istore_n3, ↓rx_nil, ↓ry_i1, rz_set, rz_nol, rz_clr, List.set_cons_zero, List.set_cons_succ, rz_tr, Nat.reduceAdd, Int.reduceAdd, Int.reduceToNat, Int.reduceSub, Int.reduceNeg, Int.cast_ofNat_Int]
  try simp (disch := omega) only [pk_us, pk_un, va_up_self, va_up_ne, nI_add, pk_mul, nI_clamp, vp_inT, nI_ltI, nI_leI, nI_eqI, pk_sub, true_and, and_true]
  refine hK _ _ _ _ ?_
  exact el T.2.1.length 0 (P, 0) I A _ _ (by omega) rfl (Nat.le_refl _) fi.rf fa.rf hP hx
set_option maxRecDepth 100000 in
set_option maxHeartbeats 4000000 in
theorem c_Mod_longest {w : rz_w} {d : Nat} {G : rz_G} {a : Nat} {I : Nat → Int32} {A : Nat → Nat → Int32} {T : mv_T} (t : re_t A 0 T) (w1 : tw T 32) : rz_C w d 0 0 y_Mod_longest m_Mod_longest [.ref a] (re_put G a I A) (fun (r : Option Value) (G' : rz_G) => r = some (.int (nI (lgx T))) ∧ G' = re_put G a I A) := by
  generalize hQ : (fun (r : Option Value) (G' : rz_G) => r = some (.int (nI (lgx T))) ∧ G' = re_put G a I A) = Q
  obtain ⟨u1, u2, u3, u4, u5, u6⟩ := id t
  have hl := w1.2.1
  have hmx : ∀ {a b : Nat}, a ≤ 32 → b ≤ 32 → max a b ≤ 32 := fun h1 h2 => Nat.max_le.mpr ⟨h1, h2⟩
  have l2 : ∀ (j i g : Nat), i + j = T.2.1.length → g ≤ 32 → T.2.1.foldl (fun g e => max g e.2.2.2.length) ((List.range 6).foldl (fun g q => max g ((T.2.2.1 q).getD []).length) (max 1 T.2.2.2.length)) = (T.2.1.drop i).foldl (fun g e => max g e.2.2.2.length) g → rz_T w d 0 0 m_Mod_longest 0 0 60 [some (.ref a), some (.int (nI g)), some (.int (nI i))] [] (re_put G a I A) Q := by
    intro j
    induction j with
    | zero =>
      intro i g hij hg hf
      have hi : i = T.2.1.length := by omega
      rw [hi, List.drop_length] at hf
      refine rz_blk' [(.iload_n 2, 1, 0, 0), (.aload_n 0, 1, 0, 0), (.getfield 50, 3, 10, 15), (.iconst 0, 1, 0, 0), (.iaload, 1, 0, 0), (.if_icmp .ge 30, 3, 0, 0)] (by decide +kernel) (Nat.le_refl _) (Nat.le_refl _) (fun K R hK hR => ?_)
      simp only [rw_c0, ↓rx_aload_n0, ↓rx_getfield, ↓rx_iaload, ↓rx_iconst, ↓rx_if_icmp_ge, ↓rx_iload_n2, ↓rx_nil, ↓ry_i2, ↓ry_iau, ↓ry_li0s, ↓ry_li0z, ↓ry_lr0s, ↓ry_lr0z, ↓ry_obu, ↓ry_r1, ↓ry_ri, true_and, re_a15, ↓re_F15, ↓re_i15, ↓re_ob, u2, rz_set, rz_nol, rz_clr, List.set_cons_zero, List.set_cons_succ, rz_tr, Nat.reduceAdd, Int.reduceAdd, Int.reduceToNat, Int.reduceSub, Int.reduceNeg, Int.cast_ofNat_Int]
      try simp (disch := omega) only [u2, pk_us, pk_un, va_up_self, va_up_ne, nI_add, pk_mul, nI_clamp, vp_inT, nI_ltI, nI_leI, nI_eqI, pk_sub, true_and, and_true]
      refine ⟨fun q1 => hK _ _ _ _ ?_, fun q1 => by omega⟩
      refine rz_blk' [(.iload_n 1, 1, 0, 0), (.ireturn, 1, 0, 0)] (by decide +kernel) (Nat.le_refl _) (Nat.le_refl _) (fun K R hK hR => ?_)
      simp only [↓rx_iload_n1, ↓rx_ireturn, ↓rx_nil, ↓ry_li0s, ↓ry_li0z, u2, rz_set, rz_nol, rz_clr, List.set_cons_zero, List.set_cons_succ, rz_tr, Nat.reduceAdd, Int.reduceAdd, Int.reduceToNat, Int.reduceSub, Int.reduceNeg, Int.cast_ofNat_Int]
      try simp (disch := omega) only [u2, pk_us, pk_un, va_up_self, va_up_ne, nI_add, pk_mul, nI_clamp, vp_inT, nI_ltI, nI_leI, nI_eqI, pk_sub, true_and, and_true]
      exact hR _ _ (rz_nb_i (by decide)) (by rw [← hQ]; exact ⟨by unfold lgx; rw [hf]; rfl, rfl⟩)
    | succ j ih =>
      intro i g hij hg hf
      have hiT : i < T.2.1.length := by omega
      obtain ⟨-, -, -, a4, -⟩ := u3 i hiT
      rw [Nat.mul_zero, Nat.zero_add] at a4
      have b4 := (tw_e w1 hiT).2.2.2.1
      rw [List.drop_eq_getElem_cons hiT, List.foldl_cons] at hf
      refine rz_blk' [(.iload_n 2, 1, 0, 0), (.aload_n 0, 1, 0, 0), (.getfield 50, 3, 10, 15), (.iconst 0, 1, 0, 0), (.iaload, 1, 0, 0), (.if_icmp .ge 30, 3, 0, 0)] (by decide +kernel) (Nat.le_refl _) (Nat.le_refl _) (fun K R hK hR => ?_)
      simp only [rw_c0, ↓rx_aload_n0, ↓rx_getfield, ↓rx_iaload, ↓rx_iconst, ↓rx_if_icmp_ge, ↓rx_iload_n2, ↓rx_nil, ↓ry_i2, ↓ry_iau, ↓ry_li0s, ↓ry_li0z, ↓ry_lr0s, ↓ry_lr0z, ↓ry_obu, ↓ry_r1, ↓ry_ri, true_and, re_a15, ↓re_F15, ↓re_i15, ↓re_ob, u2, a4, rz_set, rz_nol, rz_clr, List.set_cons_zero, List.set_cons_succ, rz_tr, Nat.reduceAdd, Int.reduceAdd, Int.reduceToNat, Int.reduceSub, Int.reduceNeg, Int.cast_ofNat_Int]
      try simp (disch := omega) only [u2, a4, pk_us, pk_un, va_up_self, va_up_ne, nI_add, pk_mul, nI_clamp, vp_inT, nI_ltI, nI_leI, nI_eqI, pk_sub, true_and, and_true]
      refine ⟨fun q2 => by omega, fun q2 => hK _ _ _ _ ?_⟩
      refine rz_blk' [(.aload_n 0, 1, 0, 0), (.getfield 62, 3, 10, 19), (.iload_n 2, 1, 0, 0), (.iaload, 1, 0, 0), (.iload_n 1, 1, 0, 0), (.if_icmp .le 12, 3, 0, 0)] (by decide +kernel) (Nat.le_refl _) (Nat.le_refl _) (fun K R hK hR => ?_)
      simp only [↓rx_aload_n0, ↓rx_getfield, ↓rx_iaload, ↓rx_if_icmp_le, ↓rx_iload_n1, ↓rx_iload_n2, ↓rx_nil, ↓ry_i2, ↓ry_iau, ↓ry_li0s, ↓ry_li0z, ↓ry_lr0s, ↓ry_lr0z, ↓ry_obu, ↓ry_r1, ↓ry_ri, true_and, re_a19, ↓re_F19, ↓re_i19, ↓re_ob, u2, a4, rz_set, rz_nol, rz_clr, List.set_cons_zero, List.set_cons_succ, rz_tr, Nat.reduceAdd, Int.reduceAdd, Int.reduceToNat, Int.reduceSub, Int.reduceNeg, Int.cast_ofNat_Int]
      try simp (disch := omega) only [u2, a4, pk_us, pk_un, va_up_self, va_up_ne, nI_add, pk_mul, nI_clamp, vp_inT, nI_ltI, nI_leI, nI_eqI, pk_sub, true_and, and_true]
      refine ⟨fun q3 => hK _ _ _ _ ?_, fun q3 => hK _ _ _ _ ?_⟩
      · -- 77 taken
        refine rz_blk' [(.iload_n 1, 1, 0, 0), (.istore_n 1, 1, 0, 0)] (by decide +kernel) (Nat.le_refl _) (Nat.le_refl _) (fun K R hK hR => ?_)
        simp only [↓rx_iload_n1, ↓rx_istore_n1, ↓rx_nil, ↓ry_i1, ↓ry_li0s, ↓ry_li0z, u2, a4, rz_set, rz_nol, rz_clr, List.set_cons_zero, List.set_cons_succ, rz_tr, Nat.reduceAdd, Int.reduceAdd, Int.reduceToNat, Int.reduceSub, Int.reduceNeg, Int.cast_ofNat_Int]
        try simp (disch := omega) only [u2, a4, pk_us, pk_un, va_up_self, va_up_ne, nI_add, pk_mul, nI_clamp, vp_inT, nI_ltI, nI_leI, nI_eqI, pk_sub, true_and, and_true]
        refine hK _ _ _ _ ?_
        refine rz_blk' [(.iinc 2 1, 3, 0, 0)] (by decide +kernel) (Nat.le_refl _) (Nat.le_refl _) (fun K R hK hR => ?_)
        simp only [rw_c1, ↓rx_iinc, ↓rx_nil, ↓ry_li0s, ↓ry_li0z, u2, a4, rz_set, rz_nol, rz_clr, List.set_cons_zero, List.set_cons_succ, rz_tr, Nat.reduceAdd, Int.reduceAdd, Int.reduceToNat, Int.reduceSub, Int.reduceNeg, Int.cast_ofNat_Int]
        try simp (disch := omega) only [u2, a4, pk_us, pk_un, va_up_self, va_up_ne, nI_add, pk_mul, nI_clamp, vp_inT, nI_ltI, nI_leI, nI_eqI, pk_sub, true_and, and_true]
        refine hK _ _ _ _ ?_
        refine rz_blk' [(.goto (-34), 3, 0, 0)] (by decide +kernel) (Nat.le_refl _) (Nat.le_refl _) (fun K R hK hR => ?_)
        simp only [↓rx_goto, ↓rx_nil, u2, a4, rz_set, rz_nol, rz_clr, List.set_cons_zero, List.set_cons_succ, rz_tr, Nat.reduceAdd, Int.reduceAdd, Int.reduceToNat, Int.reduceSub, Int.reduceNeg, Int.cast_ofNat_Int]
        try simp (disch := omega) only [u2, a4, pk_us, pk_un, va_up_self, va_up_ne, nI_add, pk_mul, nI_clamp, vp_inT, nI_ltI, nI_leI, nI_eqI, pk_sub, true_and, and_true]
        refine hK _ _ _ _ ?_
        first
          | exact ih (i + 1) _ (by omega) (by omega) (by rw [hf, Nat.max_eq_right (by omega)])
          | exact ih (i + 1) _ (by omega) (by omega) (by rw [hf, Nat.max_eq_left (by omega)])
      · -- 77 not taken
        refine rz_blk' [(.aload_n 0, 1, 0, 0), (.getfield 62, 3, 10, 19), (.iload_n 2, 1, 0, 0), (.iaload, 1, 0, 0), (.goto 4, 3, 0, 0)] (by decide +kernel) (Nat.le_refl _) (Nat.le_refl _) (fun K R hK hR => ?_)
        simp only [↓rx_aload_n0, ↓rx_getfield, ↓rx_goto, ↓rx_iaload, ↓rx_iload_n2, ↓rx_nil, ↓ry_iau, ↓ry_li0s, ↓ry_li0z, ↓ry_lr0s, ↓ry_lr0z, ↓ry_obu, ↓ry_r1, ↓ry_ri, true_and, re_a19, ↓re_F19, ↓re_i19, ↓re_ob, u2, a4, rz_set, rz_nol, rz_clr, List.set_cons_zero, List.set_cons_succ, rz_tr, Nat.reduceAdd, Int.reduceAdd, Int.reduceToNat, Int.reduceSub, Int.reduceNeg, Int.cast_ofNat_Int]
        try simp (disch := omega) only [u2, a4, pk_us, pk_un, va_up_self, va_up_ne, nI_add, pk_mul, nI_clamp, vp_inT, nI_ltI, nI_leI, nI_eqI, pk_sub, true_and, and_true]
        refine hK _ _ _ _ ?_
        refine rz_blk' [(.istore_n 1, 1, 0, 0)] (by decide +kernel) (Nat.le_refl _) (Nat.le_refl _) (fun K R hK hR => ?_)
        simp only [↓rx_istore_n1, ↓rx_nil, ↓ry_i1, u2, a4, rz_set, rz_nol, rz_clr, List.set_cons_zero, List.set_cons_succ, rz_tr, Nat.reduceAdd, Int.reduceAdd, Int.reduceToNat, Int.reduceSub, Int.reduceNeg, Int.cast_ofNat_Int]
        try simp (disch := omega) only [u2, a4, pk_us, pk_un, va_up_self, va_up_ne, nI_add, pk_mul, nI_clamp, vp_inT, nI_ltI, nI_leI, nI_eqI, pk_sub, true_and, and_true]
        refine hK _ _ _ _ ?_
        refine rz_blk' [(.iinc 2 1, 3, 0, 0)] (by decide +kernel) (Nat.le_refl _) (Nat.le_refl _) (fun K R hK hR => ?_)
        simp only [rw_c1, ↓rx_iinc, ↓rx_nil, ↓ry_li0s, ↓ry_li0z, u2, a4, rz_set, rz_nol, rz_clr, List.set_cons_zero, List.set_cons_succ, rz_tr, Nat.reduceAdd, Int.reduceAdd, Int.reduceToNat, Int.reduceSub, Int.reduceNeg, Int.cast_ofNat_Int]
        try simp (disch := omega) only [u2, a4, pk_us, pk_un, va_up_self, va_up_ne, nI_add, pk_mul, nI_clamp, vp_inT, nI_ltI, nI_leI, nI_eqI, pk_sub, true_and, and_true]
        refine hK _ _ _ _ ?_
        refine rz_blk' [(.goto (-34), 3, 0, 0)] (by decide +kernel) (Nat.le_refl _) (Nat.le_refl _) (fun K R hK hR => ?_)
        simp only [↓rx_goto, ↓rx_nil, u2, a4, rz_set, rz_nol, rz_clr, List.set_cons_zero, List.set_cons_succ, rz_tr, Nat.reduceAdd, Int.reduceAdd, Int.reduceToNat, Int.reduceSub, Int.reduceNeg, Int.cast_ofNat_Int]
        try simp (disch := omega) only [u2, a4, pk_us, pk_un, va_up_self, va_up_ne, nI_add, pk_mul, nI_clamp, vp_inT, nI_ltI, nI_leI, nI_eqI, pk_sub, true_and, and_true]
        refine hK _ _ _ _ ?_
        first
          | exact ih (i + 1) _ (by omega) (by omega) (by rw [hf, Nat.max_eq_right (by omega)])
          | exact ih (i + 1) _ (by omega) (by omega) (by rw [hf, Nat.max_eq_left (by omega)])
  have l1 : ∀ (j i g : Nat), i + j = 6 → g ≤ 32 → g = (List.range i).foldl (fun g q => max g ((T.2.2.1 q).getD []).length) (max 1 T.2.2.2.length) → rz_T w d 0 0 m_Mod_longest 0 0 25 [some (.ref a), some (.int (nI g)), some (.int (nI i))] [] (re_put G a I A) Q := by
    intro j
    induction j with
    | zero =>
      intro i g hij hg hf
      have hi : i = 6 := by omega
      subst hi
      refine rz_blk' [(.iload_n 2, 1, 0, 0), (.bipush 6, 2, 0, 0), (.if_icmp .ge 30, 3, 0, 0)] (by decide +kernel) (Nat.le_refl _) (Nat.le_refl _) (fun K R hK hR => ?_)
      simp only [rw_b6, ↓rx_bipush, ↓rx_if_icmp_ge, ↓rx_iload_n2, ↓rx_nil, ↓ry_i2, ↓ry_li0s, ↓ry_li0z, rz_set, rz_nol, rz_clr, List.set_cons_zero, List.set_cons_succ, rz_tr, Nat.reduceAdd, Int.reduceAdd, Int.reduceToNat, Int.reduceSub, Int.reduceNeg, Int.cast_ofNat_Int]
      try simp (disch := omega) only [pk_us, pk_un, va_up_self, va_up_ne, nI_add, pk_mul, nI_clamp, vp_inT, nI_ltI, nI_leI, nI_eqI, pk_sub, true_and, and_true]
      refine ⟨fun q4 => hK _ _ _ _ ?_, fun q4 => by omega⟩
      refine rz_blk' [(.iconst 0, 1, 0, 0), (.istore_n 2, 1, 0, 0)] (by decide +kernel) (Nat.le_refl _) (Nat.le_refl _) (fun K R hK hR => ?_)
      simp only [rw_c0, ↓rx_iconst, ↓rx_istore_n2, ↓rx_nil, ↓ry_i1, rz_set, rz_nol, rz_clr, List.set_cons_zero, List.set_cons_succ, rz_tr, Nat.reduceAdd, Int.reduceAdd, Int.reduceToNat, Int.reduceSub, Int.reduceNeg, Int.cast_ofNat_Int]
      try simp (disch := omega) only [pk_us, pk_un, va_up_self, va_up_ne, nI_add, pk_mul, nI_clamp, vp_inT, nI_ltI, nI_leI, nI_eqI, pk_sub, true_and, and_true]
      refine hK _ _ _ _ ?_
      exact l2 T.2.1.length 0 g (Nat.zero_add _) hg (by rw [← hf]; rfl)
    | succ j ih =>
      intro i g hij hg hf
      have a1 := (u4 i (by omega)).1
      rw [Nat.mul_zero, Nat.zero_add] at a1
      have hfl : ((T.2.2.1 i).getD []).length ≤ 32 := tw_f w1
      have hst : (List.range (i + 1)).foldl (fun g q => max g ((T.2.2.1 q).getD []).length) (max 1 T.2.2.2.length) = max g ((T.2.2.1 i).getD []).length := by
        rw [List.range_succ, List.foldl_append, ← hf]; rfl
      have ih := fun g' => ih (i + 1) g' (by omega)
      rw [hst] at ih
      cases hc : T.2.2.1 i with
      | none =>
        rw [hc] at a1 ih
        have a1 : A 21 i = -1 := a1
        have hle : ((-1 : Int32) ≤ nI g) = True := eq_true (Int32.le_trans (by decide : (-1 : Int32) ≤ nI 0) (nI_le (Nat.zero_le _) (by omega)))
        refine rz_blk' [(.iload_n 2, 1, 0, 0), (.bipush 6, 2, 0, 0), (.if_icmp .ge 30, 3, 0, 0)] (by decide +kernel) (Nat.le_refl _) (Nat.le_refl _) (fun K R hK hR => ?_)
        simp only [rw_b6, ↓rx_bipush, ↓rx_if_icmp_ge, ↓rx_iload_n2, ↓rx_nil, ↓ry_i2, ↓ry_li0s, ↓ry_li0z, a1, rz_set, rz_nol, rz_clr, List.set_cons_zero, List.set_cons_succ, rz_tr, Nat.reduceAdd, Int.reduceAdd, Int.reduceToNat, Int.reduceSub, Int.reduceNeg, Int.cast_ofNat_Int]
        try simp (disch := omega) only [a1, hle, pk_us, pk_un, va_up_self, va_up_ne, nI_add, pk_mul, nI_clamp, vp_inT, nI_ltI, nI_leI, nI_eqI, pk_sub, true_and, and_true]
        refine ⟨fun q5 => by omega, fun q5 => hK _ _ _ _ ?_⟩
        refine rz_blk' [(.aload_n 0, 1, 0, 0), (.getfield 68, 3, 10, 21), (.iload_n 2, 1, 0, 0), (.iaload, 1, 0, 0), (.iload_n 1, 1, 0, 0), (.if_icmp .le 12, 3, 0, 0)] (by decide +kernel) (Nat.le_refl _) (Nat.le_refl _) (fun K R hK hR => ?_)
        simp only [↓rx_aload_n0, ↓rx_getfield, ↓rx_iaload, ↓rx_if_icmp_le, ↓rx_iload_n1, ↓rx_iload_n2, ↓rx_nil, ↓ry_i2, ↓ry_iau, ↓ry_li0s, ↓ry_li0z, ↓ry_lr0s, ↓ry_lr0z, ↓ry_obu, ↓ry_r1, ↓ry_ri, true_and, re_a21, ↓re_F21, ↓re_i21, ↓re_ob, a1, rz_set, rz_nol, rz_clr, List.set_cons_zero, List.set_cons_succ, rz_tr, Nat.reduceAdd, Int.reduceAdd, Int.reduceToNat, Int.reduceSub, Int.reduceNeg, Int.cast_ofNat_Int]
        try simp (disch := omega) only [a1, hle, pk_us, pk_un, va_up_self, va_up_ne, nI_add, pk_mul, nI_clamp, vp_inT, nI_ltI, nI_leI, nI_eqI, pk_sub, true_and, and_true]
        refine ⟨fun q6 => hK _ _ _ _ ?_, fun q6 => by first | exact absurd trivial q6 | exact absurd (of_eq_true hle) q6⟩
        refine rz_blk' [(.iload_n 1, 1, 0, 0), (.istore_n 1, 1, 0, 0)] (by decide +kernel) (Nat.le_refl _) (Nat.le_refl _) (fun K R hK hR => ?_)
        simp only [↓rx_iload_n1, ↓rx_istore_n1, ↓rx_nil, ↓ry_i1, ↓ry_li0s, ↓ry_li0z, a1, rz_set, rz_nol, rz_clr, List.set_cons_zero, List.set_cons_succ, rz_tr, Nat.reduceAdd, Int.reduceAdd, Int.reduceToNat, Int.reduceSub, Int.reduceNeg, Int.cast_ofNat_Int]
        try simp (disch := omega) only [a1, hle, pk_us, pk_un, va_up_self, va_up_ne, nI_add, pk_mul, nI_clamp, vp_inT, nI_ltI, nI_leI, nI_eqI, pk_sub, true_and, and_true]
        refine hK _ _ _ _ ?_
        refine rz_blk' [(.iinc 2 1, 3, 0, 0)] (by decide +kernel) (Nat.le_refl _) (Nat.le_refl _) (fun K R hK hR => ?_)
        simp only [rw_c1, ↓rx_iinc, ↓rx_nil, ↓ry_li0s, ↓ry_li0z, a1, rz_set, rz_nol, rz_clr, List.set_cons_zero, List.set_cons_succ, rz_tr, Nat.reduceAdd, Int.reduceAdd, Int.reduceToNat, Int.reduceSub, Int.reduceNeg, Int.cast_ofNat_Int]
        try simp (disch := omega) only [a1, hle, pk_us, pk_un, va_up_self, va_up_ne, nI_add, pk_mul, nI_clamp, vp_inT, nI_ltI, nI_leI, nI_eqI, pk_sub, true_and, and_true]
        refine hK _ _ _ _ ?_
        refine rz_blk' [(.goto (-30), 3, 0, 0)] (by decide +kernel) (Nat.le_refl _) (Nat.le_refl _) (fun K R hK hR => ?_)
        simp only [↓rx_goto, ↓rx_nil, a1, rz_set, rz_nol, rz_clr, List.set_cons_zero, List.set_cons_succ, rz_tr, Nat.reduceAdd, Int.reduceAdd, Int.reduceToNat, Int.reduceSub, Int.reduceNeg, Int.cast_ofNat_Int]
        try simp (disch := omega) only [a1, hle, pk_us, pk_un, va_up_self, va_up_ne, nI_add, pk_mul, nI_clamp, vp_inT, nI_ltI, nI_leI, nI_eqI, pk_sub, true_and, and_true]
        refine hK _ _ _ _ ?_
        exact ih g hg (by simp)
      | some xs =>
        rw [hc] at a1 ih hfl
        have a1 : A 21 i = nI xs.length := a1
        simp only [Option.getD_some] at hfl ih
        refine rz_blk' [(.iload_n 2, 1, 0, 0), (.bipush 6, 2, 0, 0), (.if_icmp .ge 30, 3, 0, 0)] (by decide +kernel) (Nat.le_refl _) (Nat.le_refl _) (fun K R hK hR => ?_)
        simp only [rw_b6, ↓rx_bipush, ↓rx_if_icmp_ge, ↓rx_iload_n2, ↓rx_nil, ↓ry_i2, ↓ry_li0s, ↓ry_li0z, a1, rz_set, rz_nol, rz_clr, List.set_cons_zero, List.set_cons_succ, rz_tr, Nat.reduceAdd, Int.reduceAdd, Int.reduceToNat, Int.reduceSub, Int.reduceNeg, Int.cast_ofNat_Int]
        try simp (disch := omega) only [a1, pk_us, pk_un, va_up_self, va_up_ne, nI_add, pk_mul, nI_clamp, vp_inT, nI_ltI, nI_leI, nI_eqI, pk_sub, true_and, and_true]
        refine ⟨fun q7 => by omega, fun q7 => hK _ _ _ _ ?_⟩
        refine rz_blk' [(.aload_n 0, 1, 0, 0), (.getfield 68, 3, 10, 21), (.iload_n 2, 1, 0, 0), (.iaload, 1, 0, 0), (.iload_n 1, 1, 0, 0), (.if_icmp .le 12, 3, 0, 0)] (by decide +kernel) (Nat.le_refl _) (Nat.le_refl _) (fun K R hK hR => ?_)
        simp only [↓rx_aload_n0, ↓rx_getfield, ↓rx_iaload, ↓rx_if_icmp_le, ↓rx_iload_n1, ↓rx_iload_n2, ↓rx_nil, ↓ry_i2, ↓ry_iau, ↓ry_li0s, ↓ry_li0z, ↓ry_lr0s, ↓ry_lr0z, ↓ry_obu, ↓ry_r1, ↓ry_ri, true_and, re_a21, ↓re_F21, ↓re_i21, ↓re_ob, a1, rz_set, rz_nol, rz_clr, List.set_cons_zero, List.set_cons_succ, rz_tr, Nat.reduceAdd, Int.reduceAdd, Int.reduceToNat, Int.reduceSub, Int.reduceNeg, Int.cast_ofNat_Int]
        try simp (disch := omega) only [a1, pk_us, pk_un, va_up_self, va_up_ne, nI_add, pk_mul, nI_clamp, vp_inT, nI_ltI, nI_leI, nI_eqI, pk_sub, true_and, and_true]
        refine ⟨fun q8 => hK _ _ _ _ ?_, fun q8 => hK _ _ _ _ ?_⟩
        · -- 38 taken
          refine rz_blk' [(.iload_n 1, 1, 0, 0), (.istore_n 1, 1, 0, 0)] (by decide +kernel) (Nat.le_refl _) (Nat.le_refl _) (fun K R hK hR => ?_)
          simp only [↓rx_iload_n1, ↓rx_istore_n1, ↓rx_nil, ↓ry_i1, ↓ry_li0s, ↓ry_li0z, a1, rz_set, rz_nol, rz_clr, List.set_cons_zero, List.set_cons_succ, rz_tr, Nat.reduceAdd, Int.reduceAdd, Int.reduceToNat, Int.reduceSub, Int.reduceNeg, Int.cast_ofNat_Int]
          try simp (disch := omega) only [a1, pk_us, pk_un, va_up_self, va_up_ne, nI_add, pk_mul, nI_clamp, vp_inT, nI_ltI, nI_leI, nI_eqI, pk_sub, true_and, and_true]
          refine hK _ _ _ _ ?_
          refine rz_blk' [(.iinc 2 1, 3, 0, 0)] (by decide +kernel) (Nat.le_refl _) (Nat.le_refl _) (fun K R hK hR => ?_)
          simp only [rw_c1, ↓rx_iinc, ↓rx_nil, ↓ry_li0s, ↓ry_li0z, a1, rz_set, rz_nol, rz_clr, List.set_cons_zero, List.set_cons_succ, rz_tr, Nat.reduceAdd, Int.reduceAdd, Int.reduceToNat, Int.reduceSub, Int.reduceNeg, Int.cast_ofNat_Int]
          try simp (disch := omega) only [a1, pk_us, pk_un, va_up_self, va_up_ne, nI_add, pk_mul, nI_clamp, vp_inT, nI_ltI, nI_leI, nI_eqI, pk_sub, true_and, and_true]
          refine hK _ _ _ _ ?_
          refine rz_blk' [(.goto (-30), 3, 0, 0)] (by decide +kernel) (Nat.le_refl _) (Nat.le_refl _) (fun K R hK hR => ?_)
          simp only [↓rx_goto, ↓rx_nil, a1, rz_set, rz_nol, rz_clr, List.set_cons_zero, List.set_cons_succ, rz_tr, Nat.reduceAdd, Int.reduceAdd, Int.reduceToNat, Int.reduceSub, Int.reduceNeg, Int.cast_ofNat_Int]
          try simp (disch := omega) only [a1, pk_us, pk_un, va_up_self, va_up_ne, nI_add, pk_mul, nI_clamp, vp_inT, nI_ltI, nI_leI, nI_eqI, pk_sub, true_and, and_true]
          refine hK _ _ _ _ ?_
          first
            | exact ih _ (by omega) (by rw [Nat.max_eq_right (by omega)])
            | exact ih _ (by omega) (by rw [Nat.max_eq_left (by omega)])
        · -- 38 not taken
          refine rz_blk' [(.aload_n 0, 1, 0, 0), (.getfield 68, 3, 10, 21), (.iload_n 2, 1, 0, 0), (.iaload, 1, 0, 0), (.goto 4, 3, 0, 0)] (by decide +kernel) (Nat.le_refl _) (Nat.le_refl _) (fun K R hK hR => ?_)
          simp only [↓rx_aload_n0, ↓rx_getfield, ↓rx_goto, ↓rx_iaload, ↓rx_iload_n2, ↓rx_nil, ↓ry_iau, ↓ry_li0s, ↓ry_li0z, ↓ry_lr0s, ↓ry_lr0z, ↓ry_obu, ↓ry_r1, ↓ry_ri, true_and, re_a21, ↓re_F21, ↓re_i21, ↓re_ob, a1, rz_set, rz_nol, rz_clr, List.set_cons_zero, List.set_cons_succ, rz_tr, Nat.reduceAdd, Int.reduceAdd, Int.reduceToNat, Int.reduceSub, Int.reduceNeg, Int.cast_ofNat_Int]
          try simp (disch := omega) only [a1, pk_us, pk_un, va_up_self, va_up_ne, nI_add, pk_mul, nI_clamp, vp_inT, nI_ltI, nI_leI, nI_eqI, pk_sub, true_and, and_true]
          refine hK _ _ _ _ ?_
          refine rz_blk' [(.istore_n 1, 1, 0, 0)] (by decide +kernel) (Nat.le_refl _) (Nat.le_refl _) (fun K R hK hR => ?_)
          simp only [↓rx_istore_n1, ↓rx_nil, ↓ry_i1, a1, rz_set, rz_nol, rz_clr, List.set_cons_zero, List.set_cons_succ, rz_tr, Nat.reduceAdd, Int.reduceAdd, Int.reduceToNat, Int.reduceSub, Int.reduceNeg, Int.cast_ofNat_Int]
          try simp (disch := omega) only [a1, pk_us, pk_un, va_up_self, va_up_ne, nI_add, pk_mul, nI_clamp, vp_inT, nI_ltI, nI_leI, nI_eqI, pk_sub, true_and, and_true]
          refine hK _ _ _ _ ?_
          refine rz_blk' [(.iinc 2 1, 3, 0, 0)] (by decide +kernel) (Nat.le_refl _) (Nat.le_refl _) (fun K R hK hR => ?_)
          simp only [rw_c1, ↓rx_iinc, ↓rx_nil, ↓ry_li0s, ↓ry_li0z, a1, rz_set, rz_nol, rz_clr, List.set_cons_zero, List.set_cons_succ, rz_tr, Nat.reduceAdd, Int.reduceAdd, Int.reduceToNat, Int.reduceSub, Int.reduceNeg, Int.cast_ofNat_Int]
          try simp (disch := omega) only [a1, pk_us, pk_un, va_up_self, va_up_ne, nI_add, pk_mul, nI_clamp, vp_inT, nI_ltI, nI_leI, nI_eqI, pk_sub, true_and, and_true]
          refine hK _ _ _ _ ?_
          refine rz_blk' [(.goto (-30), 3, 0, 0)] (by decide +kernel) (Nat.le_refl _) (Nat.le_refl _) (fun K R hK hR => ?_)
          simp only [↓rx_goto, ↓rx_nil, a1, rz_set, rz_nol, rz_clr, List.set_cons_zero, List.set_cons_succ, rz_tr, Nat.reduceAdd, Int.reduceAdd, Int.reduceToNat, Int.reduceSub, Int.reduceNeg, Int.cast_ofNat_Int]
          try simp (disch := omega) only [a1, pk_us, pk_un, va_up_self, va_up_ne, nI_add, pk_mul, nI_clamp, vp_inT, nI_ltI, nI_leI, nI_eqI, pk_sub, true_and, and_true]
          refine hK _ _ _ _ ?_
          first
            | exact ih _ (by omega) (by rw [Nat.max_eq_right (by omega)])
            | exact ih _ (by omega) (by rw [Nat.max_eq_left (by omega)])
  refine rz_enter' [some (.ref a), none, none] (by decide +kernel) rfl rfl (Nat.le_of_ble_eq_true rfl) rfl ?_
  have hsl := w1.2.2.2.2.2.1
  refine rz_blk' [(.iconst 1, 1, 0, 0), (.istore_n 1, 1, 0, 0)] (by decide +kernel) (Nat.le_refl _) (Nat.le_refl _) (fun K R hK hR => ?_)
  simp only [rw_c1, ↓rx_iconst, ↓rx_istore_n1, ↓rx_nil, ↓ry_i1, u5, rz_set, rz_nol, rz_clr, List.set_cons_zero, List.set_cons_succ, rz_tr, Nat.reduceAdd, Int.reduceAdd, Int.reduceToNat, Int.reduceSub, Int.reduceNeg, Int.cast_ofNat_Int]
  try simp (disch := omega) only [u5, pk_us, pk_un, va_up_self, va_up_ne, nI_add, pk_mul, nI_clamp, vp_inT, nI_ltI, nI_leI, nI_eqI, pk_sub, true_and, and_true]
  refine hK _ _ _ _ ?_
  refine rz_blk' [(.aload_n 0, 1, 0, 0), (.getfield 74, 3, 10, 23), (.iconst 0, 1, 0, 0), (.iaload, 1, 0, 0), (.iload_n 1, 1, 0, 0), (.if_icmp .le 12, 3, 0, 0)] (by decide +kernel) (Nat.le_refl _) (Nat.le_refl _) (fun K R hK hR => ?_)
  simp only [rw_c0, ↓rx_aload_n0, ↓rx_getfield, ↓rx_iaload, ↓rx_iconst, ↓rx_if_icmp_le, ↓rx_iload_n1, ↓rx_nil, ↓ry_i2, ↓ry_iau, ↓ry_li0s, ↓ry_li0z, ↓ry_lr0s, ↓ry_lr0z, ↓ry_obu, ↓ry_r1, ↓ry_ri, true_and, re_a23, ↓re_F23, ↓re_i23, ↓re_ob, u5, rz_set, rz_nol, rz_clr, List.set_cons_zero, List.set_cons_succ, rz_tr, Nat.reduceAdd, Int.reduceAdd, Int.reduceToNat, Int.reduceSub, Int.reduceNeg, Int.cast_ofNat_Int]
  try simp (disch := omega) only [u5, pk_us, pk_un, va_up_self, va_up_ne, nI_add, pk_mul, nI_clamp, vp_inT, nI_ltI, nI_leI, nI_eqI, pk_sub, true_and, and_true]
  refine ⟨fun q9 => hK _ _ _ _ ?_, fun q9 => hK _ _ _ _ ?_⟩
  · -- 9 taken
    refine rz_blk' [(.iload_n 1, 1, 0, 0), (.istore_n 1, 1, 0, 0)] (by decide +kernel) (Nat.le_refl _) (Nat.le_refl _) (fun K R hK hR => ?_)
    simp only [↓rx_iload_n1, ↓rx_istore_n1, ↓rx_nil, ↓ry_i1, ↓ry_li0s, ↓ry_li0z, u5, rz_set, rz_nol, rz_clr, List.set_cons_zero, List.set_cons_succ, rz_tr, Nat.reduceAdd, Int.reduceAdd, Int.reduceToNat, Int.reduceSub, Int.reduceNeg, Int.cast_ofNat_Int]
    try simp (disch := omega) only [u5, pk_us, pk_un, va_up_self, va_up_ne, nI_add, pk_mul, nI_clamp, vp_inT, nI_ltI, nI_leI, nI_eqI, pk_sub, true_and, and_true]
    refine hK _ _ _ _ ?_
    refine rz_blk' [(.iconst 0, 1, 0, 0), (.istore_n 2, 1, 0, 0)] (by decide +kernel) (Nat.le_refl _) (Nat.le_refl _) (fun K R hK hR => ?_)
    simp only [rw_c0, ↓rx_iconst, ↓rx_istore_n2, ↓rx_nil, ↓ry_i1, u5, rz_set, rz_nol, rz_clr, List.set_cons_zero, List.set_cons_succ, rz_tr, Nat.reduceAdd, Int.reduceAdd, Int.reduceToNat, Int.reduceSub, Int.reduceNeg, Int.cast_ofNat_Int]
    try simp (disch := omega) only [u5, pk_us, pk_un, va_up_self, va_up_ne, nI_add, pk_mul, nI_clamp, vp_inT, nI_ltI, nI_leI, nI_eqI, pk_sub, true_and, and_true]
    refine hK _ _ _ _ ?_
    first
      | exact l1 6 0 _ rfl (by omega) (by show _ = max 1 _; rw [Nat.max_eq_right (by omega)])
      | exact l1 6 0 _ rfl (by omega) (by show _ = max 1 _; rw [Nat.max_eq_left (by omega)])
  · -- 9 not taken
    refine rz_blk' [(.aload_n 0, 1, 0, 0), (.getfield 74, 3, 10, 23), (.iconst 0, 1, 0, 0), (.iaload, 1, 0, 0), (.goto 4, 3, 0, 0)] (by decide +kernel) (Nat.le_refl _) (Nat.le_refl _) (fun K R hK hR => ?_)
    simp only [rw_c0, ↓rx_aload_n0, ↓rx_getfield, ↓rx_goto, ↓rx_iaload, ↓rx_iconst, ↓rx_nil, ↓ry_iau, ↓ry_lr0s, ↓ry_lr0z, ↓ry_obu, ↓ry_r1, ↓ry_ri, true_and, re_a23, ↓re_F23, ↓re_i23, ↓re_ob, u5, rz_set, rz_nol, rz_clr, List.set_cons_zero, List.set_cons_succ, rz_tr, Nat.reduceAdd, Int.reduceAdd, Int.reduceToNat, Int.reduceSub, Int.reduceNeg, Int.cast_ofNat_Int]
    try simp (disch := omega) only [u5, pk_us, pk_un, va_up_self, va_up_ne, nI_add, pk_mul, nI_clamp, vp_inT, nI_ltI, nI_leI, nI_eqI, pk_sub, true_and, and_true]
    refine hK _ _ _ _ ?_
    refine rz_blk' [(.istore_n 1, 1, 0, 0)] (by decide +kernel) (Nat.le_refl _) (Nat.le_refl _) (fun K R hK hR => ?_)
    simp only [↓rx_istore_n1, ↓rx_nil, ↓ry_i1, u5, rz_set, rz_nol, rz_clr, List.set_cons_zero, List.set_cons_succ, rz_tr, Nat.reduceAdd, Int.reduceAdd, Int.reduceToNat, Int.reduceSub, Int.reduceNeg, Int.cast_ofNat_Int]
    try simp (disch := omega) only [u5, pk_us, pk_un, va_up_self, va_up_ne, nI_add, pk_mul, nI_clamp, vp_inT, nI_ltI, nI_leI, nI_eqI, pk_sub, true_and, and_true]
    refine hK _ _ _ _ ?_
    refine rz_blk' [(.iconst 0, 1, 0, 0), (.istore_n 2, 1, 0, 0)] (by decide +kernel) (Nat.le_refl _) (Nat.le_refl _) (fun K R hK hR => ?_)
    simp only [rw_c0, ↓rx_iconst, ↓rx_istore_n2, ↓rx_nil, ↓ry_i1, u5, rz_set, rz_nol, rz_clr, List.set_cons_zero, List.set_cons_succ, rz_tr, Nat.reduceAdd, Int.reduceAdd, Int.reduceToNat, Int.reduceSub, Int.reduceNeg, Int.cast_ofNat_Int]
    try simp (disch := omega) only [u5, pk_us, pk_un, va_up_self, va_up_ne, nI_add, pk_mul, nI_clamp, vp_inT, nI_ltI, nI_leI, nI_eqI, pk_sub, true_and, and_true]
    refine hK _ _ _ _ ?_
    first
      | exact l1 6 0 _ rfl (by omega) (by show _ = max 1 _; rw [Nat.max_eq_right (by omega)])
      | exact l1 6 0 _ rfl (by omega) (by show _ = max 1 _; rw [Nat.max_eq_left (by omega)])
