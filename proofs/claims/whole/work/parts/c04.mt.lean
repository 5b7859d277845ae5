/-! the class and the reference agree: the other methods; signs stay below 8 -/
theorem nI_s {a b : Nat} {x : Int32} (ha : a < 5000) (hb : b < 5000) (h : x = nI a) (h' : x = nI b) : a = b := (nI_eq (by omega) (by omega)).mp (h.symm.trans h')
theorem nI_m1 {n : Nat} (h : n ≤ 3) : ¬ (-1 : Int32) = nI n := fun e => hp_m1 n (by omega) e.symm
theorem mw_machine {V : dk_V} {x y : Int32} : mtw cdA (fun r V' => r = none ∧ ∃ k n, k < 6 ∧ 1 ≤ n ∧ n ≤ 6 ∧ x = nI k ∧ y = nI n ∧ V' = dk_um V k (dk_ms n)) (fun c => (c = 0 ∧ dk_no x) ∨ (c = 1 ∧ ¬ dk_no x ∧ ¬ dk_ok6 y)) (fun r V' => r = none ∧ ∃ k n, k < 6 ∧ 1 ≤ n ∧ n ≤ 6 ∧ x = nI k ∧ y = nI n ∧ V' = dk_um V k (dk_ms n)) (fun c => (c = 1 ∧ dk_no x) ∨ (c = 2 ∧ ¬ dk_no x ∧ ¬ dk_ok6 y)) := by
  refine ⟨fun r V1 r' V2 h h' => ?_, fun r V1 c' h h' => ?_, fun c r' V2 h h' => ?_, fun c c' h h' => ?_⟩
  · obtain ⟨rfl, k, n, a1, a2, a3, a4, a5, rfl⟩ := h
    obtain ⟨rfl, k', n', b1, b2, b3, b4, b5, rfl⟩ := h'
    have e := nI_s (by omega) (by omega) a4 b4
    have e2 := nI_s (by omega) (by omega) a5 b5
    subst e; subst e2
    exact ⟨rfl, vq_w ⟨rfl, rfl, rfl⟩⟩
  · obtain ⟨rfl, k, n, a1, a2, a3, a4, a5, rfl⟩ := h
    rcases h' with ⟨-, h'⟩ | ⟨-, -, h'⟩
    · exact h' k a1 a4
    · exact h' ⟨n, a2, a3, a5⟩
  · obtain ⟨rfl, k, n, a1, a2, a3, a4, a5, rfl⟩ := h'
    rcases h with ⟨-, h⟩ | ⟨-, -, h⟩
    · exact h k a1 a4
    · exact h ⟨n, a2, a3, a5⟩
  · rcases h with ⟨rfl, h⟩ | ⟨rfl, h, -⟩ <;> rcases h' with ⟨rfl, h'⟩ | ⟨rfl, h', -⟩
    · rfl
    · exact absurd h h'
    · exact absurd h' h
    · rfl
theorem mw_first {V : dk_V} {x y u : Int32} : mtw cdA (fun r V' => r = none ∧ ∃ k n, k < 6 ∧ n ≤ 3 ∧ x = nI k ∧ y = nI n ∧ V' = dk_um V k ((V.1 k).1, (V.1 k).2.1, (V.1 k).2.2.1, wd_told u.toBitVec.toNat n)) (fun c => (c = 0 ∧ dk_no x) ∨ (c = 1 ∧ ¬ dk_no x ∧ ∀ n, n ≤ 3 → y ≠ nI n)) (fun r V' => r = none ∧ ∃ k n, k < 6 ∧ n ≤ 3 ∧ x = nI k ∧ y = nI n ∧ V' = dk_um V k ((V.1 k).1, (V.1 k).2.1, (V.1 k).2.2.1, wd_told u.toBitVec.toNat n)) (fun c => (c = 1 ∧ dk_no x) ∨ (c = 2 ∧ ¬ dk_no x ∧ ∀ n, n ≤ 3 → y ≠ nI n)) := by
  refine ⟨fun r V1 r' V2 h h' => ?_, fun r V1 c' h h' => ?_, fun c r' V2 h h' => ?_, fun c c' h h' => ?_⟩
  · obtain ⟨rfl, k, n, a1, a2, a4, a5, rfl⟩ := h
    obtain ⟨rfl, k', n', b1, b2, b4, b5, rfl⟩ := h'
    have e := nI_s (by omega) (by omega) a4 b4
    have e2 := nI_s (by omega) (by omega) a5 b5
    subst e; subst e2
    exact ⟨rfl, vq_w ⟨rfl, rfl, rfl⟩⟩
  · obtain ⟨rfl, k, n, a1, a2, a4, a5, rfl⟩ := h
    rcases h' with ⟨-, h'⟩ | ⟨-, -, h'⟩
    · exact h' k a1 a4
    · exact h' n a2 a5
  · obtain ⟨rfl, k, n, a1, a2, a4, a5, rfl⟩ := h'
    rcases h with ⟨-, h⟩ | ⟨-, -, h⟩
    · exact h k a1 a4
    · exact h n a2 a5
  · rcases h with ⟨rfl, h⟩ | ⟨rfl, h, -⟩ <;> rcases h' with ⟨rfl, h'⟩ | ⟨rfl, h', -⟩
    · rfl
    · exact absurd h h'
    · exact absurd h' h
    · rfl
theorem mw_last {V : dk_V} {x yq yn u : Int32} (hw : ∀ k, k < 6 → wf (V.1 k)) : mtw cdA (fun r V' => r = none ∧ ∃ k q, k < 6 ∧ q < (V.1 k).1 ∧ x = nI k ∧ yq = nI q ∧ ((yn = -1 ∧ V' = dk_um V k (dk_fi (V.1 k) q none)) ∨ ∃ n, n ≤ 3 ∧ yn = nI n ∧ V' = dk_um V k (dk_fi (V.1 k) q (some (wd_told u.toBitVec.toNat n))))) (fun c => (c = 0 ∧ dk_no x) ∨ (c = 1 ∧ ∃ k, k < 6 ∧ x = nI k ∧ ¬ dk_lok (V.1 k) yq yn)) (fun r V' => r = none ∧ ∃ k q, k < 6 ∧ q < (V.1 k).1 ∧ x = nI k ∧ yq = nI q ∧ ((yn = -1 ∧ V' = dk_um V k (dk_fi (V.1 k) q none)) ∨ ∃ n, n ≤ 3 ∧ yn = nI n ∧ V' = dk_um V k (dk_fi (V.1 k) q (some (wd_told u.toBitVec.toNat n))))) (fun c => (c = 1 ∧ dk_no x) ∨ (c = 2 ∧ ∃ k, k < 6 ∧ x = nI k ∧ ¬ dk_lok (V.1 k) yq yn)) := by
  refine ⟨fun r V1 r' V2 h h' => ?_, fun r V1 c' h h' => ?_, fun c r' V2 h h' => ?_, fun c c' h h' => ?_⟩
  · obtain ⟨rfl, k, q, a1, a2, a3, a4, a5⟩ := h
    obtain ⟨rfl, k', q', b1, b2, b3, b4, b5⟩ := h'
    have e := nI_s (by omega) (by omega) a3 b3
    subst e
    have h6 := (hw k a1).2.1
    have e2 := nI_s (by omega) (by omega) a4 b4
    subst e2
    refine ⟨rfl, vq_w ?_⟩
    rcases a5 with ⟨a5, rfl⟩ | ⟨n, a5, a6, rfl⟩ <;> rcases b5 with ⟨b5, rfl⟩ | ⟨n', b5, b6, rfl⟩
    · exact ⟨rfl, rfl, rfl⟩
    · exact absurd (a5.symm.trans b6) (nI_m1 b5)
    · exact absurd (b5.symm.trans a6) (nI_m1 a5)
    · have e3 := nI_s (by omega) (by omega) a6 b6
      subst e3
      exact ⟨rfl, rfl, rfl⟩
  · obtain ⟨rfl, k, q, a1, a2, a3, a4, a5⟩ := h
    rcases h' with ⟨-, h'⟩ | ⟨-, k', b1, b2, h'⟩
    · exact h' k a1 a3
    · have e := nI_s (by omega) (by omega) a3 b2
      subst e
      refine h' ⟨⟨q, a2, a4⟩, ?_⟩
      rcases a5 with ⟨a5, -⟩ | ⟨n, a5, a6, -⟩
      · exact Or.inl a5
      · exact Or.inr ⟨n, a5, a6⟩
  · obtain ⟨rfl, k, q, a1, a2, a3, a4, a5⟩ := h'
    rcases h with ⟨-, h⟩ | ⟨-, k', b1, b2, h⟩
    · exact h k a1 a3
    · have e := nI_s (by omega) (by omega) a3 b2
      subst e
      refine h ⟨⟨q, a2, a4⟩, ?_⟩
      rcases a5 with ⟨a5, -⟩ | ⟨n, a5, a6, -⟩
      · exact Or.inl a5
      · exact Or.inr ⟨n, a5, a6⟩
  · rcases h with ⟨rfl, h⟩ | ⟨rfl, k, h1, h2, h⟩ <;> rcases h' with ⟨rfl, h'⟩ | ⟨rfl, k', h1', h2', h'⟩
    · rfl
    · exact absurd h2' (h k' h1')
    · exact absurd h2 (h' k h1)
    · rfl
theorem mw_edge {V : dk_V} {x yf yl yt yn u : Int32} (hw : ∀ k, k < 6 → wf (V.1 k)) : mtw cdA (fun r V' => ∃ k f l t n, k < 6 ∧ f < (V.1 k).1 ∧ t < (V.1 k).1 ∧ l < 3 ∧ n ≤ 3 ∧ (V.1 k).2.1.length < 24 ∧ x = nI k ∧ yf = nI f ∧ yl = nI l ∧ yt = nI t ∧ yn = nI n ∧ r = some (.int (nI (V.1 k).2.1.length)) ∧ V' = dk_um V k (dk_ae (V.1 k) f l t (wd_told u.toBitVec.toNat n))) (fun c => (c = 0 ∧ dk_no x) ∨ ∃ k, k < 6 ∧ x = nI k ∧ ((c = 1 ∧ ¬ dk_eok (V.1 k) yf yl yt yn) ∨ (c = 2 ∧ dk_eok (V.1 k) yf yl yt yn ∧ 24 ≤ (V.1 k).2.1.length))) (fun r V' => ∃ k f l t n, k < 6 ∧ f < (V.1 k).1 ∧ t < (V.1 k).1 ∧ l < 3 ∧ n ≤ 3 ∧ (V.1 k).2.1.length < 24 ∧ x = nI k ∧ yf = nI f ∧ yl = nI l ∧ yt = nI t ∧ yn = nI n ∧ r = some (.int (nI (V.1 k).2.1.length)) ∧ V' = dk_um V k (dk_ae (V.1 k) f l t (wd_told u.toBitVec.toNat n))) (fun c => (c = 1 ∧ dk_no x) ∨ ∃ k, k < 6 ∧ x = nI k ∧ ((c = 2 ∧ ¬ dk_eok (V.1 k) yf yl yt yn) ∨ (c = 3 ∧ dk_eok (V.1 k) yf yl yt yn ∧ 24 ≤ (V.1 k).2.1.length))) := by
  refine ⟨fun r V1 r' V2 h h' => ?_, fun r V1 c' h h' => ?_, fun c r' V2 h h' => ?_, fun c c' h h' => ?_⟩
  · obtain ⟨k, f, l, t, n, a1, a2, a3, a4, a5, a6, a7, a8, a9, a10, a11, rfl, rfl⟩ := h
    obtain ⟨k', f', l', t', n', b1, b2, b3, b4, b5, b6, b7, b8, b9, b10, b11, rfl, rfl⟩ := h'
    have e := nI_s (by omega) (by omega) a7 b7
    subst e
    have h6 := (hw k a1).2.1
    have e := nI_s (by omega) (by omega) a8 b8
    subst e
    have e := nI_s (by omega) (by omega) a9 b9
    subst e
    have e := nI_s (by omega) (by omega) a10 b10
    subst e
    have e := nI_s (by omega) (by omega) a11 b11
    subst e
    exact ⟨rfl, vq_w ⟨rfl, rfl, rfl⟩⟩
  · obtain ⟨k, f, l, t, n, a1, a2, a3, a4, a5, a6, a7, a8, a9, a10, a11, rfl, rfl⟩ := h
    rcases h' with ⟨-, h'⟩ | ⟨k', b1, b2, h'⟩
    · exact h' k a1 a7
    · have e := nI_s (by omega) (by omega) a7 b2
      subst e
      rcases h' with ⟨-, h'⟩ | ⟨-, -, h'⟩
      · exact h' ⟨⟨f, a2, a8⟩, ⟨t, a3, a10⟩, ⟨l, a4, a9⟩, n, a5, a11⟩
      · omega
  · obtain ⟨k, f, l, t, n, a1, a2, a3, a4, a5, a6, a7, a8, a9, a10, a11, rfl, rfl⟩ := h'
    rcases h with ⟨-, h⟩ | ⟨k', b1, b2, h⟩
    · exact h k a1 a7
    · have e := nI_s (by omega) (by omega) a7 b2
      subst e
      rcases h with ⟨-, h⟩ | ⟨-, -, h⟩
      · exact h ⟨⟨f, a2, a8⟩, ⟨t, a3, a10⟩, ⟨l, a4, a9⟩, n, a5, a11⟩
      · omega
  · rcases h with ⟨rfl, h⟩ | ⟨k, h1, h2, h⟩ <;> rcases h' with ⟨rfl, h'⟩ | ⟨k', h1', h2', h'⟩
    · rfl
    · exact absurd h2' (h k' h1')
    · exact absurd h2 (h' k h1)
    · have e := nI_s (by omega) (by omega) h2 h2'
      subst e
      rcases h with ⟨rfl, h⟩ | ⟨rfl, h, -⟩ <;> rcases h' with ⟨rfl, h'⟩ | ⟨rfl, h', -⟩
      · rfl
      · exact absurd h' h
      · exact absurd h h'
      · rfl
theorem mw_next {V : dk_V} {x y : Int32} (hl : V.2.2.1.2.1.length ≤ 40) : mtw cdC (fun r V' => ∃ s l, s < V.2.2.1.2.1.length ∧ l < 3 ∧ x = nI s ∧ y = nI l ∧ r = some (.int (bb_t V.2.2.1.2.2[s * 3 + l]?)) ∧ V' = dk_ur V (bb_w V.2.2.1.2.2[s * 3 + l]?)) (fun c => (c = 3 ∧ V.2.2.1.2.1.length = 0) ∨ (c = 1 ∧ V.2.2.1.2.1.length ≠ 0 ∧ ¬ ((∃ s, s < V.2.2.1.2.1.length ∧ x = nI s) ∧ ∃ l, l < 3 ∧ y = nI l))) (fun r V' => ∃ s l, s < V.2.2.1.2.1.length ∧ l < 3 ∧ x = nI s ∧ y = nI l ∧ r = some (.int (bb_t V.2.2.1.2.2[s * 3 + l]?)) ∧ V' = dk_ur V (bb_w V.2.2.1.2.2[s * 3 + l]?)) (fun c => (c = 1 ∧ V.2.2.1.2.1.length = 0) ∨ (c = 2 ∧ V.2.2.1.2.1.length ≠ 0 ∧ ¬ ((∃ s, s < V.2.2.1.2.1.length ∧ x = nI s) ∧ ∃ l, l < 3 ∧ y = nI l))) := by
  refine ⟨fun r V1 r' V2 h h' => ?_, fun r V1 c' h h' => ?_, fun c r' V2 h h' => ?_, fun c c' h h' => ?_⟩
  · obtain ⟨s, l, a1, a2, a3, a4, rfl, rfl⟩ := h
    obtain ⟨s', l', b1, b2, b3, b4, rfl, rfl⟩ := h'
    have e := nI_s (by omega) (by omega) a3 b3
    subst e
    have e := nI_s (by omega) (by omega) a4 b4
    subst e
    exact ⟨rfl, vq_w ⟨rfl, rfl, rfl⟩⟩
  · obtain ⟨s, l, a1, a2, a3, a4, rfl, rfl⟩ := h
    rcases h' with ⟨-, h'⟩ | ⟨-, -, h'⟩
    · omega
    · exact h' ⟨⟨s, a1, a3⟩, l, a2, a4⟩
  · obtain ⟨s, l, a1, a2, a3, a4, rfl, rfl⟩ := h'
    rcases h with ⟨-, h⟩ | ⟨-, -, h⟩
    · omega
    · exact h ⟨⟨s, a1, a3⟩, l, a2, a4⟩
  · rcases h with ⟨rfl, h⟩ | ⟨rfl, h, -⟩ <;> rcases h' with ⟨rfl, h'⟩ | ⟨rfl, h', -⟩
    · rfl
    · exact absurd h h'
    · exact absurd h' h
    · rfl
theorem mw_ends {V : dk_V} {x : Int32} (hl : V.2.2.1.2.1.length ≤ 40) : mtw cdC (fun r V' => V.2.2.1.2.1.length ≠ 0 ∧ ((x = -1 ∧ r = some (.int 1) ∧ V' = dk_ur V V.2.2.1.1) ∨ ∃ s f, V.2.2.1.2.1[s]? = some f ∧ x = nI s ∧ r = some (.int (rz_b f.isSome)) ∧ V' = dk_ur V (f.getD []))) (fun c => (c = 3 ∧ V.2.2.1.2.1.length = 0) ∨ (c = 1 ∧ V.2.2.1.2.1.length ≠ 0 ∧ x ≠ -1 ∧ ∀ s, s < V.2.2.1.2.1.length → x ≠ nI s)) (fun r V' => V.2.2.1.2.1.length ≠ 0 ∧ ((x = -1 ∧ r = some (.int 1) ∧ V' = dk_ur V V.2.2.1.1) ∨ ∃ s f, V.2.2.1.2.1[s]? = some f ∧ x = nI s ∧ r = some (.int (rz_b f.isSome)) ∧ V' = dk_ur V (f.getD []))) (fun c => (c = 1 ∧ V.2.2.1.2.1.length = 0) ∨ (c = 2 ∧ V.2.2.1.2.1.length ≠ 0 ∧ x ≠ -1 ∧ ∀ s, s < V.2.2.1.2.1.length → x ≠ nI s)) := by
  have hm : ∀ {s : Nat} {f : Option (List Nat)}, V.2.2.1.2.1[s]? = some f → s < 40 := fun {s f} h => by have := (List.getElem?_eq_some_iff.mp h).1; omega
  refine ⟨fun r V1 r' V2 h h' => ?_, fun r V1 c' h h' => ?_, fun c r' V2 h h' => ?_, fun c c' h h' => ?_⟩
  · obtain ⟨a0, h⟩ := h
    obtain ⟨b0, h'⟩ := h'
    rcases h with ⟨a1, rfl, rfl⟩ | ⟨s, f, a1, a2, rfl, rfl⟩ <;> rcases h' with ⟨b1, rfl, rfl⟩ | ⟨s', f', b1, b2, rfl, rfl⟩
    · exact ⟨rfl, vq_w ⟨rfl, rfl, rfl⟩⟩
    · exact absurd (a1.symm.trans b2).symm (hp_m1 s' (by have := hm b1; omega))
    · exact absurd (b1.symm.trans a2).symm (hp_m1 s (by have := hm a1; omega))
    · have := hm a1
      have := hm b1
      have e := nI_s (by omega) (by omega) a2 b2
      subst e
      rw [a1] at b1
      cases b1
      exact ⟨rfl, vq_w ⟨rfl, rfl, rfl⟩⟩
  · obtain ⟨a0, h⟩ := h
    rcases h' with ⟨-, h'⟩ | ⟨-, -, h', h''⟩
    · exact a0 h'
    · rcases h with ⟨a1, -⟩ | ⟨s, f, a1, a2, -⟩
      · exact h' a1
      · exact h'' s (List.getElem?_eq_some_iff.mp a1).1 a2
  · obtain ⟨a0, h'⟩ := h'
    rcases h with ⟨-, h⟩ | ⟨-, -, h, h''⟩
    · exact a0 h
    · rcases h' with ⟨a1, -⟩ | ⟨s, f, a1, a2, -⟩
      · exact h a1
      · exact h'' s (List.getElem?_eq_some_iff.mp a1).1 a2
  · rcases h with ⟨rfl, h⟩ | ⟨rfl, h, -⟩ <;> rcases h' with ⟨rfl, h'⟩ | ⟨rfl, h', -⟩
    · rfl
    · exact absurd h h'
    · exact absurd h' h
    · rfl
theorem mw_sign {V : dk_V} {x : Int32} (hl : V.2.1.length ≤ 4096) : mtw cdA (fun r V' => V' = V ∧ ∃ (j : Nat) (hj : j < V.2.1.length), x = nI j ∧ r = some (.int (nI V.2.1[j]))) (fun c => c = 0 ∧ ∀ j, j < V.2.1.length → x ≠ nI j) (fun r V' => V' = V ∧ ∃ (j : Nat) (hj : j < V.2.1.length), x = nI j ∧ r = some (.int (nI V.2.1[j]))) (fun c => c = 1 ∧ ∀ j, j < V.2.1.length → x ≠ nI j) := by
  refine ⟨fun r V1 r' V2 h h' => ?_, fun r V1 c' h h' => ?_, fun c r' V2 h h' => ?_, fun c c' h h' => by rw [h.1, h'.1]; rfl⟩
  · obtain ⟨rfl, j, hj, a2, rfl⟩ := h
    obtain ⟨rfl, j', hj', b2, rfl⟩ := h'
    have e := nI_s (by omega) (by omega) a2 b2
    subst e
    exact ⟨rfl, vq_w ⟨rfl, rfl, rfl⟩⟩
  · obtain ⟨rfl, j, hj, a2, rfl⟩ := h
    exact h'.2 j hj a2
  · obtain ⟨rfl, j, hj, a2, rfl⟩ := h'
    exact h.2 j hj a2
/-- signs are below 8 -/
def vb (V : dk_V) : Prop := (∀ x ∈ V.2.1, x < 8) ∧ (∀ x ∈ V.2.2.1.1, x < 8) ∧ (∀ f ∈ V.2.2.1.2.1, ∀ x ∈ f.getD [], x < 8) ∧ ∀ i, i < 3 * V.2.2.1.2.1.length → ∀ x ∈ bb_w V.2.2.1.2.2[i]?, x < 8
theorem vb_w {V V' : dk_V} (h : vqw V V') (hb : vb V') : vb V := by
  obtain ⟨h1, h2, h3, h4, h5⟩ := h
  obtain ⟨b1, b2, b3, b4⟩ := hb
  unfold vb
  refine ⟨by rw [h2]; exact b1, by rw [h3]; exact b2, by rw [h4]; exact b3, fun i hi => ?_⟩
  rw [(h5 i hi).2]
  rw [h4] at hi
  exact b4 i hi
theorem vb_um {V : dk_V} {k : Nat} {m : mv_T} (h : vb V) : vb (dk_um V k m) := h
theorem vb_ur {V : dk_V} {xs : List Nat} (h : vb V) (hx : ∀ x ∈ xs, x < 8) : vb (dk_ur V xs) := ⟨hx, h.2⟩
theorem rd_out_m {ws : List (Nat × List Nat)} {k : Int32} : ∀ i, rd_out ws k i = [] ∨ ∃ v ∈ ws, rd_out ws k i = v.2
  | 0 => Or.inl rfl
  | i + 1 => by
    simp only [rd_out]
    cases c : ws[i]? with
    | none => exact rd_out_m i
    | some v =>
      simp only
      split
      · exact Or.inr ⟨v, List.mem_of_getElem? c, rfl⟩
      · exact rd_out_m i
def w8 (ws : List (Nat × List Nat)) : Prop := ∀ v ∈ ws, ∀ x ∈ v.2, x < 8
theorem w8_add {N : List (Nat × List Nat)} {x : Nat × List Nat} (h : w8 N) (hx : ∀ y ∈ x.2, y < 8) : w8 (wadd N x) := by
  unfold wadd
  split
  · exact h
  · split
    · exact h
    · intro v hv
      rcases List.mem_append.mp hv with q | q
      · exact h v q
      · simp at q; subst q; exact hx
theorem w8_f {α : Type} {f : List (Nat × List Nat) → α → List (Nat × List Nat)} : ∀ (l : List α) (N : List (Nat × List Nat)), (∀ N a, a ∈ l → w8 N → w8 (f N a)) → w8 N → w8 (l.foldl f N)
  | [], N, _, h => h
  | a :: l, N, hf, h => w8_f l (f N a) (fun N b hb => hf N b (List.mem_cons_of_mem _ hb)) (hf N a List.mem_cons_self h)
theorem w8_k {T : mv_T} {b : Nat} (w1 : tw T b) {lt : Nat → Nat} : ∀ (n : Nat) (W : List (Nat × List Nat)), rr_k T lt n = some W → w8 W
  | 0, W, h => by
    simp only [rr_k, Option.some.injEq] at h
    subst h
    intro v hv
    split at hv
    · simp at hv; subst hv
      exact w1.2.2.2.2.2.2
    · cases hv
  | n + 1, W, h => by
    simp only [rr_k] at h
    cases c : rr_k T lt n with
    | none => rw [c] at h; cases h
    | some W0 =>
      rw [c] at h
      have ih := w8_k w1 n W0 c
      simp only at h
      split at h
      · cases h
      · cases h
        unfold rr_w
        refine w8_f W0 [] (fun N v hv hN => ?_) (fun v hv => by cases hv)
        unfold rr_e
        refine w8_f T.2.1 N (fun N e he hN => ?_) hN
        unfold rr_1
        split
        · refine w8_add hN (fun y hy => ?_)
          rcases List.mem_append.mp hy with q | q
          · exact ih v hv y q
          · exact (w1.2.2.1 e he).2.2.2.2 y q
        · exact hN
theorem w8_r {T : mv_T} {b : Nat} (w1 : tw T b) {W : List (Nat × List Nat)} (h : w8 W) : w8 (rr_f T W) := by
  unfold rr_f
  refine w8_f W [] (fun N v hv hN => ?_) (fun v hv => by cases hv)
  unfold rr_g
  split
  · next f hf =>
    refine w8_add hN (fun y hy => ?_)
    rcases List.mem_append.mp hy with q | q
    · exact h v hv y q
    · exact (w1.2.2.2.2.1 _ _ hf).2 y q
  · exact hN
def k8 (K : kt_T) : Prop := ∀ s w, K s = some w → ∀ x ∈ w, x < 8
theorem k8_mx {T : mv_T} {b x : Nat} {K : kt_T} (w1 : tw T b) (h : k8 K) : k8 (mx T x K) := by
  refine mx_q (Q := fun _ w => ∀ y ∈ w, y < 8) T.2.1 (fun _ => none) (fun e he u _ hu y hy => ?_) (fun t w q => by cases q)
  rcases List.mem_append.mp hy with q | q
  · exact h _ _ hu y q
  · exact (w1.2.2.1 e he).2.2.2.2 y q
theorem k8_cut {M : kt_T} {L : List Nat} (h : k8 M) : k8 (cut M L) := by
  intro s w hw
  obtain ⟨u, hu, rfl⟩ := Option.map_eq_some_iff.mp hw
  exact fun x hx => h s u hu x (List.mem_of_mem_drop hx)
theorem cls_8 {T : mv_T} {b : Nat} (w1 : tw T b) : ∀ (n : Nat) (Ks : List kt_T) (gs : List g_T), cls T n Ks gs → (∀ X ∈ Ks, k8 X) ∧ ∀ g ∈ gs, ∀ d L, g = some (d, L) → ∀ x ∈ L, x < 8
  | 0, Ks, gs, h => by
    obtain ⟨rfl, rfl⟩ := h
    refine ⟨fun X hX => ?_, fun g hg => by cases hg⟩
    simp at hX; subst hX
    intro s w hw
    unfold k0 at hw
    split at hw
    · cases hw; simp
    · cases hw
  | n + 1, Ks', gs', h => by
    obtain ⟨Ks, gs, X, z, h1, h2, rfl, h4⟩ := h
    obtain ⟨i1, i2⟩ := cls_8 w1 n Ks gs h1
    have hm := k8_mx (x := n % 3) w1 (i1 X (List.mem_of_getElem? h2))
    rcases h4 with ⟨-, rfl, rfl⟩ | ⟨⟨s, hs, hn⟩, L, d, hL, -, rfl, h4⟩
    · refine ⟨i1, fun g hg d L e => ?_⟩
      rcases List.mem_append.mp hg with q | q
      · exact i2 g q d L e
      · simp at q; subst q; cases e
    · have hL8 : ∀ x ∈ L, x < 8 := by
        cases c : mx T (n % 3) X s with
        | none => exact absurd c hn
        | some w => exact fun x hx => hm s w c x ((hL.1 s w hs c).subset hx)
      refine ⟨?_, fun g hg d' L' e => ?_⟩
      · rcases h4 with ⟨Y, -, -, rfl⟩ | ⟨-, -, rfl⟩
        · exact i1
        · intro Y hY
          rcases List.mem_append.mp hY with q | q
          · exact i1 Y q
          · simp at q; subst q; exact k8_cut hm
      · rcases List.mem_append.mp hg with q | q
        · exact i2 g q d' L' e
        · simp at q; subst q; cases e; exact hL8
theorem kcl_8 {T : mv_T} {b : Nat} {X : kt_T} (w1 : tw T b) (h : k8 X) : ∀ x ∈ (kcl T X).getD [], x < 8 := by
  have key : ∀ (l : List Nat) (r : Option (List Nat)), (∀ x ∈ r.getD [], x < 8) → ∀ x ∈ (l.foldl (kc_1 T X) r).getD [], x < 8 := by
    intro l
    induction l with
    | nil => intro r hr; exact hr
    | cons a l ih =>
      intro r hr
      rw [List.foldl_cons]
      refine ih _ ?_
      unfold kc_1
      split
      · next u f hu hf =>
        intro x hx
        rcases List.mem_append.mp hx with q | q
        · exact h a u hu x q
        · exact (w1.2.2.2.2.1 _ _ hf).2 x q
      · exact hr
  exact key _ none (by simp)
theorem kfw_8 {T : mv_T} {b : Nat} (w1 : tw T b) : ∀ x ∈ kfw T, x < 8 := by
  unfold kfw
  split
  · exact w1.2.2.2.2.2.2
  · simp
/-- what smallest makes -/
theorem vb_sm {V : dk_V} {m : mv_T} {H : Nat → List Nat} {Ks : List kt_T} {gs : List g_T} {n : Nat} (h : vb V) (hw : wf m) (hH : hd_is (tk m) H) (hc : cls (pu (tk m) H) n Ks gs) : vb (V.1, V.2.1, (kfw (pu (tk m) H), Ks.map (kcl (pu (tk m) H)), gs), V.2.2.2) := by
  have w1 := pu_tw (tk_tw hw) (fun s hs => hd_18 hw hH hs)
  obtain ⟨i1, i2⟩ := cls_8 w1 n Ks gs hc
  refine ⟨h.1, kfw_8 w1, fun f hf => ?_, fun i hi x hx => ?_⟩
  · obtain ⟨X, hX, rfl⟩ := List.mem_map.mp hf
    exact kcl_8 w1 (i1 X hX)
  · have hx : x ∈ bb_w gs[i]? := hx
    cases c : gs[i]? with
    | none => rw [c] at hx; cases hx
    | some g =>
      rw [c] at hx
      match g, hx with
      | none, hx => cases hx
      | some (d, L), hx => exact i2 _ (List.mem_of_getElem? c) d L rfl x hx
