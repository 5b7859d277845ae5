/-! mathematics: the class's searches of pairs find the least word by which outputs differ -/
/-- machine m with its closings c is the machine T -/
def mrel (m : mv_T) (c : Nat) (T : mv_T) : Prop :=
  (∀ p l t w, l < 3 → ((∃ e ∈ mv_pl m (mv_al m c) (p * 3 + l), (mv_e m e).2.2.1 = t ∧ (mv_e m e).2.2.2 = w) ↔ ∃ e ∈ T.2.1, e.1 = p ∧ e.2.1 = l ∧ e.2.2.1 = t ∧ e.2.2.2 = w)) ∧
  ∀ q, q < 6 → (c &&& mv_al m c).testBit q = (T.2.2.1 q).isSome ∧ ∀ f, T.2.2.1 q = some f → ps_fin m q = f
theorem mrel_tk {m : mv_T} (h : wf m) : mrel m (mk_cl m) (tk m) := by
  refine ⟨fun p l t w hl => pl_mem h hl, fun q hq => ?_⟩
  have e1 : (mk_cl m &&& mv_al m (mk_cl m)).testBit q = (decide (q < 6) && ((al m).testBit q && (m.2.2.1 q).isSome)) := cl_al h
  have e2 : (tk m).2.2.1 q = if (al m).testBit q then m.2.2.1 q else none := rfl
  rw [e1, e2, decide_eq_true hq, Bool.true_and]
  cases c : (al m).testBit q with
  | false => exact ⟨by simp, fun f hf => by simp at hf⟩
  | true => exact ⟨by simp, fun f hf => by simp at hf; simp [ps_fin, hf]⟩
abbrev pn_T := ps_nd × List Nat
def pn (gs : ps_gT) : List pn_T := gs.flatMap (fun x => x.2.map (fun n => (n, x.1)))
theorem pn_mem {gs : ps_gT} {z : pn_T} : z ∈ pn gs ↔ ∃ x ∈ gs, z.1 ∈ x.2 ∧ z.2 = x.1 := by
  unfold pn
  rw [List.mem_flatMap]
  constructor
  · rintro ⟨x, hx, hz⟩
    obtain ⟨n, hn, rfl⟩ := List.mem_map.mp hz
    exact ⟨x, hx, hn, rfl⟩
  · rintro ⟨x, hx, h1, h2⟩
    exact ⟨x, hx, List.mem_map.mpr ⟨z.1, h1, by rw [← h2]⟩⟩
def pcv (M : List pn_T) (B : Nat) (n : ps_nd) : Prop := (∃ z ∈ M, z.1 = n ∧ vl z.2 ≤ B) ∨ ∃ z ∈ M, ∃ z' ∈ M, xs_pq z.1 n ∧ xs_pq z'.1 n ∧ z.1 ≠ z'.1 ∧ vl z.2 ≤ B ∧ vl z'.2 ≤ B
def pcN (N : List ps_nd) (n : ps_nd) : Prop := n ∈ N ∨ ∃ z ∈ N, ∃ z' ∈ N, xs_pq z n ∧ xs_pq z' n ∧ z ≠ z'
theorem pcv_m {M M' : List pn_T} {B : Nat} {n : ps_nd} (h : pcv M B n) (hm : ∀ z ∈ M, z ∈ M') : pcv M' B n := by
  rcases h with ⟨z, h1, h2⟩ | ⟨z, h1, z', h2, h3⟩
  · exact Or.inl ⟨z, hm z h1, h2⟩
  · exact Or.inr ⟨z, hm z h1, z', hm z' h2, h3⟩
theorem pcN_m {N N' : List ps_nd} {n : ps_nd} (h : pcN N n) (hm : ∀ x ∈ N, x ∈ N') : pcN N' n := by
  rcases h with h | ⟨z, h1, z', h2, h3⟩
  · exact Or.inl (hm n h)
  · exact Or.inr ⟨z, hm z h1, z', hm z' h2, h3⟩
theorem pcN_pcv {gs : ps_gT} {B : Nat} {n : ps_nd} (h : pcN (gs.flatMap (fun x => x.2)) n) (hB : ∀ y ∈ gs, vl y.1 ≤ B) : pcv (pn gs) B n := by
  have key : ∀ z ∈ gs.flatMap (fun x => x.2), ∃ y ∈ pn gs, y.1 = z ∧ vl y.2 ≤ B := fun z hz => by
    obtain ⟨x, hx, h1⟩ := List.mem_flatMap.mp hz
    exact ⟨(z, x.1), pn_mem.mpr ⟨x, hx, h1, rfl⟩, rfl, hB x hx⟩
  rcases h with h | ⟨z, h1, z', h2, h3, h4, h5⟩
  · exact Or.inl (key n h)
  · obtain ⟨y, a1, rfl, a3⟩ := key z h1
    obtain ⟨y', b1, rfl, b3⟩ := key z' h2
    exact Or.inr ⟨y, a1, y', b1, h3, h4, h5, a3, b3⟩
def pok (N : List ps_nd) : Prop := N.Nodup ∧ (∀ n ∈ N, n.1 < 6 ∧ n.2.1 < 6) ∧ (∀ p q, p < 6 → q < 6 → ps_cnt N p q ≤ 2) ∧ N.length ≤ 72
theorem pok_72 {N : List ps_nd} (h : pok N) {p q : Nat} (hp : p < 6) (hq : q < 6) (h2 : ps_cnt N p q < 2) : N.length < 72 := by
  have e : ∀ p q, xk_n (N.map (fun n => (n, 0))) p q = ps_cnt N p q := fun p q => by
    unfold xk_n ps_cnt
    rw [List.countP_map]
    rfl
  have := xk_72 (N := N.map (fun n => (n, 0))) (p := p) (q := q) (fun x hx => by
    obtain ⟨n, hn, rfl⟩ := List.mem_map.mp hx
    exact h.2.1 n hn) (fun p q hp hq => by rw [e]; exact h.2.2.1 p q hp hq) hp hq (by rw [e]; exact h2)
  rwa [List.length_map] at this
theorem ps_pq_t {p q : Nat} {n : ps_nd} : ps_pq p q n = true ↔ n.1 = p ∧ n.2.1 = q := by
  unfold ps_pq; rw [Bool.and_eq_true, decide_eq_true_eq, decide_eq_true_eq]
theorem cnt_two {N : List ps_nd} {p q : Nat} (hd : N.Nodup) (h : 2 ≤ ps_cnt N p q) : ∃ z ∈ N, ∃ z' ∈ N, (z.1 = p ∧ z.2.1 = q) ∧ (z'.1 = p ∧ z'.2.1 = q) ∧ z ≠ z' := by
  unfold ps_cnt at h
  rw [List.countP_eq_length_filter] at h
  have hd2 := List.Pairwise.filter (ps_pq p q) hd
  have hm : ∀ z ∈ N.filter (ps_pq p q), z ∈ N ∧ (z.1 = p ∧ z.2.1 = q) := fun z hz => by
    obtain ⟨a, b⟩ := List.mem_filter.mp hz
    exact ⟨a, ps_pq_t.mp b⟩
  match hL : N.filter (ps_pq p q), h, hd2, hm with
  | [], h, _, _ => exact absurd h (by simp)
  | [x], h, _, _ => exact absurd h (by simp)
  | x :: y :: L, h, hd2, hm =>
    obtain ⟨a1, a2⟩ := hm x (by simp)
    obtain ⟨b1, b2⟩ := hm y (by simp)
    refine ⟨x, a1, y, b1, a2, b2, ?_⟩
    rintro rfl
    simp at hd2
/-- what visits do -/
def pr (E : ps_nd → Bool) (gr : Nat) (R : ps_nd → Prop) (S S' : List ps_nd × Option Nat) : Prop := (∃ ext, S'.1 = S.1 ++ ext ∧ (∀ y ∈ ext, R y) ∧ S'.2 = S.2.or (if ext.any E then some gr else none)) ∧ (pok S.1 → pok S'.1)
theorem pr.rf {E : ps_nd → Bool} {gr : Nat} {R : ps_nd → Prop} (S : List ps_nd × Option Nat) : pr E gr R S S := ⟨⟨[], by simp, by simp, by simp⟩, id⟩
theorem pr.t {E : ps_nd → Bool} {gr : Nat} {R : ps_nd → Prop} (S S1 S2 : List ps_nd × Option Nat) (h : pr E gr R S S1) (h2 : pr E gr R S1 S2) : pr E gr R S S2 := by
  obtain ⟨⟨x, a1, a2, a3⟩, a4⟩ := h
  obtain ⟨⟨y, b1, b2, b3⟩, b4⟩ := h2
  refine ⟨⟨x ++ y, by rw [b1, a1, List.append_assoc], fun z hz => ?_, ?_⟩, b4 ∘ a4⟩
  · rcases List.mem_append.mp hz with q | q
    · exact a2 z q
    · exact b2 z q
  · rw [b3, a3, List.any_append]
    cases S.2 <;> cases x.any E <;> cases y.any E <;> rfl
theorem pr.mem {E : ps_nd → Bool} {gr : Nat} {R : ps_nd → Prop} {S S' : List ps_nd × Option Nat} (h : pr E gr R S S') : ∀ x ∈ S.1, x ∈ S'.1 := by
  obtain ⟨⟨x, a1, -⟩, -⟩ := h
  intro z hz
  rw [a1]; exact List.mem_append_left _ hz
theorem ps_vs_r {m1 m2 : mv_T} {c1 c2 gr : Nat} {R : ps_nd → Prop} {S : List ps_nd × Option Nat} {n : ps_nd} (hR : R n) (hn : n.1 < 6 ∧ n.2.1 < 6) : pr (ps_eo m1 m2 c1 c2) gr R S (ps_vs m1 m2 c1 c2 gr S n) ∧ (pok S.1 → pcN (ps_vs m1 m2 c1 c2 gr S n).1 n) := by
  unfold ps_vs
  cases hnew : ps_new S.1 n with
  | false =>
    simp only [Bool.false_eq_true, if_false]
    refine ⟨pr.rf S, fun hk => ?_⟩
    unfold ps_new at hnew
    by_cases c : ps_cnt S.1 n.1 n.2.1 < 2
    · rw [decide_eq_true c, decide_eq_true (pok_72 hk hn.1 hn.2 c)] at hnew
      simp at hnew
      left
      have := List.mem_of_find?_eq_some hnew
      exact this
    · right
      obtain ⟨z, h1, z', h2, h3, h4, h5⟩ := cnt_two hk.1 (Nat.le_of_not_lt c)
      exact ⟨z, h1, z', h2, h3, h4, h5⟩
  | true =>
    simp only [if_true]
    unfold ps_new at hnew
    simp only [Bool.and_eq_true, decide_eq_true_eq, Bool.not_eq_true', decide_eq_false_iff_not] at hnew
    obtain ⟨⟨k1, k2⟩, k3⟩ := hnew
    refine ⟨⟨⟨[n], rfl, fun y hy => by simp at hy; subst hy; exact hR, ?_⟩, fun hk => ?_⟩, fun _ => Or.inl (by simp)⟩
    · cases S.2 with
      | none =>
        cases he : ps_eo m1 m2 c1 c2 n <;> simp [he]
      | some g => simp
    · have hni : n ∉ S.1 := fun hin => by
        have h1 : 1 ≤ ps_cnt S.1 n.1 n.2.1 := List.countP_pos_iff.mpr ⟨n, hin, ps_pq_t.mpr ⟨rfl, rfl⟩⟩
        cases hf : ps_1st S.1 n.1 n.2.1 with
        | none => exact absurd (ps_pq_t.mpr ⟨rfl, rfl⟩) (List.find?_eq_none.mp hf n hin)
        | some y =>
          rw [hf] at k2
          have hy : y ∈ S.1 := List.mem_of_find?_eq_some hf
          have hyp := List.find?_some hf
          have hne : y ≠ n := fun q => k2 (by rw [q])
          have : 2 ≤ ps_cnt S.1 n.1 n.2.1 := by
            unfold ps_cnt
            rw [List.countP_eq_length_filter]
            have hm1 : y ∈ S.1.filter (ps_pq n.1 n.2.1) := List.mem_filter.mpr ⟨hy, hyp⟩
            have hm2 : n ∈ S.1.filter (ps_pq n.1 n.2.1) := List.mem_filter.mpr ⟨hin, ps_pq_t.mpr ⟨rfl, rfl⟩⟩
            match hL : S.1.filter (ps_pq n.1 n.2.1), hm1, hm2 with
            | [], a, _ => exact absurd a (by simp)
            | [x], a, b =>
              simp at a b
              exact absurd (a.trans b.symm) hne
            | x :: y :: L, _, _ => simp
          omega
      refine ⟨?_, fun y hy => ?_, fun p q hp hq => ?_, by rw [List.length_append]; simp; omega⟩
      · rw [List.nodup_append]
        refine ⟨hk.1, by simp, fun p hp q hq => ?_⟩
        simp at hq
        subst hq
        rintro rfl
        exact hni hp
      · rcases List.mem_append.mp hy with q | q
        · exact hk.2.1 y q
        · simp at q; subst q; exact hn
      · rw [ps_cnt_app]
        split
        · next c =>
          obtain ⟨rfl, rfl⟩ := ps_pq_t.mp c
          omega
        · exact hk.2.2.1 p q hp hq
theorem ps_fld_r {m1 m2 : mv_T} {c1 c2 gr : Nat} {R : ps_nd → Prop} {S : List ps_nd × Option Nat} {ns : List ps_nd} (hR : ∀ n ∈ ns, R n ∧ n.1 < 6 ∧ n.2.1 < 6) : pr (ps_eo m1 m2 c1 c2) gr R S (ps_fld m1 m2 c1 c2 gr S ns) ∧ (pok S.1 → ∀ n ∈ ns, pcN (ps_fld m1 m2 c1 c2 gr S ns).1 n) := by
  obtain ⟨h1, h2⟩ := fold_r (rel := pr (ps_eo m1 m2 c1 c2) gr R) pr.rf pr.t (f := ps_vs m1 m2 c1 c2 gr) ns S (fun b a ha => (ps_vs_r (hR a ha).1 (hR a ha).2).1)
  refine ⟨h1, fun hk n hn => ?_⟩
  obtain ⟨b, k1, k2⟩ := h2 n hn
  exact pcN_m ((ps_vs_r (hR n hn).1 (hR n hn).2).2 (k1.2 hk)) k2.mem
theorem ps_spr_r {m1 m2 : mv_T} {c1 c2 gr l : Nat} {R : ps_nd → Prop} {S : List ps_nd × Option Nat} {ns : List ps_nd} (hR : ∀ n ∈ ns, ∀ n' ∈ ps_nx m1 m2 c1 c2 l n, R n' ∧ n'.1 < 6 ∧ n'.2.1 < 6) : pr (ps_eo m1 m2 c1 c2) gr R S (ps_spr m1 m2 c1 c2 gr l S ns) ∧ (pok S.1 → ∀ n ∈ ns, ∀ n' ∈ ps_nx m1 m2 c1 c2 l n, pcN (ps_spr m1 m2 c1 c2 gr l S ns).1 n') := by
  obtain ⟨h1, h2⟩ := fold_r (rel := pr (ps_eo m1 m2 c1 c2) gr R) pr.rf pr.t (f := fun S n => ps_fld m1 m2 c1 c2 gr S (ps_nx m1 m2 c1 c2 l n)) ns S (fun b a ha => (ps_fld_r (hR a ha)).1)
  refine ⟨h1, fun hk n hn n' hn' => ?_⟩
  obtain ⟨b, k1, k2⟩ := h2 n hn
  exact pcN_m ((ps_fld_r (hR n hn)).2 (k1.2 hk) n' hn') k2.mem
theorem ps_go_xf {m1 m2 : mv_T} {n : ps_nd} {e f : Nat} {e' f' : xe_T} (hn : xn_ok n) (a1 : e'.2.2.1 = (mv_e m1 e).2.2.1) (a2 : e'.2.2.2 = (mv_e m1 e).2.2.2) (b1 : f'.2.2.1 = (mv_e m2 f).2.2.1) (b2 : f'.2.2.2 = (mv_e m2 f).2.2.2) : ps_go m1 m2 n e f = xf_go n e' f' := by
  unfold ps_go xf_go xf_mk ps_fb ps_f0 ps_f1
  rw [a1, a2, b1, b2]
  cases c : n.2.2.1 with
  | false => rfl
  | true =>
    obtain ⟨q1, q2⟩ := hn.2.2.1 c
    simp only [q1, q2, if_true]
theorem ps_nx_mem {m1 m2 T1 T2 : mv_T} {c1 c2 l : Nat} {n n' : ps_nd} (r1 : mrel m1 c1 T1) (r2 : mrel m2 c2 T2) (hl : l < 3) (hn : xn_ok n) : n' ∈ ps_nx m1 m2 c1 c2 l n ↔ ∃ e ∈ T1.2.1, ∃ f ∈ T2.2.1, xs_st n l e f ∧ n' = xf_go n e f := by
  unfold ps_nx ps_c2
  rw [List.mem_flatMap]
  constructor
  · rintro ⟨e, he, h⟩
    obtain ⟨f, hf, rfl⟩ := List.mem_map.mp h
    obtain ⟨e', he', a1, a2, a3, a4⟩ := (r1.1 n.1 l _ _ hl).mp ⟨e, he, rfl, rfl⟩
    obtain ⟨f', hf', b1, b2, b3, b4⟩ := (r2.1 n.2.1 l _ _ hl).mp ⟨f, hf, rfl, rfl⟩
    exact ⟨e', he', f', hf', ⟨a1, b1, a2, b2⟩, ps_go_xf hn a3 a4 b3 b4⟩
  · rintro ⟨e', he', f', hf', ⟨a1, b1, a2, b2⟩, rfl⟩
    obtain ⟨e, he, a3, a4⟩ := (r1.1 n.1 l _ _ hl).mpr ⟨e', he', a1, a2, rfl, rfl⟩
    obtain ⟨f, hf, b3, b4⟩ := (r2.1 n.2.1 l _ _ hl).mpr ⟨f', hf', b1, b2, rfl, rfl⟩
    exact ⟨e, he, List.mem_map.mpr ⟨f, hf, ps_go_xf hn a3.symm a4.symm b3.symm b4.symm⟩⟩
theorem ps_eo_xn {m1 m2 T1 T2 : mv_T} {c1 c2 : Nat} {n : ps_nd} (r1 : mrel m1 c1 T1) (r2 : mrel m2 c2 T2) (hn : xn_ok n) : ps_eo m1 m2 c1 c2 n = xn_ea T1 T2 n := by
  unfold ps_eo ps_ea xn_ea
  obtain ⟨a1, a2⟩ := r1.2 n.1 hn.1
  obtain ⟨b1, b2⟩ := r2.2 n.2.1 hn.2.1
  rw [a1, b1]
  cases h1 : T1.2.2.1 n.1 with
  | none => simp
  | some f =>
    cases h2 : T2.2.2.1 n.2.1 with
    | none => simp
    | some g =>
      have e1 : ps_fin T1 n.1 = f := by simp [ps_fin, h1]
      have e2 : ps_fin T2 n.2.1 = g := by simp [ps_fin, h2]
      rw [a2 f h1, b2 g h2, e1, e2]
theorem xf_go_ok {T1 T2 : mv_T} {n : ps_nd} {e f : xe_T} (w1 : tw T1 32) (w2 : tw T2 32) (hn : xn_ok n) (he : e ∈ T1.2.1) (hf : f ∈ T2.2.1) : xn_ok (xf_go n e f) := by
  have b1 := w1.2.2.1 e he
  have b2 := w2.2.2.1 f hf
  refine xf_ok b1.2.2.1 b2.2.2.1 (fun t ht => ?_) (fun t ht => ?_)
  · rcases List.mem_append.mp ht with q | q
    · exact hn.2.2.2.2.1 t q
    · exact b1.2.2.2.2 t q
  · rcases List.mem_append.mp ht with q | q
    · exact hn.2.2.2.2.2 t q
    · exact b2.2.2.2.2 t q
/-- the node n is come to by u -/
def pat (T1 T2 : mv_T) (S0 : List ps_nd) (u : List Nat) (n : ps_nd) : Prop := xn_ok n ∧ ∃ s ∈ S0, ∃ a b, rn T1 s.1 u n.1 a ∧ rn T2 s.2.1 u n.2.1 b ∧ ∀ x' y', nd_C n x' y' ↔ nd_C s (a ++ x') (b ++ y')
theorem pat_go {T1 T2 : mv_T} {S0 : List ps_nd} {u : List Nat} {n : ps_nd} {l : Nat} {e f : xe_T} (w1 : tw T1 32) (w2 : tw T2 32) (h : pat T1 T2 S0 u n) (he : e ∈ T1.2.1) (hf : f ∈ T2.2.1) (hst : xs_st n l e f) : pat T1 T2 S0 (u ++ [l]) (xf_go n e f) := by
  obtain ⟨hok, s, hs, a, b, r1, r2, r3⟩ := h
  obtain ⟨s1, s2, s3, s4⟩ := hst
  refine ⟨xf_go_ok w1 w2 hok he hf, s, hs, a ++ e.2.2.2, b ++ f.2.2.2, rn_app r1 ?_, rn_app r2 ?_, fun x' y' => ?_⟩
  · have := rn_one he
    rw [s1, s3] at this
    exact this
  · have := rn_one hf
    rw [s2, s4] at this
    exact this
  · rw [go_C, r3, List.append_assoc, List.append_assoc]
def pcl (T1 T2 : mv_T) (gs : ps_gT) (u : List Nat) (n : ps_nd) (l : Nat) : Prop := ∀ e ∈ T1.2.1, ∀ f ∈ T2.2.1, xs_st n l e f → pcv (pn gs) (vl (u ++ [l])) (xf_go n e f)
def pin (T1 T2 : mv_T) (S0 : List ps_nd) (gs : ps_gT) (N : List ps_nd) (g l : Nat) : Prop :=
  pok N ∧ N = gs.flatMap (fun x => x.2) ∧ gs.length ≤ N.length ∧
  (∀ (i j : Nat) (x y : List Nat × List ps_nd), i < j → gs[i]? = some x → gs[j]? = some y → vl x.1 < vl y.1) ∧
  (∀ x ∈ gs, (∀ t ∈ x.1, t < 3) ∧ ∀ n ∈ x.2, pat T1 T2 S0 x.1 n) ∧
  (∀ (i : Nat) (x : List Nat × List ps_nd), i < g → gs[i]? = some x → ∀ n ∈ x.2, ∀ k, k < 3 → pcl T1 T2 gs x.1 n k) ∧
  (∀ x : List Nat × List ps_nd, gs[g]? = some x → (∀ y ∈ gs, vl y.1 < 3 * vl x.1 + 1 + l) ∧ ∀ n ∈ x.2, ∀ k, k < l → pcl T1 T2 gs x.1 n k) ∧
  (∀ s ∈ S0, pcv (pn gs) 0 s) ∧
  ∀ n ∈ N, xn_ea T1 T2 n = false
theorem pcv_C {M : List pn_T} {B : Nat} {n : ps_nd} {x y : List Nat} (h : pcv M B n) (hok : ∀ z ∈ M, xn_ok z.1) (hC : nd_C n x y) : ∃ z ∈ M, xs_pq z.1 n ∧ vl z.2 ≤ B ∧ nd_C z.1 x y := by
  rcases h with ⟨z, h1, h2, h3⟩ | ⟨z, h1, z', h2, h3, h4, h5, h6, h7⟩
  · exact ⟨z, h1, by rw [h2]; exact ⟨rfl, rfl⟩, h3, by rw [h2]; exact hC⟩
  · rcases two_C (hok z h1) (hok z' h2) ⟨h3.1.trans h4.1.symm, h3.2.trans h4.2.symm⟩ h5 x y with q | q
    · exact ⟨z, h1, h3, h6, q⟩
    · exact ⟨z', h2, h4, h7, q⟩
/-- a word by which outputs differ isn't before the next word, and there is none if all is done -/
theorem pin_min {T1 T2 : mv_T} {S0 : List ps_nd} {gs : ps_gT} {N : List ps_nd} {g l : Nat} (w1 : tw T1 32) (h : pin T1 T2 S0 gs N g l) (hl : l < 3) {v : List Nat} (hv : df T1 T2 S0 v) : ∃ x : List Nat × List ps_nd, gs[g]? = some x ∧ vl (x.1 ++ [l]) ≤ vl v := by
  obtain ⟨i1, i2, i3, i4, i5, i6, i7, i8, i9⟩ := h
  have hok : ∀ z ∈ pn gs, xn_ok z.1 := fun z hz => by
    obtain ⟨x, hx, h1, h2⟩ := pn_mem.mp hz
    exact ((i5 x hx).2 z.1 h1).1
  have key : ∀ (v : List Nat) (z : pn_T), z ∈ pn gs → ∀ p q x y f g', rn T1 z.1.1 v p x → rn T2 z.1.2.1 v q y → T1.2.2.1 p = some f → T2.2.2.1 q = some g' → nd_C z.1 (x ++ f) (y ++ g') → ∃ x : List Nat × List ps_nd, gs[g]? = some x ∧ vl (x.1 ++ [l]) ≤ vl (z.2 ++ v) := by
    intro v
    induction v with
    | nil =>
      intro z hz p q x y f g' r1 r2 hf hg hC
      obtain ⟨rfl, rfl⟩ := r1
      obtain ⟨rfl, rfl⟩ := r2
      obtain ⟨t, ht, h1, -⟩ := pn_mem.mp hz
      have := i9 z.1 (by rw [i2]; exact List.mem_flatMap.mpr ⟨t, ht, h1⟩)
      rw [ea_C.mpr ⟨f, g', hf, hg, hC⟩] at this
      cases this
    | cons m v ih =>
      intro z hz p q x y f g' r1 r2 hf hg hC
      obtain ⟨e, he, e1, e2, o1, k1, rfl⟩ := r1
      obtain ⟨e', he', e1', e2', o1', k1', rfl⟩ := r2
      have hm : m < 3 := by rw [← e2]; exact (w1.2.2.1 e he).2.1
      obtain ⟨t, ht, h1, h2⟩ := pn_mem.mp hz
      obtain ⟨i, hi⟩ := List.mem_iff_getElem?.mp ht
      have hgo : pcl T1 T2 gs t.1 z.1 m → ∃ x : List Nat × List ps_nd, gs[g]? = some x ∧ vl (x.1 ++ [l]) ≤ vl (z.2 ++ m :: v) := fun hcl => by
        have hcov := hcl e he e' he' ⟨e1, e1', e2, e2'⟩
        have hC2 : nd_C (xf_go z.1 e e') (o1 ++ f) (o1' ++ g') := by
          rw [go_C, ← List.append_assoc, ← List.append_assoc]; exact hC
        obtain ⟨z', hz', hpq, hle, hC3⟩ := pcv_C hcov hok hC2
        obtain ⟨x, hx, hx2⟩ := ih z' hz' p q o1 o1' f g' (by rw [hpq.1]; exact k1) (by rw [hpq.2]; exact k1') hf hg hC3
        refine ⟨x, hx, Nat.le_trans hx2 ?_⟩
        rw [List.append_cons z.2, h2]
        exact vl_mono v hle
      by_cases c : i < g
      · exact hgo (i6 i t c hi z.1 h1 m hm)
      · by_cases c2 : i = g
        · subst c2
          by_cases cm : m < l
          · exact hgo ((i7 t hi).2 z.1 h1 m cm)
          · refine ⟨t, hi, ?_⟩
            rw [List.append_cons z.2, h2]
            refine Nat.le_trans ?_ (vl_ext _ _)
            rw [vl_app, vl_app]; omega
        · have hil := (List.getElem?_eq_some_iff.mp hi).1
          obtain ⟨x, hx⟩ : ∃ x, gs[g]? = some x := ⟨_, List.getElem?_eq_getElem (by omega)⟩
          refine ⟨x, hx, ?_⟩
          have := i4 g i x t (by omega) hx hi
          rw [List.append_cons z.2, h2]
          refine Nat.le_trans ?_ (vl_ext _ _)
          rw [vl_app, vl_app]; omega
  obtain ⟨s, hs, p, q, x, y, f, g', r1, r2, hf, hg, hC⟩ := hv
  obtain ⟨z, hz, hpq, hle, hC2⟩ := pcv_C (i8 s hs) hok hC
  obtain ⟨x', hx', hle'⟩ := key v z hz p q x y f g' (by rw [hpq.1]; exact r1) (by rw [hpq.2]; exact r2) hf hg hC2
  refine ⟨x', hx', Nat.le_trans hle' ?_⟩
  have := vl_mono v (a := z.2) (b := []) (by rw [vl_nil]; exact hle)
  exact this
def pfd (T1 T2 : mv_T) (S0 : List ps_nd) (S : ps_sT) (g l : Nat) : Prop := (S.2.2 = none ∧ pin T1 T2 S0 S.1 S.2.1 g l) ∨ ∃ k x, S.2.2 = some k ∧ S.1[k]? = some x ∧ xm_is T1 T2 S0 true x.1 ∧ ∀ t ∈ x.1, t < 3
theorem ps_stp_i {m1 m2 T1 T2 : mv_T} {c1 c2 g l : Nat} {S0 : List ps_nd} {S : ps_sT} (w1 : tw T1 32) (w2 : tw T2 32) (r1 : mrel m1 c1 T1) (r2 : mrel m2 c2 T2) (hl : l < 3) (hg : g < S.1.length) (hn : S.2.2 = none) (h : pin T1 T2 S0 S.1 S.2.1 g l) : pfd T1 T2 S0 (ps_stp m1 m2 c1 c2 g l S) g (l + 1) ∧ S.1.length ≤ (ps_stp m1 m2 c1 c2 g l S).1.length := by
  obtain ⟨x, hx⟩ : ∃ x, S.1[g]? = some x := ⟨_, List.getElem?_eq_getElem hg⟩
  have hgn : ps_gn S.1 g = x := by unfold ps_gn; rw [hx]; rfl
  have hmin := fun v (hv : df T1 T2 S0 v) => pin_min w1 h hl hv
  obtain ⟨i1, i2, i3, i4, i5, i6, i7, i8, i9⟩ := h
  have hxm := List.mem_of_getElem? hx
  obtain ⟨x3, xat⟩ := i5 x hxm
  obtain ⟨x7, x8⟩ := i7 x hx
  have hnx : ∀ n ∈ x.2, ∀ n', n' ∈ ps_nx m1 m2 c1 c2 l n ↔ ∃ e ∈ T1.2.1, ∃ f ∈ T2.2.1, xs_st n l e f ∧ n' = xf_go n e f := fun n hn n' => ps_nx_mem r1 r2 hl (xat n hn).1
  obtain ⟨⟨⟨ext, q1, q2, q3⟩, q4⟩, q5⟩ := ps_spr_r (gr := S.1.length) (R := pat T1 T2 S0 (x.1 ++ [l])) (S := S.2) (ns := x.2) (m1 := m1) (m2 := m2) (c1 := c1) (c2 := c2) (l := l) (fun n hn n' hn' => by
    obtain ⟨e, he, f, hf, hst, rfl⟩ := (hnx n hn n').mp hn'
    have := pat_go w1 w2 (xat n hn) he hf hst
    exact ⟨this, this.1.1, this.1.2.1⟩)
  unfold ps_stp
  rw [hgn]
  generalize ps_spr m1 m2 c1 c2 S.1.length l S.2 x.2 = R at q1 q2 q3 q4 q5 ⊢
  have q4 := q4 i1
  have q5 := q5 i1
  rw [hn, Option.none_or] at q3
  have hB : ∀ y ∈ S.1, vl y.1 ≤ vl (x.1 ++ [l]) := fun y hy => by have := x7 y hy; rw [vl_app]; omega
  cases ext with
  | nil =>
    rw [List.append_nil] at q1
    simp only [List.any_nil, Bool.false_eq_true, if_false] at q3
    rw [if_neg (by rw [q1]; omega)]
    refine ⟨Or.inl ⟨q3, ?_⟩, Nat.le_refl _⟩
    show pin T1 T2 S0 S.1 R.1 g (l + 1)
    rw [q1] at q5 ⊢
    refine ⟨i1, i2, i3, i4, i5, i6, fun y hy => ?_, i8, i9⟩
    rw [hx] at hy
    cases hy
    refine ⟨fun y hy => by have := x7 y hy; omega, fun n hn k hk => ?_⟩
    by_cases c : k = l
    · subst c
      intro e he f hf hst
      have := q5 n hn _ ((hnx n hn _).mpr ⟨e, he, f, hf, hst, rfl⟩)
      rw [i2] at this
      exact pcN_pcv this hB
    · exact x8 n hn k (by omega)
  | cons n0 ext0 =>
    generalize hext : n0 :: ext0 = ext at *
    have hel : 0 < ext.length := by rw [← hext]; simp
    have hl1 : R.1.length = S.2.1.length + ext.length := by rw [q1, List.length_append]
    rw [if_pos ⟨by omega, by have := q4.2.2.2; omega⟩]
    have hdrop : R.1.drop S.2.1.length = ext := by rw [q1, List.drop_left]
    rw [hdrop]
    refine ⟨?_, by simp⟩
    have u3 : ∀ t ∈ x.1 ++ [l], t < 3 := fun t ht => by
      rcases List.mem_append.mp ht with q | q
      · exact x3 t q
      · simp at q; omega
    cases hany : ext.any (ps_eo m1 m2 c1 c2) with
    | true =>
      rw [hany] at q3
      right
      refine ⟨S.1.length, (x.1 ++ [l], ext), by simpa using q3, by show (S.1 ++ [(x.1 ++ [l], ext)])[S.1.length]? = _; simp, Or.inr ⟨rfl, ?_, fun v hv => ?_⟩, u3⟩
      · obtain ⟨n, hn, hea⟩ := List.any_eq_true.mp hany
        obtain ⟨hok, s, hs, a, b, k1, k2, k3⟩ := q2 n hn
        rw [ps_eo_xn r1 r2 hok] at hea
        obtain ⟨f, f', hf, hf', hC⟩ := ea_C.mp hea
        exact ⟨s, hs, n.1, n.2.1, a, b, f, f', k1, k2, hf, hf', (k3 f f').mp hC⟩
      · obtain ⟨x', hx', hle⟩ := hmin v hv
        rw [hx] at hx'
        cases hx'
        exact hle
    | false =>
      rw [hany] at q3
      left
      refine ⟨by simpa using q3, ?_⟩
      show pin T1 T2 S0 (S.1 ++ [(x.1 ++ [l], ext)]) R.1 g (l + 1)
      have hm : ∀ z ∈ pn S.1, z ∈ pn (S.1 ++ [(x.1 ++ [l], ext)]) := fun z hz => by
        obtain ⟨y, hy, hz2⟩ := pn_mem.mp hz
        exact pn_mem.mpr ⟨y, List.mem_append_left _ hy, hz2⟩
      have hcm : ∀ {u n k}, pcl T1 T2 S.1 u n k → pcl T1 T2 (S.1 ++ [(x.1 ++ [l], ext)]) u n k := fun hc e he f hf hst => pcv_m (hc e he f hf hst) hm
      have hR : R.1 = (S.1 ++ [(x.1 ++ [l], ext)]).flatMap (fun x => x.2) := by
        rw [List.flatMap_append, ← i2, q1]; simp
      have bS : ∀ {i : Nat} {y}, (S.1 ++ [(x.1 ++ [l], ext)])[i]? = some y → S.1[i]? = some y ∨ (i = S.1.length ∧ y = (x.1 ++ [l], ext)) := fun {i y} q => by
        by_cases c : i < S.1.length
        · rw [List.getElem?_append_left c] at q; exact Or.inl q
        · have hil := (List.getElem?_eq_some_iff.mp q).1
          simp only [List.length_append, List.length_cons, List.length_nil, Nat.zero_add] at hil
          have e : i = S.1.length := by omega
          subst e
          rw [List.getElem?_append_right (Nat.le_refl _)] at q
          simp at q; exact Or.inr ⟨rfl, q.symm⟩
      refine ⟨q4, hR, by rw [List.length_append, hl1]; simp; omega, fun i j y y' hij hy hy' => ?_, fun y hy => ?_, fun i y hi hy n hn k hk => ?_, fun y hy => ?_, fun s hs => pcv_m (i8 s hs) hm, fun n hn => ?_⟩
      · rcases bS hy with k1 | ⟨k1, k2⟩
        · rcases bS hy' with k3 | ⟨k3, k4⟩
          · exact i4 i j y y' hij k1 k3
          · subst k4
            have := x7 y (List.mem_of_getElem? k1)
            show vl y.1 < vl (x.1 ++ [l])
            rw [vl_app]; omega
        · have := (List.getElem?_eq_some_iff.mp hy').1
          simp at this; omega
      · rcases List.mem_append.mp hy with k1 | k1
        · exact i5 y k1
        · simp at k1; subst k1; exact ⟨u3, q2⟩
      · rcases bS hy with k1 | ⟨k1, k2⟩
        · exact hcm (i6 i y hi k1 n hn k hk)
        · omega
      · rcases bS hy with k1 | ⟨k1, k2⟩
        · rw [hx] at k1
          cases k1
          refine ⟨fun y hy => ?_, fun n hn k hk => ?_⟩
          · rcases List.mem_append.mp hy with k2 | k2
            · have := x7 y k2; omega
            · simp at k2; subst k2
              show vl (x.1 ++ [l]) < _
              rw [vl_app]; omega
          · by_cases c : k = l
            · subst c
              intro e he f hf hst
              have := q5 n hn _ ((hnx n hn _).mpr ⟨e, he, f, hf, hst, rfl⟩)
              rw [hR] at this
              refine pcN_pcv this (fun y hy => ?_)
              rcases List.mem_append.mp hy with k2 | k2
              · exact hB y k2
              · simp at k2; subst k2; exact Nat.le_refl _
            · exact hcm (x8 n hn k (by omega))
        · omega
      · rw [q1] at hn
        rcases List.mem_append.mp hn with k1 | k1
        · exact i9 n k1
        · have := List.any_eq_false.mp hany n k1
          rw [ps_eo_xn r1 r2 (q2 n k1).1] at this
          simpa using this
theorem pfd_mono {T1 T2 : mv_T} {S0 : List ps_nd} {S : ps_sT} {g l g' l' : Nat} (h : pfd T1 T2 S0 S g l) (hs : S.2.2 ≠ none) : pfd T1 T2 S0 S g' l' := by
  rcases h with ⟨q, -⟩ | q
  · exact absurd q hs
  · exact Or.inr q
theorem ps_ll_i {m1 m2 T1 T2 : mv_T} {c1 c2 g : Nat} {S0 : List ps_nd} (w1 : tw T1 32) (w2 : tw T2 32) (r1 : mrel m1 c1 T1) (r2 : mrel m2 c2 T2) : ∀ (j l : Nat) (S : ps_sT), l + j = 3 → g < S.1.length → pfd T1 T2 S0 S g l → pfd T1 T2 S0 (ps_ll m1 m2 c1 c2 g j l S) g 3 ∧ S.1.length ≤ (ps_ll m1 m2 c1 c2 g j l S).1.length
  | 0, l, S, hl, _, h => by
    have e : l = 3 := by omega
    subst e
    exact ⟨h, Nat.le_refl _⟩
  | j + 1, l, S, hl, hg, h => by
    simp only [ps_ll]
    by_cases c : S.2.2 = none
    · rw [if_pos c]
      rcases h with ⟨-, q⟩ | ⟨k, x, q, -⟩
      · obtain ⟨h1, h2⟩ := ps_stp_i w1 w2 r1 r2 (by omega) hg c q
        obtain ⟨h3, h4⟩ := ps_ll_i w1 w2 r1 r2 j (l + 1) _ (by omega) (by omega) h1
        exact ⟨h3, by omega⟩
      · rw [q] at c; cases c
    · rw [if_neg c]
      exact ⟨pfd_mono h c, Nat.le_refl _⟩
theorem ps_lo_i {m1 m2 T1 T2 : mv_T} {c1 c2 : Nat} {S0 : List ps_nd} (w1 : tw T1 32) (w2 : tw T2 32) (r1 : mrel m1 c1 T1) (r2 : mrel m2 c2 T2) : ∀ (j g : Nat) (S : ps_sT), 73 - g ≤ j → g ≤ S.1.length → pfd T1 T2 S0 S g 0 → ((ps_lo m1 m2 c1 c2 j g S).2.2 = none ∧ xm_is T1 T2 S0 false []) ∨ ∃ k x, (ps_lo m1 m2 c1 c2 j g S).2.2 = some k ∧ (ps_lo m1 m2 c1 c2 j g S).1[k]? = some x ∧ xm_is T1 T2 S0 true x.1 ∧ ∀ t ∈ x.1, t < 3 := by
  have hend : ∀ (g : Nat) (S : ps_sT), g ≤ S.1.length → ¬ (S.2.2 = none ∧ g < S.1.length ∧ g < 72) → pfd T1 T2 S0 S g 0 → (S.2.2 = none ∧ xm_is T1 T2 S0 false []) ∨ ∃ k x, S.2.2 = some k ∧ S.1[k]? = some x ∧ xm_is T1 T2 S0 true x.1 ∧ ∀ t ∈ x.1, t < 3 := by
    intro g S hg hc h
    rcases h with ⟨q, h⟩ | h
    · left
      refine ⟨q, Or.inl ⟨rfl, fun v hv => ?_⟩⟩
      obtain ⟨x, hx, -⟩ := pin_min w1 h (by decide) hv
      have hgl := (List.getElem?_eq_some_iff.mp hx).1
      have := h.1.2.2.2
      have := h.2.2.1
      exact hc ⟨q, hgl, by omega⟩
    · exact Or.inr h
  intro j
  induction j with
  | zero =>
    intro g S hj hg h
    exact hend g S hg (by omega) h
  | succ j ih =>
    intro g S hj hg h
    simp only [ps_lo]
    by_cases c : S.2.2 = none ∧ g < S.1.length ∧ g < 72
    · rw [if_pos c]
      obtain ⟨h1, h2⟩ := ps_ll_i w1 w2 r1 r2 3 0 S rfl c.2.1 h
      refine ih (g + 1) _ (by omega) (by omega) ?_
      generalize ps_ll m1 m2 c1 c2 g 3 0 S = R at *
      rcases h1 with ⟨k1, k2⟩ | k
      · left
        refine ⟨k1, ?_⟩
        obtain ⟨i1, i2, i3, i4, i5, i6, i7, i8, i9⟩ := k2
        obtain ⟨x, hx⟩ : ∃ x, R.1[g]? = some x := ⟨_, List.getElem?_eq_getElem (by omega)⟩
        refine ⟨i1, i2, i3, i4, i5, fun i y hi hy n hn k hk => ?_, fun y hy => ⟨fun y' hy' => ?_, fun n hn k hk => absurd hk (Nat.not_lt_zero _)⟩, i8, i9⟩
        · by_cases ci : i = g
          · subst ci
            exact (i7 y hy).2 n hn k hk
          · exact i6 i y (by omega) hy n hn k hk
        · have a1 := (i7 x hx).1 y' hy'
          have a2 := i4 g (g + 1) x y (by omega) hx hy
          omega
      · exact Or.inr k
    · rw [if_neg c]
      exact hend g S hg c h
/-- the class's search finds the least word by which outputs differ -/
theorem ps_xm {m1 m2 T1 T2 : mv_T} {c1 c2 : Nat} {S0 : List ps_nd} (w1 : tw T1 32) (w2 : tw T2 32) (r1 : mrel m1 c1 T1) (r2 : mrel m2 c2 T2) (hS : ∀ s ∈ S0, xn_ok s) {R : ps_sT} (hR : R = ps_lo m1 m2 c1 c2 73 0 (ps_s0 (ps_fld m1 m2 c1 c2 0 ([], none) S0).1 (ps_fld m1 m2 c1 c2 0 ([], none) S0).2)) : (R.2.2 = none ∧ xm_is T1 T2 S0 false []) ∨ ∃ k, R.2.2 = some k ∧ xm_is T1 T2 S0 true (ps_wf k R) ∧ ∀ t ∈ ps_wf k R, t < 3 := by
  obtain ⟨⟨⟨ext, q1, q2, q3⟩, q4⟩, q5⟩ := ps_fld_r (gr := 0) (R := fun n => n ∈ S0) (S := ([], none)) (ns := S0) (m1 := m1) (m2 := m2) (c1 := c1) (c2 := c2) (fun n hn => ⟨hn, (hS n hn).1, (hS n hn).2.1⟩)
  have hp0 : pok [] := ⟨List.nodup_nil, (fun n hn => by cases hn), (fun p q _ _ => by simp [ps_cnt]), by simp⟩
  have q4 := q4 hp0
  have q5 := q5 hp0
  generalize ps_fld m1 m2 c1 c2 0 ([], none) S0 = P at *
  rw [List.nil_append] at q1
  rw [Option.none_or] at q3
  rw [q1] at q4 q5
  have hpat : ∀ n ∈ ext, pat T1 T2 S0 [] n := fun n hn => ⟨hS n (q2 n hn), n, q2 n hn, [], [], ⟨rfl, rfl⟩, ⟨rfl, rfl⟩, fun _ _ => Iff.rfl⟩
  have h0 : pfd T1 T2 S0 (ps_s0 P.1 P.2) 0 0 := by
    unfold ps_s0
    rw [q1, q3]
    cases ext with
    | nil =>
      left
      refine ⟨rfl, ?_⟩
      refine ⟨q4, rfl, Nat.le_refl _, fun i j x y _ hx => ?_, fun x hx => ?_, fun i x hi => absurd hi (Nat.not_lt_zero _), fun x hx => ?_, fun s hs => ?_, fun n hn => ?_⟩
      · simp at hx
      · simp at hx
      · simp at hx
      · rcases q5 s hs with k | ⟨z, k, -⟩ <;> cases k
      · cases hn
    | cons n0 ext0 =>
      rw [if_neg (by simp)]
      generalize hext : n0 :: ext0 = ext at *
      have hel : 0 < ext.length := by rw [← hext]; simp
      cases hany : ext.any (ps_eo m1 m2 c1 c2) with
      | true =>
        right
        refine ⟨0, ([], ext), rfl, rfl, Or.inr ⟨rfl, ?_, fun v _ => by rw [vl_nil]; omega⟩, fun t ht => by cases ht⟩
        obtain ⟨n, hn, hea⟩ := List.any_eq_true.mp hany
        have hok := hS n (q2 n hn)
        rw [ps_eo_xn r1 r2 hok] at hea
        obtain ⟨f, f', hf, hf', hC⟩ := ea_C.mp hea
        exact ⟨n, q2 n hn, n.1, n.2.1, [], [], f, f', ⟨rfl, rfl⟩, ⟨rfl, rfl⟩, hf, hf', hC⟩
      | false =>
        left
        refine ⟨rfl, ?_⟩
        have hone : ∀ {i : Nat} {x : List Nat × List ps_nd}, [(([] : List Nat), ext)][i]? = some x → i = 0 ∧ x = ([], ext) := fun {i x} hx => by
          cases i with
          | zero => simp at hx; exact ⟨rfl, hx.symm⟩
          | succ i => simp at hx
        refine ⟨q4, by simp, (show 1 ≤ ext.length from hel), fun i j x y hij hx hy => ?_, fun x hx => ?_, fun i x hi => absurd hi (Nat.not_lt_zero _), fun x hx => ⟨fun y hy => ?_, fun n hn k hk => absurd hk (Nat.not_lt_zero _)⟩, fun s hs => ?_, fun n hn => ?_⟩
        · have := hone hx; have := hone hy; omega
        · simp at hx; subst hx; exact ⟨(fun t ht => by cases ht), hpat⟩
        · simp at hy; subst hy
          rw [(hone hx).2]; simp [vl_nil]
        · refine pcN_pcv (B := 0) (gs := [([], ext)]) (by simpa using q5 s hs) (fun y hy => ?_)
          simp at hy; subst hy; simp [vl_nil]
        · have := List.any_eq_false.mp hany n hn
          rw [ps_eo_xn r1 r2 (hS n (q2 n hn))] at this
          simpa using this
  have := ps_lo_i w1 w2 r1 r2 73 0 _ (Nat.le_refl _) (Nat.zero_le _) h0
  rw [← hR] at this
  rcases this with h | ⟨k, x, k1, k2, k3, k4⟩
  · exact Or.inl h
  · right
    have e : ps_wf k R = x.1 := by unfold ps_wf ps_gn; rw [k2]; rfl
    exact ⟨k, k1, by rw [e]; exact k3, by rw [e]; exact k4⟩
