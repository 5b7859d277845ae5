/-! mathematics: the sets of the class, the contents of the reference -/
section BG
variable {em : mv_T} {ec l : Nat} {S : bf_T}
theorem bfe_b {rs : List Nat} : ∀ (es : List Nat) (T : bf_T) (t : Nat), (es.foldl (bf_e em rs) T).1.testBit t = true ↔ T.1.testBit t = true ∨ ∃ e ∈ es, (mv_e em e).2.2.1 = t
  | [], T, t => by simp
  | e :: es, T, t => by
    rw [List.foldl_cons, bfe_b es]
    have e1 : (bf_e em rs T e).1 = T.1 ||| 2 ^ (mv_e em e).2.2.1 := rfl
    rw [e1, bit_or_pow, Bool.or_eq_true, decide_eq_true_eq]
    constructor
    · rintro ((a | a) | ⟨e', a1, a2⟩)
      · exact Or.inl a
      · exact Or.inr ⟨e, List.mem_cons_self, a⟩
      · exact Or.inr ⟨e', List.mem_cons_of_mem _ a1, a2⟩
    · rintro (a | ⟨e', a1, a2⟩)
      · exact Or.inl (Or.inl a)
      · rcases List.mem_cons.mp a1 with rfl | a1
        · exact Or.inl (Or.inr a2)
        · exact Or.inr ⟨e', a1, a2⟩
theorem bfe_q {Q : Nat → List Nat → Prop} {rs : List Nat} : ∀ (es : List Nat) (T : bf_T), (∀ e ∈ es, Q (mv_e em e).2.2.1 (rs ++ (mv_e em e).2.2.2)) → (∀ t, T.1.testBit t = true → Q t (T.2 t)) → ∀ t, (es.foldl (bf_e em rs) T).1.testBit t = true → Q t ((es.foldl (bf_e em rs) T).2 t)
  | [], T, _, h2, t, ht => h2 t ht
  | e :: es, T, h1, h2, t, ht => by
    rw [List.foldl_cons] at ht ⊢
    refine bfe_q es (bf_e em rs T e) (fun e' he' => h1 e' (List.mem_cons_of_mem _ he')) (fun t' ht' => ?_) t ht
    have e2 : (bf_e em rs T e).2 = va_up T.2 (mv_e em e).2.2.1 (rs ++ (mv_e em e).2.2.2) := rfl
    rw [e2]
    by_cases c : t' = (mv_e em e).2.2.1
    · rw [c, va_up_self]
      exact h1 e List.mem_cons_self
    · rw [va_up_ne _ _ c]
      have e1 : (bf_e em rs T e).1 = T.1 ||| 2 ^ (mv_e em e).2.2.1 := rfl
      rw [e1, bit_or_pow, Bool.or_eq_true, decide_eq_true_eq] at ht'
      exact h2 t' (ht'.resolve_right (fun q => c q.symm))
theorem bgk_b : ∀ (k q : Nat) (T : bf_T) (t : Nat), (bg_k em ec l S k q T).1.testBit t = true ↔ T.1.testBit t = true ∨ ∃ p e, q ≤ p ∧ p < q + k ∧ S.1.testBit p = true ∧ e ∈ mv_pl em (mv_al em ec) (p * 3 + l) ∧ (mv_e em e).2.2.1 = t
  | 0, q, T, t => by
    simp only [bg_k]
    constructor
    · exact Or.inl
    · rintro (h | ⟨p, e, h1, h2, -⟩)
      · exact h
      · omega
  | k + 1, q, T, t => by
    simp only [bg_k]
    rw [bgk_b k (q + 1)]
    by_cases c : S.1.testBit q = true
    · rw [if_pos c, bfe_b]
      constructor
      · rintro ((a | ⟨e, a1, a2⟩) | ⟨p, e, a1, a2, a3⟩)
        · exact Or.inl a
        · exact Or.inr ⟨q, e, Nat.le_refl _, by omega, c, a1, a2⟩
        · exact Or.inr ⟨p, e, by omega, by omega, a3⟩
      · rintro (a | ⟨p, e, a1, a2, a3, a4, a5⟩)
        · exact Or.inl (Or.inl a)
        · by_cases cp : p = q
          · subst cp; exact Or.inl (Or.inr ⟨e, a4, a5⟩)
          · exact Or.inr ⟨p, e, by omega, by omega, a3, a4, a5⟩
    · rw [if_neg c]
      constructor
      · rintro (a | ⟨p, e, a1, a2, a3⟩)
        · exact Or.inl a
        · exact Or.inr ⟨p, e, by omega, by omega, a3⟩
      · rintro (a | ⟨p, e, a1, a2, a3, a4, a5⟩)
        · exact Or.inl a
        · by_cases cp : p = q
          · subst cp; exact absurd a3 c
          · exact Or.inr ⟨p, e, by omega, by omega, a3, a4, a5⟩
theorem bgk_q {Q : Nat → List Nat → Prop} (h1 : ∀ p, S.1.testBit p = true → ∀ e ∈ mv_pl em (mv_al em ec) (p * 3 + l), Q (mv_e em e).2.2.1 (S.2 p ++ (mv_e em e).2.2.2)) : ∀ (k q : Nat) (T : bf_T), (∀ t, T.1.testBit t = true → Q t (T.2 t)) → ∀ t, (bg_k em ec l S k q T).1.testBit t = true → Q t ((bg_k em ec l S k q T).2 t)
  | 0, q, T, h2, t, ht => h2 t ht
  | k + 1, q, T, h2, t, ht => by
    simp only [bg_k] at ht ⊢
    refine bgk_q h1 k (q + 1) _ (fun t' ht' => ?_) t ht
    by_cases c : S.1.testBit q = true
    · rw [if_pos c] at ht' ⊢
      exact bfe_q _ T (h1 q c) h2 t' ht'
    · rw [if_neg c] at ht' ⊢
      exact h2 t' ht'
end BG
theorem bit_6 {s q : Nat} (h : s < 64) (hq : s.testBit q = true) : q < 6 := by
  refine Classical.byContradiction fun c => ?_
  have := Nat.testBit_lt_two_pow (Nat.lt_of_lt_of_le h (show 2 ^ 6 ≤ 2 ^ q from Nat.pow_le_pow_right (by decide) (by omega)))
  rw [this] at hq; cases hq
theorem lt_64 {s : Nat} (h : ∀ q, s.testBit q = true → q < 6) : s < 64 := by
  refine Nat.lt_pow_two_of_testBit (n := 6) s (fun i hi => ?_)
  cases c : s.testBit i with
  | false => rfl
  | true => have := h i c; omega
/-- a set: where the ways of reading u are, what they have written beyond c -/
def ksr (P : mv_T) (u c : List Nat) (S : bf_T) : Prop := S.1 < 64 ∧ (∀ s, s < 6 → (S.1.testBit s = true ↔ ∃ x, rn P 0 u s x)) ∧ ∀ s x, rn P 0 u s x → x = c ++ S.2 s
def kst (P : mv_T) (u c : List Nat) (S : bf_T) : Prop := ksr P u c S ∧ ((∃ s x, rn P 0 u s x) → ∀ c', (∀ s x, rn P 0 u s x → c' <+: x) → c' <+: c)
/-- a function that is steady, with its heads -/
def okm (m : mv_T) (H : Nat → List Nat) : Prop := wf m ∧ hd_is (tk m) H ∧ (∀ v, ¬ df (tk m) (tk m) (xd_st (tk m) (tk m)) v) ∧ sdv (tk m) 1 ∧ al m ≠ 0
def emx (m : mv_T) (H : Nat → List Nat) (em : mv_T) (ec : Nat) : Prop := mrel em ec (pu (tk m) H) ∧ em.1 = m.1 ∧ mv_al em ec = al m
def kq (S : bf_T) (K : kt_T) : Prop := ∀ s, s < 6 → K s = if S.1.testBit s then some (S.2 s) else none
section ST
variable {m : mv_T} {H : Nat → List Nat} {em : mv_T} {ec : Nat}
theorem okm.lt (k : okm m H) {u : List Nat} {s : Nat} {x : List Nat} (hr : rn (pu (tk m) H) 0 u s x) : s < m.1 ∧ s < 6 := by
  have h1 := al_lt k.1 (rn_pal k.1 k.2.1 k.2.2.2.2 hr)
  have := k.1.2.1
  omega
theorem okm.tw (k : okm m H) : tw (pu (tk m) H) 21 := pu_tw (tk_tw k.1) (fun s hs => hd_18 k.1 k.2.1 hs)
theorem okm.one (k : okm m H) {u : List Nat} {s : Nat} {x y : List Nat} (h1 : rn (pu (tk m) H) 0 u s x) (h2 : rn (pu (tk m) H) 0 u s y) : x = y := fn_one k.1 k.2.1 k.2.2.1 k.2.2.2.2 h1 h2
theorem ksr.bit (k : okm m H) {u c : List Nat} {S : bf_T} (h : ksr (pu (tk m) H) u c S) {s : Nat} (hs : S.1.testBit s = true) : rn (pu (tk m) H) 0 u s (c ++ S.2 s) := by
  obtain ⟨x, hx⟩ := (h.2.1 s (bit_6 h.1 hs)).mp hs
  rw [← h.2.2 s x hx]; exact hx
theorem ksr.of (k : okm m H) {u c : List Nat} {S : bf_T} (h : ksr (pu (tk m) H) u c S) {s : Nat} {x : List Nat} (hx : rn (pu (tk m) H) 0 u s x) : S.1.testBit s = true ∧ x = c ++ S.2 s := ⟨(h.2.1 s (k.lt hx).2).mpr ⟨x, hx⟩, h.2.2 s x hx⟩
theorem ksr_go (k : okm m H) (g : emx m H em ec) {l : Nat} (hl : l < 3) {u c : List Nat} {S : bf_T} (h : ksr (pu (tk m) H) u c S) (nr : Nat → List Nat) : ksr (pu (tk m) H) (u ++ [l]) c (bg_go em ec l S nr) := by
  obtain ⟨r, g1, g2⟩ := g
  have hb : ∀ t, (bg_go em ec l S nr).1.testBit t = true ↔ ∃ p e, p < m.1 ∧ S.1.testBit p = true ∧ e ∈ mv_pl em (mv_al em ec) (p * 3 + l) ∧ (mv_e em e).2.2.1 = t := fun t => by
    have := bgk_b (em := em) (ec := ec) (l := l) (S := S) em.1 0 (0, nr) t
    rw [Nat.zero_testBit] at this
    unfold bg_go
    rw [this, g1]
    constructor
    · rintro (a | ⟨p, e, a1, a2, a3⟩)
      · cases a
      · exact ⟨p, e, by omega, a3⟩
    · rintro ⟨p, e, a1, a2⟩
      exact Or.inr ⟨p, e, Nat.zero_le _, by omega, a2⟩
  have hrun : ∀ p e, S.1.testBit p = true → e ∈ mv_pl em (mv_al em ec) (p * 3 + l) → rn (pu (tk m) H) 0 (u ++ [l]) (mv_e em e).2.2.1 (c ++ (S.2 p ++ (mv_e em e).2.2.2)) := fun p e hp he => by
    obtain ⟨e', he', a1, a2, a3, a4⟩ := (r.1 p l _ _ hl).mp ⟨e, he, rfl, rfl⟩
    exact rn_snoc.mpr ⟨p, c ++ S.2 p, e', h.bit k hp, he', a1, a2, a3, by rw [a4, List.append_assoc]⟩
  have hbit : ∀ t, (bg_go em ec l S nr).1.testBit t = true ↔ ∃ x, rn (pu (tk m) H) 0 (u ++ [l]) t x := fun t => by
    rw [hb]
    constructor
    · rintro ⟨p, e, a1, a2, a3, rfl⟩
      exact ⟨_, hrun p e a2 a3⟩
    · rintro ⟨x, hx⟩
      obtain ⟨s, x', e, a1, a2, a3, a4, a5, -⟩ := rn_snoc.mp hx
      obtain ⟨e', he', b1, -⟩ := (r.1 s l t e.2.2.2 hl).mpr ⟨e, a2, a3, a4, a5, rfl⟩
      exact ⟨s, e', (k.lt a1).1, (h.of k a1).1, he', b1⟩
  refine ⟨lt_64 (fun q hq => ?_), fun s _ => hbit s, fun s x hx => ?_⟩
  · obtain ⟨x, hx⟩ := (hbit q).mp hq
    exact (k.lt hx).2
  · have hq := bgk_q (em := em) (ec := ec) (l := l) (S := S) (Q := fun t v => rn (pu (tk m) H) 0 (u ++ [l]) t (c ++ v)) (fun p hp e he => hrun p e hp he) em.1 0 (0, nr) (fun t ht => by rw [Nat.zero_testBit] at ht; cases ht) s ((hbit s).mpr ⟨x, hx⟩)
    exact k.one hx hq
theorem bc_ld_g {T : bf_T} : glb (fun w => ∃ q, q < 6 ∧ T.1.testBit q = true ∧ w = T.2 q) (bc_ld T) := by
  have key : ∀ (k q : Nat) (P : List Nat → Prop) (acc : Option (List Nat)), glb P acc → glb (fun w => P w ∨ ∃ p, q ≤ p ∧ p < q + k ∧ T.1.testBit p = true ∧ w = T.2 p) (bc_lk T k q acc) := by
    intro k
    induction k with
    | zero =>
      intro q P acc h
      refine glb_ex h (fun c => ⟨Or.inl, ?_⟩)
      rintro (a | ⟨p, a1, a2, -⟩)
      · exact a
      · omega
    | succ k ih =>
      intro q P acc h
      simp only [bc_lk]
      by_cases c : T.1.testBit q = true
      · rw [if_pos c]
        refine glb_ex (ih (q + 1) _ _ (glb_mg (p := T.2 q) h)) (fun x => ?_)
        constructor
        · rintro ((a | a) | ⟨p, a1, a2, a3⟩)
          · exact Or.inl a
          · exact Or.inr ⟨q, Nat.le_refl _, by omega, c, a⟩
          · exact Or.inr ⟨p, by omega, by omega, a3⟩
        · rintro (a | ⟨p, a1, a2, a3, a4⟩)
          · exact Or.inl (Or.inl a)
          · by_cases cp : p = q
            · subst cp; exact Or.inl (Or.inr a4)
            · exact Or.inr ⟨p, by omega, by omega, a3, a4⟩
      · rw [if_neg c]
        refine glb_ex (ih (q + 1) _ _ h) (fun x => ?_)
        constructor
        · rintro (a | ⟨p, a1, a2, a3⟩)
          · exact Or.inl a
          · exact Or.inr ⟨p, by omega, by omega, a3⟩
        · rintro (a | ⟨p, a1, a2, a3, a4⟩)
          · exact Or.inl a
          · by_cases cp : p = q
            · subst cp; exact absurd a3 c
            · exact Or.inr ⟨p, by omega, by omega, a3, a4⟩
  refine glb_ex (key 6 0 (fun _ => False) none (Or.inl ⟨rfl, fun _ q => q⟩)) (fun c => ?_)
  constructor
  · rintro (a | ⟨p, -, a2, a3⟩)
    · cases a
    · exact ⟨p, by omega, a3⟩
  · rintro ⟨p, a2, a3⟩
    exact Or.inr ⟨p, Nat.zero_le _, by omega, a3⟩
theorem bc_ct_1 {T : bf_T} : (bc_ct T).1 = T.1 := by
  unfold bc_ct
  split <;> rfl
theorem kst_ct (k : okm m H) {u c : List Nat} {B : bf_T} (h : ksr (pu (tk m) H) u c B) : ∃ c', kst (pu (tk m) H) u c' (bc_ct B) := by
  have hg := bc_ld_g (T := B)
  unfold bc_ct
  cases hL : bc_ld B with
  | none =>
    rw [hL] at hg
    rcases hg with ⟨-, hg⟩ | ⟨L, q, -⟩
    · refine ⟨c, h, fun ⟨s, x, hx⟩ => ?_⟩
      obtain ⟨h1, -⟩ := h.of k hx
      exact absurd ⟨s, (k.lt hx).2, h1, rfl⟩ (hg (B.2 s))
    · cases q
  | some L =>
    rw [hL] at hg
    rcases hg with ⟨q, -⟩ | ⟨L', q, -, g2, g3⟩
    · cases q
    cases q
    refine ⟨c ++ L, ⟨h.1, h.2.1, fun s x hx => ?_⟩, fun ⟨s0, x0, hx0⟩ c' hc' => ?_⟩
    · obtain ⟨h1, h2⟩ := h.of k hx
      have h6 := (k.lt hx).2
      show x = c ++ L ++ (if s < 6 ∧ B.1.testBit s = true then (B.2 s).drop L.length else B.2 s)
      rw [if_pos ⟨h6, h1⟩, List.append_assoc, pre_drop (g2 _ ⟨s, h6, h1, rfl⟩)]
      exact h2
    · have hp := hc' s0 x0 hx0
      rw [(h.of k hx0).2] at hp
      by_cases cl : c'.length ≤ c.length
      · exact (List.prefix_of_prefix_length_le hp (List.prefix_append _ _) cl).trans (List.prefix_append _ _)
      · obtain ⟨L', rfl⟩ := List.prefix_of_prefix_length_le (List.prefix_append c (B.2 s0)) hp (by omega)
        rw [List.prefix_append_right_inj]
        refine g3 L' (fun w hw => ?_)
        obtain ⟨q, -, h2, rfl⟩ := hw
        have := hc' q _ (h.bit k h2)
        rwa [List.prefix_append_right_inj] at this
theorem kst_126 (k : okm m H) {u c : List Nat} {S : bf_T} (h : kst (pu (tk m) H) u c S) {q : Nat} (hq : S.1.testBit q = true) : (S.2 q).length ≤ 126 := by
  have hx := h.1.bit k hq
  refine Classical.byContradiction fun hne => ?_
  have hp := h.2 ⟨q, _, hx⟩ ((c ++ S.2 q).take (c.length + 1)) (fun s y hy => ?_)
  · have := hp.length_le
    rw [List.length_take, List.length_append] at this
    omega
  · have h126 := rs_126 k.1 k.2.1 k.2.2.2.1 k.2.2.2.2 hx hy
    rw [List.length_append] at h126
    have h1 : (c ++ S.2 q).take (c.length + 1) <+: (c ++ S.2 q).take (lcpn (c ++ S.2 q) y) := List.take_prefix_take_left (by omega)
    exact h1.trans lcp_pre
theorem rn_8 {T : mv_T} {b : Nat} (w1 : tw T b) : ∀ {u : List Nat} {p q : Nat} {x : List Nat}, rn T p u q x → ∀ z ∈ x, z < 8
  | [], p, q, x, h => by obtain ⟨-, rfl⟩ := h; simp
  | l :: u, p, q, x, h => by
    obtain ⟨e, he, -, -, o', h1, rfl⟩ := h
    intro z hz
    rcases List.mem_append.mp hz with a | a
    · exact (w1.2.2.1 e he).2.2.2.2 z a
    · exact rn_8 w1 h1 z a
theorem kst_8 (k : okm m H) {u c : List Nat} {S : bf_T} (h : ksr (pu (tk m) H) u c S) {q : Nat} (hq : S.1.testBit q = true) : ∀ z ∈ S.2 q, z < 8 := fun z hz => rn_8 k.tw (h.bit k hq) z (List.mem_append_right _ hz)
theorem kst_0 (nr : Nat → List Nat) : kst (pu (tk m) H) [] [] (bu_T0 nr) := by
  have e0 : (bu_T0 nr).2 0 = [] := va_up_self nr 0 []
  refine ⟨⟨(by decide : 1 < 64), fun s hs => ?_, fun s x hx => ?_⟩, fun _ c' hc' => ?_⟩
  · show (1 : Nat).testBit s = true ↔ _
    rw [Nat.testBit_one_eq_true_iff_self_eq_zero]
    constructor
    · rintro rfl; exact ⟨[], rfl, rfl⟩
    · rintro ⟨x, h1, -⟩; exact h1.symm
  · obtain ⟨rfl, rfl⟩ := hx
    rw [e0]; rfl
  · exact hc' 0 [] ⟨rfl, rfl⟩
theorem mx_q {x : Nat} {K : kt_T} {Q : Nat → List Nat → Prop} : ∀ (es : List xe_T) (M : kt_T), (∀ e ∈ es, ∀ u, e.2.1 = x → K e.1 = some u → Q e.2.2.1 (u ++ e.2.2.2)) → (∀ t w, M t = some w → Q t w) → ∀ t w, es.foldl (mx_1 x K) M t = some w → Q t w
  | [], M, _, h2, t, w, h => h2 t w h
  | e :: es, M, h1, h2, t, w, h => by
    rw [List.foldl_cons] at h
    refine mx_q es (mx_1 x K M e) (fun e' he' => h1 e' (List.mem_cons_of_mem _ he')) (fun t' w' h' => ?_) t w h
    unfold mx_1 at h'
    split at h'
    · next c =>
      obtain ⟨c1, c2, c3⟩ := c
      by_cases ct : t' = e.2.2.1
      · subst ct
        rw [cm_us] at h'
        cases h'
        cases hk : K e.1 with
        | none => exact absurd hk c2
        | some u => exact h1 e List.mem_cons_self u c1 hk
      · rw [cm_un ct] at h'
        exact h2 t' w' h'
    · exact h2 t' w' h'
theorem mx_n {x : Nat} {K : kt_T} : ∀ (es : List xe_T) (M : kt_T) (t : Nat), es.foldl (mx_1 x K) M t ≠ none ↔ M t ≠ none ∨ ∃ e ∈ es, e.2.1 = x ∧ K e.1 ≠ none ∧ e.2.2.1 = t
  | [], M, t => by simp
  | e :: es, M, t => by
    rw [List.foldl_cons, mx_n es]
    have h1 : mx_1 x K M e t ≠ none ↔ M t ≠ none ∨ (e.2.1 = x ∧ K e.1 ≠ none ∧ e.2.2.1 = t) := by
      unfold mx_1
      by_cases c : e.2.1 = x ∧ K e.1 ≠ none ∧ M e.2.2.1 = none
      · rw [if_pos c]
        by_cases ct : t = e.2.2.1
        · subst ct
          rw [cm_us]
          exact ⟨fun _ => Or.inr ⟨c.1, c.2.1, rfl⟩, fun _ => by simp⟩
        · rw [cm_un ct]
          exact ⟨Or.inl, fun q => q.resolve_right (fun z => ct z.2.2.symm)⟩
      · rw [if_neg c]
        refine ⟨Or.inl, fun q => ?_⟩
        rcases q with q | ⟨a1, a2, a3⟩
        · exact q
        · intro hn
          exact c ⟨a1, a2, by rw [a3]; exact hn⟩
    rw [h1]
    constructor
    · rintro ((a | a) | ⟨e', a1, a2⟩)
      · exact Or.inl a
      · exact Or.inr ⟨e, List.mem_cons_self, a⟩
      · exact Or.inr ⟨e', List.mem_cons_of_mem _ a1, a2⟩
    · rintro (a | ⟨e', a1, a2⟩)
      · exact Or.inl (Or.inl a)
      · rcases List.mem_cons.mp a1 with rfl | a1
        · exact Or.inl (Or.inr a2)
        · exact Or.inr ⟨e', a1, a2⟩
theorem kq_some {S : bf_T} {K : kt_T} (h : kq S K) {s : Nat} (hs : s < 6) {u : List Nat} : K s = some u ↔ S.1.testBit s = true ∧ u = S.2 s := by
  rw [h s hs]
  cases c : S.1.testBit s with
  | true => simp [eq_comm]
  | false => simp
theorem kq_none {S : bf_T} {K : kt_T} (h : kq S K) {s : Nat} (hs : s < 6) : K s ≠ none ↔ S.1.testBit s = true := by
  rw [h s hs]
  cases c : S.1.testBit s with
  | true => simp
  | false => simp
theorem kq_mx (k : okm m H) (g : emx m H em ec) {l : Nat} (hl : l < 3) {u c : List Nat} {S : bf_T} {K : kt_T} (h : ksr (pu (tk m) H) u c S) (hk : kq S K) (nr : Nat → List Nat) : kq (bg_go em ec l S nr) (mx (pu (tk m) H) l K) := by
  have hB := ksr_go k g hl h nr
  intro t ht
  have hw := k.tw
  have hn := mx_n (x := l) (K := K) (pu (tk m) H).2.1 (fun _ => none) t
  have hq := mx_q (x := l) (K := K) (Q := fun t w => rn (pu (tk m) H) 0 (u ++ [l]) t (c ++ w)) (pu (tk m) H).2.1 (fun _ => none) (fun e he u' h1 h2 => by
    obtain ⟨a1, rfl⟩ := (kq_some hk (hw.2.2.1 e he).1).mp h2
    rw [← List.append_assoc]
    exact rn_snoc.mpr ⟨e.1, _, e, h.bit k a1, he, rfl, h1, rfl, rfl⟩) (fun t w q => by cases q) t
  have e : mx (pu (tk m) H) l K t = (pu (tk m) H).2.1.foldl (mx_1 l K) (fun _ => none) t := rfl
  rw [e]
  generalize (pu (tk m) H).2.1.foldl (mx_1 l K) (fun _ => none) t = M at hn hq ⊢
  cases cb : (bg_go em ec l S nr).1.testBit t with
  | true =>
    rw [if_pos rfl]
    have hr := hB.bit k cb
    obtain ⟨s, x', e, a1, a2, a3, a4, a5, -⟩ := rn_snoc.mp hr
    have hM : M ≠ none := hn.mpr (Or.inr ⟨e, a2, a4, by rw [a3]; exact (kq_none hk (k.lt a1).2).mpr (h.of k a1).1, a5⟩)
    cases cM : M with
    | none => exact absurd cM hM
    | some w =>
      have := k.one (hq w cM) hr
      rw [List.append_cancel_left this]
  | false =>
    rw [if_neg (by simp)]
    refine Classical.byContradiction fun hM => ?_
    rcases hn.mp hM with q | ⟨e, a1, a2, a3, a4⟩
    · exact q rfl
    · have h1 := (kq_none hk (hw.2.2.1 e a1).1).mp a3
      have h2 := (hB.of k (rn_snoc.mpr ⟨e.1, _, e, h.bit k h1, a1, rfl, a2, a4, rfl⟩)).1
      rw [cb] at h2; cases h2
theorem kq_lc {B : bf_T} {M : kt_T} (h : kq B M) {L : List Nat} (hL : bc_ld B = some L) : lc_is M L := by
  have hg := bc_ld_g (T := B)
  rw [hL] at hg
  rcases hg with ⟨q, -⟩ | ⟨L', q, -, g2, g3⟩
  · cases q
  cases q
  refine ⟨fun s w hs hw => ?_, fun L' hL' => ?_⟩
  · obtain ⟨a1, rfl⟩ := (kq_some h hs).mp hw
    exact g2 _ ⟨s, hs, a1, rfl⟩
  · refine g3 L' (fun w hw => ?_)
    obtain ⟨q, h1, h2, rfl⟩ := hw
    exact hL' q _ h1 ((kq_some h h1).mpr ⟨h2, rfl⟩)
theorem kq_ct {B : bf_T} {M : kt_T} (h : kq B M) {L : List Nat} (hL : bc_ld B = some L) : kq (bc_ct B) (cut M L) := by
  intro s hs
  have e : bc_ct B = bc_dr L.length B := by unfold bc_ct; rw [hL]
  rw [e]
  show (M s).map (fun w => w.drop L.length) = if B.1.testBit s = true then some (if s < 6 ∧ B.1.testBit s = true then (B.2 s).drop L.length else B.2 s) else none
  rw [h s hs]
  cases c : B.1.testBit s with
  | true => simp [hs]
  | false => simp
theorem kq_0 {B : bf_T} {M : kt_T} (h : kq B M) (h64 : B.1 < 64) : B.1 = 0 ↔ ∀ s, s < 6 → M s = none := by
  constructor
  · intro e s hs
    rw [h s hs, e]; simp
  · intro hn
    apply Nat.eq_of_testBit_eq
    intro q
    rw [Nat.zero_testBit]
    cases c : B.1.testBit q with
    | false => rfl
    | true =>
      have h6 := bit_6 h64 c
      exact absurd (hn q h6) ((kq_none h h6).mpr c)
end ST
