/-! mathematics: heads -/
/-- the greatest common prefix of what satisfies P, if anything does -/
def glb (P : List Nat → Prop) (o : Option (List Nat)) : Prop := (o = none ∧ ∀ c, ¬ P c) ∨ ∃ h, o = some h ∧ (∃ c, P c) ∧ (∀ c, P c → h <+: c) ∧ ∀ h', (∀ c, P c → h' <+: c) → h' <+: h
theorem glb_mg {P : List Nat → Prop} {o : Option (List Nat)} {p : List Nat} (h : glb P o) : glb (fun c => P c ∨ c = p) (bh_mg o p) := by
  right
  rcases h with ⟨rfl, h⟩ | ⟨g, rfl, h1, h2, h3⟩
  · refine ⟨p, rfl, ⟨p, Or.inr rfl⟩, fun c hc => ?_, fun h' hp => hp p (Or.inr rfl)⟩
    rcases hc with hc | rfl
    · exact absurd hc (h c)
    · exact List.prefix_refl _
  · refine ⟨g.take (wd_lcp g p), rfl, ⟨p, Or.inr rfl⟩, fun c hc => ?_, fun h' hp => ?_⟩
    · rw [← lcpn_wd]
      rcases hc with hc | rfl
      · exact (List.take_prefix _ _).trans (h2 c hc)
      · exact lcp_pre
    · rw [← lcpn_wd]
      exact pre_lcp (h3 h' (fun c hc => hp c (Or.inl hc))) (hp p (Or.inr rfl))
theorem glb_ex {P P' : List Nat → Prop} {o : Option (List Nat)} (h : glb P o) (he : ∀ c, P c ↔ P' c) : glb P' o := by
  have e : P = P' := funext fun c => propext (he c)
  rw [← e]; exact h
/-- what a state's head is made of -/
def hcd (T : mv_T) (S : bh_T) (q : Nat) (c : List Nat) : Prop := T.2.2.1 q = some c ∨ ∃ e ∈ T.2.1, e.1 = q ∧ S.1.testBit e.2.2.1 = true ∧ c = e.2.2.2 ++ S.2 e.2.2.1
theorem es_mem {m T : mv_T} {cl q t : Nat} {w : List Nat} (r : mrel m cl T) (h3 : ∀ e ∈ T.2.1, e.2.1 < 3) : (∃ e ∈ mv_es m (mv_al m cl) q, (mv_e m e).2.2.1 = t ∧ (mv_e m e).2.2.2 = w) ↔ ∃ e ∈ T.2.1, e.1 = q ∧ e.2.2.1 = t ∧ e.2.2.2 = w := by
  unfold mv_es
  constructor
  · rintro ⟨e, he, h1⟩
    have : ∃ l, l < 3 ∧ e ∈ mv_pl m (mv_al m cl) (q * 3 + l) := by
      rcases List.mem_append.mp he with k | k
      · exact ⟨0, by decide, k⟩
      · rcases List.mem_append.mp k with k | k
        · exact ⟨1, by decide, k⟩
        · exact ⟨2, by decide, k⟩
    obtain ⟨l, hl, hm⟩ := this
    obtain ⟨e', he', a1, a2, a3⟩ := (r.1 q l t w hl).mp ⟨e, hm, h1⟩
    exact ⟨e', he', a1, a3⟩
  · rintro ⟨e', he', a1, a2⟩
    obtain ⟨e, he, b⟩ := (r.1 q e'.2.1 t w (h3 e' he')).mpr ⟨e', he', a1, rfl, a2⟩
    refine ⟨e, ?_, b⟩
    have hl := h3 e' he'
    have : e'.2.1 = 0 ∨ e'.2.1 = 1 ∨ e'.2.1 = 2 := by omega
    rcases this with k | k | k <;> rw [k] at he
    · exact List.mem_append_left _ he
    · exact List.mem_append_right _ (List.mem_append_left _ he)
    · exact List.mem_append_right _ (List.mem_append_right _ he)
theorem bh_f_glb {m T : mv_T} {cl q : Nat} {S : bh_T} (r : mrel m cl T) (h3 : ∀ e ∈ T.2.1, e.2.1 < 3) (hq : q < 6) : glb (hcd T S q) (bh_f m cl S.1 S.2 q) := by
  have key : ∀ (es : List Nat) (P : List Nat → Prop) (acc : Option (List Nat)), glb P acc → glb (fun c => P c ∨ ∃ e ∈ es, S.1.testBit (mv_e m e).2.2.1 = true ∧ c = (mv_e m e).2.2.2 ++ S.2 (mv_e m e).2.2.1) (es.foldl (bh_it m S.1 S.2) acc) := by
    intro es
    induction es with
    | nil =>
      intro P acc h
      exact glb_ex h (fun c => by simp)
    | cons e es ih =>
      intro P acc h
      rw [List.foldl_cons]
      by_cases c : S.1.testBit (mv_e m e).2.2.1 = true
      · have h1 : bh_it m S.1 S.2 acc e = bh_mg acc ((mv_e m e).2.2.2 ++ S.2 (mv_e m e).2.2.1) := if_pos c
        rw [h1]
        refine glb_ex (ih _ _ (glb_mg (p := (mv_e m e).2.2.2 ++ S.2 (mv_e m e).2.2.1) h)) (fun x => ?_)
        constructor
        · rintro ((a | a) | ⟨e', a1, a2⟩)
          · exact Or.inl a
          · exact Or.inr ⟨e, List.mem_cons_self, c, a⟩
          · exact Or.inr ⟨e', List.mem_cons_of_mem _ a1, a2⟩
        · rintro (a | ⟨e', a1, a2, a3⟩)
          · exact Or.inl (Or.inl a)
          · rcases List.mem_cons.mp a1 with rfl | a1
            · exact Or.inl (Or.inr a3)
            · exact Or.inr ⟨e', a1, a2, a3⟩
      · have h1 : bh_it m S.1 S.2 acc e = acc := if_neg c
        rw [h1]
        refine glb_ex (ih _ _ h) (fun x => ?_)
        constructor
        · rintro (a | ⟨e', a1, a2⟩)
          · exact Or.inl a
          · exact Or.inr ⟨e', List.mem_cons_of_mem _ a1, a2⟩
        · rintro (a | ⟨e', a1, a2, a3⟩)
          · exact Or.inl a
          · rcases List.mem_cons.mp a1 with rfl | a1
            · exact absurd a2 c
            · exact Or.inr ⟨e', a1, a2, a3⟩
  obtain ⟨r1, r2⟩ := r.2 q hq
  have h0 : glb (fun c => T.2.2.1 q = some c) (if (cl &&& mv_al m cl).testBit q then some (ps_fin m q) else none) := by
    rw [r1]
    cases hf : T.2.2.1 q with
    | none => exact Or.inl ⟨rfl, fun c hc => by cases hc⟩
    | some f =>
      rw [r2 f hf]
      exact Or.inr ⟨f, rfl, ⟨f, rfl⟩, fun c hc => by cases hc; exact List.prefix_refl _, fun h' hp => hp f rfl⟩
  refine glb_ex (key (mv_es m (mv_al m cl) q) _ _ h0) (fun c => ?_)
  unfold hcd
  refine or_congr Iff.rfl ?_
  constructor
  · rintro ⟨e, he, a1, a2⟩
    obtain ⟨e', he', b1, b2, b3⟩ := (es_mem r h3).mp ⟨e, he, rfl, rfl⟩
    exact ⟨e', he', b1, by rw [b2]; exact a1, by rw [b2, b3]; exact a2⟩
  · rintro ⟨e', he', b1, b2, b3⟩
    obtain ⟨e, he, a1, a2⟩ := (es_mem r h3).mpr ⟨e', he', b1, rfl, rfl⟩
    exact ⟨e, he, by rw [a1]; exact b2, by rw [a1, a2]; exact b3⟩
def kct (s : Nat) : Nat := (s.testBit 0).toNat + (s.testBit 1).toNat + (s.testBit 2).toNat + (s.testBit 3).toNat + (s.testBit 4).toNat + (s.testBit 5).toNat
theorem kct_6 (s : Nat) : kct s ≤ 6 := by
  unfold kct
  have h : ∀ b : Bool, b.toNat ≤ 1 := by decide
  have := h (s.testBit 0); have := h (s.testBit 1); have := h (s.testBit 2); have := h (s.testBit 3); have := h (s.testBit 4); have := h (s.testBit 5)
  omega
theorem kct_up {s q : Nat} (hq : q < 6) (h : s.testBit q = false) : kct (s ||| 2 ^ q) = kct s + 1 := by
  unfold kct
  simp only [bit_or_pow]
  have : q = 0 ∨ q = 1 ∨ q = 2 ∨ q = 3 ∨ q = 4 ∨ q = 5 := by omega
  rcases this with rfl | rfl | rfl | rfl | rfl | rfl <;> simp [h] <;> omega
def hwt (S : bh_T) (q : Nat) : Nat := if S.1.testBit q then (S.2 q).length else 19
def hms (S : bh_T) : Nat := hwt S 0 + hwt S 1 + hwt S 2 + hwt S 3 + hwt S 4 + hwt S 5
def hup (S : bh_T) (q : Nat) (h : List Nat) : bh_T := (S.1 ||| 2 ^ q, va_up S.2 q h)
theorem hup_b {S : bh_T} {q t : Nat} {h : List Nat} : (hup S q h).1.testBit t = (S.1.testBit t || decide (q = t)) := bit_or_pow
theorem hup_s {S : bh_T} {q : Nat} {h : List Nat} : (hup S q h).2 q = h := va_up_self _ _ _
theorem hup_n {S : bh_T} {q t : Nat} {h : List Nat} (c : t ≠ q) : (hup S q h).2 t = S.2 t := va_up_ne _ _ c
theorem hwt_n {S : bh_T} {q t : Nat} {h : List Nat} (c : t ≠ q) : hwt (hup S q h) t = hwt S t := by
  unfold hwt
  rw [hup_b, hup_n c, decide_eq_false (fun e => c e.symm), Bool.or_false]
theorem hwt_s {S : bh_T} {q : Nat} {h : List Nat} : hwt (hup S q h) q = h.length := by
  unfold hwt
  rw [hup_b, hup_s]; simp
theorem hms_up {S : bh_T} {q : Nat} {h : List Nat} (hq : q < 6) (hl : h.length < hwt S q) : hms (hup S q h) < hms S := by
  unfold hms
  have : q = 0 ∨ q = 1 ∨ q = 2 ∨ q = 3 ∨ q = 4 ∨ q = 5 := by omega
  rcases this with rfl | rfl | rfl | rfl | rfl | rfl
  · rw [hwt_s, hwt_n (by decide), hwt_n (by decide), hwt_n (by decide), hwt_n (by decide), hwt_n (by decide)]; omega
  · rw [hwt_s, hwt_n (by decide), hwt_n (by decide), hwt_n (by decide), hwt_n (by decide), hwt_n (by decide)]; omega
  · rw [hwt_s, hwt_n (by decide), hwt_n (by decide), hwt_n (by decide), hwt_n (by decide), hwt_n (by decide)]; omega
  · rw [hwt_s, hwt_n (by decide), hwt_n (by decide), hwt_n (by decide), hwt_n (by decide), hwt_n (by decide)]; omega
  · rw [hwt_s, hwt_n (by decide), hwt_n (by decide), hwt_n (by decide), hwt_n (by decide), hwt_n (by decide)]; omega
  · rw [hwt_s, hwt_n (by decide), hwt_n (by decide), hwt_n (by decide), hwt_n (by decide), hwt_n (by decide)]; omega
/-- what holds of heads all along -/
def hiv (T : mv_T) (S : bh_T) : Prop :=
  (∃ o : Nat → List Nat, ∀ q, q < 6 → S.1.testBit q = true → (o q).length ≤ 3 * kct S.1 ∧ (∀ x ∈ o q, x < 8) ∧ S.2 q <+: o q ∧ (T.2.2.1 q = some (o q) ∨ ∃ e ∈ T.2.1, e.1 = q ∧ S.1.testBit e.2.2.1 = true ∧ o q = e.2.2.2 ++ o e.2.2.1)) ∧
  (∀ q, q < 6 → S.1.testBit q = true → ∀ h', (∀ c, hcd T S q c → h' <+: c) → h' <+: S.2 q) ∧
  ∀ q, q < 6 → S.1.testBit q = true → ∀ h', (∀ o, xo T q o → h' <+: o) → h' <+: S.2 q
theorem hiv_0 {T : mv_T} {hd : Nat → List Nat} : hiv T (0, hd) := by
  have h : ∀ q, ¬ ((0, hd) : bh_T).1.testBit q = true := fun q => by simp
  exact ⟨⟨fun _ => [], fun q _ hk => absurd hk (h q)⟩, fun q _ hk => absurd hk (h q), fun q _ hk => absurd hk (h q)⟩
theorem hiv_l {T : mv_T} {S : bh_T} {q : Nat} (h : hiv T S) (hq : q < 6) (hk : S.1.testBit q = true) : (S.2 q).length ≤ 18 ∧ ∀ x ∈ S.2 q, x < 8 := by
  obtain ⟨⟨o, ho⟩, -⟩ := h
  obtain ⟨h1, h2, h3, -⟩ := ho q hq hk
  have := h3.length_le
  have := kct_6 S.1
  exact ⟨by omega, fun x hx => h2 x (h3.subset hx)⟩
theorem hiv_up {T : mv_T} {S : bh_T} {q : Nat} {h : List Nat} (w1 : tw T 3) (hT : ∀ e ∈ T.2.1, ∃ o, xo T e.2.2.1 o) (hi : hiv T S) (hq : q < 6) (g1 : ∃ c, hcd T S q c) (g2 : ∀ c, hcd T S q c → h <+: c) (g3 : ∀ h', (∀ c, hcd T S q c → h' <+: c) → h' <+: h) : hiv T (hup S q h) := by
  obtain ⟨⟨o, ho⟩, i2, i3⟩ := id hi
  have hdec : S.1.testBit q = true → h <+: S.2 q := fun hk => i2 q hq hk h g2
  -- what was a part stays one, perhaps shorter
  have hmo : ∀ t h', (∀ c, hcd T (hup S q h) t c → h' <+: c) → ∀ c, hcd T S t c → h' <+: c := by
    intro t h' hp c hc
    rcases hc with hc | ⟨e, he, a1, a2, rfl⟩
    · exact hp c (Or.inl hc)
    · have := hp _ (Or.inr ⟨e, he, a1, by rw [hup_b, a2]; rfl, rfl⟩)
      by_cases ce : e.2.2.1 = q
      · rw [ce, hup_s] at this
        rw [ce] at a2 ⊢
        refine this.trans ?_
        rw [List.prefix_append_right_inj]
        exact hdec a2
      · rwa [hup_n ce] at this
  refine ⟨?_, fun t ht hk h' hp => ?_, fun t ht hk h' hp => ?_⟩
  · by_cases ck : S.1.testBit q = true
    · have e1 : ∀ t, (hup S q h).1.testBit t = S.1.testBit t := fun t => by
        rw [hup_b]
        by_cases c : q = t
        · subst c; rw [ck]; rfl
        · rw [decide_eq_false c, Bool.or_false]
      have e2 : kct (hup S q h).1 = kct S.1 := by unfold kct; simp only [e1]
      refine ⟨o, fun t ht hk => ?_⟩
      rw [e1] at hk
      obtain ⟨a1, a2, a3, a4⟩ := ho t ht hk
      rw [e2]
      refine ⟨a1, a2, ?_, ?_⟩
      · by_cases c : t = q
        · subst c
          rw [hup_s]
          exact (hdec ck).trans a3
        · rw [hup_n c]; exact a3
      · rcases a4 with a4 | ⟨e, he, b1, b2, b3⟩
        · exact Or.inl a4
        · exact Or.inr ⟨e, he, b1, by rw [e1]; exact b2, b3⟩
    · have ck : S.1.testBit q = false := by simpa using ck
      have e2 : kct (hup S q h).1 = kct S.1 + 1 := kct_up hq ck
      obtain ⟨c0, hc0⟩ := g1
      have hon : ∃ oq : List Nat, oq.length ≤ 3 * (kct S.1 + 1) ∧ (∀ x ∈ oq, x < 8) ∧ h <+: oq ∧ (T.2.2.1 q = some oq ∨ ∃ e ∈ T.2.1, e.1 = q ∧ S.1.testBit e.2.2.1 = true ∧ oq = e.2.2.2 ++ o e.2.2.1) := by
        rcases id hc0 with hc | ⟨e, he, a1, a2, a3⟩
        · have := w1.2.2.2.2.1 q c0 hc
          exact ⟨c0, by omega, this.2, g2 c0 hc0, Or.inl hc⟩
        · have hb := w1.2.2.1 e he
          obtain ⟨b1, b2, b3, -⟩ := ho _ hb.2.2.1 a2
          refine ⟨e.2.2.2 ++ o e.2.2.1, by rw [List.length_append]; omega, fun x hx => ?_, ?_, Or.inr ⟨e, he, a1, a2, rfl⟩⟩
          · rcases List.mem_append.mp hx with k | k
            · exact hb.2.2.2.2 x k
            · exact b2 x k
          · refine (g2 c0 hc0).trans ?_
            rw [a3, List.prefix_append_right_inj]
            exact b3
      obtain ⟨oq, n1, n2, n3, n4⟩ := hon
      have hov : ∀ t, S.1.testBit t = true → va_up o q oq t = o t := fun t ht => va_up_ne _ _ (fun c => by rw [c, ck] at ht; cases ht)
      refine ⟨va_up o q oq, fun t ht hk => ?_⟩
      rw [e2]
      by_cases c : t = q
      · subst c
        rw [va_up_self, hup_s]
        refine ⟨n1, n2, n3, ?_⟩
        rcases n4 with n4 | ⟨e, he, b1, b2, b3⟩
        · exact Or.inl n4
        · exact Or.inr ⟨e, he, b1, by rw [hup_b, b2]; rfl, by rw [hov _ b2]; exact b3⟩
      · rw [hup_b, decide_eq_false (fun e => c e.symm), Bool.or_false] at hk
        obtain ⟨a1, a2, a3, a4⟩ := ho t ht hk
        rw [hov t hk, hup_n c]
        refine ⟨by omega, a2, a3, ?_⟩
        rcases a4 with a4 | ⟨e, he, b1, b2, b3⟩
        · exact Or.inl a4
        · exact Or.inr ⟨e, he, b1, by rw [hup_b, b2]; rfl, by rw [hov _ b2]; exact b3⟩
  · have hp2 := hmo t h' hp
    by_cases c : t = q
    · subst c
      rw [hup_s]
      exact g3 h' hp2
    · rw [hup_b, decide_eq_false (fun e => c e.symm), Bool.or_false] at hk
      rw [hup_n c]
      exact i2 t ht hk h' hp2
  · by_cases c : t = q
    · subst c
      rw [hup_s]
      refine g3 h' (fun c hc => ?_)
      rcases hc with hc | ⟨e, he, a1, a2, rfl⟩
      · exact hp c (xo_f hc)
      · obtain ⟨o0, ho0⟩ := hT e he
        have hb := w1.2.2.1 e he
        have hxe : ∀ o, xo T e.2.2.1 o → h' <+: e.2.2.2 ++ o := fun o ho => hp _ (by rw [← a1]; exact xo_e he ho)
        by_cases cl : h'.length ≤ e.2.2.2.length
        · exact (List.prefix_of_prefix_length_le (hxe o0 ho0) (List.prefix_append _ _) cl).trans (List.prefix_append _ _)
        · have hw : e.2.2.2 <+: h' := List.prefix_of_prefix_length_le (List.prefix_append _ _) (hxe o0 ho0) (by omega)
          obtain ⟨t', rfl⟩ := hw
          rw [List.prefix_append_right_inj]
          refine i3 _ hb.2.2.1 a2 t' (fun o ho => ?_)
          have := hxe o ho
          rwa [List.prefix_append_right_inj] at this
    · rw [hup_b, decide_eq_false (fun e => c e.symm), Bool.or_false] at hk
      rw [hup_n c]
      exact i3 t ht hk h' hp
/-- one state's head -/
theorem bh_1_i {m T : mv_T} {cl q : Nat} {S : bh_T} (r : mrel m cl T) (w1 : tw T 3) (hT : ∀ e ∈ T.2.1, ∃ o, xo T e.2.2.1 o) (hi : hiv T S) (hq : q < 6) : hiv T (bh_1 m cl S q).1 ∧ (((bh_1 m cl S q).2 = true ∧ hms (bh_1 m cl S q).1 < hms S) ∨ ((bh_1 m cl S q).2 = false ∧ (bh_1 m cl S q).1 = S ∧ ((∀ c, ¬ hcd T S q c) ∨ (S.1.testBit q = true ∧ (∃ c, hcd T S q c) ∧ (∀ c, hcd T S q c → S.2 q <+: c))))) := by
  unfold bh_1
  have hg := bh_f_glb (S := S) r (fun e he => (w1.2.2.1 e he).2.1) hq
  rcases hg with ⟨h1, h2⟩ | ⟨h, h1, h2, h3, h4⟩
  · rw [h1]
    exact ⟨hi, Or.inr ⟨rfl, rfl, Or.inl h2⟩⟩
  · rw [h1]
    simp only
    by_cases c : S.1.testBit q = true ∧ h = S.2 q
    · rw [if_pos c]
      exact ⟨hi, Or.inr ⟨rfl, rfl, Or.inr ⟨c.1, h2, by rw [← c.2]; exact h3⟩⟩⟩
    · rw [if_neg c]
      have hi2 : hiv T (hup S q h) := hiv_up w1 hT hi hq h2 h3 h4
      refine ⟨hi2, Or.inl ⟨rfl, ?_⟩⟩
      refine hms_up hq ?_
      unfold hwt
      by_cases ck : S.1.testBit q = true
      · rw [if_pos ck]
        have hp := hi.2.1 q hq ck h h3
        have hl := hp.length_le
        refine Nat.lt_of_le_of_ne hl (fun e => c ⟨ck, hp.eq_of_length e⟩)
      · rw [if_neg ck]
        have := (hiv_l hi2 hq (by rw [hup_b]; simp)).1
        rw [hup_s] at this; omega
theorem bh_sw_i {m T : mv_T} {cl : Nat} (r : mrel m cl T) (w1 : tw T 3) (hT : ∀ e ∈ T.2.1, ∃ o, xo T e.2.2.1 o) : ∀ (k q : Nat) (U : bh_T × Bool), q + k ≤ 6 → hiv T U.1 → hiv T (bh_sw m cl k q U).1 ∧ hms (bh_sw m cl k q U).1 ≤ hms U.1 ∧ ((bh_sw m cl k q U).2 = true → U.2 = true ∨ hms (bh_sw m cl k q U).1 < hms U.1) ∧ ((bh_sw m cl k q U).2 = false → U.2 = false ∧ (bh_sw m cl k q U).1 = U.1 ∧ ∀ t, q ≤ t → t < q + k → (mv_al m cl).testBit t = true → (∀ c, ¬ hcd T U.1 t c) ∨ (U.1.1.testBit t = true ∧ (∃ c, hcd T U.1 t c) ∧ (∀ c, hcd T U.1 t c → U.1.2 t <+: c)))
  | 0, q, U, _, hi => ⟨hi, Nat.le_refl _, Or.inl, fun h => ⟨h, rfl, fun t h1 h2 => absurd h2 (by omega)⟩⟩
  | k + 1, q, U, hk, hi => by
    simp only [bh_sw]
    by_cases c : (mv_al m cl).testBit q = true
    · rw [if_pos c]
      obtain ⟨j1, j2⟩ := bh_1_i r w1 hT hi (show q < 6 by omega)
      generalize bh_1 m cl U.1 q = B at j1 j2
      obtain ⟨a1, a2, a3, a4⟩ := bh_sw_i r w1 hT k (q + 1) (B.1, U.2 || B.2) (by omega) j1
      generalize bh_sw m cl k (q + 1) (B.1, U.2 || B.2) = R at a1 a2 a3 a4 ⊢
      simp only at a2 a3 a4
      rcases j2 with ⟨k1, k2⟩ | ⟨k1, k2, k3⟩
      · refine ⟨a1, by omega, fun _ => Or.inr (by omega), fun h => ?_⟩
        have := (a4 h).1
        rw [k1] at this; simp at this
      · rw [k2] at a2 a3 a4
        rw [k1, Bool.or_false] at a3 a4
        refine ⟨a1, a2, a3, fun h => ?_⟩
        obtain ⟨b1, b2, b3⟩ := a4 h
        refine ⟨b1, b2, fun t h1 h2 ht => ?_⟩
        by_cases ct : t = q
        · subst ct; exact k3
        · exact b3 t (by omega) (by omega) ht
    · rw [if_neg c]
      obtain ⟨a1, a2, a3, a4⟩ := bh_sw_i r w1 hT k (q + 1) U (by omega) hi
      refine ⟨a1, a2, a3, fun h => ?_⟩
      obtain ⟨b1, b2, b3⟩ := a4 h
      refine ⟨b1, b2, fun t h1 h2 ht => ?_⟩
      by_cases ct : t = q
      · subst ct; exact absurd ht c
      · exact b3 t (by omega) (by omega) ht
def hst (m T : mv_T) (cl : Nat) (S : bh_T) : Prop := ∀ t, t < m.1 → (mv_al m cl).testBit t = true → (∀ c, ¬ hcd T S t c) ∨ (S.1.testBit t = true ∧ (∃ c, hcd T S t c) ∧ (∀ c, hcd T S t c → S.2 t <+: c))
theorem bh_go_i {m T : mv_T} {cl : Nat} (r : mrel m cl T) (w1 : tw T 3) (hT : ∀ e ∈ T.2.1, ∃ o, xo T e.2.2.1 o) (hm : m.1 ≤ 6) : ∀ (k : Nat) (S : bh_T), hms S < k → hiv T S → hiv T (bh_go m cl k true S) ∧ hst m T cl (bh_go m cl k true S)
  | 0, S, h, _ => absurd h (Nat.not_lt_zero _)
  | k + 1, S, h, hi => by
    simp only [bh_go, if_true]
    obtain ⟨a1, a2, a3, a4⟩ := bh_sw_i (cl := cl) r w1 hT m.1 0 (S, false) (by omega) hi
    generalize bh_sw m cl m.1 0 (S, false) = R at a1 a2 a3 a4 ⊢
    simp only at a2 a3 a4
    cases c : R.2 with
    | true =>
      rcases a3 c with q | q
      · cases q
      · exact bh_go_i r w1 hT hm k R.1 (by omega) a1
    | false =>
      have e : bh_go m cl k false R.1 = R.1 := by
        cases k with
        | zero => rfl
        | succ k => simp only [bh_go, Bool.false_eq_true, if_false]
      rw [e]
      refine ⟨a1, fun t ht hal => ?_⟩
      obtain ⟨-, b2, b3⟩ := a4 c
      rw [b2]
      exact b3 t (Nat.zero_le _) (by omega) hal
theorem hms_le {S : bh_T} {T : mv_T} (h : hiv T S) : hms S ≤ 114 := by
  have hw : ∀ q, q < 6 → hwt S q ≤ 19 := fun q hq => by
    unfold hwt
    split
    · next c => have := (hiv_l h hq c).1; omega
    · exact Nat.le_refl _
  unfold hms
  have := hw 0 (by decide); have := hw 1 (by decide); have := hw 2 (by decide); have := hw 3 (by decide); have := hw 4 (by decide); have := hw 5 (by decide)
  omega
theorem tk_e {m : mv_T} {e : xe_T} (he : e ∈ (tk m).2.1) : e ∈ m.2.1 ∧ (al m).testBit e.1 = true ∧ (al m).testBit e.2.2.1 = true := by
  obtain ⟨h1, h2⟩ := List.mem_filter.mp he
  rw [Bool.and_eq_true] at h2
  exact ⟨h1, h2⟩
theorem tk_o {m : mv_T} (h : wf m) : ∀ e ∈ (tk m).2.1, ∃ o, xo (tk m) e.2.2.1 o := fun e he => al_xo h (tk_e he).2.2
theorem al_lt {m : mv_T} (h : wf m) {q : Nat} (hq : (al m).testBit q = true) : q < m.1 := by
  refine Classical.byContradiction fun c => ?_
  have : ∀ t, (al m).testBit t = true → t < m.1 := fun t ht => by
    unfold al mv_al at ht
    rw [Nat.testBit_and, Bool.and_eq_true] at ht
    have hlt : mk_it m.1 (mv_ft m) 1 < 2 ^ m.1 := mk_it_lt (Nat.one_lt_two_pow (by have := h.1; omega)) (fun e he => by
      obtain ⟨e', he', rfl⟩ := List.mem_map.mp he
      exact (h.2.2.2.1 e' he').2.2.1) _
    refine Classical.byContradiction fun c => ?_
    have := Nat.testBit_lt_two_pow (Nat.lt_of_lt_of_le hlt (Nat.pow_le_pow_right (by decide) (Nat.le_of_not_lt c)))
    rw [this] at ht; cases ht.1
  exact c (this q hq)
/-- the heads found are the heads -/
theorem bu_hd {m : mv_T} (h : wf m) (hd : Nat → List Nat) {H : Nat → List Nat} (hH : hd_is (tk m) H) : hiv (tk m) (bu_S m (mk_cl m) hd) ∧ ∀ q, (al m).testBit q = true → (bu_S m (mk_cl m) hd).1.testBit q = true ∧ (bu_S m (mk_cl m) hd).2 q = H q := by
  have t := tk_tw h
  obtain ⟨h1, h2⟩ := bh_go_i (mrel_tk h) t (tk_o h) h.2.1 200 (0, hd) (Nat.lt_of_le_of_lt (hms_le (T := tk m) hiv_0) (by decide)) hiv_0
  have e : bu_S m (mk_cl m) hd = bh_go m (mk_cl m) 200 true (0, hd) := rfl
  rw [e]
  generalize bh_go m (mk_cl m) 200 true (0, hd) = S at h1 h2
  have hkn : ∀ q c, (al m).testBit q = true → hcd (tk m) S q c → S.1.testBit q = true ∧ S.2 q <+: c := fun q c hq hc => by
    rcases h2 q (al_lt h hq) hq with k | ⟨k1, k2, k3⟩
    · exact absurd hc (k c)
    · exact ⟨k1, k3 c hc⟩
  have hal : ∀ {q o}, xo (tk m) q o → (al m).testBit q = true → S.1.testBit q = true ∧ S.2 q <+: o := fun {q o} ho => by
    refine xo_ind2 (P := fun q o => (al m).testBit q = true → S.1.testBit q = true ∧ S.2 q <+: o) (fun s f hf hs => hkn s f hs (Or.inl hf)) (fun e he o _ hP hs => ?_) ho
    obtain ⟨k1, k2⟩ := hP (tk_e he).2.2
    obtain ⟨k3, k4⟩ := hkn e.1 _ hs (Or.inr ⟨e, he, rfl, k1, rfl⟩)
    refine ⟨k3, k4.trans ?_⟩
    rw [List.prefix_append_right_inj]
    exact k2
  refine ⟨h1, fun q hq => ?_⟩
  have hq6 : q < 6 := Nat.lt_of_lt_of_le (al_lt h hq) h.2.1
  obtain ⟨o, ho⟩ := al_xo h hq
  have hk := (hal ho hq).1
  refine ⟨hk, ?_⟩
  obtain ⟨k1, k2, -⟩ := hH q hq6
  have p1 := k2 (S.2 q) ⟨o, ho⟩ (fun o ho => (hal ho hq).2)
  have p2 := h1.2.2 q hq6 hk (H q) k1
  exact p1.eq_of_length (Nat.le_antisymm p1.length_le p2.length_le)
