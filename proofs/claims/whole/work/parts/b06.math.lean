/-! mathematics: the early machine is the pushed one -/
theorem so_tk {m : mv_T} (h : wf m) {p l t : Nat} {w : List Nat} : (∃ e ∈ mv_so m (al m) 18, mv_e m e = (p, l, t, w)) ↔ (p, l, t, w) ∈ (tk m).2.1 := by
  constructor
  · rintro ⟨e, he, h1⟩
    obtain ⟨pos, -, hp⟩ := (so_mem 18).mp he
    obtain ⟨k1, -, k3⟩ := mv_pk_mem hp
    rw [← h1]
    refine List.mem_filter.mpr ⟨?_, k3⟩
    rw [mv_e_get k1]
    exact List.getElem_mem _
  · intro he
    have hb := h.2.2.2.1 _ (tk_e he).1
    have h6 := h.2.1
    have hl : l < 3 := hb.2.1
    have hp6 : p < m.1 := hb.1
    obtain ⟨e, he2, a1, a2⟩ := (pl_mem h (p := p) (l := l) (t := t) (w := w) hl).mpr ⟨_, he, rfl, rfl, rfl, rfl⟩
    obtain ⟨k1, k2, -⟩ := mv_pk_mem he2
    have hb2 := h.2.2.2.1 _ (List.getElem_mem k1)
    rw [← mv_e_get k1] at hb2
    have hl2 := hb2.2.1
    refine ⟨e, (so_mem 18).mpr ⟨p * 3 + l, by omega, he2⟩, ?_⟩
    have e1 : (mv_e m e).1 = p := by omega
    have e2 : (mv_e m e).2.1 = l := by omega
    rw [← e1, ← e2, ← a1, ← a2]
theorem me_m_e (m : mv_T) (c : Nat) (hs : Nat → List Nat) : (me_m m c hs).2.1 = (mv_so m (mv_al m c) 18).map (me_e m hs) := by unfold me_m; with_reducible rfl
theorem me_m_1 (m : mv_T) (c : Nat) (hs : Nat → List Nat) : (me_m m c hs).1 = m.1 := by unfold me_m; with_reducible rfl
theorem me_m_f (m : mv_T) (c : Nat) (hs : Nat → List Nat) : (me_m m c hs).2.2.1 = me_f m c hs m.1 := by unfold me_m; with_reducible rfl
theorem me_m_o (m : mv_T) (c : Nat) (hs : Nat → List Nat) : (me_m m c hs).2.2.2 = m.2.2.2 ++ hs 0 := by unfold me_m; with_reducible rfl
section EM
variable {m : mv_T} {H : Nat → List Nat} {hs : Nat → List Nat}
theorem em_e (h : wf m) (hhd : ∀ q, (al m).testBit q = true → hs q = H q) {x : xe_T} : x ∈ (me_m m (mk_cl m) hs).2.1 ↔ x ∈ (pu (tk m) H).2.1 := by
  have key : ∀ e ∈ (tk m).2.1, ((e.2.2.2 ++ hs e.2.2.1).drop (hs e.1).length) = pu_w H e := fun e he => by
    obtain ⟨-, a1, a2⟩ := tk_e he
    rw [hhd _ a1, hhd _ a2]; rfl
  have hL : (me_m m (mk_cl m) hs).2.1 = (mv_so m (al m) 18).map (me_e m hs) := me_m_e m _ hs
  have hS := fun p l t w => so_tk h (p := p) (l := l) (t := t) (w := w)
  rw [hL]
  generalize mv_so m (al m) 18 = L at hS
  constructor
  · intro hx
    obtain ⟨e, he, rfl⟩ := List.mem_map.mp hx
    have hm := (hS (mv_e m e).1 (mv_e m e).2.1 (mv_e m e).2.2.1 (mv_e m e).2.2.2).mp ⟨e, he, rfl⟩
    refine List.mem_map.mpr ⟨_, hm, ?_⟩
    have := key _ hm
    unfold me_e
    rw [this]
  · intro hx
    obtain ⟨e, he, rfl⟩ := List.mem_map.mp hx
    obtain ⟨i, hi, hi2⟩ := (hS e.1 e.2.1 e.2.2.1 e.2.2.2).mpr he
    refine List.mem_map.mpr ⟨i, hi, ?_⟩
    unfold me_e
    rw [hi2]
    have := key _ he
    rw [← this]
theorem em_c (h : wf m) : ∀ (k q : Nat), (me_c m (mk_cl m) k).testBit q = (decide (q < k) && (mk_cl m &&& al m).testBit q)
  | 0, q => by simp [me_c]
  | k + 1, q => by
    simp only [me_c]
    have ih := em_c h k q
    by_cases c : (mk_cl m &&& mv_al m (mk_cl m)).testBit k = true
    · rw [if_pos c, bit_or_pow, ih]
      by_cases e : k = q
      · subst e
        rw [decide_eq_true rfl, decide_eq_true (Nat.lt_succ_self k), Bool.or_true, Bool.true_and]
        exact c.symm
      · rw [decide_eq_false e, Bool.or_false]
        congr 1
        exact decide_eq_decide.mpr (by omega)
    · rw [if_neg c, ih]
      by_cases e : k = q
      · subst e
        have c : (mk_cl m &&& al m).testBit k = false := by simpa using c
        rw [c, Bool.and_false, Bool.and_false]
      · congr 1
        exact decide_eq_decide.mpr (by omega)
theorem em_ec (h : wf m) (q : Nat) : (me_c m (mk_cl m) m.1).testBit q = (mk_cl m &&& al m).testBit q := by
  rw [em_c h]
  cases c : (mk_cl m &&& al m).testBit q with
  | false => rw [Bool.and_false]
  | true =>
    rw [Nat.testBit_and, Bool.and_eq_true] at c
    rw [decide_eq_true (al_lt h c.2)]; rfl
/-- the same states are useful -/
theorem em_al (h : wf m) (hhd : ∀ q, (al m).testBit q = true → hs q = H q) : mv_al (me_m m (mk_cl m) hs) (me_c m (mk_cl m) m.1) = al m := by
  obtain ⟨hF, hB⟩ := al_rc h
  have hal : ∀ q, (al m).testBit q = ((mk_it m.1 (mv_ft m) 1).testBit q && (mk_it m.1 (mv_tf m) (mk_cl m)).testBit q) := fun q => Nat.testBit_and _ _ _
  have hed : ∀ {x : xe_T}, x ∈ (me_m m (mk_cl m) hs).2.1 → ∃ e ∈ (tk m).2.1, x.1 = e.1 ∧ x.2.2.1 = e.2.2.1 := fun {x} hx => by
    obtain ⟨e, he, rfl⟩ := List.mem_map.mp ((em_e h hhd).mp hx)
    exact ⟨e, he, rfl, rfl⟩
  have hed2 : ∀ {e : xe_T}, e ∈ (tk m).2.1 → ∃ x ∈ (me_m m (mk_cl m) hs).2.1, x.1 = e.1 ∧ x.2.2.1 = e.2.2.1 := fun {e} he =>
    ⟨_, (em_e h hhd).mpr (List.mem_map.mpr ⟨e, he, rfl⟩), rfl, rfl⟩
  have hb : ∀ {e : xe_T}, e ∈ (tk m).2.1 → e.1 < m.1 ∧ e.2.2.1 < m.1 := fun {e} he => ⟨(h.2.2.2.1 e (tk_e he).1).1, (h.2.2.2.1 e (tk_e he).1).2.2.1⟩
  have hm1 : 1 < 2 ^ m.1 := Nat.one_lt_two_pow (by have := h.1; omega)
  have hec : me_c m (mk_cl m) m.1 < 2 ^ m.1 := lt_pow_of_bits (fun q hq => by
    rw [em_ec h, Nat.testBit_and, Bool.and_eq_true] at hq
    exact al_lt h hq.2)
  -- closed sets of the early machine
  have fF := mk_it_fix (n := m.1) (es := mv_ft (me_m m (mk_cl m) hs)) (s := 1) h.2.1 hm1 (fun e he => by
    obtain ⟨x, hx, rfl⟩ := List.mem_map.mp he
    obtain ⟨e, he, -, a2⟩ := hed hx
    show x.2.2.1 < m.1
    rw [a2]; exact (hb he).2)
  have fB := mk_it_fix (n := m.1) (es := mv_tf (me_m m (mk_cl m) hs)) (s := me_c m (mk_cl m) m.1) h.2.1 hec (fun e he => by
    obtain ⟨x, hx, rfl⟩ := List.mem_map.mp he
    obtain ⟨e, he, a1, -⟩ := hed hx
    show x.1 < m.1
    rw [a1]; exact (hb he).1)
  have cF := mk_rd_fix _ _ fF
  have cB := mk_rd_fix _ _ fB
  have sF := mk_it_sub (es := mv_ft (me_m m (mk_cl m) hs)) (s := 1) m.1
  have sB := mk_it_sub (es := mv_tf (me_m m (mk_cl m) hs)) (s := me_c m (mk_cl m) m.1) m.1
  have minF := fun (P : Nat → Prop) a b => mk_it_min (P := P) (es := mv_ft (me_m m (mk_cl m) hs)) (s := 1) a b m.1
  have minB := fun (P : Nat → Prop) a b => mk_it_min (P := P) (es := mv_tf (me_m m (mk_cl m) hs)) (s := me_c m (mk_cl m) m.1) a b m.1
  have e0 : mv_al (me_m m (mk_cl m) hs) (me_c m (mk_cl m) m.1) = mk_it m.1 (mv_ft (me_m m (mk_cl m) hs)) 1 &&& mk_it m.1 (mv_tf (me_m m (mk_cl m) hs)) (me_c m (mk_cl m) m.1) := by unfold mv_al; rw [me_m_1]
  rw [e0]
  generalize mk_it m.1 (mv_ft (me_m m (mk_cl m) hs)) 1 = F' at *
  generalize mk_it m.1 (mv_tf (me_m m (mk_cl m) hs)) (me_c m (mk_cl m) m.1) = B' at *
  generalize hFF : mk_it m.1 (mv_ft m) 1 = F at *
  generalize hBB : mk_it m.1 (mv_tf m) (mk_cl m) = B at *
  apply Nat.eq_of_testBit_eq
  intro q
  rw [hal, Nat.testBit_and, Bool.eq_iff_iff, Bool.and_eq_true, Bool.and_eq_true]
  constructor
  · rintro ⟨k1, k2⟩
    refine ⟨minF (fun q => F.testBit q = true) (fun t ht => ?_) (fun e he hP => ?_) q k1, minB (fun q => B.testBit q = true) (fun t ht => ?_) (fun e he hP => ?_) q k2⟩
    · have : t = 0 := by
        cases t with
        | zero => rfl
        | succ t => rw [Nat.testBit_succ] at ht; simp at ht
      subst this
      exact hF.2.1.1 0 rfl
    · obtain ⟨x, hx, rfl⟩ := List.mem_map.mp he
      obtain ⟨e, he, a1, a2⟩ := hed hx
      have := hF.2.1.2 e (tk_e he).1 (by show F.testBit e.1 = true; rw [← a1]; exact hP)
      show F.testBit x.2.2.1 = true
      rw [a2]; exact this
    · rw [em_ec h, Nat.testBit_and, Bool.and_eq_true, hal, Bool.and_eq_true] at ht
      exact ht.2.2
    · obtain ⟨x, hx, rfl⟩ := List.mem_map.mp he
      obtain ⟨e, he, a1, a2⟩ := hed hx
      have := hB.2.1.2 e (tk_e he).1 (by show B.testBit e.2.2.1 = true; rw [← a2]; exact hP)
      show B.testBit x.1 = true
      rw [a1]; exact this
  · rintro ⟨k1, k2⟩
    have hg : ∀ {e : xe_T}, e ∈ m.2.1 → F.testBit e.1 = true → B.testBit e.2.2.1 = true → F.testBit e.2.2.1 = true ∧ B.testBit e.1 = true ∧ e ∈ (tk m).2.1 := fun {e} he f b => by
      have f2 : F.testBit e.2.2.1 = true := hF.2.1.2 e he f
      have b2 : B.testBit e.1 = true := hB.2.1.2 e he b
      refine ⟨f2, b2, List.mem_filter.mpr ⟨he, ?_⟩⟩
      simp only [hal, f, b, f2, b2]; rfl
    constructor
    · have := hF.2.2 (fun q => F.testBit q = true ∧ (B.testBit q = true → F'.testBit q = true)) ⟨fun q hq => ⟨hF.2.1.1 q hq, fun _ => ?_⟩, fun e he hP => ?_⟩ q k1
      · exact this.2 k2
      · have hq : q = 0 := hq
        subst hq
        exact sF 0 rfl
      · obtain ⟨p1, p2⟩ := hP
        have p1 : F.testBit e.1 = true := p1
        refine ⟨hF.2.1.2 e he p1, fun b => ?_⟩
        have b : B.testBit e.2.2.1 = true := b
        obtain ⟨-, b2, he2⟩ := hg he p1 b
        obtain ⟨x, hx, a1, a2⟩ := hed2 he2
        have := cF (x.1, x.2.2.1) (List.mem_map.mpr ⟨x, hx, rfl⟩) (by show F'.testBit x.1 = true; rw [a1]; exact p2 b2)
        show F'.testBit e.2.2.1 = true
        rw [← a2]; exact this
    · have := hB.2.2 (fun q => B.testBit q = true ∧ (F.testBit q = true → B'.testBit q = true)) ⟨fun q hq => ⟨hB.2.1.1 q hq, fun f => ?_⟩, fun e he hP => ?_⟩ q k2
      · exact this.2 k1
      · refine sB q ?_
        have hb := hB.2.1.1 q hq
        have hq : (m.2.2.1 q).isSome = true := hq
        have hq6 : q < 6 := by
          refine Classical.byContradiction fun c => ?_
          rw [h.2.2.2.2.1 q (by have := h.2.1; omega)] at hq; cases hq
        rw [em_ec h, Nat.testBit_and, mk_cl_bit, hal, f, hb, hq, decide_eq_true hq6]; rfl
      · obtain ⟨p1, p2⟩ := hP
        have p1 : B.testBit e.2.2.1 = true := p1
        refine ⟨hB.2.1.2 e he p1, fun f => ?_⟩
        have f : F.testBit e.1 = true := f
        obtain ⟨f2, -, he2⟩ := hg he f p1
        obtain ⟨x, hx, a1, a2⟩ := hed2 he2
        have := cB (x.2.2.1, x.1) (List.mem_map.mpr ⟨x, hx, rfl⟩) (by show B'.testBit x.2.2.1 = true; rw [a2]; exact p2 f2)
        show B'.testBit e.1 = true
        rw [← a1]; exact this
theorem mrel_em (h : wf m) (hhd : ∀ q, (al m).testBit q = true → hs q = H q) : mrel (me_m m (mk_cl m) hs) (me_c m (mk_cl m) m.1) (pu (tk m) H) := by
  refine ⟨fun p l t w hl => ?_, fun q hq => ?_⟩
  · rw [em_al h hhd]
    refine (pk_mem _).trans ?_
    constructor
    · rintro ⟨e, he, a1, a2, a3, a4⟩
      have hm : mv_e (me_m m (mk_cl m) hs) e ∈ (me_m m (mk_cl m) hs).2.1 := by rw [mv_e_get he]; exact List.getElem_mem _
      have hm2 := (em_e h hhd).mp hm
      refine ⟨_, hm2, ?_, ?_, a3, a4⟩
      · obtain ⟨e', he', q⟩ := List.mem_map.mp hm2
        have := (h.2.2.2.1 e' (tk_e he').1).2.1
        rw [← q] at a1 ⊢
        simp only at a1 ⊢
        omega
      · obtain ⟨e', he', q⟩ := List.mem_map.mp hm2
        have := (h.2.2.2.1 e' (tk_e he').1).2.1
        rw [← q] at a1 ⊢
        simp only at a1 ⊢
        omega
    · rintro ⟨x, hx, a1, a2, a3, a4⟩
      have hm := (em_e h hhd).mpr hx
      obtain ⟨e, he, q⟩ := List.mem_iff_getElem.mp hm
      refine ⟨e, he, ?_, ?_, ?_, ?_⟩
      · rw [mv_e_get he, q, a1, a2]
      · obtain ⟨e', he', q'⟩ := List.mem_map.mp hx
        obtain ⟨-, b1, b2⟩ := tk_e he'
        unfold mv_ae
        rw [mv_e_get he, q, ← q']
        simp only
        rw [b1, b2]; rfl
      · rw [mv_e_get he, q, a3]
      · rw [mv_e_get he, q, a4]
  · obtain ⟨r1, r2⟩ := (mrel_tk h).2 q hq
    have r1 : (mk_cl m &&& al m).testBit q = ((tk m).2.2.1 q).isSome := r1
    have e1 : (pu (tk m) H).2.2.1 q = ((tk m).2.2.1 q).map (fun f => f.drop (H q).length) := rfl
    rw [em_al h hhd, Nat.testBit_and, em_ec h, e1]
    refine ⟨?_, fun f hf => ?_⟩
    · rw [Option.isSome_map, ← r1, Nat.testBit_and]
      cases (mk_cl m).testBit q <;> cases (al m).testBit q <;> rfl
    · obtain ⟨f0, hf0, rfl⟩ := Option.map_eq_some_iff.mp hf
      have hb : (mk_cl m &&& al m).testBit q = true := by rw [r1, hf0]; rfl
      have ha : (al m).testBit q = true := by rw [Nat.testBit_and, Bool.and_eq_true] at hb; exact hb.2
      have e2 : (me_m m (mk_cl m) hs).2.2.1 q = some ((ps_fin m q).drop (hs q).length) := by rw [me_m_f]; exact if_pos ⟨al_lt h ha, hb⟩
      unfold ps_fin
      rw [e2]
      show (ps_fin m q).drop _ = _
      rw [r2 f0 hf0, hhd q ha]
end EM
theorem bu_hs {m : mv_T} (h : wf m) (hd : Nat → List Nat) {H : Nat → List Nat} (hH : hd_is (tk m) H) : ∀ q, (al m).testBit q = true → (bu_S m (mk_cl m) hd).2 q = H q := fun q hq => ((bu_hd h hd hH).2 q hq).2
theorem mrel_bu {m : mv_T} (h : wf m) (hd : Nat → List Nat) {H : Nat → List Nat} (hH : hd_is (tk m) H) : mrel (bu_e m (mk_cl m) hd) (bu_c m (mk_cl m)) (pu (tk m) H) := by
  have := bu_hs h hd hH
  unfold bu_e bu_c
  generalize (bu_S m (mk_cl m) hd).2 = hs at *
  exact mrel_em h this
theorem bu_al {m : mv_T} (h : wf m) (hd : Nat → List Nat) {H : Nat → List Nat} (hH : hd_is (tk m) H) : mv_al (bu_e m (mk_cl m) hd) (bu_c m (mk_cl m)) = al m := by
  have := bu_hs h hd hH
  unfold bu_e bu_c
  generalize (bu_S m (mk_cl m) hd).2 = hs at *
  exact em_al h this
theorem mrel_af {m T : mv_T} {c s l : Nat} (r : mrel m c T) (h : ∀ e ∈ T.2.1, e.1 < m.1) (hl : l < 3) : mv_af m (mv_al m c) s l = xt T l s := by
  apply Nat.eq_of_testBit_eq
  intro q
  rw [Bool.eq_iff_iff, xt_bit]
  have h1 : ∀ (es : List Nat) (r : Nat), (mv_a1 m es r).testBit q = true ↔ r.testBit q = true ∨ ∃ e ∈ es, (mv_e m e).2.2.1 = q := by
    intro es
    induction es with
    | nil => intro r; simp [mv_a1]
    | cons e es ih =>
      intro r
      have e1 : mv_a1 m (e :: es) r = mv_a1 m es (r ||| 2 ^ (mv_e m e).2.2.1) := rfl
      rw [e1, ih, bit_or_pow, Bool.or_eq_true, decide_eq_true_eq]
      simp only [List.mem_cons, exists_eq_or_imp]
      constructor
      · rintro ((a | a) | a)
        · exact Or.inl a
        · exact Or.inr (Or.inl a)
        · exact Or.inr (Or.inr a)
      · rintro (a | a | a)
        · exact Or.inl (Or.inl a)
        · exact Or.inl (Or.inr a)
        · exact Or.inr a
  have h2 : ∀ k, (mv_ak m (mv_al m c) s l k).testBit q = true ↔ ∃ p, p < k ∧ s.testBit p = true ∧ ∃ e ∈ mv_pl m (mv_al m c) (p * 3 + l), (mv_e m e).2.2.1 = q := by
    intro k
    induction k with
    | zero => simp [mv_ak]
    | succ k ih =>
      simp only [mv_ak]
      split
      · next c =>
        rw [h1, ih]
        constructor
        · rintro (⟨p, a1, a2⟩ | a)
          · exact ⟨p, by omega, a2⟩
          · exact ⟨k, by omega, c, a⟩
        · rintro ⟨p, a1, a2, a3⟩
          by_cases cp : p = k
          · subst cp; exact Or.inr a3
          · exact Or.inl ⟨p, by omega, a2, a3⟩
      · next c =>
        rw [ih]
        constructor
        · rintro ⟨p, a1, a2⟩; exact ⟨p, by omega, a2⟩
        · rintro ⟨p, a1, a2, a3⟩
          by_cases cp : p = k
          · subst cp; exact absurd a2 c
          · exact ⟨p, by omega, a2, a3⟩
  unfold mv_af
  rw [h2]
  constructor
  · rintro ⟨p, -, a2, e, he, a3⟩
    obtain ⟨e', he', b1, b2, b3, b4⟩ := (r.1 p l _ _ hl).mp ⟨e, he, rfl, rfl⟩
    exact ⟨e', he', by rw [b1]; exact a2, b2, b3.trans a3⟩
  · rintro ⟨e', he', a2, a3, a4⟩
    obtain ⟨e, he, c1, c2⟩ := (r.1 e'.1 l _ _ hl).mpr ⟨e', he', rfl, a3, rfl, rfl⟩
    exact ⟨e'.1, h e' he', a2, e, he, c1.trans a4⟩
theorem mrel_acc {m T : mv_T} {c s : Nat} (r : mrel m c T) (h6 : ∀ q, (c &&& mv_al m c).testBit q = true → q < 6) : (s &&& c &&& mv_al m c = 0) ↔ xe T s = false := by
  have hx : xe T s = true ↔ ∃ q, q < 6 ∧ s.testBit q = true ∧ (T.2.2.1 q).isSome = true := by
    unfold xe
    rw [List.any_eq_true]
    simp only [List.mem_range, Bool.and_eq_true]
  have hne : ¬ (s &&& c &&& mv_al m c = 0) ↔ ∃ q, (s &&& c &&& mv_al m c).testBit q = true := by
    constructor
    · intro hne
      refine Classical.byContradiction fun hno => hne ?_
      apply Nat.eq_of_testBit_eq
      intro q
      rw [Nat.zero_testBit]
      cases c : (s &&& c &&& mv_al m c).testBit q with
      | false => rfl
      | true => exact absurd ⟨q, c⟩ hno
    · rintro ⟨q, hq⟩ e
      rw [e, Nat.zero_testBit] at hq; cases hq
  have hb : ∀ q, (s &&& c &&& mv_al m c).testBit q = (s.testBit q && (c &&& mv_al m c).testBit q) := fun q => by rw [Nat.and_assoc, Nat.testBit_and]
  have hee : (∃ q, (s &&& c &&& mv_al m c).testBit q = true) ↔ ∃ q, q < 6 ∧ s.testBit q = true ∧ (T.2.2.1 q).isSome = true := by
    constructor
    · rintro ⟨q, hq⟩
      rw [hb, Bool.and_eq_true] at hq
      have h6 := h6 q hq.2
      exact ⟨q, h6, hq.1, by rw [← (r.2 q h6).1]; exact hq.2⟩
    · rintro ⟨q, h6, h1, h2⟩
      exact ⟨q, by rw [hb, h1, (r.2 q h6).1, h2]; rfl⟩
  rw [← Bool.not_eq_true, hx, ← hee, ← hne]
  exact ⟨fun e q => q e, fun q => Classical.not_not.mp q⟩
