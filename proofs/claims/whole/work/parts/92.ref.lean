/-! the reference: usefulOf, useful; the useful states are what the class finds -/
/-- a machine as the rules let it be -/
def wf (m : mv_T) : Prop := 1 ≤ m.1 ∧ m.1 ≤ 6 ∧ m.2.1.length ≤ 24 ∧ (∀ e, e ∈ m.2.1 → e.1 < m.1 ∧ e.2.1 < 3 ∧ e.2.2.1 < m.1 ∧ e.2.2.2.length ≤ 3 ∧ ∀ x ∈ e.2.2.2, x < 8) ∧ (∀ q, m.1 ≤ q → m.2.2.1 q = none) ∧ (∀ q xs, m.2.2.1 q = some xs → xs.length ≤ 3 ∧ ∀ x ∈ xs, x < 8) ∧ m.2.2.2.length ≤ 3 ∧ ∀ x ∈ m.2.2.2, x < 8
theorem re_m_wf {A : Nat → Nat → Int32} {k : Nat} {m : mv_T} (h : re_m A k m) : wf m := by
  obtain ⟨m1, m2, m3, m4, m5, m6, m7, m8, m9, m10, m11⟩ := h
  refine ⟨m2, m3, m5, fun e he => ?_, m8, m11.2.1, m11.2.2⟩
  obtain ⟨i, hi, rfl⟩ := List.mem_iff_getElem.mp he
  obtain ⟨-, -, -, -, -, b1, b2, b3⟩ := m6 i hi
  have := m11.1 i hi
  rw [mv_e_get hi] at this
  exact ⟨b1, b2, b3, this⟩
def bs (s t : Nat) : Prop := ∀ q, s.testBit q = true → t.testBit q = true
theorem bs.rf {s : Nat} : bs s s := fun _ h => h
theorem bs.t {s t u : Nat} (h : bs s t) (h2 : bs t u) : bs s u := fun q x => h2 q (h q x)
theorem bs.eq {s t : Nat} (h : bs s t) (h2 : bs t s) : s = t := by
  apply Nat.eq_of_testBit_eq
  intro q
  cases c : s.testBit q with
  | true => exact (h q c).symm
  | false =>
    cases c2 : t.testBit q with
    | false => rfl
    | true => exact absurd (h2 q c2) (by rw [c]; decide)
theorem mk_st_sub {s : Nat} {e : Nat × Nat} : bs s (mk_st s e) := fun q h => by
  simp only [mk_st]; split
  · rw [Nat.testBit_or, h]; rfl
  · exact h
theorem mk_rd_sub : ∀ (es : List (Nat × Nat)) (s : Nat), bs s (mk_rd es s)
  | [], s => bs.rf
  | e :: es, s => mk_st_sub.t (mk_rd_sub es (mk_st s e))
theorem mk_rd_fix : ∀ (es : List (Nat × Nat)) (s : Nat), mk_rd es s = s → ∀ e, e ∈ es → s.testBit e.1 = true → s.testBit e.2 = true
  | [], s, _, e, he, _ => absurd he (by simp)
  | x :: es, s, h, e, he, h1 => by
    have h2 : mk_rd es (mk_st s x) = s := h
    have h3 : mk_st s x = s := bs.eq (by have := mk_rd_sub es (mk_st s x); rw [h2] at this; exact this) mk_st_sub
    rcases List.mem_cons.mp he with rfl | he
    · rw [← h3]; simp only [mk_st, h1, if_true]; rw [Nat.testBit_or, Nat.testBit_two_pow_self, Bool.or_true]
    · rw [h3] at h2; exact mk_rd_fix es s h2 e he h1
theorem mk_st_min {s : Nat} {e : Nat × Nat} {P : Nat → Prop} (hs : ∀ q, s.testBit q = true → P q) (he : P e.1 → P e.2) : ∀ q, (mk_st s e).testBit q = true → P q := fun q h => by
  simp only [mk_st] at h
  split at h
  · next c =>
    rw [Nat.testBit_or, Nat.testBit_two_pow, Bool.or_eq_true, decide_eq_true_eq] at h
    rcases h with h | h
    · exact hs q h
    · subst h; exact he (hs _ c)
  · exact hs q h
theorem mk_rd_min {P : Nat → Prop} : ∀ (es : List (Nat × Nat)) (s : Nat), (∀ q, s.testBit q = true → P q) → (∀ e, e ∈ es → P e.1 → P e.2) → ∀ q, (mk_rd es s).testBit q = true → P q
  | [], s, hs, _ => hs
  | e :: es, s, hs, he => mk_rd_min es (mk_st s e) (mk_st_min hs (he e List.mem_cons_self)) (fun x hx => he x (List.mem_cons_of_mem _ hx))
theorem mk_it_min {P : Nat → Prop} {es : List (Nat × Nat)} {s : Nat} (hs : ∀ q, s.testBit q = true → P q) (he : ∀ e, e ∈ es → P e.1 → P e.2) : ∀ n q, (mk_it n es s).testBit q = true → P q
  | 0 => hs
  | n + 1 => mk_rd_min es _ (mk_it_min hs he n) he
theorem mk_it_sub {es : List (Nat × Nat)} {s : Nat} : ∀ n, bs s (mk_it n es s)
  | 0 => bs.rf
  | n + 1 => (mk_it_sub n).t (mk_rd_sub _ _)
theorem hp_cntlt {s t : Nat} (hs : s < 64) (ht : t < 64) (h : bs s t) (hne : s ≠ t) : hp_cnt s < hp_cnt t := by
  have key : ∀ s, s < 64 → ∀ t, t < 64 → s &&& t = s → s ≠ t → hp_cnt s < hp_cnt t := by decide +kernel
  refine key s hs t ht (Nat.eq_of_testBit_eq fun q => ?_) hne
  rw [Nat.testBit_and]
  cases c : s.testBit q with
  | false => rfl
  | true => rw [h q c]; rfl
theorem hp_cntN {s n : Nat} (hn : n ≤ 6) (hs : s < 2 ^ n) : hp_cnt s ≤ n := by
  have key : ∀ n, n < 7 → ∀ s, s < 64 → s < 2 ^ n → hp_cnt s ≤ n := by decide +kernel
  exact key n (by omega) s (Nat.lt_of_lt_of_le hs (Nat.le_trans (Nat.pow_le_pow_right (by decide) hn) (by decide))) hs
theorem mk_rd_lt {n : Nat} : ∀ (es : List (Nat × Nat)) (s : Nat), s < 2 ^ n → (∀ e, e ∈ es → e.2 < n) → mk_rd es s < 2 ^ n
  | [], s, hs, _ => hs
  | e :: es, s, hs, he => by
    refine mk_rd_lt es _ ?_ (fun x hx => he x (List.mem_cons_of_mem _ hx))
    simp only [mk_st]; split
    · exact Nat.or_lt_two_pow hs (Nat.pow_lt_pow_right (by decide) (he e List.mem_cons_self))
    · exact hs
theorem mk_it_lt {n : Nat} {es : List (Nat × Nat)} {s : Nat} (hs : s < 2 ^ n) (he : ∀ e, e ∈ es → e.2 < n) : ∀ k, mk_it k es s < 2 ^ n
  | 0 => hs
  | k + 1 => mk_rd_lt es _ (mk_it_lt hs he k) he
theorem mk_it_cnt {n : Nat} {es : List (Nat × Nat)} {s : Nat} (hn : n ≤ 6) (hs : s < 2 ^ n) (he : ∀ e, e ∈ es → e.2 < n) : ∀ k, mk_rd es (mk_it k es s) = mk_it k es s ∨ k + 1 + hp_cnt s ≤ hp_cnt (mk_rd es (mk_it k es s))
  | 0 => by
    have p6 : (2 : Nat) ^ n ≤ 64 := Nat.le_trans (Nat.pow_le_pow_right (by decide) hn) (by decide)
    by_cases c : mk_rd es s = s
    · exact Or.inl c
    · right
      have := hp_cntlt (Nat.lt_of_lt_of_le hs p6) (Nat.lt_of_lt_of_le (mk_rd_lt es s hs he) p6) (mk_rd_sub es s) (Ne.symm c)
      show 0 + 1 + hp_cnt s ≤ hp_cnt (mk_rd es s)
      omega
  | k + 1 => by
    have p6 : (2 : Nat) ^ n ≤ 64 := Nat.le_trans (Nat.pow_le_pow_right (by decide) hn) (by decide)
    rcases mk_it_cnt hn hs he k with h | h
    · left
      show mk_rd es (mk_rd es (mk_it k es s)) = mk_rd es (mk_it k es s)
      rw [h, h]
    · by_cases c : mk_rd es (mk_it (k + 1) es s) = mk_it (k + 1) es s
      · exact Or.inl c
      · right
        have h3 := mk_it_lt hs he (k + 1)
        have := hp_cntlt (Nat.lt_of_lt_of_le h3 p6) (Nat.lt_of_lt_of_le (mk_rd_lt es _ h3 he) p6) (mk_rd_sub es _) (Ne.symm c)
        have h4 : hp_cnt (mk_it (k + 1) es s) = hp_cnt (mk_rd es (mk_it k es s)) := rfl
        omega
theorem mk_it_fix {n : Nat} {es : List (Nat × Nat)} {s : Nat} (hn : n ≤ 6) (hs : s < 2 ^ n) (he : ∀ e, e ∈ es → e.2 < n) : mk_rd es (mk_it n es s) = mk_it n es s := by
  rcases mk_it_cnt hn hs he n with h | h
  · exact h
  · have := hp_cntN hn (mk_rd_lt es _ (mk_it_lt hs he n) he)
    omega
theorem mk_cl_bit (m : mv_T) (q : Nat) : (mk_cl m).testBit q = (decide (q < 6) && (m.2.2.1 q).isSome) := by
  have key : ∀ (n : Nat) (s : Nat), ((List.range n).foldl (fun s q => if (m.2.2.1 q).isSome then s ||| 2 ^ q else s) s).testBit q = (s.testBit q || (decide (q < n) && (m.2.2.1 q).isSome)) := by
    intro n
    induction n with
    | zero => intro s; simp
    | succ n ih =>
      intro s
      rw [List.range_succ, List.foldl_append]
      simp only [List.foldl_cons, List.foldl_nil]
      have h1 := ih s
      split
      · next c =>
        rw [Nat.testBit_or, h1, Nat.testBit_two_pow]
        by_cases e : n = q
        · subst e; simp [c]
        · rw [decide_eq_false e, Bool.or_false]
          congr 2
          exact decide_eq_decide.mpr (by omega)
      · next c =>
        rw [h1]
        by_cases e : n = q
        · subst e; simp [c]
        · congr 2
          exact decide_eq_decide.mpr (by omega)
  have := key 6 0
  rw [Nat.zero_testBit, Bool.false_or] at this
  exact this
theorem lt_pow_of_bits {s n : Nat} (h : ∀ q, s.testBit q = true → q < n) : s < 2 ^ n := Nat.lt_pow_two_of_testBit s (fun q hq => by
  cases c : s.testBit q with
  | false => rfl
  | true => exact absurd (h q c) (by omega))
theorem al_rc {m : mv_T} (h : wf m) : rc_is m true (mk_it m.1 (mv_ft m) 1) ∧ rc_is m false (mk_it m.1 (mv_tf m) (mk_cl m)) := by
  obtain ⟨h1, h6, -, he, hn, -⟩ := h
  have p6 : (2 : Nat) ^ m.1 ≤ 64 := Nat.le_trans (Nat.pow_le_pow_right (by decide) h6) (by decide)
  have f1 : ∀ e, e ∈ mv_ft m → e.2 < m.1 := fun e hx => by
    obtain ⟨x, hx', rfl⟩ := List.mem_map.mp hx; exact (he x hx').2.2.1
  have f2 : ∀ e, e ∈ mv_tf m → e.2 < m.1 := fun e hx => by
    obtain ⟨x, hx', rfl⟩ := List.mem_map.mp hx; exact (he x hx').1
  have s1 : 1 < 2 ^ m.1 := Nat.one_lt_two_pow (by omega)
  have s2 : mk_cl m < 2 ^ m.1 := lt_pow_of_bits (fun q hq => by
    rw [mk_cl_bit, Bool.and_eq_true] at hq
    by_cases c : m.1 ≤ q
    · rw [hn q c] at hq; exact absurd hq.2 (by simp)
    · omega)
  refine ⟨⟨Nat.lt_of_lt_of_le (mk_it_lt s1 f1 _) p6, ⟨fun q hq => ?_, fun e hx => ?_⟩, fun P hP q hq => ?_⟩, ⟨Nat.lt_of_lt_of_le (mk_it_lt s2 f2 _) p6, ⟨fun q hq => ?_, fun e hx => ?_⟩, fun P hP q hq => ?_⟩⟩
  · have hq : q = 0 := hq
    subst hq; exact mk_it_sub _ 0 rfl
  · exact mk_rd_fix _ _ (mk_it_fix h6 s1 f1) (e.1, e.2.2.1) (List.mem_map.mpr ⟨e, hx, rfl⟩)
  · refine mk_it_min (fun q hq => ?_) (fun e hx => ?_) _ q hq
    · rw [show (1 : Nat) = 2 ^ 0 from rfl, Nat.testBit_two_pow, decide_eq_true_eq] at hq
      subst hq; exact hP.1 0 rfl
    · obtain ⟨x, hx', rfl⟩ := List.mem_map.mp hx; exact hP.2 x hx'
  · have hq : (m.2.2.1 q).isSome = true := hq
    refine mk_it_sub _ q ?_
    rw [mk_cl_bit, hq]
    by_cases c : m.1 ≤ q
    · rw [hn q c] at hq; cases hq
    · simp; omega
  · exact mk_rd_fix _ _ (mk_it_fix h6 s2 f2) (e.2.2.1, e.1) (List.mem_map.mpr ⟨e, hx, rfl⟩)
  · refine mk_it_min (fun q hq => ?_) (fun e hx => ?_) _ q hq
    · rw [mk_cl_bit, Bool.and_eq_true] at hq; exact hP.1 q hq.2
    · obtain ⟨x, hx', rfl⟩ := List.mem_map.mp hx; exact hP.2 x hx'
abbrev al (m : mv_T) : Nat := mv_al m (mk_cl m)
theorem al_64 {m : mv_T} (h : wf m) : al m < 64 := hp_and64 (al_rc h).1.1
theorem re_and {s t : Nat} (hs : s < 64) (ht : t < 64) : nI s &&& nI t = nI (s &&& t) := hp_ands s hs t ht
set_option maxRecDepth 100000 in
set_option maxHeartbeats 400000 in
theorem c_Mod_usefulOf {w : rz_w} {d : Nat} {G : rz_G} {a : Nat} {I : Nat → Int32} {A : Nat → Nat → Int32} {m : mv_T} {k : Nat} (hk : k < 6) (h : re_m A k m) : rz_C w (d + 1) 0 0 y_Mod_usefulOf m_Mod_usefulOf [.ref a, .int (nI k)] (re_put G a I A) (fun r G' => r = some (.int (nI (al m))) ∧ G' = re_put G a I A) := by
  have hw := al_rc (re_m_wf h)
  refine rz_enter' [some (.ref a), some (.int (nI k))] (by decide +kernel) rfl rfl (Nat.le_of_ble_eq_true rfl) rfl ?_
  refine rz_blk' [(.aload_n 0, 1, 0, 0), (.iload_n 1, 1, 0, 0), (.iconst 1, 1, 0, 0)] (by decide +kernel) (Nat.le_refl _) (Nat.le_refl _) (fun K R hK hR => ?_)
  simp only [rw_c1, ↓rx_aload_n0, ↓rx_iconst, ↓rx_iload_n1, ↓rx_nil, ↓ry_li0s, ↓ry_li0z, ↓ry_lr0s, ↓ry_lr0z, rz_set, rz_nol, rz_clr, List.set_cons_zero, List.set_cons_succ, rz_tr, Nat.reduceAdd, Int.reduceAdd, Int.reduceToNat, Int.reduceSub, Int.reduceNeg, Int.cast_ofNat_Int]
  try simp (disch := omega) only [pk_us, pk_un, va_up_self, va_up_ne, nI_add, pk_mul, nI_clamp, vp_inT, nI_ltI, nI_leI, nI_eqI, pk_sub, true_and, and_true]
  refine hK _ _ _ _ ?_
  refine rz_cV (As := [.int (nI k), .int (rz_b true)]) (b := a) (S := []) l_Mod_222 (by decide +kernel) rfl re_at0 rfl (Nat.le_of_ble_eq_true rfl) (Nat.le_refl _) (Nat.le_refl _) (c_Mod_reach_t hk h) (fun r G' hr => ?_)
  obtain ⟨s1, hs1, rfl, rfl⟩ := hr
  simp only [Option.toList, List.cons_append, List.nil_append]
  refine rz_blk' [(.aload_n 0, 1, 0, 0), (.iload_n 1, 1, 0, 0), (.iconst 0, 1, 0, 0)] (by decide +kernel) (Nat.le_refl _) (Nat.le_refl _) (fun K R hK hR => ?_)
  simp only [rw_c0, ↓rx_aload_n0, ↓rx_iconst, ↓rx_iload_n1, ↓rx_nil, ↓ry_li0s, ↓ry_li0z, ↓ry_lr0s, ↓ry_lr0z, rz_set, rz_nol, rz_clr, List.set_cons_zero, List.set_cons_succ, rz_tr, Nat.reduceAdd, Int.reduceAdd, Int.reduceToNat, Int.reduceSub, Int.reduceNeg, Int.cast_ofNat_Int]
  try simp (disch := omega) only [pk_us, pk_un, va_up_self, va_up_ne, nI_add, pk_mul, nI_clamp, vp_inT, nI_ltI, nI_leI, nI_eqI, pk_sub, true_and, and_true]
  refine hK _ _ _ _ ?_
  refine rz_cV (As := [.int (nI k), .int (rz_b false)]) (b := a) (S := [.int (nI s1)]) l_Mod_222 (by decide +kernel) rfl re_at0 rfl (Nat.le_of_ble_eq_true rfl) (Nat.le_refl _) (Nat.le_refl _) (c_Mod_reach_f hk h) (fun r G' hr => ?_)
  obtain ⟨s2, hs2, rfl, rfl⟩ := hr
  simp only [Option.toList, List.cons_append, List.nil_append]
  refine rz_blk' [(.iand, 1, 0, 0), (.ireturn, 1, 0, 0)] (by decide +kernel) (Nat.le_refl _) (Nat.le_refl _) (fun K R hK hR => ?_)
  simp only [↓rx_iand, ↓rx_ireturn, ↓rx_nil, ↓ry_i2, rz_set, rz_nol, rz_clr, List.set_cons_zero, List.set_cons_succ, rz_tr, Nat.reduceAdd, Int.reduceAdd, Int.reduceToNat, Int.reduceSub, Int.reduceNeg, Int.cast_ofNat_Int]
  try simp (disch := omega) only [pk_us, pk_un, va_up_self, va_up_ne, nI_add, pk_mul, nI_clamp, vp_inT, nI_ltI, nI_leI, nI_eqI, pk_sub, true_and, and_true]
  have e1 := rc_uniq hs1 hw.1
  have e2 := rc_uniq hs2 hw.2
  subst e1; subst e2
  rw [re_and hw.1.1 hw.2.1]
  exact hR _ _ (rz_nb_i (by decide)) ⟨rfl, rfl⟩
set_option maxRecDepth 100000 in
set_option maxHeartbeats 400000 in
theorem c_Mod_useful {w : rz_w} {d : Nat} {G : rz_G} {a : Nat} {I : Nat → Int32} {A : Nat → Nat → Int32} {V : dk_V} (h : rf I A V) (x : Int32) : rz_C w (d + 3) 0 0 y_Mod_useful m_Mod_useful [.ref a, .int x] (re_put G a I A) (rv G a V (fun r V' => V' = V ∧ ∃ k, k < 6 ∧ x = nI k ∧ r = some (.int (nI (hp_cnt (al (V.1 k)))))) (fun c => c = 1 ∧ dk_no x)) := by
  generalize hQ : (rv G a V (fun r V' => V' = V ∧ ∃ k, k < 6 ∧ x = nI k ∧ r = some (.int (nI (hp_cnt (al (V.1 k)))))) (fun c => c = 1 ∧ dk_no x)) = Q
  refine rz_enter' [some (.ref a), some (.int x), none, none, none] (by decide +kernel) rfl rfl (Nat.le_of_ble_eq_true rfl) rfl ?_
  refine rz_blk' [(.aload_n 0, 1, 0, 0), (.iload_n 1, 1, 0, 0)] (by decide +kernel) (Nat.le_refl _) (Nat.le_refl _) (fun K R hK hR => ?_)
  simp only [↓rx_aload_n0, ↓rx_iload_n1, ↓rx_nil, ↓ry_li0s, ↓ry_li0z, ↓ry_lr0s, ↓ry_lr0z, rz_set, rz_nol, rz_clr, List.set_cons_zero, List.set_cons_succ, rz_tr, Nat.reduceAdd, Int.reduceAdd, Int.reduceToNat, Int.reduceSub, Int.reduceNeg, Int.cast_ofNat_Int]
  try simp (disch := omega) only [pk_us, pk_un, va_up_self, va_up_ne, nI_add, pk_mul, nI_clamp, vp_inT, nI_ltI, nI_leI, nI_eqI, pk_sub, true_and, and_true]
  refine hK _ _ _ _ ?_
  refine rz_cV (As := [.int x]) (b := a) (S := []) l_Mod_214 (by decide +kernel) rfl re_at0 rfl (Nat.le_of_ble_eq_true rfl) (Nat.le_refl _) (Nat.le_refl _) (c_Mod_isMachine _) (fun r G' hr => ?_)
  rcases hr with ⟨k, hk, rfl, rfl, hg⟩ | ⟨hno, rfl, hg⟩
  rotate_left
  · subst hg
    simp only [Option.toList, List.cons_append, List.nil_append]
    refine rz_blk' [(.ifCond .ne 5, 3, 0, 0)] (by decide +kernel) (Nat.le_refl _) (Nat.le_refl _) (fun K R hK hR => ?_)
    simp only [↓rx_ifCond_ne, ↓rx_nil, ↓ry_i1, rz_set, rz_nol, rz_clr, List.set_cons_zero, List.set_cons_succ, rz_tr, Nat.reduceAdd, Int.reduceAdd, Int.reduceToNat, Int.reduceSub, Int.reduceNeg, Int.cast_ofNat_Int]
    try simp (disch := omega) only [pk_us, pk_un, va_up_self, va_up_ne, nI_add, pk_mul, nI_clamp, vp_inT, nI_ltI, nI_leI, nI_eqI, pk_sub, true_and, and_true]
    refine ⟨fun q1 => absurd rfl q1, fun q1 => hK _ _ _ _ ?_⟩
    refine rz_blk' [(.iconst 0, 1, 0, 0), (.ireturn, 1, 0, 0)] (by decide +kernel) (Nat.le_refl _) (Nat.le_refl _) (fun K R hK hR => ?_)
    simp only [rw_c0, ↓rx_iconst, ↓rx_ireturn, ↓rx_nil, rz_set, rz_nol, rz_clr, List.set_cons_zero, List.set_cons_succ, rz_tr, Nat.reduceAdd, Int.reduceAdd, Int.reduceToNat, Int.reduceSub, Int.reduceNeg, Int.cast_ofNat_Int]
    try simp (disch := omega) only [pk_us, pk_un, va_up_self, va_up_ne, nI_add, pk_mul, nI_clamp, vp_inT, nI_ltI, nI_leI, nI_eqI, pk_sub, true_and, and_true]
    exact hR _ _ (rz_nb_i (by decide)) (by rw [← hQ]; exact rv_e h 1 (by decide) (by decide) ⟨rfl, hno⟩)
  subst hg
  simp only [Option.toList, List.cons_append, List.nil_append]
  have hnk : ¬ dk_no (nI k) := fun q => q k hk rfl
  have hm := h.1 k hk
  obtain ⟨m1, m2, m3, m4, m5, m6, m7, m8, m9, m10, m11⟩ := id hm
  have h64 := al_64 (re_m_wf hm)
  have lp : ∀ (j i : Nat), i + j = 6 → rz_T w (d + 3) 0 0 m_Mod_useful 0 0 21 [some (.ref a), some (.int (nI k)), some (.int (nI (al (V.1 k)))), some (.int (nI ((List.range i).countP (fun q => (al (V.1 k)).testBit q)))), some (.int (nI i))] [] (re_put G a (upd I 0 (nI 0)) A) Q := by
    intro j
    induction j with
    | zero =>
      intro i hij
      have hi : i = 6 := by omega
      subst hi
      refine rz_blk' [(.iload 4, 2, 0, 0), (.bipush 6, 2, 0, 0), (.if_icmp .ge 18, 3, 0, 0)] (by decide +kernel) (Nat.le_refl _) (Nat.le_refl _) (fun K R hK hR => ?_)
      simp only [rw_b6, ↓rx_bipush, ↓rx_if_icmp_ge, ↓rx_iload, ↓rx_nil, ↓ry_i2, ↓ry_li0s, ↓ry_li0z, rz_set, rz_nol, rz_clr, List.set_cons_zero, List.set_cons_succ, rz_tr, Nat.reduceAdd, Int.reduceAdd, Int.reduceToNat, Int.reduceSub, Int.reduceNeg, Int.cast_ofNat_Int]
      try simp (disch := omega) only [pk_us, pk_un, va_up_self, va_up_ne, nI_add, pk_mul, nI_clamp, vp_inT, nI_ltI, nI_leI, nI_eqI, pk_sub, true_and, and_true]
      refine ⟨fun q2 => hK _ _ _ _ ?_, fun q2 => by omega⟩
      refine rz_blk' [(.iload_n 3, 1, 0, 0), (.ireturn, 1, 0, 0)] (by decide +kernel) (Nat.le_refl _) (Nat.le_refl _) (fun K R hK hR => ?_)
      simp only [↓rx_iload_n3, ↓rx_ireturn, ↓rx_nil, ↓ry_li0s, ↓ry_li0z, rz_set, rz_nol, rz_clr, List.set_cons_zero, List.set_cons_succ, rz_tr, Nat.reduceAdd, Int.reduceAdd, Int.reduceToNat, Int.reduceSub, Int.reduceNeg, Int.cast_ofNat_Int]
      try simp (disch := omega) only [pk_us, pk_un, va_up_self, va_up_ne, nI_add, pk_mul, nI_clamp, vp_inT, nI_ltI, nI_leI, nI_eqI, pk_sub, true_and, and_true]
      exact hR _ _ (rz_nb_i (by decide)) (by rw [← hQ]; exact rv_f pk_us (rf_0 h) ⟨rfl, k, hk, rfl, rfl⟩)
    | succ j ih =>
      intro i hij
      have e1 : (List.range (i + 1)).countP (fun q => (al (V.1 k)).testBit q) = (List.range i).countP (fun q => (al (V.1 k)).testBit q) + (if (al (V.1 k)).testBit i then 1 else 0) := by
        rw [List.range_succ, List.countP_append]; simp [List.countP_cons]
      have e2 : rz_b ((al (V.1 k)).testBit i) = nI (if (al (V.1 k)).testBit i then 1 else 0) := by cases (al (V.1 k)).testBit i <;> rfl
      have ih := ih (i + 1) (by omega)
      rw [e1] at ih
      refine rz_blk' [(.iload 4, 2, 0, 0), (.bipush 6, 2, 0, 0), (.if_icmp .ge 18, 3, 0, 0)] (by decide +kernel) (Nat.le_refl _) (Nat.le_refl _) (fun K R hK hR => ?_)
      simp only [rw_b6, ↓rx_bipush, ↓rx_if_icmp_ge, ↓rx_iload, ↓rx_nil, ↓ry_i2, ↓ry_li0s, ↓ry_li0z, rz_set, rz_nol, rz_clr, List.set_cons_zero, List.set_cons_succ, rz_tr, Nat.reduceAdd, Int.reduceAdd, Int.reduceToNat, Int.reduceSub, Int.reduceNeg, Int.cast_ofNat_Int]
      try simp (disch := omega) only [re_bit, e2, pk_us, pk_un, va_up_self, va_up_ne, nI_add, pk_mul, nI_clamp, vp_inT, nI_ltI, nI_leI, nI_eqI, pk_sub, true_and, and_true]
      refine ⟨fun q3 => by omega, fun q3 => hK _ _ _ _ ?_⟩
      refine rz_blk' [(.iload_n 3, 1, 0, 0), (.iload_n 2, 1, 0, 0), (.iload 4, 2, 0, 0), (.ishr, 1, 0, 0), (.iconst 1, 1, 0, 0), (.iand, 1, 0, 0), (.iadd, 1, 0, 0), (.istore_n 3, 1, 0, 0)] (by decide +kernel) (Nat.le_refl _) (Nat.le_refl _) (fun K R hK hR => ?_)
      simp only [rw_c1, ↓rx_iadd, ↓rx_iand, ↓rx_iconst, ↓rx_iload, ↓rx_iload_n2, ↓rx_iload_n3, ↓rx_ishr, ↓rx_istore_n3, ↓rx_nil, ↓ry_i1, ↓ry_i2, ↓ry_li0s, ↓ry_li0z, rz_set, rz_nol, rz_clr, List.set_cons_zero, List.set_cons_succ, rz_tr, Nat.reduceAdd, Int.reduceAdd, Int.reduceToNat, Int.reduceSub, Int.reduceNeg, Int.cast_ofNat_Int]
      try simp (disch := omega) only [re_bit, e2, pk_us, pk_un, va_up_self, va_up_ne, nI_add, pk_mul, nI_clamp, vp_inT, nI_ltI, nI_leI, nI_eqI, pk_sub, true_and, and_true]
      refine hK _ _ _ _ ?_
      refine rz_blk' [(.iinc 4 1, 3, 0, 0)] (by decide +kernel) (Nat.le_refl _) (Nat.le_refl _) (fun K R hK hR => ?_)
      simp only [rw_c1, ↓rx_iinc, ↓rx_nil, ↓ry_li0s, ↓ry_li0z, rz_set, rz_nol, rz_clr, List.set_cons_zero, List.set_cons_succ, rz_tr, Nat.reduceAdd, Int.reduceAdd, Int.reduceToNat, Int.reduceSub, Int.reduceNeg, Int.cast_ofNat_Int]
      try simp (disch := omega) only [re_bit, e2, pk_us, pk_un, va_up_self, va_up_ne, nI_add, pk_mul, nI_clamp, vp_inT, nI_ltI, nI_leI, nI_eqI, pk_sub, true_and, and_true]
      refine hK _ _ _ _ ?_
      refine rz_blk' [(.goto (-19), 3, 0, 0)] (by decide +kernel) (Nat.le_refl _) (Nat.le_refl _) (fun K R hK hR => ?_)
      simp only [↓rx_goto, ↓rx_nil, rz_set, rz_nol, rz_clr, List.set_cons_zero, List.set_cons_succ, rz_tr, Nat.reduceAdd, Int.reduceAdd, Int.reduceToNat, Int.reduceSub, Int.reduceNeg, Int.cast_ofNat_Int]
      try simp (disch := omega) only [re_bit, e2, pk_us, pk_un, va_up_self, va_up_ne, nI_add, pk_mul, nI_clamp, vp_inT, nI_ltI, nI_leI, nI_eqI, pk_sub, true_and, and_true]
      refine hK _ _ _ _ ?_
      exact ih
  refine rz_blk' [(.ifCond .ne 5, 3, 0, 0)] (by decide +kernel) (Nat.le_refl _) (Nat.le_refl _) (fun K R hK hR => ?_)
  simp only [↓rx_ifCond_ne, ↓rx_nil, ↓ry_i1, rz_set, rz_nol, rz_clr, List.set_cons_zero, List.set_cons_succ, rz_tr, Nat.reduceAdd, Int.reduceAdd, Int.reduceToNat, Int.reduceSub, Int.reduceNeg, Int.cast_ofNat_Int]
  try simp (disch := omega) only [pk_us, pk_un, va_up_self, va_up_ne, nI_add, pk_mul, nI_clamp, vp_inT, nI_ltI, nI_leI, nI_eqI, pk_sub, true_and, and_true]
  refine ⟨fun q4 => hK _ _ _ _ ?_, fun q4 => absurd q4 (by decide)⟩
  refine rz_blk' [(.aload_n 0, 1, 0, 0), (.iload_n 1, 1, 0, 0)] (by decide +kernel) (Nat.le_refl _) (Nat.le_refl _) (fun K R hK hR => ?_)
  simp only [↓rx_aload_n0, ↓rx_iload_n1, ↓rx_nil, ↓ry_li0s, ↓ry_li0z, ↓ry_lr0s, ↓ry_lr0z, rz_set, rz_nol, rz_clr, List.set_cons_zero, List.set_cons_succ, rz_tr, Nat.reduceAdd, Int.reduceAdd, Int.reduceToNat, Int.reduceSub, Int.reduceNeg, Int.cast_ofNat_Int]
  try simp (disch := omega) only [pk_us, pk_un, va_up_self, va_up_ne, nI_add, pk_mul, nI_clamp, vp_inT, nI_ltI, nI_leI, nI_eqI, pk_sub, true_and, and_true]
  refine hK _ _ _ _ ?_
  refine rz_cV (As := [.int (nI k)]) (b := a) (S := []) l_Mod_226 (by decide +kernel) rfl re_at0 rfl (Nat.le_of_ble_eq_true rfl) (Nat.le_refl _) (Nat.le_refl _) (c_Mod_usefulOf hk hm) (fun r G' hr => ?_)
  obtain ⟨rfl, rfl⟩ := hr
  simp only [Option.toList, List.cons_append, List.nil_append]
  refine rz_blk' [(.istore_n 2, 1, 0, 0)] (by decide +kernel) (Nat.le_refl _) (Nat.le_refl _) (fun K R hK hR => ?_)
  simp only [↓rx_istore_n2, ↓rx_nil, ↓ry_i1, rz_set, rz_nol, rz_clr, List.set_cons_zero, List.set_cons_succ, rz_tr, Nat.reduceAdd, Int.reduceAdd, Int.reduceToNat, Int.reduceSub, Int.reduceNeg, Int.cast_ofNat_Int]
  try simp (disch := omega) only [pk_us, pk_un, va_up_self, va_up_ne, nI_add, pk_mul, nI_clamp, vp_inT, nI_ltI, nI_leI, nI_eqI, pk_sub, true_and, and_true]
  refine hK _ _ _ _ ?_
  refine rz_blk' [(.iconst 0, 1, 0, 0), (.istore_n 3, 1, 0, 0)] (by decide +kernel) (Nat.le_refl _) (Nat.le_refl _) (fun K R hK hR => ?_)
  simp only [rw_c0, ↓rx_iconst, ↓rx_istore_n3, ↓rx_nil, ↓ry_i1, rz_set, rz_nol, rz_clr, List.set_cons_zero, List.set_cons_succ, rz_tr, Nat.reduceAdd, Int.reduceAdd, Int.reduceToNat, Int.reduceSub, Int.reduceNeg, Int.cast_ofNat_Int]
  try simp (disch := omega) only [pk_us, pk_un, va_up_self, va_up_ne, nI_add, pk_mul, nI_clamp, vp_inT, nI_ltI, nI_leI, nI_eqI, pk_sub, true_and, and_true]
  refine hK _ _ _ _ ?_
  refine rz_blk' [(.iconst 0, 1, 0, 0), (.istore 4, 2, 0, 0)] (by decide +kernel) (Nat.le_refl _) (Nat.le_refl _) (fun K R hK hR => ?_)
  simp only [rw_c0, ↓rx_iconst, ↓rx_istore, ↓rx_nil, ↓ry_i1, rz_set, rz_nol, rz_clr, List.set_cons_zero, List.set_cons_succ, rz_tr, Nat.reduceAdd, Int.reduceAdd, Int.reduceToNat, Int.reduceSub, Int.reduceNeg, Int.cast_ofNat_Int]
  try simp (disch := omega) only [pk_us, pk_un, va_up_self, va_up_ne, nI_add, pk_mul, nI_clamp, vp_inT, nI_ltI, nI_leI, nI_eqI, pk_sub, true_and, and_true]
  refine hK _ _ _ _ ?_
  exact lp 6 0 rfl
