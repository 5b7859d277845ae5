/-! the reference: setOf, goOnAlike -/
abbrev kt_T := Nat → Option (List Nat)
def kt_at (A : Nat → Nat → Int32) (c : Nat) (K : kt_T) : Prop := ∀ s, s < 6 → A 77 (6 * c + s) = os (K s) ∧ sg (A 78) (160 * (6 * c + s)) ((K s).getD []) ∧ ((K s).getD []).length ≤ 150 ∧ ∀ x ∈ (K s).getD [], x < 8
theorem kt_keep {A A' : Nat → Nat → Int32} {c : Nat} {K : kt_T} (h : kt_at A c K) (h1 : A' 77 = A 77) (h2 : A' 78 = A 78) : kt_at A' c K := by
  unfold kt_at at *; rw [h1, h2]; exact h
theorem kt_os {A : Nat → Nat → Int32} {c s : Nat} {K : kt_T} (h : kt_at A c K) (hs : s < 6) : (os (K s) < 0) = (K s = none) := os_lt (fun xs hx => by
  have := (h s hs).2.2.1
  rw [hx] at this; simp at this; omega)
def kb_1 (K : kt_T) (n s : Nat) : Nat := if (K s).isSome = true then n ||| 2 ^ s else n
/-- the states of a class -/
def kb (K : kt_T) : Nat := (List.range 6).foldl (kb_1 K) 0
theorem kb_64f {K : kt_T} : ∀ (l : List Nat) (n : Nat), (∀ s ∈ l, s < 6) → n < 64 → l.foldl (kb_1 K) n < 64
  | [], n, _, hn => hn
  | s :: l, n, h, hn => by
    refine kb_64f l _ (fun x hx => h x (List.mem_cons_of_mem _ hx)) ?_
    unfold kb_1; split
    · exact hp_or64 n hn _ (h s List.mem_cons_self)
    · exact hn
theorem kb_64 {K : kt_T} : kb K < 64 := kb_64f _ _ (fun s hs => by simpa using hs) (by decide)
def ks_1 (K K' : kt_T) (p q : Nat) : List ps_nd := match K p, K' q with
  | some u, some v => [xf_mk p q false u v]
  | _, _ => []
/-- the pairs of states to begin with, and what was written -/
def ks (K K' : kt_T) : List ps_nd := (List.range 6).flatMap (fun p => (List.range 6).flatMap (fun q => ks_1 K K' p q))
theorem ks_mem {K K' : kt_T} {n : ps_nd} : n ∈ ks K K' ↔ ∃ p q u v, p < 6 ∧ q < 6 ∧ K p = some u ∧ K' q = some v ∧ n = xf_mk p q false u v := by
  unfold ks
  simp only [List.mem_flatMap, List.mem_range]
  constructor
  · rintro ⟨p, hp, q, hq, hn⟩
    unfold ks_1 at hn
    cases c1 : K p with
    | none => rw [c1] at hn; simp at hn
    | some u =>
      cases c2 : K' q with
      | none => rw [c1, c2] at hn; simp at hn
      | some v =>
        rw [c1, c2] at hn
        simp at hn
        exact ⟨p, q, u, v, hp, hq, c1, c2, hn⟩
  · rintro ⟨p, q, u, v, hp, hq, c1, c2, rfl⟩
    exact ⟨p, hp, q, hq, by unfold ks_1; rw [c1, c2]; simp⟩
def ka_1 (c : Nat → Bool) (K K' : kt_T) (p : Nat) (N : List xn_T) (q : Nat) : List xn_T := match K p, K' q with
  | some u, some v => xf_add c N (xf_mk p q false u v) 0
  | _, _ => N
def ka_2 (c : Nat → Bool) (K K' : kt_T) (N : List xn_T) (p : Nat) : List xn_T := (List.range 6).foldl (ka_1 c K K' p) N
def ka_3 (c : Nat → Bool) (K K' : kt_T) : List xn_T := (List.range 6).foldl (ka_2 c K K') []
theorem ka_1_r {c : Nat → Bool} {K K' : kt_T} {p q : Nat} {N : List xn_T} (hp : p < 6) (hq : q < 6) : xs_r (fun n => n ∈ ks K K') 0 N (ka_1 c K K' p N q) := by
  unfold ka_1
  cases c1 : K p with
  | none => exact xs_r.rf
  | some u =>
    cases c2 : K' q with
    | none => exact xs_r.rf
    | some v => exact xf_add_r (ks_mem.mpr ⟨p, q, u, v, hp, hq, c1, c2, rfl⟩)
theorem ka_2_r {c : Nat → Bool} {K K' : kt_T} {p : Nat} {N : List xn_T} (hp : p < 6) : xs_r (fun n => n ∈ ks K K') 0 N (ka_2 c K K' N p) ∧ ∀ q ∈ List.range 6, ∃ b1, xs_r (fun n => n ∈ ks K K') 0 N b1 ∧ xs_r (fun n => n ∈ ks K K') 0 (ka_1 c K K' p b1 q) (ka_2 c K K' N p) :=
  fold_r (rel := xs_r (fun n => n ∈ ks K K') 0) (fun _ => xs_r.rf) (fun _ _ _ => xs_r.t) (List.range 6) N (fun _ q hq => ka_1_r hp (by simpa using hq))
theorem ka_3_r {c : Nat → Bool} {K K' : kt_T} : xs_r (fun n => n ∈ ks K K') 0 [] (ka_3 c K K') ∧ ∀ n ∈ ks K K', xs_cov c (ka_3 c K K') 0 n := by
  have h := fold_r (rel := xs_r (fun n => n ∈ ks K K') 0) (fun _ => xs_r.rf) (fun _ _ _ => xs_r.t) (f := ka_2 c K K') (List.range 6) [] (fun _ p hp => (ka_2_r (by simpa using hp)).1)
  refine ⟨h.1, fun n hn => ?_⟩
  obtain ⟨p, q, u, v, hp, hq, c1, c2, rfl⟩ := ks_mem.mp hn
  obtain ⟨b1, r1, r2⟩ := h.2 p (by simpa using hp)
  obtain ⟨b2, r3, r4⟩ := (ka_2_r (c := c) (K := K) (K' := K') (N := b1) hp).2 q (by simpa using hq)
  have r5 := r1.t r3
  have e1 : ka_1 c K K' p b2 q = xf_add c b2 (xf_mk p q false u v) 0 := by unfold ka_1; rw [c1, c2]
  rw [e1] at r4
  exact xs_cov_m (xf_add_cov (r5.2 (by simp)) (r5.le (by simp))) (r4.t r2).mem (Nat.le_refl _)
/-- two classes go on alike: the same words can be read to the end, and the same is written -/
def ka (T : mv_T) (K K' : kt_T) : Prop := (∀ v : List Nat, (∀ x ∈ v, x < 3) → xe T (xr T (kb K) v) = xe T (xr T (kb K') v)) ∧ ∀ v, ¬ df T T (ks K K') v
set_option maxRecDepth 100000 in
set_option maxHeartbeats 400000 in
theorem c_Mod_setOf {w : rz_w} {d : Nat} {G : rz_G} {a : Nat} {I : Nat → Int32} {A : Nat → Nat → Int32} {c : Nat} {X1 : kt_T} (hc : c < 42) (h : kt_at A c X1) : rz_C w d 0 0 y_Mod_setOf m_Mod_setOf [.ref a, .int (nI c)] (re_put G a I A) (fun (r : Option Value) (G' : rz_G) => r = some (.int (nI (kb X1))) ∧ G' = re_put G a I A) := by
  generalize hQ : (fun (r : Option Value) (G' : rz_G) => r = some (.int (nI (kb X1))) ∧ G' = re_put G a I A) = Q
  have lp : ∀ (j i n : Nat), i + j = 6 → n < 64 → n = (List.range i).foldl (kb_1 X1) 0 → rz_T w d 0 0 m_Mod_setOf 0 0 4 [some (.ref a), some (.int (nI c)), some (.int (nI n)), some (.int (nI i))] [] (re_put G a I A) Q := by
    intro j
    induction j with
    | zero =>
      intro i n hij hn hf
      have hi : i = 6 := by omega
      subst hi
      refine rz_blk' [(.iload_n 3, 1, 0, 0), (.bipush 6, 2, 0, 0), (.if_icmp .ge 33, 3, 0, 0)] (by decide +kernel) (Nat.le_refl _) (Nat.le_refl _) (fun K R hK hR => ?_)
      simp only [rw_b6, ↓rx_bipush, ↓rx_if_icmp_ge, ↓rx_iload_n3, ↓rx_nil, ↓ry_i2, ↓ry_li0s, ↓ry_li0z, rz_set, rz_nol, rz_clr, List.set_cons_zero, List.set_cons_succ, rz_tr, Nat.reduceAdd, Int.reduceAdd, Int.reduceToNat, Int.reduceSub, Int.reduceNeg, Int.cast_ofNat_Int]
      try simp (disch := omega) only [pk_us, pk_un, va_up_self, va_up_ne, nI_add, pk_mul, nI_clamp, vp_inT, nI_ltI, nI_leI, nI_eqI, pk_sub, true_and, and_true]
      refine ⟨fun q1 => hK _ _ _ _ ?_, fun q1 => by omega⟩
      refine rz_blk' [(.iload_n 2, 1, 0, 0), (.ireturn, 1, 0, 0)] (by decide +kernel) (Nat.le_refl _) (Nat.le_refl _) (fun K R hK hR => ?_)
      simp only [↓rx_iload_n2, ↓rx_ireturn, ↓rx_nil, ↓ry_li0s, ↓ry_li0z, rz_set, rz_nol, rz_clr, List.set_cons_zero, List.set_cons_succ, rz_tr, Nat.reduceAdd, Int.reduceAdd, Int.reduceToNat, Int.reduceSub, Int.reduceNeg, Int.cast_ofNat_Int]
      try simp (disch := omega) only [pk_us, pk_un, va_up_self, va_up_ne, nI_add, pk_mul, nI_clamp, vp_inT, nI_ltI, nI_leI, nI_eqI, pk_sub, true_and, and_true]
      exact hR _ _ (rz_nb_i (by decide)) (by rw [← hQ]; exact ⟨by rw [hf]; rfl, rfl⟩)
    | succ j ih =>
      intro i n hij hn hf
      have a1 := (h i (by omega)).1
      have so := kt_os h (s := i) (by omega)
      have hst : (List.range (i + 1)).foldl (kb_1 X1) 0 = kb_1 X1 n i := by rw [List.range_succ, List.foldl_append, ← hf]; rfl
      refine rz_blk' [(.iload_n 3, 1, 0, 0), (.bipush 6, 2, 0, 0), (.if_icmp .ge 33, 3, 0, 0)] (by decide +kernel) (Nat.le_refl _) (Nat.le_refl _) (fun K R hK hR => ?_)
      simp only [rw_b6, ↓rx_bipush, ↓rx_if_icmp_ge, ↓rx_iload_n3, ↓rx_nil, ↓ry_i2, ↓ry_li0s, ↓ry_li0z, a1, rz_set, rz_nol, rz_clr, List.set_cons_zero, List.set_cons_succ, rz_tr, Nat.reduceAdd, Int.reduceAdd, Int.reduceToNat, Int.reduceSub, Int.reduceNeg, Int.cast_ofNat_Int]
      try simp (disch := omega) only [a1, so, hp_bit, hp_ors, pk_us, pk_un, va_up_self, va_up_ne, nI_add, pk_mul, nI_clamp, vp_inT, nI_ltI, nI_leI, nI_eqI, pk_sub, true_and, and_true]
      refine ⟨fun q2 => by omega, fun q2 => hK _ _ _ _ ?_⟩
      refine rz_blk' [(.aload_n 0, 1, 0, 0), (.getfield 190, 3, 10, 77), (.bipush 6, 2, 0, 0), (.iload_n 1, 1, 0, 0), (.imul, 1, 0, 0), (.iload_n 3, 1, 0, 0), (.iadd, 1, 0, 0), (.iaload, 1, 0, 0), (.ifCond .lt 11, 3, 0, 0)] (by decide +kernel) (Nat.le_refl _) (Nat.le_refl _) (fun K R hK hR => ?_)
      simp only [rw_b6, ↓rx_aload_n0, ↓rx_bipush, ↓rx_getfield, ↓rx_iadd, ↓rx_iaload, ↓rx_ifCond_lt, ↓rx_iload_n1, ↓rx_iload_n3, ↓rx_imul, ↓rx_nil, ↓ry_i1, ↓ry_i2, ↓ry_iau, ↓ry_li0s, ↓ry_li0z, ↓ry_lr0s, ↓ry_lr0z, ↓ry_obu, ↓ry_r1, ↓ry_ri, true_and, re_a77, ↓re_F77, ↓re_i77, ↓re_ob, a1, rz_set, rz_nol, rz_clr, List.set_cons_zero, List.set_cons_succ, rz_tr, Nat.reduceAdd, Int.reduceAdd, Int.reduceToNat, Int.reduceSub, Int.reduceNeg, Int.cast_ofNat_Int]
      try simp (disch := omega) only [a1, so, hp_bit, hp_ors, pk_us, pk_un, va_up_self, va_up_ne, nI_add, pk_mul, nI_clamp, vp_inT, nI_ltI, nI_leI, nI_eqI, pk_sub, true_and, and_true]
      refine ⟨fun q3 => hK _ _ _ _ ?_, fun q3 => hK _ _ _ _ ?_⟩
      · -- 21 taken
        refine rz_blk' [(.iload_n 2, 1, 0, 0), (.istore_n 2, 1, 0, 0)] (by decide +kernel) (Nat.le_refl _) (Nat.le_refl _) (fun K R hK hR => ?_)
        simp only [↓rx_iload_n2, ↓rx_istore_n2, ↓rx_nil, ↓ry_i1, ↓ry_li0s, ↓ry_li0z, a1, rz_set, rz_nol, rz_clr, List.set_cons_zero, List.set_cons_succ, rz_tr, Nat.reduceAdd, Int.reduceAdd, Int.reduceToNat, Int.reduceSub, Int.reduceNeg, Int.cast_ofNat_Int]
        try simp (disch := omega) only [a1, so, hp_bit, hp_ors, pk_us, pk_un, va_up_self, va_up_ne, nI_add, pk_mul, nI_clamp, vp_inT, nI_ltI, nI_leI, nI_eqI, pk_sub, true_and, and_true]
        refine hK _ _ _ _ ?_
        refine rz_blk' [(.iinc 3 1, 3, 0, 0)] (by decide +kernel) (Nat.le_refl _) (Nat.le_refl _) (fun K R hK hR => ?_)
        simp only [rw_c1, ↓rx_iinc, ↓rx_nil, ↓ry_li0s, ↓ry_li0z, a1, rz_set, rz_nol, rz_clr, List.set_cons_zero, List.set_cons_succ, rz_tr, Nat.reduceAdd, Int.reduceAdd, Int.reduceToNat, Int.reduceSub, Int.reduceNeg, Int.cast_ofNat_Int]
        try simp (disch := omega) only [a1, so, hp_bit, hp_ors, pk_us, pk_un, va_up_self, va_up_ne, nI_add, pk_mul, nI_clamp, vp_inT, nI_ltI, nI_leI, nI_eqI, pk_sub, true_and, and_true]
        refine hK _ _ _ _ ?_
        refine rz_blk' [(.goto (-33), 3, 0, 0)] (by decide +kernel) (Nat.le_refl _) (Nat.le_refl _) (fun K R hK hR => ?_)
        simp only [↓rx_goto, ↓rx_nil, a1, rz_set, rz_nol, rz_clr, List.set_cons_zero, List.set_cons_succ, rz_tr, Nat.reduceAdd, Int.reduceAdd, Int.reduceToNat, Int.reduceSub, Int.reduceNeg, Int.cast_ofNat_Int]
        try simp (disch := omega) only [a1, so, hp_bit, hp_ors, pk_us, pk_un, va_up_self, va_up_ne, nI_add, pk_mul, nI_clamp, vp_inT, nI_ltI, nI_leI, nI_eqI, pk_sub, true_and, and_true]
        refine hK _ _ _ _ ?_
        first
          | exact ih (i + 1) n (by omega) hn (by rw [hst, kb_1, if_neg]; rw [(by assumption : X1 i = none)]; simp)
          | exact ih (i + 1) _ (by omega) (hp_or64 n hn _ (by omega)) (by rw [hst, kb_1, if_pos]; exact Option.isSome_iff_ne_none.mpr q3)
      · -- 21 not taken
        refine rz_blk' [(.iload_n 2, 1, 0, 0), (.iconst 1, 1, 0, 0), (.iload_n 3, 1, 0, 0), (.ishl, 1, 0, 0), (.ior, 1, 0, 0), (.goto 4, 3, 0, 0)] (by decide +kernel) (Nat.le_refl _) (Nat.le_refl _) (fun K R hK hR => ?_)
        simp only [rw_c1, ↓rx_goto, ↓rx_iconst, ↓rx_iload_n2, ↓rx_iload_n3, ↓rx_ior, ↓rx_ishl, ↓rx_nil, ↓ry_i2, ↓ry_li0s, ↓ry_li0z, a1, rz_set, rz_nol, rz_clr, List.set_cons_zero, List.set_cons_succ, rz_tr, Nat.reduceAdd, Int.reduceAdd, Int.reduceToNat, Int.reduceSub, Int.reduceNeg, Int.cast_ofNat_Int]
        try simp (disch := omega) only [a1, so, hp_bit, hp_ors, pk_us, pk_un, va_up_self, va_up_ne, nI_add, pk_mul, nI_clamp, vp_inT, nI_ltI, nI_leI, nI_eqI, pk_sub, true_and, and_true]
        refine hK _ _ _ _ ?_
        refine rz_blk' [(.istore_n 2, 1, 0, 0)] (by decide +kernel) (Nat.le_refl _) (Nat.le_refl _) (fun K R hK hR => ?_)
        simp only [↓rx_istore_n2, ↓rx_nil, ↓ry_i1, a1, rz_set, rz_nol, rz_clr, List.set_cons_zero, List.set_cons_succ, rz_tr, Nat.reduceAdd, Int.reduceAdd, Int.reduceToNat, Int.reduceSub, Int.reduceNeg, Int.cast_ofNat_Int]
        try simp (disch := omega) only [a1, so, hp_bit, hp_ors, pk_us, pk_un, va_up_self, va_up_ne, nI_add, pk_mul, nI_clamp, vp_inT, nI_ltI, nI_leI, nI_eqI, pk_sub, true_and, and_true]
        refine hK _ _ _ _ ?_
        refine rz_blk' [(.iinc 3 1, 3, 0, 0)] (by decide +kernel) (Nat.le_refl _) (Nat.le_refl _) (fun K R hK hR => ?_)
        simp only [rw_c1, ↓rx_iinc, ↓rx_nil, ↓ry_li0s, ↓ry_li0z, a1, rz_set, rz_nol, rz_clr, List.set_cons_zero, List.set_cons_succ, rz_tr, Nat.reduceAdd, Int.reduceAdd, Int.reduceToNat, Int.reduceSub, Int.reduceNeg, Int.cast_ofNat_Int]
        try simp (disch := omega) only [a1, so, hp_bit, hp_ors, pk_us, pk_un, va_up_self, va_up_ne, nI_add, pk_mul, nI_clamp, vp_inT, nI_ltI, nI_leI, nI_eqI, pk_sub, true_and, and_true]
        refine hK _ _ _ _ ?_
        refine rz_blk' [(.goto (-33), 3, 0, 0)] (by decide +kernel) (Nat.le_refl _) (Nat.le_refl _) (fun K R hK hR => ?_)
        simp only [↓rx_goto, ↓rx_nil, a1, rz_set, rz_nol, rz_clr, List.set_cons_zero, List.set_cons_succ, rz_tr, Nat.reduceAdd, Int.reduceAdd, Int.reduceToNat, Int.reduceSub, Int.reduceNeg, Int.cast_ofNat_Int]
        try simp (disch := omega) only [a1, so, hp_bit, hp_ors, pk_us, pk_un, va_up_self, va_up_ne, nI_add, pk_mul, nI_clamp, vp_inT, nI_ltI, nI_leI, nI_eqI, pk_sub, true_and, and_true]
        refine hK _ _ _ _ ?_
        first
          | exact ih (i + 1) n (by omega) hn (by rw [hst, kb_1, if_neg]; rw [(by assumption : X1 i = none)]; simp)
          | exact ih (i + 1) _ (by omega) (hp_or64 n hn _ (by omega)) (by rw [hst, kb_1, if_pos]; exact Option.isSome_iff_ne_none.mpr q3)
  refine rz_enter' [some (.ref a), some (.int (nI c)), none, none] (by decide +kernel) rfl rfl (Nat.le_of_ble_eq_true rfl) rfl ?_
  refine rz_blk' [(.iconst 0, 1, 0, 0), (.istore_n 2, 1, 0, 0)] (by decide +kernel) (Nat.le_refl _) (Nat.le_refl _) (fun K R hK hR => ?_)
  simp only [rw_c0, ↓rx_iconst, ↓rx_istore_n2, ↓rx_nil, ↓ry_i1, rz_set, rz_nol, rz_clr, List.set_cons_zero, List.set_cons_succ, rz_tr, Nat.reduceAdd, Int.reduceAdd, Int.reduceToNat, Int.reduceSub, Int.reduceNeg, Int.cast_ofNat_Int]
  try simp (disch := omega) only [pk_us, pk_un, va_up_self, va_up_ne, nI_add, pk_mul, nI_clamp, vp_inT, nI_ltI, nI_leI, nI_eqI, pk_sub, true_and, and_true]
  refine hK _ _ _ _ ?_
  refine rz_blk' [(.iconst 0, 1, 0, 0), (.istore_n 3, 1, 0, 0)] (by decide +kernel) (Nat.le_refl _) (Nat.le_refl _) (fun K R hK hR => ?_)
  simp only [rw_c0, ↓rx_iconst, ↓rx_istore_n3, ↓rx_nil, ↓ry_i1, rz_set, rz_nol, rz_clr, List.set_cons_zero, List.set_cons_succ, rz_tr, Nat.reduceAdd, Int.reduceAdd, Int.reduceToNat, Int.reduceSub, Int.reduceNeg, Int.cast_ofNat_Int]
  try simp (disch := omega) only [pk_us, pk_un, va_up_self, va_up_ne, nI_add, pk_mul, nI_clamp, vp_inT, nI_ltI, nI_leI, nI_eqI, pk_sub, true_and, and_true]
  refine hK _ _ _ _ ?_
  exact lp 6 0 0 rfl (by decide) rfl
set_option maxRecDepth 100000 in
set_option maxHeartbeats 4000000 in
theorem c_Mod_goOnAlike {w : rz_w} {d : Nat} {G : rz_G} {a : Nat} {I : Nat → Int32} {A : Nat → Nat → Int32} {T : mv_T} {c c2 : Nat} {X1 X2 : kt_T} (t : re_t A 0 T) (w1 : tw T 21) (hc : c < 42) (hc2 : c2 < 42) (h : kt_at A c X1) (h' : kt_at A c2 X2) : rz_C w (d + 4) 0 0 y_Mod_goOnAlike m_Mod_goOnAlike [.ref a, .int (nI c), .int (nI c2)] (re_put G a I A) (fun (r : Option Value) (G' : rz_G) => ∃ I' A' b, r = some (.int (rz_b b)) ∧ G' = re_put G a I' A' ∧ fi [26, 27, 30, 38, 41, 42] I I' ∧ fa [25, 28, 29, 31, 32, 33, 34, 35, 36, 37, 39, 40, 43, 44, 45] A A' ∧ (b = true ↔ ka T X1 X2)) := by
  generalize hQ : (fun (r : Option Value) (G' : rz_G) => ∃ I' A' b, r = some (.int (rz_b b)) ∧ G' = re_put G a I' A' ∧ fi [26, 27, 30, 38, 41, 42] I I' ∧ fa [25, 28, 29, 31, 32, 33, 34, 35, 36, 37, 39, 40, 43, 44, 45] A A' ∧ (b = true ↔ ka T X1 X2)) = Q
  have w1' := tw_m w1 (show 21 ≤ 32 by decide)
  have hs1 := c_Mod_setOf (w := w) (d := d + 3) (G := G) (a := a) (I := I) hc h
  have hs2 := c_Mod_setOf (w := w) (d := d + 3) (G := G) (a := a) (I := I) hc2 h'
  have hra := c_Mod_readsApart (w := w) (d := d + 2) (G := G) (a := a) (I := I) (A := A) (g := 0) (hh := 0) (s1 := kb X1) (s2 := kb X2) (by decide) (by decide) t t w1' w1' kb_64 kb_64
  have hgo : (∀ v : List Nat, (∀ x ∈ v, x < 3) → xe T (xr T (kb X1) v) = xe T (xr T (kb X2) v)) → ∀ (I1 : Nat → Int32) (A1 : Nat → Nat → Int32), fi [26, 27, 30, 38, 41, 42] I I1 → fa [25, 28, 29, 31, 32, 33, 34, 35, 36, 37, 39, 40, 43, 44, 45] A A1 → rz_T w (d + 4) 0 0 m_Mod_goOnAlike 0 0 21 [some (.ref a), some (.int (nI c)), some (.int (nI c2)), none, none, none] [] (re_put G a I1 A1) Q := by
    intro hlang I1 A1 i1 a1
    have hbp := c_Mod_beginPairs (w := w) (d := d + 2) (G := G) (a := a) (I := I1) (A := A1) 160 21 (by decide : 0 < 2) (by decide : 0 < 2) (re_t_fa t a1 rfl) (re_t_fa t a1 rfl) w1' w1'
    refine rz_blk' [(.aload_n 0, 1, 0, 0), (.iconst 0, 1, 0, 0), (.iconst 0, 1, 0, 0)] (by decide +kernel) (Nat.le_refl _) (Nat.le_refl _) (fun K R hK hR => ?_)
    simp only [rw_c0, ↓rx_aload_n0, ↓rx_iconst, ↓rx_nil, ↓ry_lr0s, ↓ry_lr0z, rz_set, rz_nol, rz_clr, List.set_cons_zero, List.set_cons_succ, rz_tr, Nat.reduceAdd, Int.reduceAdd, Int.reduceToNat, Int.reduceSub, Int.reduceNeg, Int.cast_ofNat_Int]
    try simp (disch := omega) only [pk_us, pk_un, va_up_self, va_up_ne, nI_add, pk_mul, nI_clamp, vp_inT, nI_ltI, nI_leI, nI_eqI, pk_sub, true_and, and_true]
    refine hK _ _ _ _ ?_
    refine rz_cV (As := [.int (nI 0), .int (nI 0)]) (b := a) (S := []) l_Mod_300 (by decide +kernel) rfl re_at0 rfl (Nat.le_of_ble_eq_true rfl) (Nat.le_refl _) (Nat.le_refl _) (hbp) (fun r G' hr => ?_)
    obtain ⟨rfl, I2, A2, c0, rfl, i2, a2, hcc, hrk, hn, hk, hw⟩ := hr
    simp only [Option.toList, List.nil_append]
    have i2' : fi [26, 27, 30, 38, 41, 42] I I2 := i1.t i2 rfl
    have a2' : fa [25, 28, 29, 31, 32, 33, 34, 35, 36, 37, 39, 40, 43, 44, 45] A A2 := a1.t a2 rfl
    have pl : ∀ (j p : Nat) (N : List xn_T) (I3 : Nat → Int32) (A3 : Nat → Nat → Int32) (z4 z5 : Option Value), p + j = 6 → N = (List.range p).foldl (ka_2 c0 X1 X2) [] → fi [26, 27, 30, 38, 41, 42] I I3 → fa [25, 28, 29, 31, 32, 33, 34, 35, 36, 37, 39, 40, 43, 44, 45] A A3 → (∀ i, i < 36 → A3 25 i = rz_b (c0 i)) → xn_ns 160 21 I3 A3 N → xk_is A3 N → xw_is I3 A3 [[]] → rz_T w (d + 4) 0 0 m_Mod_goOnAlike 0 0 29 [some (.ref a), some (.int (nI c)), some (.int (nI c2)), some (.int (nI p)), z4, z5] [] (re_put G a I3 A3) Q := by
      intro j
      induction j with
      | zero =>
        intro p N I3 A3 z4 z5 hpj hN i3 a3 hc3 hn3 hk3 hw3
        have hp : p = 6 := by omega
        subst hp
        obtain ⟨q1, q2⟩ := ka_3_r (c := c0) (K := X1) (K' := X2)
        have hN' : ka_3 c0 X1 X2 = N := hN.symm
        rw [hN'] at q1 q2
        have h00 : ∀ x ∈ N, x.1 ∈ ks X1 X2 ∧ x.2 = 0 := fun x hx => by
          obtain ⟨⟨ext, e1, e2⟩, -⟩ := q1
          rw [List.nil_append] at e1
          rw [e1] at hx
          exact ⟨(e2 x hx).2, (e2 x hx).1⟩
        have t3 := re_t_fa t a3 rfl
        have hse := c_Mod_searches (w := w) (d := d) (G := G) (a := a) (B0 := 160) (b0 := 21) (c := c0) (by decide : 0 < 2) (by decide : 0 < 2) t3 t3 w1 w1 (by decide) hn3 hk3 hc3 hw3 (q1.2 (by simp)) (fun x hx => (h00 x hx).2) (by decide)
        have hfin : ∀ (b : Bool) (I5 : Nat → Int32) (A5 : Nat → Nat → Int32) (N5 : List xn_T) (W5 : List (List Nat)), fi [26, 27, 30, 38, 41] I3 I5 → fa [28, 29, 31, 32, 33, 34, 35, 36, 37, 39, 40] A3 A5 → xw_is I5 A5 W5 → xs_end T T c0 N I5 N5 W5 b → Q (some (.int (rz_b (!b)))) (re_put G a I5 A5) := by
          intro b I5 A5 N5 W5 i5 a5 hw5 hend
          have hok : ∀ s ∈ ks X1 X2, xn_ok s := fun s hs => by
            obtain ⟨p, q, u, v, hp, hq, e1, e2, rfl⟩ := ks_mem.mp hs
            have b1 := (h p hp).2.2.2
            have b2 := (h' q hq).2.2.2
            rw [e1] at b1
            rw [e2] at b2
            exact xf_ok hp hq b1 b2
          obtain ⟨k, u, y1, y2, y3, y4⟩ := xs_min (S := ks X1 X2) hrk w1' w1' (fun s hs => ⟨hok s hs, q2 s hs⟩) h00 hw5 hend
          rw [← hQ]
          refine ⟨I5, A5, !b, rfl, rfl, i3.t i5 rfl, a3.t a5 rfl, ?_⟩
          rcases y4 with ⟨rfl, z⟩ | ⟨rfl, z, -⟩
          · exact ⟨fun _ => ⟨hlang, z⟩, fun _ => rfl⟩
          · exact ⟨fun q => (by cases q), fun q => absurd z (q.2 u)⟩
        have hret : ∀ (b : Bool) (z : Int32), z = rz_b (!b) → ∀ (I5 : Nat → Int32) (A5 : Nat → Nat → Int32) (N5 : List xn_T) (W5 : List (List Nat)), fi [26, 27, 30, 38, 41] I3 I5 → fa [28, 29, 31, 32, 33, 34, 35, 36, 37, 39, 40] A3 A5 → xw_is I5 A5 W5 → xs_end T T c0 N I5 N5 W5 b → Q (some (.int z)) (re_put G a I5 A5) := by
          rintro b z rfl; exact hfin b
        refine rz_blk' [(.iload_n 3, 1, 0, 0), (.bipush 6, 2, 0, 0), (.if_icmp .ge 181, 3, 0, 0)] (by decide +kernel) (Nat.le_refl _) (Nat.le_refl _) (fun K R hK hR => ?_)
        simp only [rw_b6, ↓rx_bipush, ↓rx_if_icmp_ge, ↓rx_iload_n3, ↓rx_nil, ↓ry_i2, ↓ry_li0s, ↓ry_li0z, rz_set, rz_nol, rz_clr, List.set_cons_zero, List.set_cons_succ, rz_tr, Nat.reduceAdd, Int.reduceAdd, Int.reduceToNat, Int.reduceSub, Int.reduceNeg, Int.cast_ofNat_Int]
        try simp (disch := omega) only [rb_0, pk_us, pk_un, va_up_self, va_up_ne, nI_add, pk_mul, nI_clamp, vp_inT, nI_ltI, nI_leI, nI_eqI, pk_sub, true_and, and_true]
        refine ⟨fun q1 => hK _ _ _ _ ?_, fun q1 => by omega⟩
        refine rz_blk' [(.aload_n 0, 1, 0, 0), (.iconst 0, 1, 0, 0), (.iconst 0, 1, 0, 0)] (by decide +kernel) (Nat.le_refl _) (Nat.le_refl _) (fun K R hK hR => ?_)
        simp only [rw_c0, ↓rx_aload_n0, ↓rx_iconst, ↓rx_nil, ↓ry_lr0s, ↓ry_lr0z, rz_set, rz_nol, rz_clr, List.set_cons_zero, List.set_cons_succ, rz_tr, Nat.reduceAdd, Int.reduceAdd, Int.reduceToNat, Int.reduceSub, Int.reduceNeg, Int.cast_ofNat_Int]
        try simp (disch := omega) only [rb_0, pk_us, pk_un, va_up_self, va_up_ne, nI_add, pk_mul, nI_clamp, vp_inT, nI_ltI, nI_leI, nI_eqI, pk_sub, true_and, and_true]
        refine hK _ _ _ _ ?_
        refine rz_cV (As := [.int (nI 0), .int (nI 0)]) (b := a) (S := []) l_Mod_306 (by decide +kernel) rfl re_at0 rfl (Nat.le_of_ble_eq_true rfl) (Nat.le_refl _) (Nat.le_refl _) (hse) (fun r G' hr => ?_)
        obtain ⟨I5, A5, N5, W5, b, rfl, rfl, i5, a5, hw5, hl5, hend⟩ := hr
        simp only [Option.toList, List.cons_append, List.nil_append]
        refine rz_blk' [(.ifCond .ne 7, 3, 0, 0)] (by decide +kernel) (Nat.le_refl _) (Nat.le_refl _) (fun K R hK hR => ?_)
        simp only [↓rx_ifCond_ne, ↓rx_nil, ↓ry_i1, rz_set, rz_nol, rz_clr, List.set_cons_zero, List.set_cons_succ, rz_tr, Nat.reduceAdd, Int.reduceAdd, Int.reduceToNat, Int.reduceSub, Int.reduceNeg, Int.cast_ofNat_Int]
        try simp (disch := omega) only [rb_0, pk_us, pk_un, va_up_self, va_up_ne, nI_add, pk_mul, nI_clamp, vp_inT, nI_ltI, nI_leI, nI_eqI, pk_sub, true_and, and_true]
        refine ⟨fun q2 => hK _ _ _ _ ?_, fun q2 => hK _ _ _ _ ?_⟩
        · -- 219 taken
          refine rz_blk' [(.iconst 0, 1, 0, 0), (.ireturn, 1, 0, 0)] (by decide +kernel) (Nat.le_refl _) (Nat.le_refl _) (fun K R hK hR => ?_)
          simp only [rw_c0, ↓rx_iconst, ↓rx_ireturn, ↓rx_nil, rz_set, rz_nol, rz_clr, List.set_cons_zero, List.set_cons_succ, rz_tr, Nat.reduceAdd, Int.reduceAdd, Int.reduceToNat, Int.reduceSub, Int.reduceNeg, Int.cast_ofNat_Int]
          try simp (disch := omega) only [rb_0, pk_us, pk_un, va_up_self, va_up_ne, nI_add, pk_mul, nI_clamp, vp_inT, nI_ltI, nI_leI, nI_eqI, pk_sub, true_and, and_true]
          first
            | exact hR _ _ rz_nb_1 (hret b _ (by rw [(by assumption : b = false)]; rfl) I5 A5 N5 W5 i5 a5 hw5 hend)
            | exact hR _ _ rz_nb_0 (hret b _ (by rw [show b = true by simpa using q2]; rfl) I5 A5 N5 W5 i5 a5 hw5 hend)
        · -- 219 not taken
          refine rz_blk' [(.iconst 1, 1, 0, 0), (.goto 4, 3, 0, 0)] (by decide +kernel) (Nat.le_refl _) (Nat.le_refl _) (fun K R hK hR => ?_)
          simp only [rw_c1, ↓rx_goto, ↓rx_iconst, ↓rx_nil, rz_set, rz_nol, rz_clr, List.set_cons_zero, List.set_cons_succ, rz_tr, Nat.reduceAdd, Int.reduceAdd, Int.reduceToNat, Int.reduceSub, Int.reduceNeg, Int.cast_ofNat_Int]
          try simp (disch := omega) only [rb_0, pk_us, pk_un, va_up_self, va_up_ne, nI_add, pk_mul, nI_clamp, vp_inT, nI_ltI, nI_leI, nI_eqI, pk_sub, true_and, and_true]
          refine hK _ _ _ _ ?_
          refine rz_blk' [(.ireturn, 1, 0, 0)] (by decide +kernel) (Nat.le_refl _) (Nat.le_refl _) (fun K R hK hR => ?_)
          simp only [↓rx_ireturn, ↓rx_nil, rz_set, rz_nol, rz_clr, List.set_cons_zero, List.set_cons_succ, rz_tr, Nat.reduceAdd, Int.reduceAdd, Int.reduceToNat, Int.reduceSub, Int.reduceNeg, Int.cast_ofNat_Int]
          try simp (disch := omega) only [rb_0, pk_us, pk_un, va_up_self, va_up_ne, nI_add, pk_mul, nI_clamp, vp_inT, nI_ltI, nI_leI, nI_eqI, pk_sub, true_and, and_true]
          first
            | exact hR _ _ rz_nb_1 (hret b _ (by rw [(by assumption : b = false)]; rfl) I5 A5 N5 W5 i5 a5 hw5 hend)
            | exact hR _ _ rz_nb_0 (hret b _ (by rw [show b = true by simpa using q2]; rfl) I5 A5 N5 W5 i5 a5 hw5 hend)
      | succ j ihp =>
        intro p N0 I3 A3 z4 z5 hpj hN0 i3 a3 hc3 hn3 hk3 hw3
        have hp6 : p < 6 := by omega
        have ql : ∀ (j q : Nat) (N : List xn_T) (I4 : Nat → Int32) (A4 : Nat → Nat → Int32) (z5 : Option Value), q + j = 6 → N = (List.range q).foldl (ka_1 c0 X1 X2 p) N0 → fi [26, 27, 30, 38, 41, 42] I I4 → fa [25, 28, 29, 31, 32, 33, 34, 35, 36, 37, 39, 40, 43, 44, 45] A A4 → (∀ i, i < 36 → A4 25 i = rz_b (c0 i)) → xn_ns 160 21 I4 A4 N → xk_is A4 N → xw_is I4 A4 [[]] → rz_T w (d + 4) 0 0 m_Mod_goOnAlike 0 0 38 [some (.ref a), some (.int (nI c)), some (.int (nI c2)), some (.int (nI p)), some (.int (nI q)), z5] [] (re_put G a I4 A4) Q := by
          intro j
          induction j with
          | zero =>
            intro q N I4 A4 z5 hqj hN i4 a4 hc4 hn4 hk4 hw4
            have hq : q = 6 := by omega
            subst hq
            refine rz_blk' [(.iload 4, 2, 0, 0), (.bipush 6, 2, 0, 0), (.if_icmp .ge 165, 3, 0, 0)] (by decide +kernel) (Nat.le_refl _) (Nat.le_refl _) (fun K R hK hR => ?_)
            simp only [rw_b6, ↓rx_bipush, ↓rx_if_icmp_ge, ↓rx_iload, ↓rx_nil, ↓ry_i2, ↓ry_li0s, ↓ry_li0z, rz_set, rz_nol, rz_clr, List.set_cons_zero, List.set_cons_succ, rz_tr, Nat.reduceAdd, Int.reduceAdd, Int.reduceToNat, Int.reduceSub, Int.reduceNeg, Int.cast_ofNat_Int]
            try simp (disch := omega) only [pk_us, pk_un, va_up_self, va_up_ne, nI_add, pk_mul, nI_clamp, vp_inT, nI_ltI, nI_leI, nI_eqI, pk_sub, true_and, and_true]
            refine ⟨fun q3 => hK _ _ _ _ ?_, fun q3 => by omega⟩
            refine rz_blk' [(.iinc 3 1, 3, 0, 0)] (by decide +kernel) (Nat.le_refl _) (Nat.le_refl _) (fun K R hK hR => ?_)
            simp only [rw_c1, ↓rx_iinc, ↓rx_nil, ↓ry_li0s, ↓ry_li0z, rz_set, rz_nol, rz_clr, List.set_cons_zero, List.set_cons_succ, rz_tr, Nat.reduceAdd, Int.reduceAdd, Int.reduceToNat, Int.reduceSub, Int.reduceNeg, Int.cast_ofNat_Int]
            try simp (disch := omega) only [pk_us, pk_un, va_up_self, va_up_ne, nI_add, pk_mul, nI_clamp, vp_inT, nI_ltI, nI_leI, nI_eqI, pk_sub, true_and, and_true]
            refine hK _ _ _ _ ?_
            refine rz_blk' [(.goto (-181), 3, 0, 0)] (by decide +kernel) (Nat.le_refl _) (Nat.le_refl _) (fun K R hK hR => ?_)
            simp only [↓rx_goto, ↓rx_nil, rz_set, rz_nol, rz_clr, List.set_cons_zero, List.set_cons_succ, rz_tr, Nat.reduceAdd, Int.reduceAdd, Int.reduceToNat, Int.reduceSub, Int.reduceNeg, Int.cast_ofNat_Int]
            try simp (disch := omega) only [pk_us, pk_un, va_up_self, va_up_ne, nI_add, pk_mul, nI_clamp, vp_inT, nI_ltI, nI_leI, nI_eqI, pk_sub, true_and, and_true]
            refine hK _ _ _ _ ?_
            refine ihp (p + 1) N I4 A4 _ _ (by omega) ?_ i4 a4 hc4 hn4 hk4 hw4
            rw [List.range_succ, List.foldl_append, ← hN0, hN]; rfl
          | succ j ihq =>
            intro q N I4 A4 z5 hqj hN i4 a4 hc4 hn4 hk4 hw4
            have hq6 : q < 6 := by omega
            have g1 := kt_keep h (a4 77 rfl) (a4 78 rfl)
            have g2 := kt_keep h' (a4 77 rfl) (a4 78 rfl)
            obtain ⟨x1, x2, x3, x4⟩ := g1 p hp6
            obtain ⟨y1, y2, y3, y4⟩ := g2 q hq6
            have s1 := kt_os g1 hp6
            have s2 := kt_os g2 hq6
            have hstep : (List.range (q + 1)).foldl (ka_1 c0 X1 X2 p) N0 = ka_1 c0 X1 X2 p N q := by rw [List.range_succ, List.foldl_append, hN]; rfl
            have hskip : (X1 p = none ∨ X2 q = none) → ∀ z5, rz_T w (d + 4) 0 0 m_Mod_goOnAlike 0 0 38 [some (.ref a), some (.int (nI c)), some (.int (nI c2)), some (.int (nI p)), some (.int (nI (q + 1))), z5] [] (re_put G a I4 A4) Q := by
              intro hno z5
              refine ihq (q + 1) N I4 A4 z5 (by omega) ?_ i4 a4 hc4 hn4 hk4 hw4
              rw [hstep]
              unfold ka_1
              rcases hno with e | e
              · rw [e]
              · rw [e]; cases X1 p <;> rfl
            have hfo : ∀ u v, X1 p = some u → X2 q = some v → rz_T w (d + 4) 0 0 m_Mod_goOnAlike 0 0 74 [some (.ref a), some (.int (nI c)), some (.int (nI c2)), some (.int (nI p)), some (.int (nI q)), z5] [] (re_put G a I4 A4) Q := by
              intro u v hu hv
              rw [hu] at x1 x2 x3 x4
              rw [hv] at y1 y2 y3 y4
              have x1 : A4 77 (6 * c + p) = nI u.length := x1
              have y1 : A4 77 (6 * c2 + q) = nI v.length := y1
              simp only [Option.getD_some] at x2 x3 x4 y2 y3 y4
              generalize hJ : upd (upd I4 26 (nI u.length)) 27 (nI v.length) = J
              have hJf : fi [26, 27] I4 J := by rw [← hJ]; exact (fi.rf.u rfl).u rfl
              have hJ26 : J 26 = nI u.length := by rw [← hJ, pk_un (by decide), pk_us]
              have hJ27 : J 27 = nI v.length := by rw [← hJ, pk_us]
              have e1 : ∀ (B : Nat → Nat → Int32) , rz_T w (d + 4) 0 0 m_Mod_goOnAlike 0 0 148 [some (.ref a), some (.int (nI c)), some (.int (nI c2)), some (.int (nI p)), some (.int (nI q)), some (.int (nI (u.length)))] [] (re_put G a J (va_up B 28 (cp (B 28) (0) (B 78) (160 * (6 * c + p)) (u.length)))) Q → rz_T w (d + 4) 0 0 m_Mod_goOnAlike 0 0 108 [some (.ref a), some (.int (nI c)), some (.int (nI c2)), some (.int (nI p)), some (.int (nI q)), some (.int (nI 0))] [] (re_put G a J B) Q := by
                intro B   hx
                have lp : ∀ (cj cx : Nat), cx + cj = u.length → rz_T w (d + 4) 0 0 m_Mod_goOnAlike 0 0 108 [some (.ref a), some (.int (nI c)), some (.int (nI c2)), some (.int (nI p)), some (.int (nI q)), some (.int (nI cx))] [] (re_put G a J (va_up B 28 (cp (B 28) (0) (B 78) (160 * (6 * c + p)) cx))) Q := by
                  intro cj
                  induction cj with
                  | zero =>
                    intro cx hij
                    have hi : cx = u.length := by omega
                    subst hi
                    refine rz_blk' [(.iload 5, 2, 0, 0), (.aload_n 0, 1, 0, 0), (.getfield 253, 3, 10, 26), (.if_icmp .ge 34, 3, 0, 0)] (by decide +kernel) (Nat.le_refl _) (Nat.le_refl _) (fun K R hK hR => ?_)
                    simp only [↓rx_aload_n0, ↓rx_getfield, ↓rx_if_icmp_ge, ↓rx_iload, ↓rx_nil, ↓ry_i2, ↓ry_li0s, ↓ry_li0z, ↓ry_lr0s, ↓ry_lr0z, ↓ry_obu, ↓ry_r1, ↓re_F26, ↓re_ob, hJ26, rz_set, rz_nol, rz_clr, List.set_cons_zero, List.set_cons_succ, rz_tr, Nat.reduceAdd, Int.reduceAdd, Int.reduceToNat, Int.reduceSub, Int.reduceNeg, Int.cast_ofNat_Int]
                    try simp (disch := omega) only [hJ26, pk_us, pk_un, va_up_self, va_up_ne, nI_add, pk_mul, nI_clamp, vp_inT, nI_ltI, nI_leI, nI_eqI, pk_sub, true_and, and_true]
                    refine ⟨fun q4 => hK _ _ _ _ ?_, fun q4 => by omega⟩
                    exact hx
                  | succ cj ih =>
                    intro cx hij
                    refine rz_blk' [(.iload 5, 2, 0, 0), (.aload_n 0, 1, 0, 0), (.getfield 253, 3, 10, 26), (.if_icmp .ge 34, 3, 0, 0)] (by decide +kernel) (Nat.le_refl _) (Nat.le_refl _) (fun K R hK hR => ?_)
                    simp only [↓rx_aload_n0, ↓rx_getfield, ↓rx_if_icmp_ge, ↓rx_iload, ↓rx_nil, ↓ry_i2, ↓ry_li0s, ↓ry_li0z, ↓ry_lr0s, ↓ry_lr0z, ↓ry_obu, ↓ry_r1, ↓re_F26, ↓re_ob, hJ26, rz_set, rz_nol, rz_clr, List.set_cons_zero, List.set_cons_succ, rz_tr, Nat.reduceAdd, Int.reduceAdd, Int.reduceToNat, Int.reduceSub, Int.reduceNeg, Int.cast_ofNat_Int]
                    try simp (disch := omega) only [hJ26, pk_us, pk_un, va_up_self, va_up_ne, nI_add, pk_mul, nI_clamp, vp_inT, nI_ltI, nI_leI, nI_eqI, pk_sub, true_and, and_true]
                    refine ⟨fun q5 => by omega, fun q5 => hK _ _ _ _ ?_⟩
                    refine rz_blk' [(.aload_n 0, 1, 0, 0), (.getfield 83, 3, 10, 28), (.iload 5, 2, 0, 0), (.aload_n 0, 1, 0, 0), (.getfield 194, 3, 10, 78), (.sipush 160, 3, 0, 0), (.bipush 6, 2, 0, 0), (.iload_n 1, 1, 0, 0), (.imul, 1, 0, 0), (.iload_n 3, 1, 0, 0), (.iadd, 1, 0, 0), (.imul, 1, 0, 0), (.iload 5, 2, 0, 0), (.iadd, 1, 0, 0), (.iaload, 1, 0, 0), (.iastore, 1, 0, 0)] (by decide +kernel) (Nat.le_refl _) (Nat.le_refl _) (fun K R hK hR => ?_)
                    simp only [rw_b6, rw_s160, ↓rx_aload_n0, ↓rx_bipush, ↓rx_getfield, ↓rx_iadd, ↓rx_iaload, ↓rx_iastore, ↓rx_iload, ↓rx_iload_n1, ↓rx_iload_n3, ↓rx_imul, ↓rx_nil, ↓rx_sipush, ↓ry_i2, ↓ry_iau, ↓ry_li0s, ↓ry_li0z, ↓ry_lr0s, ↓ry_lr0z, ↓ry_obu, ↓ry_r1, ↓ry_ri, ↓ry_rii, true_and, re_a28, re_a78, ↓re_F28, ↓re_F78, ↓re_i28, ↓re_i78, ↓re_ob, hJ26, rz_set, rz_nol, rz_clr, List.set_cons_zero, List.set_cons_succ, rz_tr, Nat.reduceAdd, Int.reduceAdd, Int.reduceToNat, Int.reduceSub, Int.reduceNeg, Int.cast_ofNat_Int]
                    try simp (disch := omega) only [hJ26, pk_us, pk_un, va_up_self, va_up_ne, nI_add, pk_mul, nI_clamp, vp_inT, nI_ltI, nI_leI, nI_eqI, pk_sub, true_and, and_true]
                    refine hK _ _ _ _ ?_
                    refine rz_blk' [(.iinc 5 1, 3, 0, 0)] (by decide +kernel) (Nat.le_refl _) (Nat.le_refl _) (fun K R hK hR => ?_)
                    simp only [rw_c1, ↓rx_iinc, ↓rx_nil, ↓ry_li0s, ↓ry_li0z, hJ26, rz_set, rz_nol, rz_clr, List.set_cons_zero, List.set_cons_succ, rz_tr, Nat.reduceAdd, Int.reduceAdd, Int.reduceToNat, Int.reduceSub, Int.reduceNeg, Int.cast_ofNat_Int]
                    try simp (disch := omega) only [hJ26, pk_us, pk_un, va_up_self, va_up_ne, nI_add, pk_mul, nI_clamp, vp_inT, nI_ltI, nI_leI, nI_eqI, pk_sub, true_and, and_true]
                    refine hK _ _ _ _ ?_
                    refine rz_blk' [(.goto (-37), 3, 0, 0)] (by decide +kernel) (Nat.le_refl _) (Nat.le_refl _) (fun K R hK hR => ?_)
                    simp only [↓rx_goto, ↓rx_nil, hJ26, rz_set, rz_nol, rz_clr, List.set_cons_zero, List.set_cons_succ, rz_tr, Nat.reduceAdd, Int.reduceAdd, Int.reduceToNat, Int.reduceSub, Int.reduceNeg, Int.cast_ofNat_Int]
                    try simp (disch := omega) only [hJ26, pk_us, pk_un, va_up_self, va_up_ne, nI_add, pk_mul, nI_clamp, vp_inT, nI_ltI, nI_leI, nI_eqI, pk_sub, true_and, and_true]
                    refine hK _ _ _ _ ?_
                    have ih := ih (cx + 1) (by omega)
                    rw [← cp_s] at ih
                    simp only [Nat.zero_add] at ih
                    rw [re_vv]
                    exact ih
                have := lp (u.length) 0 (Nat.zero_add _)
                rw [cp_0, re_ve] at this
                exact this
              have e2 : ∀ (B : Nat → Nat → Int32) , rz_T w (d + 4) 0 0 m_Mod_goOnAlike 0 0 192 [some (.ref a), some (.int (nI c)), some (.int (nI c2)), some (.int (nI p)), some (.int (nI q)), some (.int (nI (v.length)))] [] (re_put G a J (va_up B 29 (cp (B 29) (0) (B 78) (160 * (6 * c2 + q)) (v.length)))) Q → rz_T w (d + 4) 0 0 m_Mod_goOnAlike 0 0 151 [some (.ref a), some (.int (nI c)), some (.int (nI c2)), some (.int (nI p)), some (.int (nI q)), some (.int (nI 0))] [] (re_put G a J B) Q := by
                intro B   hx
                have lp : ∀ (cj cx : Nat), cx + cj = v.length → rz_T w (d + 4) 0 0 m_Mod_goOnAlike 0 0 151 [some (.ref a), some (.int (nI c)), some (.int (nI c2)), some (.int (nI p)), some (.int (nI q)), some (.int (nI cx))] [] (re_put G a J (va_up B 29 (cp (B 29) (0) (B 78) (160 * (6 * c2 + q)) cx))) Q := by
                  intro cj
                  induction cj with
                  | zero =>
                    intro cx hij
                    have hi : cx = v.length := by omega
                    subst hi
                    refine rz_blk' [(.iload 5, 2, 0, 0), (.aload_n 0, 1, 0, 0), (.getfield 256, 3, 10, 27), (.if_icmp .ge 35, 3, 0, 0)] (by decide +kernel) (Nat.le_refl _) (Nat.le_refl _) (fun K R hK hR => ?_)
                    simp only [↓rx_aload_n0, ↓rx_getfield, ↓rx_if_icmp_ge, ↓rx_iload, ↓rx_nil, ↓ry_i2, ↓ry_li0s, ↓ry_li0z, ↓ry_lr0s, ↓ry_lr0z, ↓ry_obu, ↓ry_r1, ↓re_F27, ↓re_ob, hJ27, rz_set, rz_nol, rz_clr, List.set_cons_zero, List.set_cons_succ, rz_tr, Nat.reduceAdd, Int.reduceAdd, Int.reduceToNat, Int.reduceSub, Int.reduceNeg, Int.cast_ofNat_Int]
                    try simp (disch := omega) only [hJ27, pk_us, pk_un, va_up_self, va_up_ne, nI_add, pk_mul, nI_clamp, vp_inT, nI_ltI, nI_leI, nI_eqI, pk_sub, true_and, and_true]
                    refine ⟨fun q6 => hK _ _ _ _ ?_, fun q6 => by omega⟩
                    exact hx
                  | succ cj ih =>
                    intro cx hij
                    refine rz_blk' [(.iload 5, 2, 0, 0), (.aload_n 0, 1, 0, 0), (.getfield 256, 3, 10, 27), (.if_icmp .ge 35, 3, 0, 0)] (by decide +kernel) (Nat.le_refl _) (Nat.le_refl _) (fun K R hK hR => ?_)
                    simp only [↓rx_aload_n0, ↓rx_getfield, ↓rx_if_icmp_ge, ↓rx_iload, ↓rx_nil, ↓ry_i2, ↓ry_li0s, ↓ry_li0z, ↓ry_lr0s, ↓ry_lr0z, ↓ry_obu, ↓ry_r1, ↓re_F27, ↓re_ob, hJ27, rz_set, rz_nol, rz_clr, List.set_cons_zero, List.set_cons_succ, rz_tr, Nat.reduceAdd, Int.reduceAdd, Int.reduceToNat, Int.reduceSub, Int.reduceNeg, Int.cast_ofNat_Int]
                    try simp (disch := omega) only [hJ27, pk_us, pk_un, va_up_self, va_up_ne, nI_add, pk_mul, nI_clamp, vp_inT, nI_ltI, nI_leI, nI_eqI, pk_sub, true_and, and_true]
                    refine ⟨fun q7 => by omega, fun q7 => hK _ _ _ _ ?_⟩
                    refine rz_blk' [(.aload_n 0, 1, 0, 0), (.getfield 86, 3, 10, 29), (.iload 5, 2, 0, 0), (.aload_n 0, 1, 0, 0), (.getfield 194, 3, 10, 78), (.sipush 160, 3, 0, 0), (.bipush 6, 2, 0, 0), (.iload_n 2, 1, 0, 0), (.imul, 1, 0, 0), (.iload 4, 2, 0, 0), (.iadd, 1, 0, 0), (.imul, 1, 0, 0), (.iload 5, 2, 0, 0), (.iadd, 1, 0, 0), (.iaload, 1, 0, 0), (.iastore, 1, 0, 0)] (by decide +kernel) (Nat.le_refl _) (Nat.le_refl _) (fun K R hK hR => ?_)
                    simp only [rw_b6, rw_s160, ↓rx_aload_n0, ↓rx_bipush, ↓rx_getfield, ↓rx_iadd, ↓rx_iaload, ↓rx_iastore, ↓rx_iload, ↓rx_iload_n2, ↓rx_imul, ↓rx_nil, ↓rx_sipush, ↓ry_i2, ↓ry_iau, ↓ry_li0s, ↓ry_li0z, ↓ry_lr0s, ↓ry_lr0z, ↓ry_obu, ↓ry_r1, ↓ry_ri, ↓ry_rii, true_and, re_a29, re_a78, ↓re_F29, ↓re_F78, ↓re_i29, ↓re_i78, ↓re_ob, hJ27, rz_set, rz_nol, rz_clr, List.set_cons_zero, List.set_cons_succ, rz_tr, Nat.reduceAdd, Int.reduceAdd, Int.reduceToNat, Int.reduceSub, Int.reduceNeg, Int.cast_ofNat_Int]
                    try simp (disch := omega) only [hJ27, pk_us, pk_un, va_up_self, va_up_ne, nI_add, pk_mul, nI_clamp, vp_inT, nI_ltI, nI_leI, nI_eqI, pk_sub, true_and, and_true]
                    refine hK _ _ _ _ ?_
                    refine rz_blk' [(.iinc 5 1, 3, 0, 0)] (by decide +kernel) (Nat.le_refl _) (Nat.le_refl _) (fun K R hK hR => ?_)
                    simp only [rw_c1, ↓rx_iinc, ↓rx_nil, ↓ry_li0s, ↓ry_li0z, hJ27, rz_set, rz_nol, rz_clr, List.set_cons_zero, List.set_cons_succ, rz_tr, Nat.reduceAdd, Int.reduceAdd, Int.reduceToNat, Int.reduceSub, Int.reduceNeg, Int.cast_ofNat_Int]
                    try simp (disch := omega) only [hJ27, pk_us, pk_un, va_up_self, va_up_ne, nI_add, pk_mul, nI_clamp, vp_inT, nI_ltI, nI_leI, nI_eqI, pk_sub, true_and, and_true]
                    refine hK _ _ _ _ ?_
                    refine rz_blk' [(.goto (-38), 3, 0, 0)] (by decide +kernel) (Nat.le_refl _) (Nat.le_refl _) (fun K R hK hR => ?_)
                    simp only [↓rx_goto, ↓rx_nil, hJ27, rz_set, rz_nol, rz_clr, List.set_cons_zero, List.set_cons_succ, rz_tr, Nat.reduceAdd, Int.reduceAdd, Int.reduceToNat, Int.reduceSub, Int.reduceNeg, Int.cast_ofNat_Int]
                    try simp (disch := omega) only [hJ27, pk_us, pk_un, va_up_self, va_up_ne, nI_add, pk_mul, nI_clamp, vp_inT, nI_ltI, nI_leI, nI_eqI, pk_sub, true_and, and_true]
                    refine hK _ _ _ _ ?_
                    have ih := ih (cx + 1) (by omega)
                    rw [← cp_s] at ih
                    simp only [Nat.zero_add] at ih
                    rw [re_vv]
                    exact ih
                have := lp (v.length) 0 (Nat.zero_add _)
                rw [cp_0, re_ve] at this
                exact this
              refine rz_blk' [(.aload_n 0, 1, 0, 0), (.aload_n 0, 1, 0, 0), (.getfield 190, 3, 10, 77), (.bipush 6, 2, 0, 0), (.iload_n 1, 1, 0, 0), (.imul, 1, 0, 0), (.iload_n 3, 1, 0, 0), (.iadd, 1, 0, 0), (.iaload, 1, 0, 0), (.putfield 253, 3, 10, 26)] (by decide +kernel) (Nat.le_refl _) (Nat.le_refl _) (fun K R hK hR => ?_)
              simp only [List.length_cons, List.length_nil, Nat.reduceLT, rf_10_26, rw_b6, ↓rx_aload_n0, ↓rx_bipush, ↓rx_getfield, ↓rx_iadd, ↓rx_iaload, ↓rx_iload_n1, ↓rx_iload_n3, ↓rx_imul, ↓rx_nil, ↓rx_putfield, ↓ry_i2, ↓ry_iau, ↓ry_li0s, ↓ry_li0z, ↓ry_lr0s, ↓ry_lr0z, ↓ry_obu, ↓ry_r1, ↓ry_ri, ↓ry_vr, true_and, re_a77, re_len, re_u26, ↓re_F77, ↓re_i77, ↓re_ob, x1, y1, rz_set, rz_nol, rz_clr, List.set_cons_zero, List.set_cons_succ, rz_tr, Nat.reduceAdd, Int.reduceAdd, Int.reduceToNat, Int.reduceSub, Int.reduceNeg, Int.cast_ofNat_Int]
              try simp (disch := omega) only [x1, y1, pk_us, pk_un, va_up_self, va_up_ne, nI_add, pk_mul, nI_clamp, vp_inT, nI_ltI, nI_leI, nI_eqI, pk_sub, true_and, and_true]
              refine hK _ _ _ _ ?_
              refine rz_blk' [(.aload_n 0, 1, 0, 0), (.aload_n 0, 1, 0, 0), (.getfield 190, 3, 10, 77), (.bipush 6, 2, 0, 0), (.iload_n 2, 1, 0, 0), (.imul, 1, 0, 0), (.iload 4, 2, 0, 0), (.iadd, 1, 0, 0), (.iaload, 1, 0, 0), (.putfield 256, 3, 10, 27)] (by decide +kernel) (Nat.le_refl _) (Nat.le_refl _) (fun K R hK hR => ?_)
              simp only [List.length_cons, List.length_nil, Nat.reduceLT, rf_10_27, rw_b6, ↓rx_aload_n0, ↓rx_bipush, ↓rx_getfield, ↓rx_iadd, ↓rx_iaload, ↓rx_iload, ↓rx_iload_n2, ↓rx_imul, ↓rx_nil, ↓rx_putfield, ↓ry_i2, ↓ry_iau, ↓ry_li0s, ↓ry_li0z, ↓ry_lr0s, ↓ry_lr0z, ↓ry_obu, ↓ry_r1, ↓ry_ri, ↓ry_vr, true_and, re_a77, re_len, re_u27, ↓re_F77, ↓re_i77, ↓re_ob, x1, y1, rz_set, rz_nol, rz_clr, List.set_cons_zero, List.set_cons_succ, rz_tr, Nat.reduceAdd, Int.reduceAdd, Int.reduceToNat, Int.reduceSub, Int.reduceNeg, Int.cast_ofNat_Int]
              try simp (disch := omega) only [x1, y1, pk_us, pk_un, va_up_self, va_up_ne, nI_add, pk_mul, nI_clamp, vp_inT, nI_ltI, nI_leI, nI_eqI, pk_sub, true_and, and_true]
              refine hK _ _ _ _ ?_
              refine rz_blk' [(.iconst 0, 1, 0, 0), (.istore 5, 2, 0, 0)] (by decide +kernel) (Nat.le_refl _) (Nat.le_refl _) (fun K R hK hR => ?_)
              simp only [rw_c0, ↓rx_iconst, ↓rx_istore, ↓rx_nil, ↓ry_i1, x1, y1, rz_set, rz_nol, rz_clr, List.set_cons_zero, List.set_cons_succ, rz_tr, Nat.reduceAdd, Int.reduceAdd, Int.reduceToNat, Int.reduceSub, Int.reduceNeg, Int.cast_ofNat_Int]
              try simp (disch := omega) only [x1, y1, pk_us, pk_un, va_up_self, va_up_ne, nI_add, pk_mul, nI_clamp, vp_inT, nI_ltI, nI_leI, nI_eqI, pk_sub, true_and, and_true]
              refine hK _ _ _ _ ?_
              rw [hJ]
              refine e1 A4 ?_
              refine rz_blk' [(.iconst 0, 1, 0, 0), (.istore 5, 2, 0, 0)] (by decide +kernel) (Nat.le_refl _) (Nat.le_refl _) (fun K R hK hR => ?_)
              simp only [rw_c0, ↓rx_iconst, ↓rx_istore, ↓rx_nil, ↓ry_i1, x1, y1, rz_set, rz_nol, rz_clr, List.set_cons_zero, List.set_cons_succ, rz_tr, Nat.reduceAdd, Int.reduceAdd, Int.reduceToNat, Int.reduceSub, Int.reduceNeg, Int.cast_ofNat_Int]
              try simp (disch := omega) only [x1, y1, pk_us, pk_un, va_up_self, va_up_ne, nI_add, pk_mul, nI_clamp, vp_inT, nI_ltI, nI_leI, nI_eqI, pk_sub, true_and, and_true]
              refine hK _ _ _ _ ?_
              refine e2 _ ?_
              generalize hB : va_up A4 28 _ = B
              generalize hD : va_up B 29 _ = D
              have hB28 : B 28 = cp (A4 28) 0 (A4 78) (160 * (6 * c + p)) u.length := by rw [← hB, va_up_self]
              have hBf : fa [28, 29] A4 B := by rw [← hB]; exact fa.rf.u rfl
              have hDf : fa [28, 29] A4 D := by rw [← hD]; exact hBf.u rfl
              have hD29 : D 29 = cp (B 29) 0 (A4 78) (160 * (6 * c2 + q)) v.length := by rw [← hD, va_up_self, hBf 78 rfl]
              have hD28 : D 28 = B 28 := by rw [← hD, va_up_ne _ _ (by decide)]
              have h12 : re_12 J D u v := ⟨hJ26, hJ27, by rw [hD28, hB28]; exact sg_cp x2 (Nat.le_refl _), by rw [hD29]; exact sg_cp y2 (Nat.le_refl _), by omega, by omega, lt8 x4, lt8 y4⟩
              have hfl := c_Mod_follow (w := w) (d := d + 2) (G := G) (a := a) (N := N) (c := c0) (p := p) (q := q) (o := 0) (b := false) (B0 := 160) (b0 := 21) h12 (xn_keep hn4 (hJf 30 rfl) hDf rfl) (xk_keep hk4 hDf rfl) (fun i hi => by rw [hDf 25 rfl]; exact hc4 i hi) hp6 hq6 (by decide) x4 y4 (by omega) (by omega) (by decide)
              clear hB hD
              refine rz_blk' [(.aload_n 0, 1, 0, 0), (.iload_n 3, 1, 0, 0), (.iload 4, 2, 0, 0), (.iconst 0, 1, 0, 0), (.iconst 0, 1, 0, 0)] (by decide +kernel) (Nat.le_refl _) (Nat.le_refl _) (fun K R hK hR => ?_)
              simp only [rw_c0, ↓rx_aload_n0, ↓rx_iconst, ↓rx_iload, ↓rx_iload_n3, ↓rx_nil, ↓ry_li0s, ↓ry_li0z, ↓ry_lr0s, ↓ry_lr0z, rz_set, rz_nol, rz_clr, List.set_cons_zero, List.set_cons_succ, rz_tr, Nat.reduceAdd, Int.reduceAdd, Int.reduceToNat, Int.reduceSub, Int.reduceNeg, Int.cast_ofNat_Int]
              try simp (disch := omega) only [pk_us, pk_un, va_up_self, va_up_ne, nI_add, pk_mul, nI_clamp, vp_inT, nI_ltI, nI_leI, nI_eqI, pk_sub, true_and, and_true]
              refine hK _ _ _ _ ?_
              refine rz_cV (As := [.int (nI p), .int (nI q), .int (rz_b false), .int (nI 0)]) (b := a) (S := []) l_Mod_279 (by decide +kernel) rfl re_at0 rfl (Nat.le_of_ble_eq_true rfl) (Nat.le_refl _) (Nat.le_refl _) (hfl) (fun r G' hr => ?_)
              obtain ⟨rfl, I6, A6, rfl, f1, f2, f3, f4⟩ := hr
              simp only [Option.toList, List.nil_append]
              refine rz_blk' [(.iinc 4 1, 3, 0, 0)] (by decide +kernel) (Nat.le_refl _) (Nat.le_refl _) (fun K R hK hR => ?_)
              simp only [rw_c1, ↓rx_iinc, ↓rx_nil, ↓ry_li0s, ↓ry_li0z, rz_set, rz_nol, rz_clr, List.set_cons_zero, List.set_cons_succ, rz_tr, Nat.reduceAdd, Int.reduceAdd, Int.reduceToNat, Int.reduceSub, Int.reduceNeg, Int.cast_ofNat_Int]
              try simp (disch := omega) only [pk_us, pk_un, va_up_self, va_up_ne, nI_add, pk_mul, nI_clamp, vp_inT, nI_ltI, nI_leI, nI_eqI, pk_sub, true_and, and_true]
              refine hK _ _ _ _ ?_
              refine rz_blk' [(.goto (-166), 3, 0, 0)] (by decide +kernel) (Nat.le_refl _) (Nat.le_refl _) (fun K R hK hR => ?_)
              simp only [↓rx_goto, ↓rx_nil, rz_set, rz_nol, rz_clr, List.set_cons_zero, List.set_cons_succ, rz_tr, Nat.reduceAdd, Int.reduceAdd, Int.reduceToNat, Int.reduceSub, Int.reduceNeg, Int.cast_ofNat_Int]
              try simp (disch := omega) only [pk_us, pk_un, va_up_self, va_up_ne, nI_add, pk_mul, nI_clamp, vp_inT, nI_ltI, nI_leI, nI_eqI, pk_sub, true_and, and_true]
              refine hK _ _ _ _ ?_
              refine ihq (q + 1) _ I6 A6 _ (by omega) (by rw [hstep]; unfold ka_1; rw [hu, hv]) ((i4.t hJf rfl).t f1 rfl) ((a4.t hDf rfl).t f2 rfl) (fun i hi => by rw [f2 25 rfl, hDf 25 rfl]; exact hc4 i hi) f3 f4 (xw_keep hw4 ((f1 38 rfl).trans (hJf 38 rfl)) ((f2 39 rfl).trans (hDf 39 rfl)) ((f2 40 rfl).trans (hDf 40 rfl)))
            refine rz_blk' [(.iload 4, 2, 0, 0), (.bipush 6, 2, 0, 0), (.if_icmp .ge 165, 3, 0, 0)] (by decide +kernel) (Nat.le_refl _) (Nat.le_refl _) (fun K R hK hR => ?_)
            simp only [rw_b6, ↓rx_bipush, ↓rx_if_icmp_ge, ↓rx_iload, ↓rx_nil, ↓ry_i2, ↓ry_li0s, ↓ry_li0z, x1, y1, rz_set, rz_nol, rz_clr, List.set_cons_zero, List.set_cons_succ, rz_tr, Nat.reduceAdd, Int.reduceAdd, Int.reduceToNat, Int.reduceSub, Int.reduceNeg, Int.cast_ofNat_Int]
            try simp (disch := omega) only [x1, y1, s1, s2, pk_us, pk_un, va_up_self, va_up_ne, nI_add, pk_mul, nI_clamp, vp_inT, nI_ltI, nI_leI, nI_eqI, pk_sub, true_and, and_true]
            refine ⟨fun q8 => by omega, fun q8 => hK _ _ _ _ ?_⟩
            refine rz_blk' [(.aload_n 0, 1, 0, 0), (.getfield 190, 3, 10, 77), (.bipush 6, 2, 0, 0), (.iload_n 1, 1, 0, 0), (.imul, 1, 0, 0), (.iload_n 3, 1, 0, 0), (.iadd, 1, 0, 0), (.iaload, 1, 0, 0), (.ifCond .lt 145, 3, 0, 0)] (by decide +kernel) (Nat.le_refl _) (Nat.le_refl _) (fun K R hK hR => ?_)
            simp only [rw_b6, ↓rx_aload_n0, ↓rx_bipush, ↓rx_getfield, ↓rx_iadd, ↓rx_iaload, ↓rx_ifCond_lt, ↓rx_iload_n1, ↓rx_iload_n3, ↓rx_imul, ↓rx_nil, ↓ry_i1, ↓ry_i2, ↓ry_iau, ↓ry_li0s, ↓ry_li0z, ↓ry_lr0s, ↓ry_lr0z, ↓ry_obu, ↓ry_r1, ↓ry_ri, true_and, re_a77, ↓re_F77, ↓re_i77, ↓re_ob, x1, y1, rz_set, rz_nol, rz_clr, List.set_cons_zero, List.set_cons_succ, rz_tr, Nat.reduceAdd, Int.reduceAdd, Int.reduceToNat, Int.reduceSub, Int.reduceNeg, Int.cast_ofNat_Int]
            try simp (disch := omega) only [x1, y1, s1, s2, pk_us, pk_un, va_up_self, va_up_ne, nI_add, pk_mul, nI_clamp, vp_inT, nI_ltI, nI_leI, nI_eqI, pk_sub, true_and, and_true]
            refine ⟨fun q9 => hK _ _ _ _ ?_, fun q9 => hK _ _ _ _ ?_⟩
            · -- 56 taken
              refine rz_blk' [(.iinc 4 1, 3, 0, 0)] (by decide +kernel) (Nat.le_refl _) (Nat.le_refl _) (fun K R hK hR => ?_)
              simp only [rw_c1, ↓rx_iinc, ↓rx_nil, ↓ry_li0s, ↓ry_li0z, x1, y1, rz_set, rz_nol, rz_clr, List.set_cons_zero, List.set_cons_succ, rz_tr, Nat.reduceAdd, Int.reduceAdd, Int.reduceToNat, Int.reduceSub, Int.reduceNeg, Int.cast_ofNat_Int]
              try simp (disch := omega) only [x1, y1, s1, s2, pk_us, pk_un, va_up_self, va_up_ne, nI_add, pk_mul, nI_clamp, vp_inT, nI_ltI, nI_leI, nI_eqI, pk_sub, true_and, and_true]
              refine hK _ _ _ _ ?_
              refine rz_blk' [(.goto (-166), 3, 0, 0)] (by decide +kernel) (Nat.le_refl _) (Nat.le_refl _) (fun K R hK hR => ?_)
              simp only [↓rx_goto, ↓rx_nil, x1, y1, rz_set, rz_nol, rz_clr, List.set_cons_zero, List.set_cons_succ, rz_tr, Nat.reduceAdd, Int.reduceAdd, Int.reduceToNat, Int.reduceSub, Int.reduceNeg, Int.cast_ofNat_Int]
              try simp (disch := omega) only [x1, y1, s1, s2, pk_us, pk_un, va_up_self, va_up_ne, nI_add, pk_mul, nI_clamp, vp_inT, nI_ltI, nI_leI, nI_eqI, pk_sub, true_and, and_true]
              refine hK _ _ _ _ ?_
              first
                | exact hskip (Or.inl q9) _
                | exact hskip (Or.inr q9) _
            · -- 56 not taken
              refine rz_blk' [(.aload_n 0, 1, 0, 0), (.getfield 190, 3, 10, 77), (.bipush 6, 2, 0, 0), (.iload_n 2, 1, 0, 0), (.imul, 1, 0, 0), (.iload 4, 2, 0, 0), (.iadd, 1, 0, 0), (.iaload, 1, 0, 0), (.ifCond .lt 130, 3, 0, 0)] (by decide +kernel) (Nat.le_refl _) (Nat.le_refl _) (fun K R hK hR => ?_)
              simp only [rw_b6, ↓rx_aload_n0, ↓rx_bipush, ↓rx_getfield, ↓rx_iadd, ↓rx_iaload, ↓rx_ifCond_lt, ↓rx_iload, ↓rx_iload_n2, ↓rx_imul, ↓rx_nil, ↓ry_i1, ↓ry_i2, ↓ry_iau, ↓ry_li0s, ↓ry_li0z, ↓ry_lr0s, ↓ry_lr0z, ↓ry_obu, ↓ry_r1, ↓ry_ri, true_and, re_a77, ↓re_F77, ↓re_i77, ↓re_ob, x1, y1, rz_set, rz_nol, rz_clr, List.set_cons_zero, List.set_cons_succ, rz_tr, Nat.reduceAdd, Int.reduceAdd, Int.reduceToNat, Int.reduceSub, Int.reduceNeg, Int.cast_ofNat_Int]
              try simp (disch := omega) only [x1, y1, s1, s2, pk_us, pk_un, va_up_self, va_up_ne, nI_add, pk_mul, nI_clamp, vp_inT, nI_ltI, nI_leI, nI_eqI, pk_sub, true_and, and_true]
              refine ⟨fun q10 => hK _ _ _ _ ?_, fun q10 => hK _ _ _ _ ?_⟩
              · -- 71 taken
                refine rz_blk' [(.iinc 4 1, 3, 0, 0)] (by decide +kernel) (Nat.le_refl _) (Nat.le_refl _) (fun K R hK hR => ?_)
                simp only [rw_c1, ↓rx_iinc, ↓rx_nil, ↓ry_li0s, ↓ry_li0z, x1, y1, rz_set, rz_nol, rz_clr, List.set_cons_zero, List.set_cons_succ, rz_tr, Nat.reduceAdd, Int.reduceAdd, Int.reduceToNat, Int.reduceSub, Int.reduceNeg, Int.cast_ofNat_Int]
                try simp (disch := omega) only [x1, y1, s1, s2, pk_us, pk_un, va_up_self, va_up_ne, nI_add, pk_mul, nI_clamp, vp_inT, nI_ltI, nI_leI, nI_eqI, pk_sub, true_and, and_true]
                refine hK _ _ _ _ ?_
                refine rz_blk' [(.goto (-166), 3, 0, 0)] (by decide +kernel) (Nat.le_refl _) (Nat.le_refl _) (fun K R hK hR => ?_)
                simp only [↓rx_goto, ↓rx_nil, x1, y1, rz_set, rz_nol, rz_clr, List.set_cons_zero, List.set_cons_succ, rz_tr, Nat.reduceAdd, Int.reduceAdd, Int.reduceToNat, Int.reduceSub, Int.reduceNeg, Int.cast_ofNat_Int]
                try simp (disch := omega) only [x1, y1, s1, s2, pk_us, pk_un, va_up_self, va_up_ne, nI_add, pk_mul, nI_clamp, vp_inT, nI_ltI, nI_leI, nI_eqI, pk_sub, true_and, and_true]
                refine hK _ _ _ _ ?_
                first
                  | exact hskip (Or.inl q10) _
                  | exact hskip (Or.inr q10) _
              · -- 71 not taken
                obtain ⟨u, hu⟩ := Option.ne_none_iff_exists'.mp q9
                obtain ⟨v, hv⟩ := Option.ne_none_iff_exists'.mp q10
                exact hfo u v hu hv
        refine rz_blk' [(.iload_n 3, 1, 0, 0), (.bipush 6, 2, 0, 0), (.if_icmp .ge 181, 3, 0, 0)] (by decide +kernel) (Nat.le_refl _) (Nat.le_refl _) (fun K R hK hR => ?_)
        simp only [rw_b6, ↓rx_bipush, ↓rx_if_icmp_ge, ↓rx_iload_n3, ↓rx_nil, ↓ry_i2, ↓ry_li0s, ↓ry_li0z, rz_set, rz_nol, rz_clr, List.set_cons_zero, List.set_cons_succ, rz_tr, Nat.reduceAdd, Int.reduceAdd, Int.reduceToNat, Int.reduceSub, Int.reduceNeg, Int.cast_ofNat_Int]
        try simp (disch := omega) only [pk_us, pk_un, va_up_self, va_up_ne, nI_add, pk_mul, nI_clamp, vp_inT, nI_ltI, nI_leI, nI_eqI, pk_sub, true_and, and_true]
        refine ⟨fun q11 => by omega, fun q11 => hK _ _ _ _ ?_⟩
        refine rz_blk' [(.iconst 0, 1, 0, 0), (.istore 4, 2, 0, 0)] (by decide +kernel) (Nat.le_refl _) (Nat.le_refl _) (fun K R hK hR => ?_)
        simp only [rw_c0, ↓rx_iconst, ↓rx_istore, ↓rx_nil, ↓ry_i1, rz_set, rz_nol, rz_clr, List.set_cons_zero, List.set_cons_succ, rz_tr, Nat.reduceAdd, Int.reduceAdd, Int.reduceToNat, Int.reduceSub, Int.reduceNeg, Int.cast_ofNat_Int]
        try simp (disch := omega) only [pk_us, pk_un, va_up_self, va_up_ne, nI_add, pk_mul, nI_clamp, vp_inT, nI_ltI, nI_leI, nI_eqI, pk_sub, true_and, and_true]
        refine hK _ _ _ _ ?_
        exact ql 6 0 N0 I3 A3 _ rfl rfl i3 a3 hc3 hn3 hk3 hw3
    refine rz_blk' [(.iconst 0, 1, 0, 0), (.istore_n 3, 1, 0, 0)] (by decide +kernel) (Nat.le_refl _) (Nat.le_refl _) (fun K R hK hR => ?_)
    simp only [rw_c0, ↓rx_iconst, ↓rx_istore_n3, ↓rx_nil, ↓ry_i1, rz_set, rz_nol, rz_clr, List.set_cons_zero, List.set_cons_succ, rz_tr, Nat.reduceAdd, Int.reduceAdd, Int.reduceToNat, Int.reduceSub, Int.reduceNeg, Int.cast_ofNat_Int]
    try simp (disch := omega) only [pk_us, pk_un, va_up_self, va_up_ne, nI_add, pk_mul, nI_clamp, vp_inT, nI_ltI, nI_leI, nI_eqI, pk_sub, true_and, and_true]
    refine hK _ _ _ _ ?_
    exact pl 6 0 [] I2 A2 _ _ rfl rfl i2' a2' hcc hn hk hw
  refine rz_enter' [some (.ref a), some (.int (nI c)), some (.int (nI c2)), none, none, none] (by decide +kernel) rfl rfl (Nat.le_of_ble_eq_true rfl) rfl ?_
  refine rz_blk' [(.aload_n 0, 1, 0, 0), (.aload_n 0, 1, 0, 0), (.iload_n 1, 1, 0, 0)] (by decide +kernel) (Nat.le_refl _) (Nat.le_refl _) (fun K R hK hR => ?_)
  simp only [↓rx_aload_n0, ↓rx_iload_n1, ↓rx_nil, ↓ry_li0s, ↓ry_li0z, ↓ry_lr0s, ↓ry_lr0z, rz_set, rz_nol, rz_clr, List.set_cons_zero, List.set_cons_succ, rz_tr, Nat.reduceAdd, Int.reduceAdd, Int.reduceToNat, Int.reduceSub, Int.reduceNeg, Int.cast_ofNat_Int]
  try simp (disch := omega) only [rb_0, pk_us, pk_un, va_up_self, va_up_ne, nI_add, pk_mul, nI_clamp, vp_inT, nI_ltI, nI_leI, nI_eqI, pk_sub, true_and, and_true]
  refine hK _ _ _ _ ?_
  refine rz_cV (As := [.int (nI c)]) (b := a) (S := [.ref a]) l_Mod_373 (by decide +kernel) rfl re_at0 rfl (Nat.le_of_ble_eq_true rfl) (Nat.le_refl _) (Nat.le_refl _) (hs1) (fun r G' hr => ?_)
  obtain ⟨rfl, rfl⟩ := hr
  simp only [Option.toList, List.cons_append, List.nil_append]
  refine rz_blk' [(.aload_n 0, 1, 0, 0), (.iload_n 2, 1, 0, 0)] (by decide +kernel) (Nat.le_refl _) (Nat.le_refl _) (fun K R hK hR => ?_)
  simp only [↓rx_aload_n0, ↓rx_iload_n2, ↓rx_nil, ↓ry_li0s, ↓ry_li0z, ↓ry_lr0s, ↓ry_lr0z, rz_set, rz_nol, rz_clr, List.set_cons_zero, List.set_cons_succ, rz_tr, Nat.reduceAdd, Int.reduceAdd, Int.reduceToNat, Int.reduceSub, Int.reduceNeg, Int.cast_ofNat_Int]
  try simp (disch := omega) only [rb_0, pk_us, pk_un, va_up_self, va_up_ne, nI_add, pk_mul, nI_clamp, vp_inT, nI_ltI, nI_leI, nI_eqI, pk_sub, true_and, and_true]
  refine hK _ _ _ _ ?_
  refine rz_cV (As := [.int (nI c2)]) (b := a) (S := [.int (nI (kb X1)), .ref a]) l_Mod_373 (by decide +kernel) rfl re_at0 rfl (Nat.le_of_ble_eq_true rfl) (Nat.le_refl _) (Nat.le_refl _) (hs2) (fun r G' hr => ?_)
  obtain ⟨rfl, rfl⟩ := hr
  simp only [Option.toList, List.cons_append, List.nil_append]
  refine rz_blk' [(.iconst 0, 1, 0, 0), (.iconst 0, 1, 0, 0)] (by decide +kernel) (Nat.le_refl _) (Nat.le_refl _) (fun K R hK hR => ?_)
  simp only [rw_c0, ↓rx_iconst, ↓rx_nil, rz_set, rz_nol, rz_clr, List.set_cons_zero, List.set_cons_succ, rz_tr, Nat.reduceAdd, Int.reduceAdd, Int.reduceToNat, Int.reduceSub, Int.reduceNeg, Int.cast_ofNat_Int]
  try simp (disch := omega) only [rb_0, pk_us, pk_un, va_up_self, va_up_ne, nI_add, pk_mul, nI_clamp, vp_inT, nI_ltI, nI_leI, nI_eqI, pk_sub, true_and, and_true]
  refine hK _ _ _ _ ?_
  refine rz_cV (As := [.int (nI (kb X1)), .int (nI (kb X2)), .int (nI 0), .int (nI 0)]) (b := a) (S := []) l_Mod_337 (by decide +kernel) rfl re_at0 rfl (Nat.le_of_ble_eq_true rfl) (Nat.le_refl _) (Nat.le_refl _) (hra) (fun r G' hr => ?_)
  obtain ⟨I3, A3, rb, u1, rfl, rfl, i3, a3, x1, W9, k9, -, y2, -, y4⟩ := hr
  have hl9 := (xw_len y2 k9 k9 u1 (Nat.le_refl _) y4).2
  simp only [Option.toList, List.cons_append, List.nil_append]
  refine rz_blk' [(.ifCond .eq 5, 3, 0, 0)] (by decide +kernel) (Nat.le_refl _) (Nat.le_refl _) (fun K R hK hR => ?_)
  simp only [↓rx_ifCond_eq, ↓rx_nil, ↓ry_i1, rz_set, rz_nol, rz_clr, List.set_cons_zero, List.set_cons_succ, rz_tr, Nat.reduceAdd, Int.reduceAdd, Int.reduceToNat, Int.reduceSub, Int.reduceNeg, Int.cast_ofNat_Int]
  try simp (disch := omega) only [rb_0, pk_us, pk_un, va_up_self, va_up_ne, nI_add, pk_mul, nI_clamp, vp_inT, nI_ltI, nI_leI, nI_eqI, pk_sub, true_and, and_true]
  refine ⟨fun q12 => hK _ _ _ _ ?_, fun q12 => hK _ _ _ _ ?_⟩
  · -- 16 taken
    have e : rb = false := q12
    subst e
    refine hgo ?_ I3 A3 (i3.m rfl) (a3.m rfl)
    rcases x1 with ⟨-, q⟩ | ⟨q, -⟩
    · exact q
    · cases q
  · -- 16 not taken
    refine rz_blk' [(.iconst 0, 1, 0, 0), (.ireturn, 1, 0, 0)] (by decide +kernel) (Nat.le_refl _) (Nat.le_refl _) (fun K R hK hR => ?_)
    simp only [rw_c0, ↓rx_iconst, ↓rx_ireturn, ↓rx_nil, rz_set, rz_nol, rz_clr, List.set_cons_zero, List.set_cons_succ, rz_tr, Nat.reduceAdd, Int.reduceAdd, Int.reduceToNat, Int.reduceSub, Int.reduceNeg, Int.cast_ofNat_Int]
    try simp (disch := omega) only [rb_0, pk_us, pk_un, va_up_self, va_up_ne, nI_add, pk_mul, nI_clamp, vp_inT, nI_ltI, nI_leI, nI_eqI, pk_sub, true_and, and_true]
    have e : rb = true := by simpa using q12
    subst e
    refine hR _ _ rz_nb_0 ?_
    rw [← hQ]
    refine ⟨I3, A3, false, rfl, rfl, i3.m rfl, a3.m rfl, fun q => (by cases q), fun q => ?_⟩
    rcases x1 with ⟨q2, -⟩ | ⟨-, q2, -⟩
    · cases q2
    · -- the word u1 tells them apart
      exact absurd (q.1 u1 hl9) q2
