/-! the reference: what it holds; machine, edge, last, first -/
theorem wi_iff {x : Int32} {lo hi : Nat} (hl : lo < 2 ^ 31) (hh : hi < 2 ^ 31) : (decide (nI lo ≤ x) && decide (x ≤ nI hi)) = true ↔ ∃ n, lo ≤ n ∧ n ≤ hi ∧ x = nI n := by
  rw [Bool.and_eq_true, decide_eq_true_eq, decide_eq_true_eq]
  constructor
  · rintro ⟨h1, h2⟩
    have h0 : ¬ x < 0 := fun q => by
      have := nI_pos' (n := lo) hl
      exact Int32.lt_irrefl (Int32.lt_of_le_of_lt (Int32.le_trans this h1) q)
    obtain ⟨n, hn, rfl⟩ := nI_of2 (nI_toInt hh) h0 h2
    exact ⟨n, (nI_leI hl (by omega)).mp h1, hn, rfl⟩
  · rintro ⟨n, h1, h2, rfl⟩
    exact ⟨nI_le h1 (by omega), nI_le h2 hh⟩
theorem wi_m1 {x : Int32} {hi : Nat} (hh : hi < 2 ^ 31) : (decide ((-1 : Int32) ≤ x) && decide (x ≤ nI hi)) = true ↔ x = -1 ∨ ∃ n, n ≤ hi ∧ x = nI n := by
  rw [Bool.and_eq_true, decide_eq_true_eq, decide_eq_true_eq]
  constructor
  · rintro ⟨h1, h2⟩
    by_cases h0 : x < 0
    · left
      apply Int32.toInt_inj.mp
      have a1 : (-1 : Int32).toInt ≤ x.toInt := Int32.le_iff_toInt_le.mp h1
      have a2 : x.toInt < (0 : Int32).toInt := Int32.lt_iff_toInt_lt.mp h0
      have e1 : (-1 : Int32).toInt = -1 := by decide
      have e2 : (0 : Int32).toInt = 0 := by decide
      rw [e1] at a1 ⊢
      rw [e2] at a2
      omega
    · right
      obtain ⟨n, hn, rfl⟩ := nI_of2 (nI_toInt hh) h0 h2
      exact ⟨n, hn, rfl⟩
  · have hm : (-1 : Int32) ≤ nI 0 := by decide
    rintro (rfl | ⟨n, h2, rfl⟩)
    · exact ⟨Int32.le_refl _, Int32.le_trans hm (nI_le (Nat.zero_le _) hh)⟩
    · exact ⟨Int32.le_trans hm (nI_le (Nat.zero_le _) (by omega)), nI_le h2 hh⟩
/-- the length of a final word, or -1 -/
def os : Option (List Nat) → Int32
  | none => -1
  | some xs => nI xs.length
def re_m (A : Nat → Nat → Int32) (k : Nat) (m : mv_T) : Prop :=
  A 1 k = nI m.1 ∧ 1 ≤ m.1 ∧ m.1 ≤ 6 ∧ A 2 k = nI m.2.1.length ∧ m.2.1.length ≤ 24 ∧
  (∀ e (h : e < m.2.1.length), A 3 (24 * k + e) = nI m.2.1[e].1 ∧ A 4 (24 * k + e) = nI m.2.1[e].2.1 ∧ A 5 (24 * k + e) = nI m.2.1[e].2.2.1 ∧ A 6 (24 * k + e) = nI m.2.1[e].2.2.2.length ∧ sg (A 7) (3 * (24 * k + e)) m.2.1[e].2.2.2 ∧ m.2.1[e].1 < m.1 ∧ m.2.1[e].2.1 < 3 ∧ m.2.1[e].2.2.1 < m.1) ∧
  (∀ q, q < 6 → A 8 (6 * k + q) = os (m.2.2.1 q) ∧ sg (A 9) (3 * (6 * k + q)) ((m.2.2.1 q).getD [])) ∧ (∀ q, m.1 ≤ q → m.2.2.1 q = none) ∧ A 10 k = nI m.2.2.2.length ∧ sg (A 11) (3 * k) m.2.2.2 ∧ mv_w3 m
def re_r (I : Nat → Int32) (A : Nat → Nat → Int32) (R : List Nat) : Prop := I 12 = nI R.length ∧ sg (A 13) 0 R ∧ R.length ≤ 4096
def re_w (I : Nat → Int32) (A : Nat → Nat → Int32) (v : sv_T) : Prop :=
  (∃ n, n ≤ 4100 ∧ I 46 = nI n) ∧ I 67 = nI v.2.1.length ∧ v.2.1.length ≤ 40 ∧ I 68 = rz_b (decide (v.2.1.length ≠ 0)) ∧ I 69 = nI v.1.length ∧ v.1.length ≤ 64 ∧ sg (A 70) 0 v.1 ∧
  (∀ i, i < 3 * v.2.1.length → A 71 i = bb_t v.2.2[i]? ∧ A 72 i = nI (bb_w v.2.2[i]?).length ∧ (bb_w v.2.2[i]?).length ≤ 160 ∧ sg (A 73) (160 * i) (bb_w v.2.2[i]?)) ∧
  ∀ i f, v.2.1[i]? = some f → A 74 i = os f ∧ (f.getD []).length ≤ 192 ∧ sg (A 75) (192 * i) (f.getD [])
def rf (I : Nat → Int32) (A : Nat → Nat → Int32) (V : dk_V) : Prop := (∀ k, k < 6 → re_m A k (V.1 k)) ∧ re_r I A V.2.1 ∧ re_w I A V.2.2.1
def re_own (k f x : Nat) : Prop := ((f = 1 ∨ f = 2 ∨ f = 10) ∧ x = k) ∨ ((f = 3 ∨ f = 4 ∨ f = 5 ∨ f = 6) ∧ 24 * k ≤ x ∧ x < 24 * k + 24) ∨ (f = 7 ∧ 72 * k ≤ x ∧ x < 72 * k + 72) ∨ (f = 8 ∧ 6 * k ≤ x ∧ x < 6 * k + 6) ∨ (f = 9 ∧ 18 * k ≤ x ∧ x < 18 * k + 18) ∨ (f = 11 ∧ 3 * k ≤ x ∧ x < 3 * k + 3)
/-- only what belongs to machine k has changed -/
def fm (k : Nat) (A A' : Nat → Nat → Int32) : Prop := ∀ f x, ¬ re_own k f x → A' f x = A f x
theorem fm.rf {k : Nat} {A : Nat → Nat → Int32} : fm k A A := fun _ _ _ => rfl
theorem fm.u {k : Nat} {A A1 : Nat → Nat → Int32} {f x : Nat} {v : Int32} (h : fm k A A1) (ho : re_own k f x) : fm k A (va_up A1 f (upd (A1 f) x v)) := fun f' x' hn => by
  by_cases c : f' = f
  · subst c
    rw [va_up_self]
    by_cases c2 : x' = x
    · subst c2; exact absurd ho hn
    · rw [pk_un c2]; exact h _ _ hn
  · rw [va_up_ne _ _ c]; exact h _ _ hn
theorem re_m_keep {A A' : Nat → Nat → Int32} {k : Nat} {m : mv_T} (h : re_m A k m) (hk : ∀ f x, re_own k f x → A' f x = A f x) : re_m A' k m := by
  obtain ⟨h1, h2, h3, h4, h5, h6, h7, h8, h9, h10, h11⟩ := h
  have w := h11
  obtain ⟨w1, w2, w3, w4⟩ := w
  refine ⟨by rw [hk 1 k (by unfold re_own; omega)]; exact h1, h2, h3, by rw [hk 2 k (by unfold re_own; omega)]; exact h4, h5, fun e he => ?_, fun q hq => ?_, h8, by rw [hk 10 k (by unfold re_own; omega)]; exact h9, h10.k (fun x a b => hk _ _ (by unfold re_own; omega)), h11⟩
  · obtain ⟨a1, a2, a3, a4, a5, a6⟩ := h6 e he
    have l3 := (w1 e he).1
    rw [mv_e_get he] at l3
    exact ⟨by rw [hk 3 _ (by unfold re_own; omega)]; exact a1, by rw [hk 4 _ (by unfold re_own; omega)]; exact a2, by rw [hk 5 _ (by unfold re_own; omega)]; exact a3, by rw [hk 6 _ (by unfold re_own; omega)]; exact a4, a5.k (fun x a b => hk _ _ (by unfold re_own; omega)), a6⟩
  · obtain ⟨a1, a2⟩ := h7 q hq
    refine ⟨by rw [hk 8 _ (by unfold re_own; omega)]; exact a1, a2.k (fun x a b => hk _ _ ?_)⟩
    cases c : m.2.2.1 q with
    | none => rw [c] at b; simp at b; omega
    | some xs =>
      have := (w2 q xs c).1
      rw [c] at b
      simp only [Option.getD_some] at b
      unfold re_own; omega
theorem re_r_keep {I I' : Nat → Int32} {A A' : Nat → Nat → Int32} {R : List Nat} (h : re_r I A R) (hI : I' 12 = I 12) (hA : A' 13 = A 13) : re_r I' A' R := by
  unfold re_r at *; rw [hI, hA]; exact h
theorem re_w_keep {I I' : Nat → Int32} {A A' : Nat → Nat → Int32} {v : sv_T} (h : re_w I A v) (hI : ∀ k, (k = 46 ∨ 67 ≤ k) → k < 70 → I' k = I k) (hA : ∀ k, 70 ≤ k → k < 76 → A' k = A k) : re_w I' A' v := by
  unfold re_w at *
  rw [hI 46 (by decide) (by decide), hI 67 (by decide) (by decide), hI 68 (by decide) (by decide), hI 69 (by decide) (by decide), hA 70 (by decide) (by decide), hA 71 (by decide) (by decide), hA 72 (by decide) (by decide), hA 73 (by decide) (by decide), hA 74 (by decide) (by decide), hA 75 (by decide) (by decide)]
  exact h
theorem re_w_46 {I I' : Nat → Int32} {A A' : Nat → Nat → Int32} {v : sv_T} {n : Nat} (h : re_w I A v) (hn : n ≤ 4100) (h46 : I' 46 = nI n) (hI : ∀ k, 67 ≤ k → k < 70 → I' k = I k) (hA : ∀ k, 70 ≤ k → k < 76 → A' k = A k) : re_w I' A' v := by
  have h1 : re_w (upd I 46 (nI n)) A v := ⟨⟨n, hn, pk_us⟩, by rw [pk_un (by decide), pk_un (by decide), pk_un (by decide)]; exact h.2⟩
  refine re_w_keep h1 (fun k h1 h2 => ?_) hA
  by_cases c : k = 46
  · subst c; rw [h46, pk_us]
  · rw [pk_un c]; exact hI k (by omega) h2
/-- what is told of machine k changes nothing else -/
theorem rf_um {I I' : Nat → Int32} {A A' : Nat → Nat → Int32} {V : dk_V} {k : Nat} {m : mv_T} (h : rf I A V) (hI : ∀ j, j ≠ 0 → I' j = I j) (hf : fm k A A') (hm : re_m A' k m) : rf I' A' (dk_um V k m) := by
  have hne : ∀ f, 12 ≤ f → A' f = A f := fun f hf1 => funext fun x => hf f x (by unfold re_own; omega)
  refine ⟨fun j hj => ?_, re_r_keep h.2.1 (hI _ (by decide)) (hne _ (by decide)), re_w_keep h.2.2 (fun j q _ => hI _ (by omega)) (fun j q _ => hne _ (by omega))⟩
  show re_m A' j (va_up V.1 k m j)
  by_cases c : j = k
  · subst c; rw [va_up_self]; exact hm
  · rw [va_up_ne _ _ c]
    exact re_m_keep (h.1 j hj) (fun f x ho => hf f x (by unfold re_own at *; omega))
theorem rf_keep {I I' : Nat → Int32} {A A' : Nat → Nat → Int32} {V : dk_V} (h : rf I A V) (hI : I' 12 = I 12 ∧ ∀ j, (j = 46 ∨ 67 ≤ j) → j < 70 → I' j = I j) (hA : (∀ j, j < 14 → A' j = A j) ∧ ∀ j, 70 ≤ j → j < 76 → A' j = A j) : rf I' A' V := by
  refine ⟨fun j hj => re_m_keep (h.1 j hj) (fun f x ho => by rw [hA.1 f (by unfold re_own at ho; omega)]), re_r_keep h.2.1 hI.1 (hA.1 13 (by decide)), re_w_keep h.2.2 hI.2 hA.2⟩
theorem rf_0 {I : Nat → Int32} {A : Nat → Nat → Int32} {V : dk_V} {v : Int32} (h : rf I A V) : rf (upd I 0 v) A V := rf_keep h ⟨pk_un (by decide), fun j h1 _ => pk_un (by omega)⟩ ⟨fun _ _ => rfl, fun _ _ _ => rfl⟩
theorem re_sh (x : Int32) {k : Nat} (hk : k < 3) : x >>> (nI (3 * k) &&& 31) &&& nI 7 = nI (x.toBitVec.toNat / 2 ^ (3 * k) % 8) := by
  have e1 : nI (3 * k) &&& 31 = nI (3 * k) := by
    match k, hk with
    | 0, _ => decide
    | 1, _ => decide
    | 2, _ => decide
  have e2 : ((nI (3 * k)).toBitVec.smod 32).toNat = 3 * k := by
    match k, hk with
    | 0, _ => decide
    | 1, _ => decide
    | 2, _ => decide
  rw [e1, pk_and _ 3 (by decide)]
  congr 1
  have e3 : (x >>> nI (3 * k)).toBitVec = x.toBitVec.sshiftRight (3 * k) := by
    show x.toBitVec.sshiftRight' ((nI (3 * k)).toBitVec.smod 32) = _
    rw [BitVec.sshiftRight', e2]
  rw [e3]
  apply Nat.eq_of_testBit_eq
  intro j
  rw [Nat.testBit_mod_two_pow, show (8 : Nat) = 2 ^ 3 from rfl, Nat.testBit_mod_two_pow, Nat.testBit_div_two_pow]
  by_cases c : j < 3
  · simp only [c, decide_true, Bool.true_and]
    have := BitVec.getLsbD_sshiftRight (x := x.toBitVec) (s := 3 * k) (i := j)
    rw [BitVec.getLsbD] at this
    rw [this]
    have h1 : j + 3 * k < 32 := by omega
    rw [show 3 * k + j = j + 3 * k by omega]
    simp [h1, BitVec.getLsbD, show j < 32 by omega]
  · simp [c]
set_option maxRecDepth 100000 in
set_option maxHeartbeats 400000 in
theorem c_Mod_isMachine {w : rz_w} {d : Nat} {G : rz_G} {a : Nat} {I : Nat → Int32} {A : Nat → Nat → Int32} (x : Int32) : rz_C w (d + 2) 0 0 y_Mod_isMachine m_Mod_isMachine [.ref a, .int x] (re_put G a I A) (fun r G' => (∃ k, k < 6 ∧ x = nI k ∧ r = some (.int (rz_b true)) ∧ G' = re_put G a (upd I 0 (nI 0)) A) ∨ (dk_no x ∧ r = some (.int (rz_b false)) ∧ G' = re_put G a (upd I 0 (nI 1)) A)) := by
  have key := wi_iff (x := x) (lo := 0) (hi := 5) (by decide) (by decide)
  refine rz_enter' [some (.ref a), some (.int x)] (by decide +kernel) rfl rfl (Nat.le_of_ble_eq_true rfl) rfl ?_
  refine rz_blk' [(.aload_n 0, 1, 0, 0), (.iload_n 1, 1, 0, 0), (.iconst 0, 1, 0, 0), (.iconst 5, 1, 0, 0)] (by decide +kernel) (Nat.le_refl _) (Nat.le_refl _) (fun K R hK hR => ?_)
  simp only [rw_c0, rw_c5, ↓rx_aload_n0, ↓rx_iconst, ↓rx_iload_n1, ↓rx_nil, ↓ry_li0s, ↓ry_li0z, ↓ry_lr0s, ↓ry_lr0z, rz_set, rz_nol, rz_clr, List.set_cons_zero, List.set_cons_succ, rz_tr, Nat.reduceAdd, Int.reduceAdd, Int.reduceToNat, Int.reduceSub, Int.reduceNeg, Int.cast_ofNat_Int]
  try simp (disch := omega) only [pk_us, pk_un, va_up_self, va_up_ne, nI_add, pk_mul, nI_clamp, vp_inT, nI_ltI, nI_leI, nI_eqI, pk_sub, true_and, and_true]
  refine hK _ _ _ _ ?_
  refine rz_cS (As := [.int x, .int (nI 0), .int (nI 5)]) (S := [.ref a]) l_Mod_210 (by decide +kernel) rfl (Nat.le_of_ble_eq_true rfl) (Nat.le_refl _) (Nat.le_refl _) (c_Mod_within (d := d) _ _ _) (fun r G' hr => ?_)
  obtain ⟨rfl, hg⟩ := hr
  subst hg
  simp only [Option.toList, List.cons_append, List.nil_append]
  refine rz_blk' [(.ifCond .eq 7, 3, 0, 0)] (by decide +kernel) (Nat.le_refl _) (Nat.le_refl _) (fun K R hK hR => ?_)
  simp only [↓rx_ifCond_eq, ↓rx_nil, ↓ry_i1, rz_set, rz_nol, rz_clr, List.set_cons_zero, List.set_cons_succ, rz_tr, Nat.reduceAdd, Int.reduceAdd, Int.reduceToNat, Int.reduceSub, Int.reduceNeg, Int.cast_ofNat_Int]
  try simp (disch := omega) only [pk_us, pk_un, va_up_self, va_up_ne, nI_add, pk_mul, nI_clamp, vp_inT, nI_ltI, nI_leI, nI_eqI, pk_sub, true_and, and_true]
  rw [rz_b_0]
  refine ⟨fun q1 => hK _ _ _ _ ?_, fun q1 => hK _ _ _ _ ?_⟩
  · -- 7 taken
    refine rz_blk' [(.iconst 1, 1, 0, 0)] (by decide +kernel) (Nat.le_refl _) (Nat.le_refl _) (fun K R hK hR => ?_)
    simp only [rw_c1, ↓rx_iconst, ↓rx_nil, rz_set, rz_nol, rz_clr, List.set_cons_zero, List.set_cons_succ, rz_tr, Nat.reduceAdd, Int.reduceAdd, Int.reduceToNat, Int.reduceSub, Int.reduceNeg, Int.cast_ofNat_Int]
    try simp (disch := omega) only [pk_us, pk_un, va_up_self, va_up_ne, nI_add, pk_mul, nI_clamp, vp_inT, nI_ltI, nI_leI, nI_eqI, pk_sub, true_and, and_true]
    refine hK _ _ _ _ ?_
    
    refine rz_blk' [(.putfield 206, 3, 10, 0)] (by decide +kernel) (Nat.le_refl _) (Nat.le_refl _) (fun K R hK hR => ?_)
    simp only [List.length_cons, List.length_nil, Nat.reduceLT, rf_10_0, ↓rx_nil, ↓rx_putfield, ↓ry_obu, ↓ry_vr, true_and, re_len, re_u0, ↓re_ob, rz_set, rz_nol, rz_clr, List.set_cons_zero, List.set_cons_succ, rz_tr, Nat.reduceAdd, Int.reduceAdd, Int.reduceToNat, Int.reduceSub, Int.reduceNeg, Int.cast_ofNat_Int]
    try simp (disch := omega) only [pk_us, pk_un, va_up_self, va_up_ne, nI_add, pk_mul, nI_clamp, vp_inT, nI_ltI, nI_leI, nI_eqI, pk_sub, true_and, and_true]
    refine hK _ _ _ _ ?_
    refine rz_blk' [(.aload_n 0, 1, 0, 0), (.getfield 206, 3, 10, 0), (.ifCond .ne 7, 3, 0, 0)] (by decide +kernel) (Nat.le_refl _) (Nat.le_refl _) (fun K R hK hR => ?_)
    simp only [↓rx_aload_n0, ↓rx_getfield, ↓rx_ifCond_ne, ↓rx_nil, ↓ry_i1, ↓ry_lr0s, ↓ry_lr0z, ↓ry_obu, ↓ry_r1, ↓re_F0, ↓re_ob, rz_set, rz_nol, rz_clr, List.set_cons_zero, List.set_cons_succ, rz_tr, Nat.reduceAdd, Int.reduceAdd, Int.reduceToNat, Int.reduceSub, Int.reduceNeg, Int.cast_ofNat_Int]
    try simp (disch := omega) only [pk_us, pk_un, va_up_self, va_up_ne, nI_add, pk_mul, nI_clamp, vp_inT, nI_ltI, nI_leI, nI_eqI, pk_sub, true_and, and_true]
    
    refine ⟨fun q2 => hK _ _ _ _ ?_, fun q2 => hK _ _ _ _ ?_⟩
    · -- 22 taken
      refine rz_blk' [(.iconst 0, 1, 0, 0), (.ireturn, 1, 0, 0)] (by decide +kernel) (Nat.le_refl _) (Nat.le_refl _) (fun K R hK hR => ?_)
      simp only [rw_c0, ↓rx_iconst, ↓rx_ireturn, ↓rx_nil, rz_set, rz_nol, rz_clr, List.set_cons_zero, List.set_cons_succ, rz_tr, Nat.reduceAdd, Int.reduceAdd, Int.reduceToNat, Int.reduceSub, Int.reduceNeg, Int.cast_ofNat_Int]
      try simp (disch := omega) only [pk_us, pk_un, va_up_self, va_up_ne, nI_add, pk_mul, nI_clamp, vp_inT, nI_ltI, nI_leI, nI_eqI, pk_sub, true_and, and_true]
      first
        | (have ⟨k, _, hk, hx⟩ := key.mp (by simpa using q1)
           exact hR _ _ rz_nb_1 (Or.inl ⟨k, by omega, hx, rfl, rfl⟩))
        | (refine hR _ _ rz_nb_0 (Or.inr ⟨fun k hk hx => ?_, rfl, rfl⟩)
           have := key.mpr ⟨k, Nat.zero_le _, by omega, hx⟩
           rw [q1] at this; cases this)
        | exact absurd rfl (by assumption)
        | (exfalso; revert q2; decide)
        | (exfalso; revert q3; decide)
    · -- 22 not taken
      refine rz_blk' [(.iconst 1, 1, 0, 0), (.goto 4, 3, 0, 0)] (by decide +kernel) (Nat.le_refl _) (Nat.le_refl _) (fun K R hK hR => ?_)
      simp only [rw_c1, ↓rx_goto, ↓rx_iconst, ↓rx_nil, rz_set, rz_nol, rz_clr, List.set_cons_zero, List.set_cons_succ, rz_tr, Nat.reduceAdd, Int.reduceAdd, Int.reduceToNat, Int.reduceSub, Int.reduceNeg, Int.cast_ofNat_Int]
      try simp (disch := omega) only [pk_us, pk_un, va_up_self, va_up_ne, nI_add, pk_mul, nI_clamp, vp_inT, nI_ltI, nI_leI, nI_eqI, pk_sub, true_and, and_true]
      refine hK _ _ _ _ ?_
      refine rz_blk' [(.ireturn, 1, 0, 0)] (by decide +kernel) (Nat.le_refl _) (Nat.le_refl _) (fun K R hK hR => ?_)
      simp only [↓rx_ireturn, ↓rx_nil, rz_set, rz_nol, rz_clr, List.set_cons_zero, List.set_cons_succ, rz_tr, Nat.reduceAdd, Int.reduceAdd, Int.reduceToNat, Int.reduceSub, Int.reduceNeg, Int.cast_ofNat_Int]
      try simp (disch := omega) only [pk_us, pk_un, va_up_self, va_up_ne, nI_add, pk_mul, nI_clamp, vp_inT, nI_ltI, nI_leI, nI_eqI, pk_sub, true_and, and_true]
      first
        | (have ⟨k, _, hk, hx⟩ := key.mp (by simpa using q1)
           exact hR _ _ rz_nb_1 (Or.inl ⟨k, by omega, hx, rfl, rfl⟩))
        | (refine hR _ _ rz_nb_0 (Or.inr ⟨fun k hk hx => ?_, rfl, rfl⟩)
           have := key.mpr ⟨k, Nat.zero_le _, by omega, hx⟩
           rw [q1] at this; cases this)
        | exact absurd rfl (by assumption)
        | (exfalso; revert q2; decide)
        | (exfalso; revert q3; decide)
  · -- 7 not taken
    refine rz_blk' [(.iconst 0, 1, 0, 0), (.goto 4, 3, 0, 0)] (by decide +kernel) (Nat.le_refl _) (Nat.le_refl _) (fun K R hK hR => ?_)
    simp only [rw_c0, ↓rx_goto, ↓rx_iconst, ↓rx_nil, rz_set, rz_nol, rz_clr, List.set_cons_zero, List.set_cons_succ, rz_tr, Nat.reduceAdd, Int.reduceAdd, Int.reduceToNat, Int.reduceSub, Int.reduceNeg, Int.cast_ofNat_Int]
    try simp (disch := omega) only [pk_us, pk_un, va_up_self, va_up_ne, nI_add, pk_mul, nI_clamp, vp_inT, nI_ltI, nI_leI, nI_eqI, pk_sub, true_and, and_true]
    refine hK _ _ _ _ ?_
    
    refine rz_blk' [(.putfield 206, 3, 10, 0)] (by decide +kernel) (Nat.le_refl _) (Nat.le_refl _) (fun K R hK hR => ?_)
    simp only [List.length_cons, List.length_nil, Nat.reduceLT, rf_10_0, ↓rx_nil, ↓rx_putfield, ↓ry_obu, ↓ry_vr, true_and, re_len, re_u0, ↓re_ob, rz_set, rz_nol, rz_clr, List.set_cons_zero, List.set_cons_succ, rz_tr, Nat.reduceAdd, Int.reduceAdd, Int.reduceToNat, Int.reduceSub, Int.reduceNeg, Int.cast_ofNat_Int]
    try simp (disch := omega) only [pk_us, pk_un, va_up_self, va_up_ne, nI_add, pk_mul, nI_clamp, vp_inT, nI_ltI, nI_leI, nI_eqI, pk_sub, true_and, and_true]
    refine hK _ _ _ _ ?_
    refine rz_blk' [(.aload_n 0, 1, 0, 0), (.getfield 206, 3, 10, 0), (.ifCond .ne 7, 3, 0, 0)] (by decide +kernel) (Nat.le_refl _) (Nat.le_refl _) (fun K R hK hR => ?_)
    simp only [↓rx_aload_n0, ↓rx_getfield, ↓rx_ifCond_ne, ↓rx_nil, ↓ry_i1, ↓ry_lr0s, ↓ry_lr0z, ↓ry_obu, ↓ry_r1, ↓re_F0, ↓re_ob, rz_set, rz_nol, rz_clr, List.set_cons_zero, List.set_cons_succ, rz_tr, Nat.reduceAdd, Int.reduceAdd, Int.reduceToNat, Int.reduceSub, Int.reduceNeg, Int.cast_ofNat_Int]
    try simp (disch := omega) only [pk_us, pk_un, va_up_self, va_up_ne, nI_add, pk_mul, nI_clamp, vp_inT, nI_ltI, nI_leI, nI_eqI, pk_sub, true_and, and_true]
    
    refine ⟨fun q3 => hK _ _ _ _ ?_, fun q3 => hK _ _ _ _ ?_⟩
    · -- 22 taken
      refine rz_blk' [(.iconst 0, 1, 0, 0), (.ireturn, 1, 0, 0)] (by decide +kernel) (Nat.le_refl _) (Nat.le_refl _) (fun K R hK hR => ?_)
      simp only [rw_c0, ↓rx_iconst, ↓rx_ireturn, ↓rx_nil, rz_set, rz_nol, rz_clr, List.set_cons_zero, List.set_cons_succ, rz_tr, Nat.reduceAdd, Int.reduceAdd, Int.reduceToNat, Int.reduceSub, Int.reduceNeg, Int.cast_ofNat_Int]
      try simp (disch := omega) only [pk_us, pk_un, va_up_self, va_up_ne, nI_add, pk_mul, nI_clamp, vp_inT, nI_ltI, nI_leI, nI_eqI, pk_sub, true_and, and_true]
      first
        | (have ⟨k, _, hk, hx⟩ := key.mp (by simpa using q1)
           exact hR _ _ rz_nb_1 (Or.inl ⟨k, by omega, hx, rfl, rfl⟩))
        | (refine hR _ _ rz_nb_0 (Or.inr ⟨fun k hk hx => ?_, rfl, rfl⟩)
           have := key.mpr ⟨k, Nat.zero_le _, by omega, hx⟩
           rw [q1] at this; cases this)
        | exact absurd rfl (by assumption)
        | (exfalso; revert q2; decide)
        | (exfalso; revert q3; decide)
    · -- 22 not taken
      refine rz_blk' [(.iconst 1, 1, 0, 0), (.goto 4, 3, 0, 0)] (by decide +kernel) (Nat.le_refl _) (Nat.le_refl _) (fun K R hK hR => ?_)
      simp only [rw_c1, ↓rx_goto, ↓rx_iconst, ↓rx_nil, rz_set, rz_nol, rz_clr, List.set_cons_zero, List.set_cons_succ, rz_tr, Nat.reduceAdd, Int.reduceAdd, Int.reduceToNat, Int.reduceSub, Int.reduceNeg, Int.cast_ofNat_Int]
      try simp (disch := omega) only [pk_us, pk_un, va_up_self, va_up_ne, nI_add, pk_mul, nI_clamp, vp_inT, nI_ltI, nI_leI, nI_eqI, pk_sub, true_and, and_true]
      refine hK _ _ _ _ ?_
      refine rz_blk' [(.ireturn, 1, 0, 0)] (by decide +kernel) (Nat.le_refl _) (Nat.le_refl _) (fun K R hK hR => ?_)
      simp only [↓rx_ireturn, ↓rx_nil, rz_set, rz_nol, rz_clr, List.set_cons_zero, List.set_cons_succ, rz_tr, Nat.reduceAdd, Int.reduceAdd, Int.reduceToNat, Int.reduceSub, Int.reduceNeg, Int.cast_ofNat_Int]
      try simp (disch := omega) only [pk_us, pk_un, va_up_self, va_up_ne, nI_add, pk_mul, nI_clamp, vp_inT, nI_ltI, nI_leI, nI_eqI, pk_sub, true_and, and_true]
      first
        | (have ⟨k, _, hk, hx⟩ := key.mp (by simpa using q1)
           exact hR _ _ rz_nb_1 (Or.inl ⟨k, by omega, hx, rfl, rfl⟩))
        | (refine hR _ _ rz_nb_0 (Or.inr ⟨fun k hk hx => ?_, rfl, rfl⟩)
           have := key.mpr ⟨k, Nat.zero_le _, by omega, hx⟩
           rw [q1] at this; cases this)
        | exact absurd rfl (by assumption)
        | (exfalso; revert q2; decide)
        | (exfalso; revert q3; decide)
set_option maxRecDepth 100000 in
set_option maxHeartbeats 400000 in
theorem c_Mod_machine {w : rz_w} {d : Nat} {G : rz_G} {a : Nat} {I : Nat → Int32} {A : Nat → Nat → Int32} {V : dk_V} (h : rf I A V) (x y : Int32) : rz_C w (d + 3) 0 0 y_Mod_machine m_Mod_machine [.ref a, .int x, .int y] (re_put G a I A) (fun r G' => ∃ I' A', G' = re_put G a I' A' ∧ ((I' 0 = nI 0 ∧ ∃ k n, k < 6 ∧ 1 ≤ n ∧ n ≤ 6 ∧ x = nI k ∧ y = nI n ∧ rf I' A' (dk_um V k (dk_ms n))) ∨ (rf I' A' V ∧ ((I' 0 = nI 1 ∧ dk_no x) ∨ (I' 0 = nI 2 ∧ ¬ dk_no x ∧ ¬ dk_ok6 y))))) := by
  refine rz_enter' [some (.ref a), some (.int x), some (.int y), none] (by decide +kernel) rfl rfl (Nat.le_of_ble_eq_true rfl) rfl ?_
  refine rz_blk' [(.aload_n 0, 1, 0, 0), (.iload_n 1, 1, 0, 0)] (by decide +kernel) (Nat.le_refl _) (Nat.le_refl _) (fun K R hK hR => ?_)
  simp only [↓rx_aload_n0, ↓rx_iload_n1, ↓rx_nil, ↓ry_li0s, ↓ry_li0z, ↓ry_lr0s, ↓ry_lr0z, rz_set, rz_nol, rz_clr, List.set_cons_zero, List.set_cons_succ, rz_tr, Nat.reduceAdd, Int.reduceAdd, Int.reduceToNat, Int.reduceSub, Int.reduceNeg, Int.cast_ofNat_Int]
  try simp (disch := omega) only [pk_us, pk_un, va_up_self, va_up_ne, nI_add, pk_mul, nI_clamp, vp_inT, nI_ltI, nI_leI, nI_eqI, pk_sub, true_and, and_true]
  refine hK _ _ _ _ ?_
  refine rz_cV (As := [.int x]) (b := a) (S := []) l_Mod_214 (by decide +kernel) rfl re_at0 rfl (Nat.le_of_ble_eq_true rfl) (Nat.le_refl _) (Nat.le_refl _) (c_Mod_isMachine (d := d) _) (fun r G' hr => ?_)
  rcases hr with ⟨k, hk, rfl, rfl, hg⟩ | ⟨hno, rfl, hg⟩
  rotate_left
  · subst hg
    simp only [Option.toList, List.cons_append, List.nil_append]
    refine rz_blk' [(.ifCond .ne 4, 3, 0, 0)] (by decide +kernel) (Nat.le_refl _) (Nat.le_refl _) (fun K R hK hR => ?_)
    simp only [↓rx_ifCond_ne, ↓rx_nil, ↓ry_i1, rz_set, rz_nol, rz_clr, List.set_cons_zero, List.set_cons_succ, rz_tr, Nat.reduceAdd, Int.reduceAdd, Int.reduceToNat, Int.reduceSub, Int.reduceNeg, Int.cast_ofNat_Int]
    try simp (disch := omega) only [pk_us, pk_un, va_up_self, va_up_ne, nI_add, pk_mul, nI_clamp, vp_inT, nI_ltI, nI_leI, nI_eqI, pk_sub, true_and, and_true]
    refine ⟨fun q1 => absurd rfl q1, fun q1 => hK _ _ _ _ ?_⟩
    refine rz_blk' [(.return_, 1, 0, 0)] (by decide +kernel) (Nat.le_refl _) (Nat.le_refl _) (fun K R hK hR => ?_)
    simp only [↓rx_nil, ↓rx_return_, rz_set, rz_nol, rz_clr, List.set_cons_zero, List.set_cons_succ, rz_tr, Nat.reduceAdd, Int.reduceAdd, Int.reduceToNat, Int.reduceSub, Int.reduceNeg, Int.cast_ofNat_Int]
    try simp (disch := omega) only [pk_us, pk_un, va_up_self, va_up_ne, nI_add, pk_mul, nI_clamp, vp_inT, nI_ltI, nI_leI, nI_eqI, pk_sub, true_and, and_true]
    exact hR _ _ (rz_nb_i (by decide)) ⟨_, _, rfl, Or.inr ⟨rf_0 h, Or.inl ⟨pk_us, hno⟩⟩⟩
  subst hg
  simp only [Option.toList, List.cons_append, List.nil_append]
  have hnk : ¬ dk_no (nI k) := fun q => q k hk rfl
  have key := wi_iff (x := y) (lo := 1) (hi := 6) (by decide) (by decide)
  have lp : ∀ (j i n : Nat) (A1 : Nat → Nat → Int32), i + j = 6 → 1 ≤ n → n ≤ 6 → y = nI n → fm k A A1 → A1 1 k = nI n → A1 2 k = nI 0 → A1 10 k = nI 0 → (∀ q, q < i → A1 8 (6 * k + q) = -1) → rz_T w (d + 3) 0 0 m_Mod_machine 0 0 48 [some (.ref a), some (.int (nI k)), some (.int y), some (.int (nI i))] [] (re_put G a (upd I 0 (nI 0)) A1) (fun r G' => ∃ I' A', G' = re_put G a I' A' ∧ ((I' 0 = nI 0 ∧ ∃ k' n, k' < 6 ∧ 1 ≤ n ∧ n ≤ 6 ∧ nI k = nI k' ∧ y = nI n ∧ rf I' A' (dk_um V k' (dk_ms n))) ∨ (rf I' A' V ∧ ((I' 0 = nI 1 ∧ dk_no (nI k)) ∨ (I' 0 = nI 2 ∧ ¬ dk_no (nI k) ∧ ¬ dk_ok6 y))))) := by
    intro j
    induction j with
    | zero =>
      intro i n A1 hij hn1 hn6 hy hf e1 e2 e10 e8
      have hi : i = 6 := by omega
      subst hi
      refine rz_blk' [(.iload_n 3, 1, 0, 0), (.bipush 6, 2, 0, 0), (.if_icmp .ge 21, 3, 0, 0)] (by decide +kernel) (Nat.le_refl _) (Nat.le_refl _) (fun K R hK hR => ?_)
      simp only [rw_b6, ↓rx_bipush, ↓rx_if_icmp_ge, ↓rx_iload_n3, ↓rx_nil, ↓ry_i2, ↓ry_li0s, ↓ry_li0z, rz_set, rz_nol, rz_clr, List.set_cons_zero, List.set_cons_succ, rz_tr, Nat.reduceAdd, Int.reduceAdd, Int.reduceToNat, Int.reduceSub, Int.reduceNeg, Int.cast_ofNat_Int]
      try simp (disch := omega) only [pk_us, pk_un, va_up_self, va_up_ne, nI_add, pk_mul, nI_clamp, vp_inT, nI_ltI, nI_leI, nI_eqI, pk_sub, true_and, and_true]
      refine ⟨fun q2 => hK _ _ _ _ ?_, fun q2 => by omega⟩
      refine rz_blk' [(.return_, 1, 0, 0)] (by decide +kernel) (Nat.le_refl _) (Nat.le_refl _) (fun K R hK hR => ?_)
      simp only [↓rx_nil, ↓rx_return_, rz_set, rz_nol, rz_clr, List.set_cons_zero, List.set_cons_succ, rz_tr, Nat.reduceAdd, Int.reduceAdd, Int.reduceToNat, Int.reduceSub, Int.reduceNeg, Int.cast_ofNat_Int]
      try simp (disch := omega) only [pk_us, pk_un, va_up_self, va_up_ne, nI_add, pk_mul, nI_clamp, vp_inT, nI_ltI, nI_leI, nI_eqI, pk_sub, true_and, and_true]
      refine hR _ _ (rz_nb_i (by decide)) ⟨_, _, rfl, Or.inl ⟨pk_us, k, n, hk, hn1, hn6, rfl, hy, rf_um h (fun j hj => pk_un hj) hf ⟨e1, hn1, hn6, e2, by simp [dk_ms], fun e he => (by simp [dk_ms] at he), fun q hq => ⟨e8 q hq, sg_nil⟩, fun _ _ => rfl, e10, sg_nil, fun e he => (by simp [dk_ms] at he), fun q xs c => (by simp [dk_ms] at c), by simp [dk_ms], by simp [dk_ms]⟩⟩⟩
    | succ j ih =>
      intro i n A1 hij hn1 hn6 hy hf e1 e2 e10 e8
      refine rz_blk' [(.iload_n 3, 1, 0, 0), (.bipush 6, 2, 0, 0), (.if_icmp .ge 21, 3, 0, 0)] (by decide +kernel) (Nat.le_refl _) (Nat.le_refl _) (fun K R hK hR => ?_)
      simp only [rw_b6, ↓rx_bipush, ↓rx_if_icmp_ge, ↓rx_iload_n3, ↓rx_nil, ↓ry_i2, ↓ry_li0s, ↓ry_li0z, rz_set, rz_nol, rz_clr, List.set_cons_zero, List.set_cons_succ, rz_tr, Nat.reduceAdd, Int.reduceAdd, Int.reduceToNat, Int.reduceSub, Int.reduceNeg, Int.cast_ofNat_Int]
      try simp (disch := omega) only [pk_us, pk_un, va_up_self, va_up_ne, nI_add, pk_mul, nI_clamp, vp_inT, nI_ltI, nI_leI, nI_eqI, pk_sub, true_and, and_true]
      refine ⟨fun q3 => by omega, fun q3 => hK _ _ _ _ ?_⟩
      refine rz_blk' [(.aload_n 0, 1, 0, 0), (.getfield 31, 3, 10, 8), (.bipush 6, 2, 0, 0), (.iload_n 1, 1, 0, 0), (.imul, 1, 0, 0), (.iload_n 3, 1, 0, 0), (.iadd, 1, 0, 0), (.iconst (-1), 1, 0, 0), (.iastore, 1, 0, 0)] (by decide +kernel) (Nat.le_refl _) (Nat.le_refl _) (fun K R hK hR => ?_)
      simp only [rw_b6, rw_cm1, ↓rx_aload_n0, ↓rx_bipush, ↓rx_getfield, ↓rx_iadd, ↓rx_iastore, ↓rx_iconst, ↓rx_iload_n1, ↓rx_iload_n3, ↓rx_imul, ↓rx_nil, ↓ry_i2, ↓ry_iau, ↓ry_li0s, ↓ry_li0z, ↓ry_lr0s, ↓ry_lr0z, ↓ry_obu, ↓ry_r1, ↓ry_rii, true_and, re_a8, ↓re_F8, ↓re_i8, ↓re_ob, rz_set, rz_nol, rz_clr, List.set_cons_zero, List.set_cons_succ, rz_tr, Nat.reduceAdd, Int.reduceAdd, Int.reduceToNat, Int.reduceSub, Int.reduceNeg, Int.cast_ofNat_Int]
      try simp (disch := omega) only [pk_us, pk_un, va_up_self, va_up_ne, nI_add, pk_mul, nI_clamp, vp_inT, nI_ltI, nI_leI, nI_eqI, pk_sub, true_and, and_true]
      refine hK _ _ _ _ ?_
      refine rz_blk' [(.iinc 3 1, 3, 0, 0)] (by decide +kernel) (Nat.le_refl _) (Nat.le_refl _) (fun K R hK hR => ?_)
      simp only [rw_c1, ↓rx_iinc, ↓rx_nil, ↓ry_li0s, ↓ry_li0z, rz_set, rz_nol, rz_clr, List.set_cons_zero, List.set_cons_succ, rz_tr, Nat.reduceAdd, Int.reduceAdd, Int.reduceToNat, Int.reduceSub, Int.reduceNeg, Int.cast_ofNat_Int]
      try simp (disch := omega) only [pk_us, pk_un, va_up_self, va_up_ne, nI_add, pk_mul, nI_clamp, vp_inT, nI_ltI, nI_leI, nI_eqI, pk_sub, true_and, and_true]
      refine hK _ _ _ _ ?_
      refine rz_blk' [(.goto (-21), 3, 0, 0)] (by decide +kernel) (Nat.le_refl _) (Nat.le_refl _) (fun K R hK hR => ?_)
      simp only [↓rx_goto, ↓rx_nil, rz_set, rz_nol, rz_clr, List.set_cons_zero, List.set_cons_succ, rz_tr, Nat.reduceAdd, Int.reduceAdd, Int.reduceToNat, Int.reduceSub, Int.reduceNeg, Int.cast_ofNat_Int]
      try simp (disch := omega) only [pk_us, pk_un, va_up_self, va_up_ne, nI_add, pk_mul, nI_clamp, vp_inT, nI_ltI, nI_leI, nI_eqI, pk_sub, true_and, and_true]
      refine hK _ _ _ _ ?_
      refine ih (i + 1) n _ (by omega) hn1 hn6 hy (hf.u (by unfold re_own; omega)) ?_ ?_ ?_ (fun q hq => ?_)
      · rw [va_up_ne _ _ (by decide)]; exact e1
      · rw [va_up_ne _ _ (by decide)]; exact e2
      · rw [va_up_ne _ _ (by decide)]; exact e10
      · rw [va_up_self]
        by_cases c : q = i
        · subst c; rw [pk_us]
        · rw [pk_un (by omega)]; exact e8 q (by omega)
  refine rz_blk' [(.ifCond .ne 4, 3, 0, 0)] (by decide +kernel) (Nat.le_refl _) (Nat.le_refl _) (fun K R hK hR => ?_)
  simp only [↓rx_ifCond_ne, ↓rx_nil, ↓ry_i1, rz_set, rz_nol, rz_clr, List.set_cons_zero, List.set_cons_succ, rz_tr, Nat.reduceAdd, Int.reduceAdd, Int.reduceToNat, Int.reduceSub, Int.reduceNeg, Int.cast_ofNat_Int]
  try simp (disch := omega) only [pk_us, pk_un, va_up_self, va_up_ne, nI_add, pk_mul, nI_clamp, vp_inT, nI_ltI, nI_leI, nI_eqI, pk_sub, true_and, and_true]
  refine ⟨fun q4 => hK _ _ _ _ ?_, fun q4 => absurd q4 (show ¬ rz_b true = 0 by decide)⟩
  refine rz_blk' [(.iload_n 2, 1, 0, 0), (.iconst 1, 1, 0, 0), (.bipush 6, 2, 0, 0)] (by decide +kernel) (Nat.le_refl _) (Nat.le_refl _) (fun K R hK hR => ?_)
  simp only [rw_b6, rw_c1, ↓rx_bipush, ↓rx_iconst, ↓rx_iload_n2, ↓rx_nil, ↓ry_li0s, ↓ry_li0z, rz_set, rz_nol, rz_clr, List.set_cons_zero, List.set_cons_succ, rz_tr, Nat.reduceAdd, Int.reduceAdd, Int.reduceToNat, Int.reduceSub, Int.reduceNeg, Int.cast_ofNat_Int]
  try simp (disch := omega) only [pk_us, pk_un, va_up_self, va_up_ne, nI_add, pk_mul, nI_clamp, vp_inT, nI_ltI, nI_leI, nI_eqI, pk_sub, true_and, and_true]
  refine hK _ _ _ _ ?_
  refine rz_cS (As := [.int y, .int (nI 1), .int (nI 6)]) (S := []) l_Mod_210 (by decide +kernel) rfl (Nat.le_of_ble_eq_true rfl) (Nat.le_refl _) (Nat.le_refl _) (c_Mod_within (d := d + 1) _ _ _) (fun r G' hr => ?_)
  obtain ⟨rfl, hg⟩ := hr
  subst hg
  simp only [Option.toList, List.cons_append, List.nil_append]
  refine rz_blk' [(.ifCond .ne 9, 3, 0, 0)] (by decide +kernel) (Nat.le_refl _) (Nat.le_refl _) (fun K R hK hR => ?_)
  simp only [↓rx_ifCond_ne, ↓rx_nil, ↓ry_i1, rz_set, rz_nol, rz_clr, List.set_cons_zero, List.set_cons_succ, rz_tr, Nat.reduceAdd, Int.reduceAdd, Int.reduceToNat, Int.reduceSub, Int.reduceNeg, Int.cast_ofNat_Int]
  try simp (disch := omega) only [pk_us, pk_un, va_up_self, va_up_ne, nI_add, pk_mul, nI_clamp, vp_inT, nI_ltI, nI_leI, nI_eqI, pk_sub, true_and, and_true]
  rw [rz_b_0]
  refine ⟨fun q5 => hK _ _ _ _ ?_, fun q5 => hK _ _ _ _ ?_⟩
  · -- 16 taken
    obtain ⟨n, hn1, hn6, hy⟩ := key.mp (by simpa using q5)
    refine rz_blk' [(.aload_n 0, 1, 0, 0), (.getfield 7, 3, 10, 1), (.iload_n 1, 1, 0, 0), (.iload_n 2, 1, 0, 0), (.iastore, 1, 0, 0)] (by decide +kernel) (Nat.le_refl _) (Nat.le_refl _) (fun K R hK hR => ?_)
    simp only [↓rx_aload_n0, ↓rx_getfield, ↓rx_iastore, ↓rx_iload_n1, ↓rx_iload_n2, ↓rx_nil, ↓ry_iau, ↓ry_li0s, ↓ry_li0z, ↓ry_lr0s, ↓ry_lr0z, ↓ry_obu, ↓ry_r1, ↓ry_rii, true_and, re_a1, ↓re_F1, ↓re_i1, ↓re_ob, rz_set, rz_nol, rz_clr, List.set_cons_zero, List.set_cons_succ, rz_tr, Nat.reduceAdd, Int.reduceAdd, Int.reduceToNat, Int.reduceSub, Int.reduceNeg, Int.cast_ofNat_Int]
    try simp (disch := omega) only [pk_us, pk_un, va_up_self, va_up_ne, nI_add, pk_mul, nI_clamp, vp_inT, nI_ltI, nI_leI, nI_eqI, pk_sub, true_and, and_true]
    refine hK _ _ _ _ ?_
    refine rz_blk' [(.aload_n 0, 1, 0, 0), (.getfield 13, 3, 10, 2), (.iload_n 1, 1, 0, 0), (.iconst 0, 1, 0, 0), (.iastore, 1, 0, 0)] (by decide +kernel) (Nat.le_refl _) (Nat.le_refl _) (fun K R hK hR => ?_)
    simp only [rw_c0, ↓rx_aload_n0, ↓rx_getfield, ↓rx_iastore, ↓rx_iconst, ↓rx_iload_n1, ↓rx_nil, ↓ry_iau, ↓ry_li0s, ↓ry_li0z, ↓ry_lr0s, ↓ry_lr0z, ↓ry_obu, ↓ry_r1, ↓ry_rii, true_and, re_a2, ↓re_F2, ↓re_i2, ↓re_ob, rz_set, rz_nol, rz_clr, List.set_cons_zero, List.set_cons_succ, rz_tr, Nat.reduceAdd, Int.reduceAdd, Int.reduceToNat, Int.reduceSub, Int.reduceNeg, Int.cast_ofNat_Int]
    try simp (disch := omega) only [pk_us, pk_un, va_up_self, va_up_ne, nI_add, pk_mul, nI_clamp, vp_inT, nI_ltI, nI_leI, nI_eqI, pk_sub, true_and, and_true]
    refine hK _ _ _ _ ?_
    refine rz_blk' [(.aload_n 0, 1, 0, 0), (.getfield 37, 3, 10, 10), (.iload_n 1, 1, 0, 0), (.iconst 0, 1, 0, 0), (.iastore, 1, 0, 0)] (by decide +kernel) (Nat.le_refl _) (Nat.le_refl _) (fun K R hK hR => ?_)
    simp only [rw_c0, ↓rx_aload_n0, ↓rx_getfield, ↓rx_iastore, ↓rx_iconst, ↓rx_iload_n1, ↓rx_nil, ↓ry_iau, ↓ry_li0s, ↓ry_li0z, ↓ry_lr0s, ↓ry_lr0z, ↓ry_obu, ↓ry_r1, ↓ry_rii, true_and, re_a10, ↓re_F10, ↓re_i10, ↓re_ob, rz_set, rz_nol, rz_clr, List.set_cons_zero, List.set_cons_succ, rz_tr, Nat.reduceAdd, Int.reduceAdd, Int.reduceToNat, Int.reduceSub, Int.reduceNeg, Int.cast_ofNat_Int]
    try simp (disch := omega) only [pk_us, pk_un, va_up_self, va_up_ne, nI_add, pk_mul, nI_clamp, vp_inT, nI_ltI, nI_leI, nI_eqI, pk_sub, true_and, and_true]
    refine hK _ _ _ _ ?_
    refine rz_blk' [(.iconst 0, 1, 0, 0), (.istore_n 3, 1, 0, 0)] (by decide +kernel) (Nat.le_refl _) (Nat.le_refl _) (fun K R hK hR => ?_)
    simp only [rw_c0, ↓rx_iconst, ↓rx_istore_n3, ↓rx_nil, ↓ry_i1, rz_set, rz_nol, rz_clr, List.set_cons_zero, List.set_cons_succ, rz_tr, Nat.reduceAdd, Int.reduceAdd, Int.reduceToNat, Int.reduceSub, Int.reduceNeg, Int.cast_ofNat_Int]
    try simp (disch := omega) only [pk_us, pk_un, va_up_self, va_up_ne, nI_add, pk_mul, nI_clamp, vp_inT, nI_ltI, nI_leI, nI_eqI, pk_sub, true_and, and_true]
    refine hK _ _ _ _ ?_
    refine lp 6 0 n _ rfl hn1 hn6 hy (((fm.rf.u (by unfold re_own; omega)).u (by unfold re_own; omega)).u (by unfold re_own; omega)) ?_ ?_ ?_ (fun q hq => absurd hq (Nat.not_lt_zero _))
    · simp [va_up]; rw [pk_us]; exact hy
    · simp [va_up]; rw [pk_us]
    · simp [va_up]; rw [pk_us]
  · -- 16 not taken
    refine rz_blk' [(.aload_n 0, 1, 0, 0), (.iconst 2, 1, 0, 0), (.putfield 206, 3, 10, 0)] (by decide +kernel) (Nat.le_refl _) (Nat.le_refl _) (fun K R hK hR => ?_)
    simp only [List.length_cons, List.length_nil, Nat.reduceLT, rf_10_0, rw_c2, ↓rx_aload_n0, ↓rx_iconst, ↓rx_nil, ↓rx_putfield, ↓ry_lr0s, ↓ry_lr0z, ↓ry_obu, ↓ry_vr, true_and, re_len, re_u0, ↓re_ob, rz_set, rz_nol, rz_clr, List.set_cons_zero, List.set_cons_succ, rz_tr, Nat.reduceAdd, Int.reduceAdd, Int.reduceToNat, Int.reduceSub, Int.reduceNeg, Int.cast_ofNat_Int]
    try simp (disch := omega) only [pk_us, pk_un, va_up_self, va_up_ne, nI_add, pk_mul, nI_clamp, vp_inT, nI_ltI, nI_leI, nI_eqI, pk_sub, true_and, and_true]
    refine hK _ _ _ _ ?_
    refine rz_blk' [(.return_, 1, 0, 0)] (by decide +kernel) (Nat.le_refl _) (Nat.le_refl _) (fun K R hK hR => ?_)
    simp only [↓rx_nil, ↓rx_return_, rz_set, rz_nol, rz_clr, List.set_cons_zero, List.set_cons_succ, rz_tr, Nat.reduceAdd, Int.reduceAdd, Int.reduceToNat, Int.reduceSub, Int.reduceNeg, Int.cast_ofNat_Int]
    try simp (disch := omega) only [pk_us, pk_un, va_up_self, va_up_ne, nI_add, pk_mul, nI_clamp, vp_inT, nI_ltI, nI_leI, nI_eqI, pk_sub, true_and, and_true]
    refine hR _ _ (rz_nb_i (by decide)) ⟨_, _, rfl, Or.inr ⟨rf_0 (rf_0 h), Or.inr ⟨pk_us, hnk, fun ⟨n, h1, h2, hy⟩ => ?_⟩⟩⟩
    rw [key.mpr ⟨n, h1, h2, hy⟩] at q5
    cases q5
