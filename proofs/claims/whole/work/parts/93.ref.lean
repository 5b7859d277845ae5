/-! the reference: take -/
theorem nar_0 : vp_nar .boolean (nI 0) = nI 0 := by decide
theorem nar_1 : vp_nar .boolean (nI 1) = nI 1 := by decide
theorem nar_b {b : Bool} : vp_nar .boolean (rz_b b) = rz_b b := by cases b; exact nar_0; exact nar_1
theorem re_vv {B : Nat → Nat → Int32} {k : Nat} {g g' : Nat → Int32} : va_up (va_up B k g) k g' = va_up B k g' := by
  funext j; by_cases c : j = k
  · subst c; rw [va_up_self, va_up_self]
  · rw [va_up_ne _ _ c, va_up_ne _ _ c, va_up_ne _ _ c]
theorem re_ve {B : Nat → Nat → Int32} {k : Nat} : va_up B k (B k) = B := by
  funext j; by_cases c : j = k
  · subst c; rw [va_up_self]
  · rw [va_up_ne _ _ c]
/-- what take() lays down of a machine: useful states, edges between them, their final words, the first word -/
def tk (m : mv_T) : mv_T := (al m, m.2.1.filter (fun e => (al m).testBit e.1 && (al m).testBit e.2.2.1), fun q => if (al m).testBit q then m.2.2.1 q else none, m.2.2.2)
def tw (T : mv_T) (b : Nat) : Prop := T.1 < 64 ∧ T.2.1.length ≤ 24 ∧ (∀ e, e ∈ T.2.1 → e.1 < 6 ∧ e.2.1 < 3 ∧ e.2.2.1 < 6 ∧ e.2.2.2.length ≤ b ∧ ∀ x ∈ e.2.2.2, x < 8) ∧ (∀ q, 6 ≤ q → T.2.2.1 q = none) ∧ (∀ q xs, T.2.2.1 q = some xs → xs.length ≤ b ∧ ∀ x ∈ xs, x < 8) ∧ T.2.2.2.length ≤ b ∧ ∀ x ∈ T.2.2.2, x < 8
theorem tk_tw {m : mv_T} (h : wf m) : tw (tk m) 3 := by
  obtain ⟨h1, h6, h24, he, hn, hf, hs⟩ := id h
  refine ⟨al_64 h, Nat.le_trans (List.length_filter_le _ _) h24, fun e hx => ?_, fun q hq => ?_, fun q xs hx => ?_, hs⟩
  · have := he e (List.mem_filter.mp hx).1
    exact ⟨by omega, this.2.1, by omega, this.2.2.2⟩
  · show (if (al m).testBit q then m.2.2.1 q else none) = none
    rw [hn q (by omega)]; split <;> rfl
  · have hx : (if (al m).testBit q then m.2.2.1 q else none) = some xs := hx
    split at hx
    · exact hf q xs hx
    · cases hx
def re_t (A : Nat → Nat → Int32) (h : Nat) (T : mv_T) : Prop :=
  (∀ q, q < 6 → A 14 (6 * h + q) = rz_b (T.1.testBit q)) ∧ A 15 h = nI T.2.1.length ∧
  (∀ f (hf : f < T.2.1.length), A 16 (24 * h + f) = nI T.2.1[f].1 ∧ A 17 (24 * h + f) = nI T.2.1[f].2.1 ∧ A 18 (24 * h + f) = nI T.2.1[f].2.2.1 ∧ A 19 (24 * h + f) = nI T.2.1[f].2.2.2.length ∧ sg (A 20) (32 * (24 * h + f)) T.2.1[f].2.2.2) ∧
  (∀ q, q < 6 → A 21 (6 * h + q) = os (T.2.2.1 q) ∧ sg (A 22) (32 * (6 * h + q)) ((T.2.2.1 q).getD [])) ∧ A 23 h = nI T.2.2.2.length ∧ sg (A 24) (32 * h) T.2.2.2
def th_own (h f x : Nat) : Prop := ((f = 14 ∨ f = 21) ∧ 6 * h ≤ x ∧ x < 6 * h + 6) ∨ ((f = 15 ∨ f = 23) ∧ x = h) ∨ ((f = 16 ∨ f = 17 ∨ f = 18 ∨ f = 19) ∧ 24 * h ≤ x ∧ x < 24 * h + 24) ∨ (f = 20 ∧ 768 * h ≤ x ∧ x < 768 * h + 768) ∨ (f = 22 ∧ 192 * h ≤ x ∧ x < 192 * h + 192) ∨ (f = 24 ∧ 32 * h ≤ x ∧ x < 32 * h + 32)
/-- only what belongs to half h has changed -/
def ft (h : Nat) (A A' : Nat → Nat → Int32) : Prop := ∀ f x, ¬ th_own h f x → A' f x = A f x
theorem ft.rf {h : Nat} {A : Nat → Nat → Int32} : ft h A A := fun _ _ _ => rfl
theorem ft.t {h : Nat} {A A1 A2 : Nat → Nat → Int32} (x : ft h A A1) (y : ft h A1 A2) : ft h A A2 := fun f z hn => (y f z hn).trans (x f z hn)
theorem ft.u {h : Nat} {A A1 : Nat → Nat → Int32} {f : Nat} {g : Nat → Int32} (x : ft h A A1) (hg : ∀ z, ¬ th_own h f z → g z = A1 f z) : ft h A (va_up A1 f g) := fun f' z hn => by
  by_cases c : f' = f
  · subst c; rw [va_up_self, hg z hn]; exact x _ _ hn
  · rw [va_up_ne _ _ c]; exact x _ _ hn
theorem ft.fa {h : Nat} {A A' : Nat → Nat → Int32} (x : ft h A A') : ∀ f, (f < 14 ∨ 24 < f) → A' f = A f := fun f hf => funext fun z => x f z (by unfold th_own; omega)
theorem tw_e {T : mv_T} {b f : Nat} (h : tw T b) (hf : f < T.2.1.length) : T.2.1[f].1 < 6 ∧ T.2.1[f].2.1 < 3 ∧ T.2.1[f].2.2.1 < 6 ∧ T.2.1[f].2.2.2.length ≤ b ∧ ∀ x ∈ T.2.1[f].2.2.2, x < 8 := h.2.2.1 _ (List.getElem_mem _)
theorem tw_f {T : mv_T} {b q : Nat} (h : tw T b) : ((T.2.2.1 q).getD []).length ≤ b := by
  cases c : T.2.2.1 q with
  | none => simp
  | some xs => exact (h.2.2.2.2.1 q xs c).1
theorem re_t_keep {A A' : Nat → Nat → Int32} {h : Nat} {T : mv_T} (ht : re_t A h T) (hw : tw T 32) (hk : ∀ f x, th_own h f x → A' f x = A f x) : re_t A' h T := by
  obtain ⟨h1, h2, h3, h4, h5, h6⟩ := ht
  have h24 := hw.2.1
  refine ⟨fun q hq => by rw [hk 14 _ (by unfold th_own; omega)]; exact h1 q hq, by rw [hk 15 _ (by unfold th_own; omega)]; exact h2, fun f hf => ?_, fun q hq => ?_, by rw [hk 23 _ (by unfold th_own; omega)]; exact h5, h6.k (fun x a b => hk _ _ (by have := hw.2.2.2.2.2.1; unfold th_own; omega))⟩
  · obtain ⟨a1, a2, a3, a4, a5⟩ := h3 f hf
    have := tw_e hw hf
    exact ⟨by rw [hk 16 _ (by unfold th_own; omega)]; exact a1, by rw [hk 17 _ (by unfold th_own; omega)]; exact a2, by rw [hk 18 _ (by unfold th_own; omega)]; exact a3, by rw [hk 19 _ (by unfold th_own; omega)]; exact a4, a5.k (fun x a b => hk _ _ (by unfold th_own; omega))⟩
  · have := tw_f (q := q) hw
    exact ⟨by rw [hk 21 _ (by unfold th_own; omega)]; exact (h4 q hq).1, (h4 q hq).2.k (fun x a b => hk _ _ (by unfold th_own; omega))⟩
set_option maxRecDepth 100000 in
set_option maxHeartbeats 400000 in
theorem c_Mod_take {w : rz_w} {d : Nat} {G : rz_G} {a : Nat} {I : Nat → Int32} {A : Nat → Nat → Int32} {m : mv_T} {k hh : Nat} (hk : k < 6) (hh2 : hh < 2) (h : re_m A k m) : rz_C w (d + 2) 0 0 y_Mod_take m_Mod_take [.ref a, .int (nI k), .int (nI hh)] (re_put G a I A) (fun (r : Option Value) (G' : rz_G) => r = none ∧ ∃ A', G' = re_put G a I A' ∧ ft hh A A' ∧ re_t A' hh (tk m)) := by
  generalize hQ : (fun (r : Option Value) (G' : rz_G) => r = none ∧ ∃ A', G' = re_put G a I A' ∧ ft hh A A' ∧ re_t A' hh (tk m)) = Q
  have hwf := re_m_wf h
  have h64 := al_64 hwf
  have htw := tk_tw hwf
  obtain ⟨m1, m2, m3, m4, m5, m6, m7, m8, m9, m10, m11⟩ := id h
  have c1 : ∀ (B : Nat → Nat → Int32) (s : Nat) (z6 : Option Value), s < 6 → rz_T w (d + 2) 0 0 m_Mod_take 0 0 143 [some (.ref a), some (.int (nI k)), some (.int (nI hh)), some (.int (nI (al m))), some (.int (nI s)), some (.int (nI (3))), z6] [] (re_put G a I (va_up B 22 (cp (B 22) (32 * (6 * hh + s)) (B 9) (3 * (6 * k + s)) (3)))) Q → rz_T w (d + 2) 0 0 m_Mod_take 0 0 96 [some (.ref a), some (.int (nI k)), some (.int (nI hh)), some (.int (nI (al m))), some (.int (nI s)), some (.int (nI 0)), z6] [] (re_put G a I B) Q := by
    intro B s z6 hs hx
    have lp : ∀ (cj cx : Nat), cx + cj = 3 → rz_T w (d + 2) 0 0 m_Mod_take 0 0 96 [some (.ref a), some (.int (nI k)), some (.int (nI hh)), some (.int (nI (al m))), some (.int (nI s)), some (.int (nI cx)), z6] [] (re_put G a I (va_up B 22 (cp (B 22) (32 * (6 * hh + s)) (B 9) (3 * (6 * k + s)) cx))) Q := by
      intro cj
      induction cj with
      | zero =>
        intro cx hij
        have hi : cx = 3 := by omega
        subst hi
        refine rz_blk' [(.iload 5, 2, 0, 0), (.iconst 3, 1, 0, 0), (.if_icmp .ge 44, 3, 0, 0)] (by decide +kernel) (Nat.le_refl _) (Nat.le_refl _) (fun K R hK hR => ?_)
        simp only [rw_c3, ↓rx_iconst, ↓rx_if_icmp_ge, ↓rx_iload, ↓rx_nil, ↓ry_i2, ↓ry_li0s, ↓ry_li0z, rz_set, rz_nol, rz_clr, List.set_cons_zero, List.set_cons_succ, rz_tr, Nat.reduceAdd, Int.reduceAdd, Int.reduceToNat, Int.reduceSub, Int.reduceNeg, Int.cast_ofNat_Int]
        try simp (disch := omega) only [pk_us, pk_un, va_up_self, va_up_ne, nI_add, pk_mul, nI_clamp, vp_inT, nI_ltI, nI_leI, nI_eqI, pk_sub, true_and, and_true]
        refine ⟨fun q1 => hK _ _ _ _ ?_, fun q1 => by omega⟩
        exact hx
      | succ cj ih =>
        intro cx hij
        refine rz_blk' [(.iload 5, 2, 0, 0), (.iconst 3, 1, 0, 0), (.if_icmp .ge 44, 3, 0, 0)] (by decide +kernel) (Nat.le_refl _) (Nat.le_refl _) (fun K R hK hR => ?_)
        simp only [rw_c3, ↓rx_iconst, ↓rx_if_icmp_ge, ↓rx_iload, ↓rx_nil, ↓ry_i2, ↓ry_li0s, ↓ry_li0z, rz_set, rz_nol, rz_clr, List.set_cons_zero, List.set_cons_succ, rz_tr, Nat.reduceAdd, Int.reduceAdd, Int.reduceToNat, Int.reduceSub, Int.reduceNeg, Int.cast_ofNat_Int]
        try simp (disch := omega) only [pk_us, pk_un, va_up_self, va_up_ne, nI_add, pk_mul, nI_clamp, vp_inT, nI_ltI, nI_leI, nI_eqI, pk_sub, true_and, and_true]
        refine ⟨fun q2 => by omega, fun q2 => hK _ _ _ _ ?_⟩
        refine rz_blk' [(.aload_n 0, 1, 0, 0), (.getfield 71, 3, 10, 22), (.bipush 32, 2, 0, 0), (.bipush 6, 2, 0, 0), (.iload_n 2, 1, 0, 0), (.imul, 1, 0, 0), (.iload 4, 2, 0, 0), (.iadd, 1, 0, 0), (.imul, 1, 0, 0), (.iload 5, 2, 0, 0), (.iadd, 1, 0, 0), (.aload_n 0, 1, 0, 0), (.getfield 34, 3, 10, 9), (.iconst 3, 1, 0, 0), (.bipush 6, 2, 0, 0), (.iload_n 1, 1, 0, 0), (.imul, 1, 0, 0), (.iload 4, 2, 0, 0), (.iadd, 1, 0, 0), (.imul, 1, 0, 0), (.iload 5, 2, 0, 0), (.iadd, 1, 0, 0), (.iaload, 1, 0, 0), (.iastore, 1, 0, 0)] (by decide +kernel) (Nat.le_refl _) (Nat.le_refl _) (fun K R hK hR => ?_)
        simp only [rw_b32, rw_b6, rw_c3, ↓rx_aload_n0, ↓rx_bipush, ↓rx_getfield, ↓rx_iadd, ↓rx_iaload, ↓rx_iastore, ↓rx_iconst, ↓rx_iload, ↓rx_iload_n1, ↓rx_iload_n2, ↓rx_imul, ↓rx_nil, ↓ry_i2, ↓ry_iau, ↓ry_li0s, ↓ry_li0z, ↓ry_lr0s, ↓ry_lr0z, ↓ry_obu, ↓ry_r1, ↓ry_ri, ↓ry_rii, true_and, re_a22, re_a9, ↓re_F22, ↓re_F9, ↓re_i22, ↓re_i9, ↓re_ob, rz_set, rz_nol, rz_clr, List.set_cons_zero, List.set_cons_succ, rz_tr, Nat.reduceAdd, Int.reduceAdd, Int.reduceToNat, Int.reduceSub, Int.reduceNeg, Int.cast_ofNat_Int]
        try simp (disch := omega) only [pk_us, pk_un, va_up_self, va_up_ne, nI_add, pk_mul, nI_clamp, vp_inT, nI_ltI, nI_leI, nI_eqI, pk_sub, true_and, and_true]
        refine hK _ _ _ _ ?_
        refine rz_blk' [(.iinc 5 1, 3, 0, 0)] (by decide +kernel) (Nat.le_refl _) (Nat.le_refl _) (fun K R hK hR => ?_)
        simp only [rw_c1, ↓rx_iinc, ↓rx_nil, ↓ry_li0s, ↓ry_li0z, rz_set, rz_nol, rz_clr, List.set_cons_zero, List.set_cons_succ, rz_tr, Nat.reduceAdd, Int.reduceAdd, Int.reduceToNat, Int.reduceSub, Int.reduceNeg, Int.cast_ofNat_Int]
        try simp (disch := omega) only [pk_us, pk_un, va_up_self, va_up_ne, nI_add, pk_mul, nI_clamp, vp_inT, nI_ltI, nI_leI, nI_eqI, pk_sub, true_and, and_true]
        refine hK _ _ _ _ ?_
        refine rz_blk' [(.goto (-44), 3, 0, 0)] (by decide +kernel) (Nat.le_refl _) (Nat.le_refl _) (fun K R hK hR => ?_)
        simp only [↓rx_goto, ↓rx_nil, rz_set, rz_nol, rz_clr, List.set_cons_zero, List.set_cons_succ, rz_tr, Nat.reduceAdd, Int.reduceAdd, Int.reduceToNat, Int.reduceSub, Int.reduceNeg, Int.cast_ofNat_Int]
        try simp (disch := omega) only [pk_us, pk_un, va_up_self, va_up_ne, nI_add, pk_mul, nI_clamp, vp_inT, nI_ltI, nI_leI, nI_eqI, pk_sub, true_and, and_true]
        refine hK _ _ _ _ ?_
        have ih := ih (cx + 1) (by omega)
        rw [← cp_s] at ih
        rw [re_vv]
        exact ih
    have := lp (3) 0 (Nat.zero_add _)
    rw [cp_0, re_ve] at this
    exact this
  have c2 : ∀ (B : Nat → Nat → Int32) (z5 z6 : Option Value), rz_T w (d + 2) 0 0 m_Mod_take 0 0 199 [some (.ref a), some (.int (nI k)), some (.int (nI hh)), some (.int (nI (al m))), some (.int (nI (3))), z5, z6] [] (re_put G a I (va_up B 24 (cp (B 24) (32 * hh) (B 11) (3 * k) (3)))) Q → rz_T w (d + 2) 0 0 m_Mod_take 0 0 164 [some (.ref a), some (.int (nI k)), some (.int (nI hh)), some (.int (nI (al m))), some (.int (nI 0)), z5, z6] [] (re_put G a I B) Q := by
    intro B z5 z6  hx
    have lp : ∀ (cj cx : Nat), cx + cj = 3 → rz_T w (d + 2) 0 0 m_Mod_take 0 0 164 [some (.ref a), some (.int (nI k)), some (.int (nI hh)), some (.int (nI (al m))), some (.int (nI cx)), z5, z6] [] (re_put G a I (va_up B 24 (cp (B 24) (32 * hh) (B 11) (3 * k) cx))) Q := by
      intro cj
      induction cj with
      | zero =>
        intro cx hij
        have hi : cx = 3 := by omega
        subst hi
        refine rz_blk' [(.iload 4, 2, 0, 0), (.iconst 3, 1, 0, 0), (.if_icmp .ge 32, 3, 0, 0)] (by decide +kernel) (Nat.le_refl _) (Nat.le_refl _) (fun K R hK hR => ?_)
        simp only [rw_c3, ↓rx_iconst, ↓rx_if_icmp_ge, ↓rx_iload, ↓rx_nil, ↓ry_i2, ↓ry_li0s, ↓ry_li0z, rz_set, rz_nol, rz_clr, List.set_cons_zero, List.set_cons_succ, rz_tr, Nat.reduceAdd, Int.reduceAdd, Int.reduceToNat, Int.reduceSub, Int.reduceNeg, Int.cast_ofNat_Int]
        try simp (disch := omega) only [pk_us, pk_un, va_up_self, va_up_ne, nI_add, pk_mul, nI_clamp, vp_inT, nI_ltI, nI_leI, nI_eqI, pk_sub, true_and, and_true]
        refine ⟨fun q3 => hK _ _ _ _ ?_, fun q3 => by omega⟩
        exact hx
      | succ cj ih =>
        intro cx hij
        refine rz_blk' [(.iload 4, 2, 0, 0), (.iconst 3, 1, 0, 0), (.if_icmp .ge 32, 3, 0, 0)] (by decide +kernel) (Nat.le_refl _) (Nat.le_refl _) (fun K R hK hR => ?_)
        simp only [rw_c3, ↓rx_iconst, ↓rx_if_icmp_ge, ↓rx_iload, ↓rx_nil, ↓ry_i2, ↓ry_li0s, ↓ry_li0z, rz_set, rz_nol, rz_clr, List.set_cons_zero, List.set_cons_succ, rz_tr, Nat.reduceAdd, Int.reduceAdd, Int.reduceToNat, Int.reduceSub, Int.reduceNeg, Int.cast_ofNat_Int]
        try simp (disch := omega) only [pk_us, pk_un, va_up_self, va_up_ne, nI_add, pk_mul, nI_clamp, vp_inT, nI_ltI, nI_leI, nI_eqI, pk_sub, true_and, and_true]
        refine ⟨fun q4 => by omega, fun q4 => hK _ _ _ _ ?_⟩
        refine rz_blk' [(.aload_n 0, 1, 0, 0), (.getfield 77, 3, 10, 24), (.bipush 32, 2, 0, 0), (.iload_n 2, 1, 0, 0), (.imul, 1, 0, 0), (.iload 4, 2, 0, 0), (.iadd, 1, 0, 0), (.aload_n 0, 1, 0, 0), (.getfield 40, 3, 10, 11), (.iconst 3, 1, 0, 0), (.iload_n 1, 1, 0, 0), (.imul, 1, 0, 0), (.iload 4, 2, 0, 0), (.iadd, 1, 0, 0), (.iaload, 1, 0, 0), (.iastore, 1, 0, 0)] (by decide +kernel) (Nat.le_refl _) (Nat.le_refl _) (fun K R hK hR => ?_)
        simp only [rw_b32, rw_c3, ↓rx_aload_n0, ↓rx_bipush, ↓rx_getfield, ↓rx_iadd, ↓rx_iaload, ↓rx_iastore, ↓rx_iconst, ↓rx_iload, ↓rx_iload_n1, ↓rx_iload_n2, ↓rx_imul, ↓rx_nil, ↓ry_i2, ↓ry_iau, ↓ry_li0s, ↓ry_li0z, ↓ry_lr0s, ↓ry_lr0z, ↓ry_obu, ↓ry_r1, ↓ry_ri, ↓ry_rii, true_and, re_a11, re_a24, ↓re_F11, ↓re_F24, ↓re_i11, ↓re_i24, ↓re_ob, rz_set, rz_nol, rz_clr, List.set_cons_zero, List.set_cons_succ, rz_tr, Nat.reduceAdd, Int.reduceAdd, Int.reduceToNat, Int.reduceSub, Int.reduceNeg, Int.cast_ofNat_Int]
        try simp (disch := omega) only [pk_us, pk_un, va_up_self, va_up_ne, nI_add, pk_mul, nI_clamp, vp_inT, nI_ltI, nI_leI, nI_eqI, pk_sub, true_and, and_true]
        refine hK _ _ _ _ ?_
        refine rz_blk' [(.iinc 4 1, 3, 0, 0)] (by decide +kernel) (Nat.le_refl _) (Nat.le_refl _) (fun K R hK hR => ?_)
        simp only [rw_c1, ↓rx_iinc, ↓rx_nil, ↓ry_li0s, ↓ry_li0z, rz_set, rz_nol, rz_clr, List.set_cons_zero, List.set_cons_succ, rz_tr, Nat.reduceAdd, Int.reduceAdd, Int.reduceToNat, Int.reduceSub, Int.reduceNeg, Int.cast_ofNat_Int]
        try simp (disch := omega) only [pk_us, pk_un, va_up_self, va_up_ne, nI_add, pk_mul, nI_clamp, vp_inT, nI_ltI, nI_leI, nI_eqI, pk_sub, true_and, and_true]
        refine hK _ _ _ _ ?_
        refine rz_blk' [(.goto (-32), 3, 0, 0)] (by decide +kernel) (Nat.le_refl _) (Nat.le_refl _) (fun K R hK hR => ?_)
        simp only [↓rx_goto, ↓rx_nil, rz_set, rz_nol, rz_clr, List.set_cons_zero, List.set_cons_succ, rz_tr, Nat.reduceAdd, Int.reduceAdd, Int.reduceToNat, Int.reduceSub, Int.reduceNeg, Int.cast_ofNat_Int]
        try simp (disch := omega) only [pk_us, pk_un, va_up_self, va_up_ne, nI_add, pk_mul, nI_clamp, vp_inT, nI_ltI, nI_leI, nI_eqI, pk_sub, true_and, and_true]
        refine hK _ _ _ _ ?_
        have ih := ih (cx + 1) (by omega)
        rw [← cp_s] at ih
        rw [re_vv]
        exact ih
    have := lp (3) 0 (Nat.zero_add _)
    rw [cp_0, re_ve] at this
    exact this
  have c3 : ∀ (B : Nat → Nat → Int32) (e f : Nat), e < 144 → f < 48 → rz_T w (d + 2) 0 0 m_Mod_take 0 0 360 [some (.ref a), some (.int (nI k)), some (.int (nI hh)), some (.int (nI (al m))), some (.int (nI e)), some (.int (nI f)), some (.int (nI (3)))] [] (re_put G a I (va_up B 20 (cp (B 20) (32 * f) (B 7) (3 * e) (3)))) Q → rz_T w (d + 2) 0 0 m_Mod_take 0 0 323 [some (.ref a), some (.int (nI k)), some (.int (nI hh)), some (.int (nI (al m))), some (.int (nI e)), some (.int (nI f)), some (.int (nI 0))] [] (re_put G a I B) Q := by
    intro B e f he hf hx
    have lp : ∀ (cj cx : Nat), cx + cj = 3 → rz_T w (d + 2) 0 0 m_Mod_take 0 0 323 [some (.ref a), some (.int (nI k)), some (.int (nI hh)), some (.int (nI (al m))), some (.int (nI e)), some (.int (nI f)), some (.int (nI cx))] [] (re_put G a I (va_up B 20 (cp (B 20) (32 * f) (B 7) (3 * e) cx))) Q := by
      intro cj
      induction cj with
      | zero =>
        intro cx hij
        have hi : cx = 3 := by omega
        subst hi
        refine rz_blk' [(.iload 6, 2, 0, 0), (.iconst 3, 1, 0, 0), (.if_icmp .ge 34, 3, 0, 0)] (by decide +kernel) (Nat.le_refl _) (Nat.le_refl _) (fun K R hK hR => ?_)
        simp only [rw_c3, ↓rx_iconst, ↓rx_if_icmp_ge, ↓rx_iload, ↓rx_nil, ↓ry_i2, ↓ry_li0s, ↓ry_li0z, rz_set, rz_nol, rz_clr, List.set_cons_zero, List.set_cons_succ, rz_tr, Nat.reduceAdd, Int.reduceAdd, Int.reduceToNat, Int.reduceSub, Int.reduceNeg, Int.cast_ofNat_Int]
        try simp (disch := omega) only [pk_us, pk_un, va_up_self, va_up_ne, nI_add, pk_mul, nI_clamp, vp_inT, nI_ltI, nI_leI, nI_eqI, pk_sub, true_and, and_true]
        refine ⟨fun q5 => hK _ _ _ _ ?_, fun q5 => by omega⟩
        exact hx
      | succ cj ih =>
        intro cx hij
        refine rz_blk' [(.iload 6, 2, 0, 0), (.iconst 3, 1, 0, 0), (.if_icmp .ge 34, 3, 0, 0)] (by decide +kernel) (Nat.le_refl _) (Nat.le_refl _) (fun K R hK hR => ?_)
        simp only [rw_c3, ↓rx_iconst, ↓rx_if_icmp_ge, ↓rx_iload, ↓rx_nil, ↓ry_i2, ↓ry_li0s, ↓ry_li0z, rz_set, rz_nol, rz_clr, List.set_cons_zero, List.set_cons_succ, rz_tr, Nat.reduceAdd, Int.reduceAdd, Int.reduceToNat, Int.reduceSub, Int.reduceNeg, Int.cast_ofNat_Int]
        try simp (disch := omega) only [pk_us, pk_un, va_up_self, va_up_ne, nI_add, pk_mul, nI_clamp, vp_inT, nI_ltI, nI_leI, nI_eqI, pk_sub, true_and, and_true]
        refine ⟨fun q6 => by omega, fun q6 => hK _ _ _ _ ?_⟩
        refine rz_blk' [(.aload_n 0, 1, 0, 0), (.getfield 65, 3, 10, 20), (.bipush 32, 2, 0, 0), (.iload 5, 2, 0, 0), (.imul, 1, 0, 0), (.iload 6, 2, 0, 0), (.iadd, 1, 0, 0), (.aload_n 0, 1, 0, 0), (.getfield 28, 3, 10, 7), (.iconst 3, 1, 0, 0), (.iload 4, 2, 0, 0), (.imul, 1, 0, 0), (.iload 6, 2, 0, 0), (.iadd, 1, 0, 0), (.iaload, 1, 0, 0), (.iastore, 1, 0, 0)] (by decide +kernel) (Nat.le_refl _) (Nat.le_refl _) (fun K R hK hR => ?_)
        simp only [rw_b32, rw_c3, ↓rx_aload_n0, ↓rx_bipush, ↓rx_getfield, ↓rx_iadd, ↓rx_iaload, ↓rx_iastore, ↓rx_iconst, ↓rx_iload, ↓rx_imul, ↓rx_nil, ↓ry_i2, ↓ry_iau, ↓ry_li0s, ↓ry_li0z, ↓ry_lr0s, ↓ry_lr0z, ↓ry_obu, ↓ry_r1, ↓ry_ri, ↓ry_rii, true_and, re_a20, re_a7, ↓re_F20, ↓re_F7, ↓re_i20, ↓re_i7, ↓re_ob, rz_set, rz_nol, rz_clr, List.set_cons_zero, List.set_cons_succ, rz_tr, Nat.reduceAdd, Int.reduceAdd, Int.reduceToNat, Int.reduceSub, Int.reduceNeg, Int.cast_ofNat_Int]
        try simp (disch := omega) only [pk_us, pk_un, va_up_self, va_up_ne, nI_add, pk_mul, nI_clamp, vp_inT, nI_ltI, nI_leI, nI_eqI, pk_sub, true_and, and_true]
        refine hK _ _ _ _ ?_
        refine rz_blk' [(.iinc 6 1, 3, 0, 0)] (by decide +kernel) (Nat.le_refl _) (Nat.le_refl _) (fun K R hK hR => ?_)
        simp only [rw_c1, ↓rx_iinc, ↓rx_nil, ↓ry_li0s, ↓ry_li0z, rz_set, rz_nol, rz_clr, List.set_cons_zero, List.set_cons_succ, rz_tr, Nat.reduceAdd, Int.reduceAdd, Int.reduceToNat, Int.reduceSub, Int.reduceNeg, Int.cast_ofNat_Int]
        try simp (disch := omega) only [pk_us, pk_un, va_up_self, va_up_ne, nI_add, pk_mul, nI_clamp, vp_inT, nI_ltI, nI_leI, nI_eqI, pk_sub, true_and, and_true]
        refine hK _ _ _ _ ?_
        refine rz_blk' [(.goto (-34), 3, 0, 0)] (by decide +kernel) (Nat.le_refl _) (Nat.le_refl _) (fun K R hK hR => ?_)
        simp only [↓rx_goto, ↓rx_nil, rz_set, rz_nol, rz_clr, List.set_cons_zero, List.set_cons_succ, rz_tr, Nat.reduceAdd, Int.reduceAdd, Int.reduceToNat, Int.reduceSub, Int.reduceNeg, Int.cast_ofNat_Int]
        try simp (disch := omega) only [pk_us, pk_un, va_up_self, va_up_ne, nI_add, pk_mul, nI_clamp, vp_inT, nI_ltI, nI_leI, nI_eqI, pk_sub, true_and, and_true]
        refine hK _ _ _ _ ?_
        have ih := ih (cx + 1) (by omega)
        rw [← cp_s] at ih
        rw [re_vv]
        exact ih
    have := lp (3) 0 (Nat.zero_add _)
    rw [cp_0, re_ve] at this
    exact this
  have hA : ∀ {A1 : Nat → Nat → Int32}, ft hh A A1 → ∀ f, f < 14 → A1 f = A f := fun hf f q => hf.fa f (Or.inl q)
  have le : ∀ (j i : Nat) (A1 : Nat → Nat → Int32) (es : List (Nat × Nat × Nat × List Nat)) (z5 z6 : Option Value), i + j = m.2.1.length → es = (m.2.1.take i).filter (fun e => (al m).testBit e.1 && (al m).testBit e.2.2.1) → ft hh A A1 → (∀ q, q < 6 → A1 14 (6 * hh + q) = rz_b ((al m).testBit q)) → A1 15 hh = nI es.length → (∀ f (hf : f < es.length), A1 16 (24 * hh + f) = nI es[f].1 ∧ A1 17 (24 * hh + f) = nI es[f].2.1 ∧ A1 18 (24 * hh + f) = nI es[f].2.2.1 ∧ A1 19 (24 * hh + f) = nI es[f].2.2.2.length ∧ sg (A1 20) (32 * (24 * hh + f)) es[f].2.2.2) → (∀ q, q < 6 → A1 21 (6 * hh + q) = os ((tk m).2.2.1 q) ∧ sg (A1 22) (32 * (6 * hh + q)) (((tk m).2.2.1 q).getD [])) → A1 23 hh = nI m.2.2.2.length → sg (A1 24) (32 * hh) m.2.2.2 → rz_T w (d + 2) 0 0 m_Mod_take 0 0 205 [some (.ref a), some (.int (nI k)), some (.int (nI hh)), some (.int (nI (al m))), some (.int (nI (24 * k + i))), z5, z6] [] (re_put G a I A1) Q := by
    intro j
    induction j with
    | zero =>
      intro i A1 es z5 z6 hij hes hf g14 g15 ge g21 g23 g24
      have e2 := hA hf 2 (by decide)
      have hi : i = m.2.1.length := by omega
      rw [hi, List.take_length] at hes
      refine rz_blk' [(.iload 4, 2, 0, 0), (.bipush 24, 2, 0, 0), (.iload_n 1, 1, 0, 0), (.imul, 1, 0, 0), (.aload_n 0, 1, 0, 0), (.getfield 13, 3, 10, 2), (.iload_n 1, 1, 0, 0), (.iaload, 1, 0, 0), (.iadd, 1, 0, 0), (.if_icmp .ge 158, 3, 0, 0)] (by decide +kernel) (Nat.le_refl _) (Nat.le_refl _) (fun K R hK hR => ?_)
      simp only [rw_b24, ↓rx_aload_n0, ↓rx_bipush, ↓rx_getfield, ↓rx_iadd, ↓rx_iaload, ↓rx_if_icmp_ge, ↓rx_iload, ↓rx_iload_n1, ↓rx_imul, ↓rx_nil, ↓ry_i2, ↓ry_iau, ↓ry_li0s, ↓ry_li0z, ↓ry_lr0s, ↓ry_lr0z, ↓ry_obu, ↓ry_r1, ↓ry_ri, true_and, re_a2, ↓re_F2, ↓re_i2, ↓re_ob, e2, m4, rz_set, rz_nol, rz_clr, List.set_cons_zero, List.set_cons_succ, rz_tr, Nat.reduceAdd, Int.reduceAdd, Int.reduceToNat, Int.reduceSub, Int.reduceNeg, Int.cast_ofNat_Int]
      try simp (disch := omega) only [e2, m4, pk_us, pk_un, va_up_self, va_up_ne, nI_add, pk_mul, nI_clamp, vp_inT, nI_ltI, nI_leI, nI_eqI, pk_sub, true_and, and_true]
      refine ⟨fun q7 => hK _ _ _ _ ?_, fun q7 => by omega⟩
      refine rz_blk' [(.return_, 1, 0, 0)] (by decide +kernel) (Nat.le_refl _) (Nat.le_refl _) (fun K R hK hR => ?_)
      simp only [↓rx_nil, ↓rx_return_, e2, m4, rz_set, rz_nol, rz_clr, List.set_cons_zero, List.set_cons_succ, rz_tr, Nat.reduceAdd, Int.reduceAdd, Int.reduceToNat, Int.reduceSub, Int.reduceNeg, Int.cast_ofNat_Int]
      try simp (disch := omega) only [e2, m4, pk_us, pk_un, va_up_self, va_up_ne, nI_add, pk_mul, nI_clamp, vp_inT, nI_ltI, nI_leI, nI_eqI, pk_sub, true_and, and_true]
      refine hR _ _ (rz_nb_i (by decide)) ?_
      rw [← hQ]
      have hes2 : (tk m).2.1 = es := hes.symm
      refine ⟨rfl, _, rfl, hf, g14, by rw [hes2]; exact g15, ?_, g21, g23, g24⟩
      rw [hes2]
      exact ge
    | succ j ih =>
      intro i A1 es z5 z6 hij hes hf g14 g15 ge g21 g23 g24
      have e2 := hA hf 2 (by decide)
      have e3 := hA hf 3 (by decide)
      have e4 := hA hf 4 (by decide)
      have e5 := hA hf 5 (by decide)
      have e6 := hA hf 6 (by decide)
      have e7 := hA hf 7 (by decide)
      have hil : i < m.2.1.length := by omega
      have hel : es.length ≤ i := by rw [hes]; exact Nat.le_trans (List.length_filter_le _ _) (by simp; omega)
      obtain ⟨a1, a2, a3, a4, a5, b1, b2, b3⟩ := m6 i hil
      have w3 := (m11.1 i hil).1
      rw [mv_e_get hil] at w3
      have htake : (m.2.1.take (i + 1)).filter (fun e => (al m).testBit e.1 && (al m).testBit e.2.2.1) = es ++ (if ((al m).testBit m.2.1[i].1 && (al m).testBit m.2.1[i].2.2.1) then [m.2.1[i]] else []) := by
        rw [List.take_succ_eq_append_getElem hil, List.filter_append, ← hes]
        congr 1
        by_cases c : ((al m).testBit m.2.1[i].1 && (al m).testBit m.2.1[i].2.2.1) = true
        · rw [if_pos c]; simp [c]
        · rw [if_neg c]; simp [c]
      refine rz_blk' [(.iload 4, 2, 0, 0), (.bipush 24, 2, 0, 0), (.iload_n 1, 1, 0, 0), (.imul, 1, 0, 0), (.aload_n 0, 1, 0, 0), (.getfield 13, 3, 10, 2), (.iload_n 1, 1, 0, 0), (.iaload, 1, 0, 0), (.iadd, 1, 0, 0), (.if_icmp .ge 158, 3, 0, 0)] (by decide +kernel) (Nat.le_refl _) (Nat.le_refl _) (fun K R hK hR => ?_)
      simp only [rw_b24, ↓rx_aload_n0, ↓rx_bipush, ↓rx_getfield, ↓rx_iadd, ↓rx_iaload, ↓rx_if_icmp_ge, ↓rx_iload, ↓rx_iload_n1, ↓rx_imul, ↓rx_nil, ↓ry_i2, ↓ry_iau, ↓ry_li0s, ↓ry_li0z, ↓ry_lr0s, ↓ry_lr0z, ↓ry_obu, ↓ry_r1, ↓ry_ri, true_and, re_a2, ↓re_F2, ↓re_i2, ↓re_ob, e2, e3, e4, e5, e6, m4, a1, a2, a3, a4, g15, rz_set, rz_nol, rz_clr, List.set_cons_zero, List.set_cons_succ, rz_tr, Nat.reduceAdd, Int.reduceAdd, Int.reduceToNat, Int.reduceSub, Int.reduceNeg, Int.cast_ofNat_Int]
      try simp (disch := omega) only [e2, e3, e4, e5, e6, m4, a1, a2, a3, a4, g15, re_bit, rb_1, pk_us, pk_un, va_up_self, va_up_ne, nI_add, pk_mul, nI_clamp, vp_inT, nI_ltI, nI_leI, nI_eqI, pk_sub, true_and, and_true]
      refine ⟨fun q8 => by omega, fun q8 => hK _ _ _ _ ?_⟩
      refine rz_blk' [(.iload_n 3, 1, 0, 0), (.aload_n 0, 1, 0, 0), (.getfield 16, 3, 10, 3), (.iload 4, 2, 0, 0), (.iaload, 1, 0, 0), (.ishr, 1, 0, 0), (.iconst 1, 1, 0, 0), (.iand, 1, 0, 0), (.iconst 1, 1, 0, 0), (.if_icmp .ne 137, 3, 0, 0)] (by decide +kernel) (Nat.le_refl _) (Nat.le_refl _) (fun K R hK hR => ?_)
      simp only [rw_c1, ↓rx_aload_n0, ↓rx_getfield, ↓rx_iaload, ↓rx_iand, ↓rx_iconst, ↓rx_if_icmp_ne, ↓rx_iload, ↓rx_iload_n3, ↓rx_ishr, ↓rx_nil, ↓ry_i2, ↓ry_iau, ↓ry_li0s, ↓ry_li0z, ↓ry_lr0s, ↓ry_lr0z, ↓ry_obu, ↓ry_r1, ↓ry_ri, true_and, re_a3, ↓re_F3, ↓re_i3, ↓re_ob, e2, e3, e4, e5, e6, m4, a1, a2, a3, a4, g15, rz_set, rz_nol, rz_clr, List.set_cons_zero, List.set_cons_succ, rz_tr, Nat.reduceAdd, Int.reduceAdd, Int.reduceToNat, Int.reduceSub, Int.reduceNeg, Int.cast_ofNat_Int]
      try simp (disch := omega) only [e2, e3, e4, e5, e6, m4, a1, a2, a3, a4, g15, re_bit, rb_1, pk_us, pk_un, va_up_self, va_up_ne, nI_add, pk_mul, nI_clamp, vp_inT, nI_ltI, nI_leI, nI_eqI, pk_sub, true_and, and_true]
      
      refine ⟨fun q9 => hK _ _ _ _ ?_, fun q9 => hK _ _ _ _ ?_⟩
      · -- 233 taken
        refine rz_blk' [(.iinc 4 1, 3, 0, 0)] (by decide +kernel) (Nat.le_refl _) (Nat.le_refl _) (fun K R hK hR => ?_)
        simp only [rw_c1, ↓rx_iinc, ↓rx_nil, ↓ry_li0s, ↓ry_li0z, e2, e3, e4, e5, e6, m4, a1, a2, a3, a4, g15, rz_set, rz_nol, rz_clr, List.set_cons_zero, List.set_cons_succ, rz_tr, Nat.reduceAdd, Int.reduceAdd, Int.reduceToNat, Int.reduceSub, Int.reduceNeg, Int.cast_ofNat_Int]
        try simp (disch := omega) only [e2, e3, e4, e5, e6, m4, a1, a2, a3, a4, g15, re_bit, rb_1, pk_us, pk_un, va_up_self, va_up_ne, nI_add, pk_mul, nI_clamp, vp_inT, nI_ltI, nI_leI, nI_eqI, pk_sub, true_and, and_true]
        refine hK _ _ _ _ ?_
        refine rz_blk' [(.goto (-168), 3, 0, 0)] (by decide +kernel) (Nat.le_refl _) (Nat.le_refl _) (fun K R hK hR => ?_)
        simp only [↓rx_goto, ↓rx_nil, e2, e3, e4, e5, e6, m4, a1, a2, a3, a4, g15, rz_set, rz_nol, rz_clr, List.set_cons_zero, List.set_cons_succ, rz_tr, Nat.reduceAdd, Int.reduceAdd, Int.reduceToNat, Int.reduceSub, Int.reduceNeg, Int.cast_ofNat_Int]
        try simp (disch := omega) only [e2, e3, e4, e5, e6, m4, a1, a2, a3, a4, g15, re_bit, rb_1, pk_us, pk_un, va_up_self, va_up_ne, nI_add, pk_mul, nI_clamp, vp_inT, nI_ltI, nI_leI, nI_eqI, pk_sub, true_and, and_true]
        refine hK _ _ _ _ ?_
        refine ih (i + 1) A1 es _ _ (by omega) ?_ hf g14 g15 ge g21 g23 g24
        rw [htake, if_neg (by simp_all), List.append_nil]
      · -- 233 not taken
        refine rz_blk' [(.iload_n 3, 1, 0, 0), (.aload_n 0, 1, 0, 0), (.getfield 22, 3, 10, 5), (.iload 4, 2, 0, 0), (.iaload, 1, 0, 0), (.ishr, 1, 0, 0), (.iconst 1, 1, 0, 0), (.iand, 1, 0, 0), (.iconst 1, 1, 0, 0), (.if_icmp .ne 122, 3, 0, 0)] (by decide +kernel) (Nat.le_refl _) (Nat.le_refl _) (fun K R hK hR => ?_)
        simp only [rw_c1, ↓rx_aload_n0, ↓rx_getfield, ↓rx_iaload, ↓rx_iand, ↓rx_iconst, ↓rx_if_icmp_ne, ↓rx_iload, ↓rx_iload_n3, ↓rx_ishr, ↓rx_nil, ↓ry_i2, ↓ry_iau, ↓ry_li0s, ↓ry_li0z, ↓ry_lr0s, ↓ry_lr0z, ↓ry_obu, ↓ry_r1, ↓ry_ri, true_and, re_a5, ↓re_F5, ↓re_i5, ↓re_ob, e2, e3, e4, e5, e6, m4, a1, a2, a3, a4, g15, rz_set, rz_nol, rz_clr, List.set_cons_zero, List.set_cons_succ, rz_tr, Nat.reduceAdd, Int.reduceAdd, Int.reduceToNat, Int.reduceSub, Int.reduceNeg, Int.cast_ofNat_Int]
        try simp (disch := omega) only [e2, e3, e4, e5, e6, m4, a1, a2, a3, a4, g15, re_bit, rb_1, pk_us, pk_un, va_up_self, va_up_ne, nI_add, pk_mul, nI_clamp, vp_inT, nI_ltI, nI_leI, nI_eqI, pk_sub, true_and, and_true]
        
        refine ⟨fun q10 => hK _ _ _ _ ?_, fun q10 => hK _ _ _ _ ?_⟩
        · -- 248 taken
          refine rz_blk' [(.iinc 4 1, 3, 0, 0)] (by decide +kernel) (Nat.le_refl _) (Nat.le_refl _) (fun K R hK hR => ?_)
          simp only [rw_c1, ↓rx_iinc, ↓rx_nil, ↓ry_li0s, ↓ry_li0z, e2, e3, e4, e5, e6, m4, a1, a2, a3, a4, g15, rz_set, rz_nol, rz_clr, List.set_cons_zero, List.set_cons_succ, rz_tr, Nat.reduceAdd, Int.reduceAdd, Int.reduceToNat, Int.reduceSub, Int.reduceNeg, Int.cast_ofNat_Int]
          try simp (disch := omega) only [e2, e3, e4, e5, e6, m4, a1, a2, a3, a4, g15, re_bit, rb_1, pk_us, pk_un, va_up_self, va_up_ne, nI_add, pk_mul, nI_clamp, vp_inT, nI_ltI, nI_leI, nI_eqI, pk_sub, true_and, and_true]
          refine hK _ _ _ _ ?_
          refine rz_blk' [(.goto (-168), 3, 0, 0)] (by decide +kernel) (Nat.le_refl _) (Nat.le_refl _) (fun K R hK hR => ?_)
          simp only [↓rx_goto, ↓rx_nil, e2, e3, e4, e5, e6, m4, a1, a2, a3, a4, g15, rz_set, rz_nol, rz_clr, List.set_cons_zero, List.set_cons_succ, rz_tr, Nat.reduceAdd, Int.reduceAdd, Int.reduceToNat, Int.reduceSub, Int.reduceNeg, Int.cast_ofNat_Int]
          try simp (disch := omega) only [e2, e3, e4, e5, e6, m4, a1, a2, a3, a4, g15, re_bit, rb_1, pk_us, pk_un, va_up_self, va_up_ne, nI_add, pk_mul, nI_clamp, vp_inT, nI_ltI, nI_leI, nI_eqI, pk_sub, true_and, and_true]
          refine hK _ _ _ _ ?_
          refine ih (i + 1) A1 es _ _ (by omega) ?_ hf g14 g15 ge g21 g23 g24
          rw [htake, if_neg (by simp_all), List.append_nil]
        · -- 248 not taken
          -- kept
          refine rz_blk' [(.bipush 24, 2, 0, 0), (.iload_n 2, 1, 0, 0), (.imul, 1, 0, 0), (.aload_n 0, 1, 0, 0), (.getfield 50, 3, 10, 15), (.iload_n 2, 1, 0, 0), (.iaload, 1, 0, 0), (.iadd, 1, 0, 0), (.istore 5, 2, 0, 0)] (by decide +kernel) (Nat.le_refl _) (Nat.le_refl _) (fun K R hK hR => ?_)
          simp only [rw_b24, ↓rx_aload_n0, ↓rx_bipush, ↓rx_getfield, ↓rx_iadd, ↓rx_iaload, ↓rx_iload_n2, ↓rx_imul, ↓rx_istore, ↓rx_nil, ↓ry_i1, ↓ry_i2, ↓ry_iau, ↓ry_li0s, ↓ry_li0z, ↓ry_lr0s, ↓ry_lr0z, ↓ry_obu, ↓ry_r1, ↓ry_ri, true_and, re_a15, ↓re_F15, ↓re_i15, ↓re_ob, e2, e3, e4, e5, e6, m4, a1, a2, a3, a4, g15, rz_set, rz_nol, rz_clr, List.set_cons_zero, List.set_cons_succ, rz_tr, Nat.reduceAdd, Int.reduceAdd, Int.reduceToNat, Int.reduceSub, Int.reduceNeg, Int.cast_ofNat_Int]
          try simp (disch := omega) only [e2, e3, e4, e5, e6, m4, a1, a2, a3, a4, g15, re_bit, rb_1, pk_us, pk_un, va_up_self, va_up_ne, nI_add, pk_mul, nI_clamp, vp_inT, nI_ltI, nI_leI, nI_eqI, pk_sub, true_and, and_true]
          refine hK _ _ _ _ ?_
          refine rz_blk' [(.aload_n 0, 1, 0, 0), (.getfield 53, 3, 10, 16), (.iload 5, 2, 0, 0), (.aload_n 0, 1, 0, 0), (.getfield 16, 3, 10, 3), (.iload 4, 2, 0, 0), (.iaload, 1, 0, 0), (.iastore, 1, 0, 0)] (by decide +kernel) (Nat.le_refl _) (Nat.le_refl _) (fun K R hK hR => ?_)
          simp only [↓rx_aload_n0, ↓rx_getfield, ↓rx_iaload, ↓rx_iastore, ↓rx_iload, ↓rx_nil, ↓ry_iau, ↓ry_li0s, ↓ry_li0z, ↓ry_lr0s, ↓ry_lr0z, ↓ry_obu, ↓ry_r1, ↓ry_ri, ↓ry_rii, true_and, re_a16, re_a3, ↓re_F16, ↓re_F3, ↓re_i16, ↓re_i3, ↓re_ob, e2, e3, e4, e5, e6, m4, a1, a2, a3, a4, g15, rz_set, rz_nol, rz_clr, List.set_cons_zero, List.set_cons_succ, rz_tr, Nat.reduceAdd, Int.reduceAdd, Int.reduceToNat, Int.reduceSub, Int.reduceNeg, Int.cast_ofNat_Int]
          try simp (disch := omega) only [e2, e3, e4, e5, e6, m4, a1, a2, a3, a4, g15, re_bit, rb_1, pk_us, pk_un, va_up_self, va_up_ne, nI_add, pk_mul, nI_clamp, vp_inT, nI_ltI, nI_leI, nI_eqI, pk_sub, true_and, and_true]
          refine hK _ _ _ _ ?_
          refine rz_blk' [(.aload_n 0, 1, 0, 0), (.getfield 56, 3, 10, 17), (.iload 5, 2, 0, 0), (.aload_n 0, 1, 0, 0), (.getfield 19, 3, 10, 4), (.iload 4, 2, 0, 0), (.iaload, 1, 0, 0), (.iastore, 1, 0, 0)] (by decide +kernel) (Nat.le_refl _) (Nat.le_refl _) (fun K R hK hR => ?_)
          simp only [↓rx_aload_n0, ↓rx_getfield, ↓rx_iaload, ↓rx_iastore, ↓rx_iload, ↓rx_nil, ↓ry_iau, ↓ry_li0s, ↓ry_li0z, ↓ry_lr0s, ↓ry_lr0z, ↓ry_obu, ↓ry_r1, ↓ry_ri, ↓ry_rii, true_and, re_a17, re_a4, ↓re_F17, ↓re_F4, ↓re_i17, ↓re_i4, ↓re_ob, e2, e3, e4, e5, e6, m4, a1, a2, a3, a4, g15, rz_set, rz_nol, rz_clr, List.set_cons_zero, List.set_cons_succ, rz_tr, Nat.reduceAdd, Int.reduceAdd, Int.reduceToNat, Int.reduceSub, Int.reduceNeg, Int.cast_ofNat_Int]
          try simp (disch := omega) only [e2, e3, e4, e5, e6, m4, a1, a2, a3, a4, g15, re_bit, rb_1, pk_us, pk_un, va_up_self, va_up_ne, nI_add, pk_mul, nI_clamp, vp_inT, nI_ltI, nI_leI, nI_eqI, pk_sub, true_and, and_true]
          refine hK _ _ _ _ ?_
          refine rz_blk' [(.aload_n 0, 1, 0, 0), (.getfield 59, 3, 10, 18), (.iload 5, 2, 0, 0), (.aload_n 0, 1, 0, 0), (.getfield 22, 3, 10, 5), (.iload 4, 2, 0, 0), (.iaload, 1, 0, 0), (.iastore, 1, 0, 0)] (by decide +kernel) (Nat.le_refl _) (Nat.le_refl _) (fun K R hK hR => ?_)
          simp only [↓rx_aload_n0, ↓rx_getfield, ↓rx_iaload, ↓rx_iastore, ↓rx_iload, ↓rx_nil, ↓ry_iau, ↓ry_li0s, ↓ry_li0z, ↓ry_lr0s, ↓ry_lr0z, ↓ry_obu, ↓ry_r1, ↓ry_ri, ↓ry_rii, true_and, re_a18, re_a5, ↓re_F18, ↓re_F5, ↓re_i18, ↓re_i5, ↓re_ob, e2, e3, e4, e5, e6, m4, a1, a2, a3, a4, g15, rz_set, rz_nol, rz_clr, List.set_cons_zero, List.set_cons_succ, rz_tr, Nat.reduceAdd, Int.reduceAdd, Int.reduceToNat, Int.reduceSub, Int.reduceNeg, Int.cast_ofNat_Int]
          try simp (disch := omega) only [e2, e3, e4, e5, e6, m4, a1, a2, a3, a4, g15, re_bit, rb_1, pk_us, pk_un, va_up_self, va_up_ne, nI_add, pk_mul, nI_clamp, vp_inT, nI_ltI, nI_leI, nI_eqI, pk_sub, true_and, and_true]
          refine hK _ _ _ _ ?_
          refine rz_blk' [(.aload_n 0, 1, 0, 0), (.getfield 62, 3, 10, 19), (.iload 5, 2, 0, 0), (.aload_n 0, 1, 0, 0), (.getfield 25, 3, 10, 6), (.iload 4, 2, 0, 0), (.iaload, 1, 0, 0), (.iastore, 1, 0, 0)] (by decide +kernel) (Nat.le_refl _) (Nat.le_refl _) (fun K R hK hR => ?_)
          simp only [↓rx_aload_n0, ↓rx_getfield, ↓rx_iaload, ↓rx_iastore, ↓rx_iload, ↓rx_nil, ↓ry_iau, ↓ry_li0s, ↓ry_li0z, ↓ry_lr0s, ↓ry_lr0z, ↓ry_obu, ↓ry_r1, ↓ry_ri, ↓ry_rii, true_and, re_a19, re_a6, ↓re_F19, ↓re_F6, ↓re_i19, ↓re_i6, ↓re_ob, e2, e3, e4, e5, e6, m4, a1, a2, a3, a4, g15, rz_set, rz_nol, rz_clr, List.set_cons_zero, List.set_cons_succ, rz_tr, Nat.reduceAdd, Int.reduceAdd, Int.reduceToNat, Int.reduceSub, Int.reduceNeg, Int.cast_ofNat_Int]
          try simp (disch := omega) only [e2, e3, e4, e5, e6, m4, a1, a2, a3, a4, g15, re_bit, rb_1, pk_us, pk_un, va_up_self, va_up_ne, nI_add, pk_mul, nI_clamp, vp_inT, nI_ltI, nI_leI, nI_eqI, pk_sub, true_and, and_true]
          refine hK _ _ _ _ ?_
          refine rz_blk' [(.iconst 0, 1, 0, 0), (.istore 6, 2, 0, 0)] (by decide +kernel) (Nat.le_refl _) (Nat.le_refl _) (fun K R hK hR => ?_)
          simp only [rw_c0, ↓rx_iconst, ↓rx_istore, ↓rx_nil, ↓ry_i1, e2, e3, e4, e5, e6, m4, a1, a2, a3, a4, g15, rz_set, rz_nol, rz_clr, List.set_cons_zero, List.set_cons_succ, rz_tr, Nat.reduceAdd, Int.reduceAdd, Int.reduceToNat, Int.reduceSub, Int.reduceNeg, Int.cast_ofNat_Int]
          try simp (disch := omega) only [e2, e3, e4, e5, e6, m4, a1, a2, a3, a4, g15, re_bit, rb_1, pk_us, pk_un, va_up_self, va_up_ne, nI_add, pk_mul, nI_clamp, vp_inT, nI_ltI, nI_leI, nI_eqI, pk_sub, true_and, and_true]
          refine hK _ _ _ _ ?_
          refine c3 _ (24 * k + i) (24 * hh + es.length) (by omega) (by omega) ?_
          generalize hB : va_up (va_up (va_up (va_up A1 16 _) 17 _) 18 _) 19 _ = B
          generalize hC : va_up B 20 _ = C
          have hB16 : B 16 = upd (A1 16) (24 * hh + es.length) (nI m.2.1[i].1) := by rw [← hB]; simp [va_up]
          have hB17 : B 17 = upd (A1 17) (24 * hh + es.length) (nI m.2.1[i].2.1) := by rw [← hB]; simp [va_up]
          have hB18 : B 18 = upd (A1 18) (24 * hh + es.length) (nI m.2.1[i].2.2.1) := by rw [← hB]; simp [va_up]
          have hB19 : B 19 = upd (A1 19) (24 * hh + es.length) (nI m.2.1[i].2.2.2.length) := by rw [← hB]; simp [va_up]
          have hBo : ∀ j, (j < 16 ∨ 19 < j) → B j = A1 j := fun j hj => by
            rw [← hB, va_up_ne _ _ (by omega), va_up_ne _ _ (by omega), va_up_ne _ _ (by omega), va_up_ne _ _ (by omega)]
          have hC20 : C 20 = cp (A1 20) (32 * (24 * hh + es.length)) (A 7) (3 * (24 * k + i)) 3 := by rw [← hC, va_up_self, hBo 20 (by decide), hBo 7 (by decide), e7]
          have hCo : ∀ j, j ≠ 20 → C j = B j := fun j hj => by rw [← hC, va_up_ne _ _ hj]
          have hC15 : C 15 = A1 15 := by rw [hCo 15 (by decide), hBo 15 (by decide)]
          clear hB hC
          refine rz_blk' [(.aload_n 0, 1, 0, 0), (.getfield 50, 3, 10, 15), (.iload_n 2, 1, 0, 0), (.dup2, 1, 0, 0), (.iaload, 1, 0, 0), (.iconst 1, 1, 0, 0), (.iadd, 1, 0, 0), (.iastore, 1, 0, 0)] (by decide +kernel) (Nat.le_refl _) (Nat.le_refl _) (fun K R hK hR => ?_)
          simp only [rw_c1, ↓rx_aload_n0, ↓rx_dup2, ↓rx_getfield, ↓rx_iadd, ↓rx_iaload, ↓rx_iastore, ↓rx_iconst, ↓rx_iload_n2, ↓rx_nil, ↓ry_i2, ↓ry_iau, ↓ry_li0s, ↓ry_li0z, ↓ry_lr0s, ↓ry_lr0z, ↓ry_obu, ↓ry_r1, ↓ry_ri, ↓ry_rii, ↓ry_v2, true_and, re_a15, ↓re_F15, ↓re_i15, ↓re_ob, hC15, g15, rz_set, rz_nol, rz_clr, List.set_cons_zero, List.set_cons_succ, rz_tr, Nat.reduceAdd, Int.reduceAdd, Int.reduceToNat, Int.reduceSub, Int.reduceNeg, Int.cast_ofNat_Int]
          try simp (disch := omega) only [hC15, g15, re_bit, rb_1, pk_us, pk_un, va_up_self, va_up_ne, nI_add, pk_mul, nI_clamp, vp_inT, nI_ltI, nI_leI, nI_eqI, pk_sub, true_and, and_true]
          refine hK _ _ _ _ ?_
          refine rz_blk' [(.iinc 4 1, 3, 0, 0)] (by decide +kernel) (Nat.le_refl _) (Nat.le_refl _) (fun K R hK hR => ?_)
          simp only [rw_c1, ↓rx_iinc, ↓rx_nil, ↓ry_li0s, ↓ry_li0z, hC15, g15, rz_set, rz_nol, rz_clr, List.set_cons_zero, List.set_cons_succ, rz_tr, Nat.reduceAdd, Int.reduceAdd, Int.reduceToNat, Int.reduceSub, Int.reduceNeg, Int.cast_ofNat_Int]
          try simp (disch := omega) only [hC15, g15, re_bit, rb_1, pk_us, pk_un, va_up_self, va_up_ne, nI_add, pk_mul, nI_clamp, vp_inT, nI_ltI, nI_leI, nI_eqI, pk_sub, true_and, and_true]
          refine hK _ _ _ _ ?_
          refine rz_blk' [(.goto (-168), 3, 0, 0)] (by decide +kernel) (Nat.le_refl _) (Nat.le_refl _) (fun K R hK hR => ?_)
          simp only [↓rx_goto, ↓rx_nil, hC15, g15, rz_set, rz_nol, rz_clr, List.set_cons_zero, List.set_cons_succ, rz_tr, Nat.reduceAdd, Int.reduceAdd, Int.reduceToNat, Int.reduceSub, Int.reduceNeg, Int.cast_ofNat_Int]
          try simp (disch := omega) only [hC15, g15, re_bit, rb_1, pk_us, pk_un, va_up_self, va_up_ne, nI_add, pk_mul, nI_clamp, vp_inT, nI_ltI, nI_leI, nI_eqI, pk_sub, true_and, and_true]
          refine hK _ _ _ _ ?_
          refine ih (i + 1) _ (es ++ [m.2.1[i]]) _ _ (by omega) ?_ ?_ ?_ ?_ ?_ ?_ ?_ ?_
          · rw [htake, if_pos (by simp_all)]
          · refine (ft.u (A1 := C) (f := 15) ?_ (fun z hz => by rw [pk_un (by unfold th_own at hz; omega), hC15]))
            intro f z hz
            by_cases c20 : f = 20
            · subst c20; rw [hC20, cp_out (by unfold th_own at hz; omega)]; exact hf _ _ hz
            rw [hCo f c20]
            by_cases c16 : f = 16
            · subst c16; rw [hB16, pk_un (by unfold th_own at hz; omega)]; exact hf _ _ hz
            by_cases c17 : f = 17
            · subst c17; rw [hB17, pk_un (by unfold th_own at hz; omega)]; exact hf _ _ hz
            by_cases c18 : f = 18
            · subst c18; rw [hB18, pk_un (by unfold th_own at hz; omega)]; exact hf _ _ hz
            by_cases c19 : f = 19
            · subst c19; rw [hB19, pk_un (by unfold th_own at hz; omega)]; exact hf _ _ hz
            rw [hBo f (by omega)]; exact hf _ _ hz
          · rw [va_up_ne _ _ (by decide), hCo 14 (by decide), hBo 14 (by decide)]; exact g14
          · rw [va_up_self, pk_us]; simp
          · intro f hf1
            rw [va_up_ne _ _ (by decide), va_up_ne _ _ (by decide), va_up_ne _ _ (by decide), va_up_ne _ _ (by decide), va_up_ne _ _ (by decide), hCo 16 (by decide), hCo 17 (by decide), hCo 18 (by decide), hCo 19 (by decide), hB16, hB17, hB18, hB19, hC20]
            simp only [List.length_append, List.length_cons, List.length_nil, Nat.zero_add] at hf1
            by_cases c : f < es.length
            · rw [List.getElem_append_left c, pk_un (by omega), pk_un (by omega), pk_un (by omega), pk_un (by omega)]
              obtain ⟨y1, y2, y3, y4, y5⟩ := ge f c
              refine ⟨y1, y2, y3, y4, y5.k (fun x q1 q2 => cp_out ?_)⟩
              have hw0 : ∀ x, x ∈ es → x.2.2.2.length ≤ 3 := fun x hx => by
                rw [hes] at hx
                exact (hwf.2.2.2.1 _ (List.mem_of_mem_take (List.mem_filter.mp hx).1)).2.2.2.1
              have hw3 := hw0 _ (List.getElem_mem c)
              omega
            · have c' : f = es.length := by omega
              subst c'
              rw [List.getElem_append_right (Nat.le_refl _), pk_us, pk_us, pk_us, pk_us]
              simp only [Nat.sub_self, List.getElem_cons_zero]
              exact ⟨trivial, trivial, trivial, trivial, sg_cp a5 w3⟩
          · rw [va_up_ne _ _ (by decide), va_up_ne _ _ (by decide), hCo 21 (by decide), hCo 22 (by decide), hBo 21 (by decide), hBo 22 (by decide)]; exact g21
          · rw [va_up_ne _ _ (by decide), hCo 23 (by decide), hBo 23 (by decide)]; exact g23
          · rw [va_up_ne _ _ (by decide), hCo 24 (by decide), hBo 24 (by decide)]; exact g24
  have nx : ∀ (C B : Nat → Nat → Int32) (i : Nat) (A1 : Nat → Nat → Int32), ft hh A A1 → i < 6 → A1 15 hh = nI 0 → (∀ q, q < i → A1 14 (6 * hh + q) = rz_b ((al m).testBit q)) → (∀ q, q < i → A1 21 (6 * hh + q) = os ((tk m).2.2.1 q) ∧ sg (A1 22) (32 * (6 * hh + q)) (((tk m).2.2.1 q).getD [])) → B 14 = upd (A1 14) (6 * hh + i) (rz_b ((al m).testBit i)) → B 21 = upd (A1 21) (6 * hh + i) (os ((tk m).2.2.1 i)) → (∀ j, j ≠ 14 → j ≠ 21 → B j = A1 j) → C 22 = cp (A1 22) (32 * (6 * hh + i)) (A 9) (3 * (6 * k + i)) 3 → (∀ j, j ≠ 22 → C j = B j) → sg (A 9) (3 * (6 * k + i)) ((m.2.2.1 i).getD []) → ∀ (z5 z6 : Option Value), (∀ (A1 : Nat → Nat → Int32) (z5 z6 : Option Value), i + 1 ≤ 6 → ft hh A A1 → A1 15 hh = nI 0 → (∀ q, q < i + 1 → A1 14 (6 * hh + q) = rz_b ((al m).testBit q)) → (∀ q, q < i + 1 → A1 21 (6 * hh + q) = os ((tk m).2.2.1 q) ∧ sg (A1 22) (32 * (6 * hh + q)) (((tk m).2.2.1 q).getD [])) → rz_T w (d + 2) 0 0 m_Mod_take 0 0 16 [some (.ref a), some (.int (nI k)), some (.int (nI hh)), some (.int (nI (al m))), some (.int (nI (i + 1))), z5, z6] [] (re_put G a I A1) Q) → rz_T w (d + 2) 0 0 m_Mod_take 0 0 143 [some (.ref a), some (.int (nI k)), some (.int (nI hh)), some (.int (nI (al m))), some (.int (nI i)), z5, z6] [] (re_put G a I C) Q := by
    intro C B i A1 hf hi g15 g14 g21 hB14 hB21 hBo hC22 hCo a2 z5 z6 ih
    refine rz_blk' [(.iinc 4 1, 3, 0, 0)] (by decide +kernel) (Nat.le_refl _) (Nat.le_refl _) (fun K R hK hR => ?_)
    simp only [rw_c1, ↓rx_iinc, ↓rx_nil, ↓ry_li0s, ↓ry_li0z, rz_set, rz_nol, rz_clr, List.set_cons_zero, List.set_cons_succ, rz_tr, Nat.reduceAdd, Int.reduceAdd, Int.reduceToNat, Int.reduceSub, Int.reduceNeg, Int.cast_ofNat_Int]
    try simp (disch := omega) only [pk_us, pk_un, va_up_self, va_up_ne, nI_add, pk_mul, nI_clamp, vp_inT, nI_ltI, nI_leI, nI_eqI, pk_sub, true_and, and_true]
    refine hK _ _ _ _ ?_
    refine rz_blk' [(.goto (-130), 3, 0, 0)] (by decide +kernel) (Nat.le_refl _) (Nat.le_refl _) (fun K R hK hR => ?_)
    simp only [↓rx_goto, ↓rx_nil, rz_set, rz_nol, rz_clr, List.set_cons_zero, List.set_cons_succ, rz_tr, Nat.reduceAdd, Int.reduceAdd, Int.reduceToNat, Int.reduceSub, Int.reduceNeg, Int.cast_ofNat_Int]
    try simp (disch := omega) only [pk_us, pk_un, va_up_self, va_up_ne, nI_add, pk_mul, nI_clamp, vp_inT, nI_ltI, nI_leI, nI_eqI, pk_sub, true_and, and_true]
    refine hK _ _ _ _ ?_
    refine ih C _ _ (by omega) ?_ ?_ ?_ ?_
    · intro f z hz
      by_cases c : f = 22
      · subst c; rw [hC22, cp_out (by unfold th_own at hz; omega)]; exact hf _ _ hz
      rw [hCo f c]
      by_cases c1 : f = 14
      · subst c1; rw [hB14, pk_un (by unfold th_own at hz; omega)]; exact hf _ _ hz
      by_cases c2 : f = 21
      · subst c2; rw [hB21, pk_un (by unfold th_own at hz; omega)]; exact hf _ _ hz
      rw [hBo f c1 c2]; exact hf _ _ hz
    · rw [hCo 15 (by decide), hBo 15 (by decide) (by decide)]; exact g15
    · intro q hq
      rw [hCo 14 (by decide), hB14]
      by_cases c : q = i
      · subst c; rw [pk_us]
      · rw [pk_un (by omega)]; exact g14 q (by omega)
    · intro q hq
      rw [hCo 21 (by decide), hB21, hC22]
      by_cases c : q = i
      · subst c
        rw [pk_us]
        refine ⟨rfl, ?_⟩
        show sg _ _ ((if (al m).testBit q then m.2.2.1 q else none).getD [])
        split
        · refine sg_cp a2 ?_
          cases c : m.2.2.1 q with
          | none => simp
          | some xs => exact (hwf.2.2.2.2.2.1 q xs c).1
        · exact sg_nil
      · rw [pk_un (by omega)]
        refine ⟨(g21 q (by omega)).1, (g21 q (by omega)).2.k (fun x q1 q2 => cp_out ?_)⟩
        have := tw_f (q := q) htw
        omega
  have ls : ∀ (j i : Nat) (A1 : Nat → Nat → Int32) (z5 z6 : Option Value), i + j = 6 → ft hh A A1 → A1 15 hh = nI 0 → (∀ q, q < i → A1 14 (6 * hh + q) = rz_b ((al m).testBit q)) → (∀ q, q < i → A1 21 (6 * hh + q) = os ((tk m).2.2.1 q) ∧ sg (A1 22) (32 * (6 * hh + q)) (((tk m).2.2.1 q).getD [])) → rz_T w (d + 2) 0 0 m_Mod_take 0 0 16 [some (.ref a), some (.int (nI k)), some (.int (nI hh)), some (.int (nI (al m))), some (.int (nI i)), z5, z6] [] (re_put G a I A1) Q := by
    intro j
    induction j with
    | zero =>
      intro i A1 z5 z6 hij hf g15 g14 g21
      have hi : i = 6 := by omega
      subst hi
      have e10 := hA hf 10 (by decide)
      refine rz_blk' [(.iload 4, 2, 0, 0), (.bipush 6, 2, 0, 0), (.if_icmp .ge 129, 3, 0, 0)] (by decide +kernel) (Nat.le_refl _) (Nat.le_refl _) (fun K R hK hR => ?_)
      simp only [rw_b6, ↓rx_bipush, ↓rx_if_icmp_ge, ↓rx_iload, ↓rx_nil, ↓ry_i2, ↓ry_li0s, ↓ry_li0z, e10, m9, rz_set, rz_nol, rz_clr, List.set_cons_zero, List.set_cons_succ, rz_tr, Nat.reduceAdd, Int.reduceAdd, Int.reduceToNat, Int.reduceSub, Int.reduceNeg, Int.cast_ofNat_Int]
      try simp (disch := omega) only [e10, m9, pk_us, pk_un, va_up_self, va_up_ne, nI_add, pk_mul, nI_clamp, vp_inT, nI_ltI, nI_leI, nI_eqI, pk_sub, true_and, and_true]
      refine ⟨fun q71 => hK _ _ _ _ ?_, fun q71 => by omega⟩
      refine rz_blk' [(.aload_n 0, 1, 0, 0), (.getfield 74, 3, 10, 23), (.iload_n 2, 1, 0, 0), (.aload_n 0, 1, 0, 0), (.getfield 37, 3, 10, 10), (.iload_n 1, 1, 0, 0), (.iaload, 1, 0, 0), (.iastore, 1, 0, 0)] (by decide +kernel) (Nat.le_refl _) (Nat.le_refl _) (fun K R hK hR => ?_)
      simp only [↓rx_aload_n0, ↓rx_getfield, ↓rx_iaload, ↓rx_iastore, ↓rx_iload_n1, ↓rx_iload_n2, ↓rx_nil, ↓ry_iau, ↓ry_li0s, ↓ry_li0z, ↓ry_lr0s, ↓ry_lr0z, ↓ry_obu, ↓ry_r1, ↓ry_ri, ↓ry_rii, true_and, re_a10, re_a23, ↓re_F10, ↓re_F23, ↓re_i10, ↓re_i23, ↓re_ob, e10, m9, rz_set, rz_nol, rz_clr, List.set_cons_zero, List.set_cons_succ, rz_tr, Nat.reduceAdd, Int.reduceAdd, Int.reduceToNat, Int.reduceSub, Int.reduceNeg, Int.cast_ofNat_Int]
      try simp (disch := omega) only [e10, m9, pk_us, pk_un, va_up_self, va_up_ne, nI_add, pk_mul, nI_clamp, vp_inT, nI_ltI, nI_leI, nI_eqI, pk_sub, true_and, and_true]
      refine hK _ _ _ _ ?_
      refine rz_blk' [(.iconst 0, 1, 0, 0), (.istore 4, 2, 0, 0)] (by decide +kernel) (Nat.le_refl _) (Nat.le_refl _) (fun K R hK hR => ?_)
      simp only [rw_c0, ↓rx_iconst, ↓rx_istore, ↓rx_nil, ↓ry_i1, e10, m9, rz_set, rz_nol, rz_clr, List.set_cons_zero, List.set_cons_succ, rz_tr, Nat.reduceAdd, Int.reduceAdd, Int.reduceToNat, Int.reduceSub, Int.reduceNeg, Int.cast_ofNat_Int]
      try simp (disch := omega) only [e10, m9, pk_us, pk_un, va_up_self, va_up_ne, nI_add, pk_mul, nI_clamp, vp_inT, nI_ltI, nI_leI, nI_eqI, pk_sub, true_and, and_true]
      refine hK _ _ _ _ ?_
      refine c2 _ _ _ ?_
      generalize hB : va_up A1 23 _ = B
      generalize hC : va_up B 24 _ = C
      have hB23 : B 23 = upd (A1 23) hh (nI m.2.2.2.length) := by rw [← hB, va_up_self]
      have hBo : ∀ j, j ≠ 23 → B j = A1 j := fun j hj => by rw [← hB, va_up_ne _ _ hj]
      have hC24 : C 24 = cp (A1 24) (32 * hh) (A 11) (3 * k) 3 := by rw [← hC, va_up_self, hBo 24 (by decide), hBo 11 (by decide), hA hf 11 (by decide)]
      have hCo : ∀ j, j ≠ 24 → C j = B j := fun j hj => by rw [← hC, va_up_ne _ _ hj]
      clear hB hC
      refine rz_blk' [(.bipush 24, 2, 0, 0), (.iload_n 1, 1, 0, 0), (.imul, 1, 0, 0), (.istore 4, 2, 0, 0)] (by decide +kernel) (Nat.le_refl _) (Nat.le_refl _) (fun K R hK hR => ?_)
      simp only [rw_b24, ↓rx_bipush, ↓rx_iload_n1, ↓rx_imul, ↓rx_istore, ↓rx_nil, ↓ry_i1, ↓ry_i2, ↓ry_li0s, ↓ry_li0z, rz_set, rz_nol, rz_clr, List.set_cons_zero, List.set_cons_succ, rz_tr, Nat.reduceAdd, Int.reduceAdd, Int.reduceToNat, Int.reduceSub, Int.reduceNeg, Int.cast_ofNat_Int]
      try simp (disch := omega) only [pk_us, pk_un, va_up_self, va_up_ne, nI_add, pk_mul, nI_clamp, vp_inT, nI_ltI, nI_leI, nI_eqI, pk_sub, true_and, and_true]
      refine hK _ _ _ _ ?_
      refine le m.2.1.length 0 C [] _ _ (by omega) (by simp) ?_ ?_ ?_ (fun f hf => absurd hf (Nat.not_lt_zero _)) ?_ ?_ ?_
      · intro f z hz
        by_cases c : f = 24
        · subst c; rw [hC24, cp_out (by unfold th_own at hz; omega)]; exact hf _ _ hz
        rw [hCo f c]
        by_cases c2 : f = 23
        · subst c2; rw [hB23, pk_un (by unfold th_own at hz; omega)]; exact hf _ _ hz
        rw [hBo f c2]; exact hf _ _ hz
      · rw [hCo 14 (by decide), hBo 14 (by decide)]; exact g14
      · rw [hCo 15 (by decide), hBo 15 (by decide)]; exact g15
      · rw [hCo 21 (by decide), hCo 22 (by decide), hBo 21 (by decide), hBo 22 (by decide)]; exact g21
      · rw [hCo 23 (by decide), hB23, pk_us]
      · rw [hC24]; exact sg_cp m10 hwf.2.2.2.2.2.2.1
    | succ j ih =>
      intro i A1 z5 z6 hij hf g15 g14 g21
      have e8 := hA hf 8 (by decide)
      obtain ⟨a1, a2⟩ := m7 i (by omega)
      cases hb : (al m).testBit i with
      | true =>
        refine rz_blk' [(.iload 4, 2, 0, 0), (.bipush 6, 2, 0, 0), (.if_icmp .ge 129, 3, 0, 0)] (by decide +kernel) (Nat.le_refl _) (Nat.le_refl _) (fun K R hK hR => ?_)
        simp only [rw_b6, ↓rx_bipush, ↓rx_if_icmp_ge, ↓rx_iload, ↓rx_nil, ↓ry_i2, ↓ry_li0s, ↓ry_li0z, e8, a1, hb, re_a14, re_a21, ↓re_i14, ↓re_i21, rz_set, rz_nol, rz_clr, List.set_cons_zero, List.set_cons_succ, rz_tr, Nat.reduceAdd, Int.reduceAdd, Int.reduceToNat, Int.reduceSub, Int.reduceNeg, Int.cast_ofNat_Int]
        try simp (disch := omega) only [e8, a1, hb, re_bit, rb_1, rb_0, nar_0, nar_1, pk_us, pk_un, va_up_self, va_up_ne, nI_add, pk_mul, nI_clamp, vp_inT, nI_ltI, nI_leI, nI_eqI, pk_sub, true_and, and_true]
        refine ⟨fun q72 => by omega, fun q72 => hK _ _ _ _ ?_⟩
        refine rz_blk' [(.aload_n 0, 1, 0, 0), (.getfield 46, 3, 10, 14), (.bipush 6, 2, 0, 0), (.iload_n 2, 1, 0, 0), (.imul, 1, 0, 0), (.iload 4, 2, 0, 0), (.iadd, 1, 0, 0), (.iload_n 3, 1, 0, 0), (.iload 4, 2, 0, 0), (.ishr, 1, 0, 0), (.iconst 1, 1, 0, 0), (.iand, 1, 0, 0), (.iconst 1, 1, 0, 0), (.if_icmp .ne 7, 3, 0, 0)] (by decide +kernel) (Nat.le_refl _) (Nat.le_refl _) (fun K R hK hR => ?_)
        simp only [rw_b6, rw_c1, ↓rx_aload_n0, ↓rx_bipush, ↓rx_getfield, ↓rx_iadd, ↓rx_iand, ↓rx_iconst, ↓rx_if_icmp_ne, ↓rx_iload, ↓rx_iload_n2, ↓rx_iload_n3, ↓rx_imul, ↓rx_ishr, ↓rx_nil, ↓ry_i2, ↓ry_li0s, ↓ry_li0z, ↓ry_lr0s, ↓ry_lr0z, ↓ry_obu, ↓ry_r1, re_a14, ↓re_F14, ↓re_i14, ↓re_ob, e8, a1, hb, re_a14, re_a21, ↓re_i14, ↓re_i21, rz_set, rz_nol, rz_clr, List.set_cons_zero, List.set_cons_succ, rz_tr, Nat.reduceAdd, Int.reduceAdd, Int.reduceToNat, Int.reduceSub, Int.reduceNeg, Int.cast_ofNat_Int]
        try simp (disch := omega) only [e8, a1, hb, re_bit, rb_1, rb_0, nar_0, nar_1, pk_us, pk_un, va_up_self, va_up_ne, nI_add, pk_mul, nI_clamp, vp_inT, nI_ltI, nI_leI, nI_eqI, pk_sub, true_and, and_true]
        refine ⟨fun q73 => by first | exact absurd rfl q73 | exact absurd trivial q73, fun q73 => hK _ _ _ _ ?_⟩
        refine rz_blk' [(.iconst 1, 1, 0, 0), (.goto 4, 3, 0, 0)] (by decide +kernel) (Nat.le_refl _) (Nat.le_refl _) (fun K R hK hR => ?_)
        simp only [rw_c1, ↓rx_goto, ↓rx_iconst, ↓rx_nil, e8, a1, hb, re_a14, re_a21, ↓re_i14, ↓re_i21, rz_set, rz_nol, rz_clr, List.set_cons_zero, List.set_cons_succ, rz_tr, Nat.reduceAdd, Int.reduceAdd, Int.reduceToNat, Int.reduceSub, Int.reduceNeg, Int.cast_ofNat_Int]
        try simp (disch := omega) only [e8, a1, hb, re_bit, rb_1, rb_0, nar_0, nar_1, pk_us, pk_un, va_up_self, va_up_ne, nI_add, pk_mul, nI_clamp, vp_inT, nI_ltI, nI_leI, nI_eqI, pk_sub, true_and, and_true]
        refine hK _ _ _ _ ?_
        refine rz_blk' [(.bastore, 1, 0, 0)] (by decide +kernel) (Nat.le_refl _) (Nat.le_refl _) (fun K R hK hR => ?_)
        simp only [Nat.reduceEqDiff, false_or, or_false, or_true, reduceIte, ↓rx_bastore, ↓rx_nil, ↓ry_iau, ↓ry_rii, true_and, true_or, e8, a1, hb, re_a14, re_a21, ↓re_i14, ↓re_i21, rz_set, rz_nol, rz_clr, List.set_cons_zero, List.set_cons_succ, rz_tr, Nat.reduceAdd, Int.reduceAdd, Int.reduceToNat, Int.reduceSub, Int.reduceNeg, Int.cast_ofNat_Int]
        try simp (disch := omega) only [e8, a1, hb, re_bit, rb_1, rb_0, nar_0, nar_1, pk_us, pk_un, va_up_self, va_up_ne, nI_add, pk_mul, nI_clamp, vp_inT, nI_ltI, nI_leI, nI_eqI, pk_sub, true_and, and_true]
        refine hK _ _ _ _ ?_
        refine rz_blk' [(.aload_n 0, 1, 0, 0), (.getfield 68, 3, 10, 21), (.bipush 6, 2, 0, 0), (.iload_n 2, 1, 0, 0), (.imul, 1, 0, 0), (.iload 4, 2, 0, 0), (.iadd, 1, 0, 0), (.aload_n 0, 1, 0, 0), (.getfield 46, 3, 10, 14), (.bipush 6, 2, 0, 0), (.iload_n 2, 1, 0, 0), (.imul, 1, 0, 0), (.iload 4, 2, 0, 0), (.iadd, 1, 0, 0), (.baload, 1, 0, 0), (.ifCond .eq 18, 3, 0, 0)] (by decide +kernel) (Nat.le_refl _) (Nat.le_refl _) (fun K R hK hR => ?_)
        simp only [Nat.reduceEqDiff, false_or, or_false, or_true, reduceIte, rw_b6, ↓rx_aload_n0, ↓rx_baload, ↓rx_bipush, ↓rx_getfield, ↓rx_iadd, ↓rx_ifCond_eq, ↓rx_iload, ↓rx_iload_n2, ↓rx_imul, ↓rx_nil, ↓ry_i1, ↓ry_i2, ↓ry_iau, ↓ry_li0s, ↓ry_li0z, ↓ry_lr0s, ↓ry_lr0z, ↓ry_obu, ↓ry_r1, ↓ry_ri, true_and, true_or, re_a14, re_a21, ↓re_F14, ↓re_F21, ↓re_i14, ↓re_i21, ↓re_ob, e8, a1, hb, re_a14, re_a21, ↓re_i14, ↓re_i21, rz_set, rz_nol, rz_clr, List.set_cons_zero, List.set_cons_succ, rz_tr, Nat.reduceAdd, Int.reduceAdd, Int.reduceToNat, Int.reduceSub, Int.reduceNeg, Int.cast_ofNat_Int]
        try simp (disch := omega) only [e8, a1, hb, re_bit, rb_1, rb_0, nar_0, nar_1, pk_us, pk_un, va_up_self, va_up_ne, nI_add, pk_mul, nI_clamp, vp_inT, nI_ltI, nI_leI, nI_eqI, pk_sub, true_and, and_true]
        refine ⟨fun q74 => absurd q74 (by decide), fun q74 => hK _ _ _ _ ?_⟩
        refine rz_blk' [(.aload_n 0, 1, 0, 0), (.getfield 31, 3, 10, 8), (.bipush 6, 2, 0, 0), (.iload_n 1, 1, 0, 0), (.imul, 1, 0, 0), (.iload 4, 2, 0, 0), (.iadd, 1, 0, 0), (.iaload, 1, 0, 0), (.goto 4, 3, 0, 0)] (by decide +kernel) (Nat.le_refl _) (Nat.le_refl _) (fun K R hK hR => ?_)
        simp only [rw_b6, ↓rx_aload_n0, ↓rx_bipush, ↓rx_getfield, ↓rx_goto, ↓rx_iadd, ↓rx_iaload, ↓rx_iload, ↓rx_iload_n1, ↓rx_imul, ↓rx_nil, ↓ry_i2, ↓ry_iau, ↓ry_li0s, ↓ry_li0z, ↓ry_lr0s, ↓ry_lr0z, ↓ry_obu, ↓ry_r1, ↓ry_ri, true_and, re_a8, ↓re_F8, ↓re_i8, ↓re_ob, e8, a1, hb, re_a14, re_a21, ↓re_i14, ↓re_i21, rz_set, rz_nol, rz_clr, List.set_cons_zero, List.set_cons_succ, rz_tr, Nat.reduceAdd, Int.reduceAdd, Int.reduceToNat, Int.reduceSub, Int.reduceNeg, Int.cast_ofNat_Int]
        try simp (disch := omega) only [e8, a1, hb, re_bit, rb_1, rb_0, nar_0, nar_1, pk_us, pk_un, va_up_self, va_up_ne, nI_add, pk_mul, nI_clamp, vp_inT, nI_ltI, nI_leI, nI_eqI, pk_sub, true_and, and_true]
        refine hK _ _ _ _ ?_
        refine rz_blk' [(.iastore, 1, 0, 0)] (by decide +kernel) (Nat.le_refl _) (Nat.le_refl _) (fun K R hK hR => ?_)
        simp only [↓rx_iastore, ↓rx_nil, ↓ry_iau, ↓ry_rii, true_and, e8, a1, hb, re_a14, re_a21, ↓re_i14, ↓re_i21, rz_set, rz_nol, rz_clr, List.set_cons_zero, List.set_cons_succ, rz_tr, Nat.reduceAdd, Int.reduceAdd, Int.reduceToNat, Int.reduceSub, Int.reduceNeg, Int.cast_ofNat_Int]
        try simp (disch := omega) only [e8, a1, hb, re_bit, rb_1, rb_0, nar_0, nar_1, pk_us, pk_un, va_up_self, va_up_ne, nI_add, pk_mul, nI_clamp, vp_inT, nI_ltI, nI_leI, nI_eqI, pk_sub, true_and, and_true]
        refine hK _ _ _ _ ?_
        refine rz_blk' [(.iconst 0, 1, 0, 0), (.istore 5, 2, 0, 0)] (by decide +kernel) (Nat.le_refl _) (Nat.le_refl _) (fun K R hK hR => ?_)
        simp only [rw_c0, ↓rx_iconst, ↓rx_istore, ↓rx_nil, ↓ry_i1, e8, a1, hb, re_a14, re_a21, ↓re_i14, ↓re_i21, rz_set, rz_nol, rz_clr, List.set_cons_zero, List.set_cons_succ, rz_tr, Nat.reduceAdd, Int.reduceAdd, Int.reduceToNat, Int.reduceSub, Int.reduceNeg, Int.cast_ofNat_Int]
        try simp (disch := omega) only [e8, a1, hb, re_bit, rb_1, rb_0, nar_0, nar_1, pk_us, pk_un, va_up_self, va_up_ne, nI_add, pk_mul, nI_clamp, vp_inT, nI_ltI, nI_leI, nI_eqI, pk_sub, true_and, and_true]
        refine hK _ _ _ _ ?_
        refine c1 _ i _ (by omega) ?_
        generalize hB : va_up (va_up A1 14 _) 21 _ = B
        generalize hC : va_up B 22 _ = C
        have hB14 : B 14 = upd (A1 14) (6 * hh + i) (rz_b ((al m).testBit i)) := by rw [← hB, va_up_ne _ _ (by decide), va_up_self, hb]; rfl
        have hB21 : B 21 = upd (A1 21) (6 * hh + i) (os ((tk m).2.2.1 i)) := by
          rw [← hB, va_up_self]
          show _ = upd (A1 21) (6 * hh + i) (os (if (al m).testBit i then m.2.2.1 i else none))
          rw [hb]; rfl
        have hBo : ∀ j, j ≠ 14 → j ≠ 21 → B j = A1 j := fun j h1 h2 => by rw [← hB, va_up_ne _ _ h2, va_up_ne _ _ h1]
        have hC22 : C 22 = cp (A1 22) (32 * (6 * hh + i)) (A 9) (3 * (6 * k + i)) 3 := by rw [← hC, va_up_self, hBo 22 (by decide) (by decide), hBo 9 (by decide) (by decide), hA hf 9 (by decide)]
        have hCo : ∀ j, j ≠ 22 → C j = B j := fun j hj => by rw [← hC, va_up_ne _ _ hj]
        clear hB hC
        exact nx C B i A1 hf (by omega) g15 g14 g21 hB14 hB21 hBo hC22 hCo a2 _ _ (fun A1 z5 z6 _ => ih (i + 1) A1 z5 z6 (by omega))
      | false =>
        refine rz_blk' [(.iload 4, 2, 0, 0), (.bipush 6, 2, 0, 0), (.if_icmp .ge 129, 3, 0, 0)] (by decide +kernel) (Nat.le_refl _) (Nat.le_refl _) (fun K R hK hR => ?_)
        simp only [rw_b6, ↓rx_bipush, ↓rx_if_icmp_ge, ↓rx_iload, ↓rx_nil, ↓ry_i2, ↓ry_li0s, ↓ry_li0z, e8, a1, hb, re_a14, re_a21, ↓re_i14, ↓re_i21, rz_set, rz_nol, rz_clr, List.set_cons_zero, List.set_cons_succ, rz_tr, Nat.reduceAdd, Int.reduceAdd, Int.reduceToNat, Int.reduceSub, Int.reduceNeg, Int.cast_ofNat_Int]
        try simp (disch := omega) only [e8, a1, hb, re_bit, rb_1, rb_0, nar_0, nar_1, pk_us, pk_un, va_up_self, va_up_ne, nI_add, pk_mul, nI_clamp, vp_inT, nI_ltI, nI_leI, nI_eqI, pk_sub, true_and, and_true]
        refine ⟨fun q75 => by omega, fun q75 => hK _ _ _ _ ?_⟩
        refine rz_blk' [(.aload_n 0, 1, 0, 0), (.getfield 46, 3, 10, 14), (.bipush 6, 2, 0, 0), (.iload_n 2, 1, 0, 0), (.imul, 1, 0, 0), (.iload 4, 2, 0, 0), (.iadd, 1, 0, 0), (.iload_n 3, 1, 0, 0), (.iload 4, 2, 0, 0), (.ishr, 1, 0, 0), (.iconst 1, 1, 0, 0), (.iand, 1, 0, 0), (.iconst 1, 1, 0, 0), (.if_icmp .ne 7, 3, 0, 0)] (by decide +kernel) (Nat.le_refl _) (Nat.le_refl _) (fun K R hK hR => ?_)
        simp only [rw_b6, rw_c1, ↓rx_aload_n0, ↓rx_bipush, ↓rx_getfield, ↓rx_iadd, ↓rx_iand, ↓rx_iconst, ↓rx_if_icmp_ne, ↓rx_iload, ↓rx_iload_n2, ↓rx_iload_n3, ↓rx_imul, ↓rx_ishr, ↓rx_nil, ↓ry_i2, ↓ry_li0s, ↓ry_li0z, ↓ry_lr0s, ↓ry_lr0z, ↓ry_obu, ↓ry_r1, re_a14, ↓re_F14, ↓re_i14, ↓re_ob, e8, a1, hb, re_a14, re_a21, ↓re_i14, ↓re_i21, rz_set, rz_nol, rz_clr, List.set_cons_zero, List.set_cons_succ, rz_tr, Nat.reduceAdd, Int.reduceAdd, Int.reduceToNat, Int.reduceSub, Int.reduceNeg, Int.cast_ofNat_Int]
        try simp (disch := omega) only [e8, a1, hb, re_bit, rb_1, rb_0, nar_0, nar_1, pk_us, pk_un, va_up_self, va_up_ne, nI_add, pk_mul, nI_clamp, vp_inT, nI_ltI, nI_leI, nI_eqI, pk_sub, true_and, and_true]
        refine ⟨fun q76 => hK _ _ _ _ ?_, fun q76 => absurd q76 (by decide)⟩
        refine rz_blk' [(.iconst 0, 1, 0, 0), (.bastore, 1, 0, 0)] (by decide +kernel) (Nat.le_refl _) (Nat.le_refl _) (fun K R hK hR => ?_)
        simp only [Nat.reduceEqDiff, false_or, or_false, or_true, reduceIte, rw_c0, ↓rx_bastore, ↓rx_iconst, ↓rx_nil, ↓ry_iau, ↓ry_rii, true_and, true_or, e8, a1, hb, re_a14, re_a21, ↓re_i14, ↓re_i21, rz_set, rz_nol, rz_clr, List.set_cons_zero, List.set_cons_succ, rz_tr, Nat.reduceAdd, Int.reduceAdd, Int.reduceToNat, Int.reduceSub, Int.reduceNeg, Int.cast_ofNat_Int]
        try simp (disch := omega) only [e8, a1, hb, re_bit, rb_1, rb_0, nar_0, nar_1, pk_us, pk_un, va_up_self, va_up_ne, nI_add, pk_mul, nI_clamp, vp_inT, nI_ltI, nI_leI, nI_eqI, pk_sub, true_and, and_true]
        refine hK _ _ _ _ ?_
        refine rz_blk' [(.aload_n 0, 1, 0, 0), (.getfield 68, 3, 10, 21), (.bipush 6, 2, 0, 0), (.iload_n 2, 1, 0, 0), (.imul, 1, 0, 0), (.iload 4, 2, 0, 0), (.iadd, 1, 0, 0), (.aload_n 0, 1, 0, 0), (.getfield 46, 3, 10, 14), (.bipush 6, 2, 0, 0), (.iload_n 2, 1, 0, 0), (.imul, 1, 0, 0), (.iload 4, 2, 0, 0), (.iadd, 1, 0, 0), (.baload, 1, 0, 0), (.ifCond .eq 18, 3, 0, 0)] (by decide +kernel) (Nat.le_refl _) (Nat.le_refl _) (fun K R hK hR => ?_)
        simp only [Nat.reduceEqDiff, false_or, or_false, or_true, reduceIte, rw_b6, ↓rx_aload_n0, ↓rx_baload, ↓rx_bipush, ↓rx_getfield, ↓rx_iadd, ↓rx_ifCond_eq, ↓rx_iload, ↓rx_iload_n2, ↓rx_imul, ↓rx_nil, ↓ry_i1, ↓ry_i2, ↓ry_iau, ↓ry_li0s, ↓ry_li0z, ↓ry_lr0s, ↓ry_lr0z, ↓ry_obu, ↓ry_r1, ↓ry_ri, true_and, true_or, re_a14, re_a21, ↓re_F14, ↓re_F21, ↓re_i14, ↓re_i21, ↓re_ob, e8, a1, hb, re_a14, re_a21, ↓re_i14, ↓re_i21, rz_set, rz_nol, rz_clr, List.set_cons_zero, List.set_cons_succ, rz_tr, Nat.reduceAdd, Int.reduceAdd, Int.reduceToNat, Int.reduceSub, Int.reduceNeg, Int.cast_ofNat_Int]
        try simp (disch := omega) only [e8, a1, hb, re_bit, rb_1, rb_0, nar_0, nar_1, pk_us, pk_un, va_up_self, va_up_ne, nI_add, pk_mul, nI_clamp, vp_inT, nI_ltI, nI_leI, nI_eqI, pk_sub, true_and, and_true]
        refine ⟨fun q77 => hK _ _ _ _ ?_, fun q77 => by first | exact absurd rfl q77 | exact absurd trivial q77⟩
        refine rz_blk' [(.iconst (-1), 1, 0, 0), (.iastore, 1, 0, 0)] (by decide +kernel) (Nat.le_refl _) (Nat.le_refl _) (fun K R hK hR => ?_)
        simp only [rw_cm1, ↓rx_iastore, ↓rx_iconst, ↓rx_nil, ↓ry_iau, ↓ry_rii, true_and, e8, a1, hb, re_a14, re_a21, ↓re_i14, ↓re_i21, rz_set, rz_nol, rz_clr, List.set_cons_zero, List.set_cons_succ, rz_tr, Nat.reduceAdd, Int.reduceAdd, Int.reduceToNat, Int.reduceSub, Int.reduceNeg, Int.cast_ofNat_Int]
        try simp (disch := omega) only [e8, a1, hb, re_bit, rb_1, rb_0, nar_0, nar_1, pk_us, pk_un, va_up_self, va_up_ne, nI_add, pk_mul, nI_clamp, vp_inT, nI_ltI, nI_leI, nI_eqI, pk_sub, true_and, and_true]
        refine hK _ _ _ _ ?_
        refine rz_blk' [(.iconst 0, 1, 0, 0), (.istore 5, 2, 0, 0)] (by decide +kernel) (Nat.le_refl _) (Nat.le_refl _) (fun K R hK hR => ?_)
        simp only [rw_c0, ↓rx_iconst, ↓rx_istore, ↓rx_nil, ↓ry_i1, e8, a1, hb, re_a14, re_a21, ↓re_i14, ↓re_i21, rz_set, rz_nol, rz_clr, List.set_cons_zero, List.set_cons_succ, rz_tr, Nat.reduceAdd, Int.reduceAdd, Int.reduceToNat, Int.reduceSub, Int.reduceNeg, Int.cast_ofNat_Int]
        try simp (disch := omega) only [e8, a1, hb, re_bit, rb_1, rb_0, nar_0, nar_1, pk_us, pk_un, va_up_self, va_up_ne, nI_add, pk_mul, nI_clamp, vp_inT, nI_ltI, nI_leI, nI_eqI, pk_sub, true_and, and_true]
        refine hK _ _ _ _ ?_
        refine c1 _ i _ (by omega) ?_
        generalize hB : va_up (va_up A1 14 _) 21 _ = B
        generalize hC : va_up B 22 _ = C
        have hB14 : B 14 = upd (A1 14) (6 * hh + i) (rz_b ((al m).testBit i)) := by rw [← hB, va_up_ne _ _ (by decide), va_up_self, hb]; rfl
        have hB21 : B 21 = upd (A1 21) (6 * hh + i) (os ((tk m).2.2.1 i)) := by
          rw [← hB, va_up_self]
          show _ = upd (A1 21) (6 * hh + i) (os (if (al m).testBit i then m.2.2.1 i else none))
          rw [hb]; rfl
        have hBo : ∀ j, j ≠ 14 → j ≠ 21 → B j = A1 j := fun j h1 h2 => by rw [← hB, va_up_ne _ _ h2, va_up_ne _ _ h1]
        have hC22 : C 22 = cp (A1 22) (32 * (6 * hh + i)) (A 9) (3 * (6 * k + i)) 3 := by rw [← hC, va_up_self, hBo 22 (by decide) (by decide), hBo 9 (by decide) (by decide), hA hf 9 (by decide)]
        have hCo : ∀ j, j ≠ 22 → C j = B j := fun j hj => by rw [← hC, va_up_ne _ _ hj]
        clear hB hC
        exact nx C B i A1 hf (by omega) g15 g14 g21 hB14 hB21 hBo hC22 hCo a2 _ _ (fun A1 z5 z6 _ => ih (i + 1) A1 z5 z6 (by omega))
  refine rz_enter' [some (.ref a), some (.int (nI k)), some (.int (nI hh)), none, none, none, none] (by decide +kernel) rfl rfl (Nat.le_of_ble_eq_true rfl) rfl ?_
  refine rz_blk' [(.aload_n 0, 1, 0, 0), (.iload_n 1, 1, 0, 0)] (by decide +kernel) (Nat.le_refl _) (Nat.le_refl _) (fun K R hK hR => ?_)
  simp only [↓rx_aload_n0, ↓rx_iload_n1, ↓rx_nil, ↓ry_li0s, ↓ry_li0z, ↓ry_lr0s, ↓ry_lr0z, rz_set, rz_nol, rz_clr, List.set_cons_zero, List.set_cons_succ, rz_tr, Nat.reduceAdd, Int.reduceAdd, Int.reduceToNat, Int.reduceSub, Int.reduceNeg, Int.cast_ofNat_Int]
  try simp (disch := omega) only [pk_us, pk_un, va_up_self, va_up_ne, nI_add, pk_mul, nI_clamp, vp_inT, nI_ltI, nI_leI, nI_eqI, pk_sub, true_and, and_true]
  refine hK _ _ _ _ ?_
  refine rz_cV (As := [.int (nI k)]) (b := a) (S := []) l_Mod_226 (by decide +kernel) rfl re_at0 rfl (Nat.le_of_ble_eq_true rfl) (Nat.le_refl _) (Nat.le_refl _) (c_Mod_usefulOf hk h) (fun r G' hr => ?_)
  obtain ⟨rfl, rfl⟩ := hr
  simp only [Option.toList, List.cons_append, List.nil_append]
  refine rz_blk' [(.istore_n 3, 1, 0, 0)] (by decide +kernel) (Nat.le_refl _) (Nat.le_refl _) (fun K R hK hR => ?_)
  simp only [↓rx_istore_n3, ↓rx_nil, ↓ry_i1, rz_set, rz_nol, rz_clr, List.set_cons_zero, List.set_cons_succ, rz_tr, Nat.reduceAdd, Int.reduceAdd, Int.reduceToNat, Int.reduceSub, Int.reduceNeg, Int.cast_ofNat_Int]
  try simp (disch := omega) only [pk_us, pk_un, va_up_self, va_up_ne, nI_add, pk_mul, nI_clamp, vp_inT, nI_ltI, nI_leI, nI_eqI, pk_sub, true_and, and_true]
  refine hK _ _ _ _ ?_
  refine rz_blk' [(.aload_n 0, 1, 0, 0), (.getfield 50, 3, 10, 15), (.iload_n 2, 1, 0, 0), (.iconst 0, 1, 0, 0), (.iastore, 1, 0, 0)] (by decide +kernel) (Nat.le_refl _) (Nat.le_refl _) (fun K R hK hR => ?_)
  simp only [rw_c0, ↓rx_aload_n0, ↓rx_getfield, ↓rx_iastore, ↓rx_iconst, ↓rx_iload_n2, ↓rx_nil, ↓ry_iau, ↓ry_li0s, ↓ry_li0z, ↓ry_lr0s, ↓ry_lr0z, ↓ry_obu, ↓ry_r1, ↓ry_rii, true_and, re_a15, ↓re_F15, ↓re_i15, ↓re_ob, rz_set, rz_nol, rz_clr, List.set_cons_zero, List.set_cons_succ, rz_tr, Nat.reduceAdd, Int.reduceAdd, Int.reduceToNat, Int.reduceSub, Int.reduceNeg, Int.cast_ofNat_Int]
  try simp (disch := omega) only [pk_us, pk_un, va_up_self, va_up_ne, nI_add, pk_mul, nI_clamp, vp_inT, nI_ltI, nI_leI, nI_eqI, pk_sub, true_and, and_true]
  refine hK _ _ _ _ ?_
  refine rz_blk' [(.iconst 0, 1, 0, 0), (.istore 4, 2, 0, 0)] (by decide +kernel) (Nat.le_refl _) (Nat.le_refl _) (fun K R hK hR => ?_)
  simp only [rw_c0, ↓rx_iconst, ↓rx_istore, ↓rx_nil, ↓ry_i1, rz_set, rz_nol, rz_clr, List.set_cons_zero, List.set_cons_succ, rz_tr, Nat.reduceAdd, Int.reduceAdd, Int.reduceToNat, Int.reduceSub, Int.reduceNeg, Int.cast_ofNat_Int]
  try simp (disch := omega) only [pk_us, pk_un, va_up_self, va_up_ne, nI_add, pk_mul, nI_clamp, vp_inT, nI_ltI, nI_leI, nI_eqI, pk_sub, true_and, and_true]
  refine hK _ _ _ _ ?_
  refine ls 6 0 _ _ _ rfl (ft.rf.u (fun z hz => pk_un (by unfold th_own at hz; omega))) ?_ (fun q hq => absurd hq (Nat.not_lt_zero _)) (fun q hq => absurd hq (Nat.not_lt_zero _))
  rw [va_up_self, pk_us]
