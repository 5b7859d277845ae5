/-! the reference: read -/
theorem re_sh2 (x : Int32) {k : Nat} (hk : k < 10) : x >>> (nI (2 * k) &&& 31) &&& nI 3 = nI (dk_let x.toBitVec.toNat k) := by
  have e1 : ∀ k, k < 10 → nI (2 * k) &&& 31 = nI (2 * k) ∧ ((nI (2 * k)).toBitVec.smod 32).toNat = 2 * k := by decide +kernel
  obtain ⟨e1, e2⟩ := e1 k hk
  rw [e1, pk_and _ 2 (by decide)]
  congr 1
  have e3 : (x >>> nI (2 * k)).toBitVec = x.toBitVec.sshiftRight (2 * k) := by
    show x.toBitVec.sshiftRight' ((nI (2 * k)).toBitVec.smod 32) = _
    rw [BitVec.sshiftRight', e2]
  rw [e3, dk_let]
  apply Nat.eq_of_testBit_eq
  intro j
  rw [Nat.testBit_mod_two_pow, show (4 : Nat) = 2 ^ 2 from rfl, Nat.testBit_mod_two_pow, Nat.testBit_div_two_pow]
  by_cases c : j < 2
  · simp only [c, decide_true, Bool.true_and]
    have := BitVec.getLsbD_sshiftRight (x := x.toBitVec) (s := 2 * k) (i := j)
    rw [BitVec.getLsbD] at this
    rw [this]
    have h1 : j + 2 * k < 32 := by omega
    rw [show 2 * k + j = j + 2 * k by omega]
    simp [h1, BitVec.getLsbD, show j < 32 by omega]
  · simp [c]
/-- what calls leave behind -/
def kp (I : Nat → Int32) (A : Nat → Nat → Int32) (I1 : Nat → Int32) (A1 : Nat → Nat → Int32) : Prop := (I1 12 = I 12 ∧ ∀ j, (j = 46 ∨ 67 ≤ j) → j < 70 → I1 j = I j) ∧ (∀ j, j < 14 → A1 j = A j) ∧ ∀ j, 70 ≤ j → j < 76 → A1 j = A j
theorem kp.rf {I : Nat → Int32} {A : Nat → Nat → Int32} : kp I A I A := ⟨⟨rfl, fun _ _ _ => rfl⟩, fun _ _ => rfl, fun _ _ _ => rfl⟩
theorem kp.i {I I1 I2 : Nat → Int32} {A A1 : Nat → Nat → Int32} {K : List Nat} (h : kp I A I1 A1) (hf : fi K I1 I2) (hK : ([12, 46, 67, 68, 69].all (fun k => !K.contains k)) = true) : kp I A I2 A1 := by
  have h0 : ∀ k, k ∈ [12, 46, 67, 68, 69] → K.contains k = false := fun k hk => by simpa using (List.all_eq_true.mp hK) k hk
  refine ⟨⟨(hf 12 (h0 12 (by decide))).trans h.1.1, fun j h1 h2 => (hf j (h0 j ?_)).trans (h.1.2 j h1 h2)⟩, h.2⟩
  have : j = 46 ∨ j = 67 ∨ j = 68 ∨ j = 69 := by omega
  rcases this with rfl | rfl | rfl | rfl <;> decide
theorem kp.a {I I1 : Nat → Int32} {A A1 A2 : Nat → Nat → Int32} {K : List Nat} (h : kp I A I1 A1) (hf : fa K A1 A2) (hK : (K.all (fun k => decide (14 ≤ k) && (decide (k < 70) || decide (76 ≤ k)))) = true) : kp I A I1 A2 := by
  have h0 : ∀ k, (k < 14 ∨ (70 ≤ k ∧ k < 76)) → K.contains k = false := fun k hk => by
    cases c : K.contains k with
    | false => rfl
    | true =>
      have := (List.all_eq_true.mp hK) k (by simpa using c)
      simp at this; omega
  exact ⟨h.1, fun j hj => (hf j (h0 j (Or.inl hj))).trans (h.2.1 j hj), fun j h1 h2 => (hf j (h0 j (Or.inr ⟨h1, h2⟩))).trans (h.2.2 j h1 h2)⟩
theorem kp.ft {I I1 : Nat → Int32} {A A1 A2 : Nat → Nat → Int32} {hh : Nat} (h : kp I A I1 A1) (hf : ft hh A1 A2) : kp I A I1 A2 := ⟨h.1, fun j hj => (hf.fa j (Or.inl hj)).trans (h.2.1 j hj), fun j h1 h2 => (hf.fa j (Or.inr (by omega))).trans (h.2.2 j h1 h2)⟩
theorem kp_rf {I I1 : Nat → Int32} {A A1 : Nat → Nat → Int32} {V : dk_V} (h : kp I A I1 A1) (hr : rf I A V) : rf I1 A1 V := rf_keep hr h.1 h.2
theorem re_t_fa {A A' : Nat → Nat → Int32} {h : Nat} {T : mv_T} {K : List Nat} (ht : re_t A h T) (hf : fa K A A') (hK : (K.all (fun k => decide (k < 14) || decide (24 < k))) = true) : re_t A' h T := by
  have h0 : ∀ k, 14 ≤ k → k ≤ 24 → A' k = A k := fun k h1 h2 => hf k (by
    cases c : K.contains k with
    | false => rfl
    | true =>
      have := (List.all_eq_true.mp hK) k (by simpa using c)
      simp at this; omega)
  unfold re_t at *
  rw [h0 14 (by decide) (by decide), h0 15 (by decide) (by decide), h0 16 (by decide) (by decide), h0 17 (by decide) (by decide), h0 18 (by decide) (by decide), h0 19 (by decide) (by decide), h0 20 (by decide) (by decide), h0 21 (by decide) (by decide), h0 22 (by decide) (by decide), h0 23 (by decide) (by decide), h0 24 (by decide) (by decide)]
  exact ht
def rr_1 (x : Nat) (w : Nat × List Nat) (N : List (Nat × List Nat)) (e : Nat × Nat × Nat × List Nat) : List (Nat × List Nat) := if e.1 = w.1 ∧ e.2.1 = x then wadd N (e.2.2.1, w.2 ++ e.2.2.2) else N
def rr_e (es : List (Nat × Nat × Nat × List Nat)) (x : Nat) (N : List (Nat × List Nat)) (w : Nat × List Nat) : List (Nat × List Nat) := es.foldl (rr_1 x w) N
def rr_w (es : List (Nat × Nat × Nat × List Nat)) (x : Nat) (W : List (Nat × List Nat)) : List (Nat × List Nat) := W.foldl (rr_e es x) []
def rr_k (T : mv_T) (lt : Nat → Nat) : Nat → Option (List (Nat × List Nat))
  | 0 => some (if T.1.testBit 0 then [(0, T.2.2.2)] else [])
  | k + 1 => match rr_k T lt k with
    | some W => if 200 < (rr_w T.2.1 (lt k) W).length then none else some (rr_w T.2.1 (lt k) W)
    | none => none
def rr_g (T : mv_T) (N : List (Nat × List Nat)) (w : Nat × List Nat) : List (Nat × List Nat) := match T.2.2.1 w.1 with
  | some v => wadd N (0, w.2 ++ v)
  | none => N
def rr_f (T : mv_T) (W : List (Nat × List Nat)) : List (Nat × List Nat) := W.foldl (rr_g T) []
theorem foldl_take {α β : Type} (f : β → α → β) (b : β) (l : List α) {i : Nat} (h : i < l.length) : (l.take (i + 1)).foldl f b = f ((l.take i).foldl f b) l[i] := by
  rw [List.take_succ_eq_append_getElem h, List.foldl_append]; rfl
theorem wadd_le {b : Nat} {N : List (Nat × List Nat)} {x : Nat × List Nat} (h : ∀ w ∈ N, w.2.length ≤ b) (hx : x.2.length ≤ b) : ∀ w ∈ wadd N x, w.2.length ≤ b := fun w hw => by
  unfold wadd at hw
  split at hw
  · exact h w hw
  split at hw
  · exact h w hw
  · rcases List.mem_append.mp hw with hw | hw
    · exact h w hw
    · simp at hw; subst hw; exact hx
theorem os_lt {f : Option (List Nat)} (h : ∀ xs, f = some xs → xs.length < 2 ^ 31) : (os f < 0) = (f = none) := by
  cases f with
  | none => simp [os]
  | some xs =>
    simp only [os, reduceCtorEq, eq_iff_iff, iff_false]
    exact nI_pos (h xs rfl)
theorem rr_kn {T : mv_T} {lt : Nat → Nat} {i n : Nat} (h : i < n) (hk : rr_k T lt (i + 1) = none) : rr_k T lt n = none := by
  obtain ⟨d, rfl⟩ : ∃ d, n = i + 1 + d := ⟨n - (i + 1), by omega⟩
  clear h
  induction d with
  | zero => exact hk
  | succ d ih => show rr_k T lt (i + 1 + d + 1) = none; simp only [rr_k, ih]
set_option maxRecDepth 100000 in
set_option maxHeartbeats 4000000 in
theorem c_Mod_read {w : rz_w} {d : Nat} {G : rz_G} {a : Nat} {I : Nat → Int32} {A : Nat → Nat → Int32} {V : dk_V} (h : rf I A V) (x yn u yk : Int32) : rz_C w (d + 3) 0 0 y_Mod_read m_Mod_read [.ref a, .int x, .int yn, .int u, .int yk] (re_put G a I A) (rv G a V (fun r V' => ∃ k n W, k < 6 ∧ n ≤ 10 ∧ x = nI k ∧ yn = nI n ∧ dk_rok yn u ∧ rr_k (tk (V.1 k)) (dk_let u.toBitVec.toNat) n = some W ∧ r = some (.int (nI (rr_f (tk (V.1 k)) W).length)) ∧ V' = dk_ur V (rd_out (rr_f (tk (V.1 k)) W) yk (rr_f (tk (V.1 k)) W).length)) (fun c => (c = 1 ∧ dk_no x) ∨ ∃ k, k < 6 ∧ x = nI k ∧ ((c = 2 ∧ ¬ dk_rok yn u) ∨ (c = 3 ∧ ∃ n, n ≤ 10 ∧ yn = nI n ∧ dk_rok yn u ∧ rr_k (tk (V.1 k)) (dk_let u.toBitVec.toNat) n = none)))) := by
  generalize hQ : (rv G a V (fun r V' => ∃ k n W, k < 6 ∧ n ≤ 10 ∧ x = nI k ∧ yn = nI n ∧ dk_rok yn u ∧ rr_k (tk (V.1 k)) (dk_let u.toBitVec.toNat) n = some W ∧ r = some (.int (nI (rr_f (tk (V.1 k)) W).length)) ∧ V' = dk_ur V (rd_out (rr_f (tk (V.1 k)) W) yk (rr_f (tk (V.1 k)) W).length)) (fun c => (c = 1 ∧ dk_no x) ∨ ∃ k, k < 6 ∧ x = nI k ∧ ((c = 2 ∧ ¬ dk_rok yn u) ∨ (c = 3 ∧ ∃ n, n ≤ 10 ∧ yn = nI n ∧ dk_rok yn u ∧ rr_k (tk (V.1 k)) (dk_let u.toBitVec.toNat) n = none)))) = Q
  refine rz_enter' [some (.ref a), some (.int x), some (.int yn), some (.int u), some (.int yk), none, none, none] (by decide +kernel) rfl rfl (Nat.le_of_ble_eq_true rfl) rfl ?_
  refine rz_blk' [(.aload_n 0, 1, 0, 0), (.iload_n 1, 1, 0, 0)] (by decide +kernel) (Nat.le_refl _) (Nat.le_refl _) (fun K R hK hR => ?_)
  simp only [↓rx_aload_n0, ↓rx_iload_n1, ↓rx_nil, ↓ry_li0s, ↓ry_li0z, ↓ry_lr0s, ↓ry_lr0z, rz_set, rz_nol, rz_clr, List.set_cons_zero, List.set_cons_succ, rz_tr, Nat.reduceAdd, Int.reduceAdd, Int.reduceToNat, Int.reduceSub, Int.reduceNeg, Int.cast_ofNat_Int]
  try simp (disch := omega) only [pk_us, pk_un, va_up_self, va_up_ne, nI_add, pk_mul, nI_clamp, vp_inT, nI_ltI, nI_leI, nI_eqI, pk_sub, true_and, and_true]
  refine hK _ _ _ _ ?_
  refine rz_cV (As := [.int x]) (b := a) (S := []) l_Mod_214 (by decide +kernel) rfl re_at0 rfl (Nat.le_of_ble_eq_true rfl) (Nat.le_refl _) (Nat.le_refl _) (c_Mod_isMachine _) (fun r G' hr => ?_)
  rcases hr with ⟨k, hk, rfl, rfl, hg⟩ | ⟨hno, rfl, hg⟩
  rotate_left
  · subst hg
    simp only [Option.toList, List.cons_append, List.nil_append]
    refine rz_blk' [(.ifCond .ne 5, 3, 0, 0)] (by decide +kernel) (Nat.le_refl _) (Nat.le_refl _) (fun K R hK hR => ?_)
    simp only [↓rx_ifCond_ne, ↓rx_nil, ↓ry_i1, rz_set, rz_nol, rz_clr, List.set_cons_zero, List.set_cons_succ, rz_tr, Nat.reduceAdd, Int.reduceAdd, Int.reduceToNat, Int.reduceSub, Int.reduceNeg, Int.cast_ofNat_Int]
    try simp (disch := omega) only [pk_us, pk_un, va_up_self, va_up_ne, nI_add, pk_mul, nI_clamp, vp_inT, nI_ltI, nI_leI, nI_eqI, pk_sub, true_and, and_true]
    refine ⟨fun q1 => absurd rfl q1, fun q1 => hK _ _ _ _ ?_⟩
    refine rz_blk' [(.iconst 0, 1, 0, 0), (.ireturn, 1, 0, 0)] (by decide +kernel) (Nat.le_refl _) (Nat.le_refl _) (fun K R hK hR => ?_)
    simp only [rw_c0, ↓rx_iconst, ↓rx_ireturn, ↓rx_nil, rz_set, rz_nol, rz_clr, List.set_cons_zero, List.set_cons_succ, rz_tr, Nat.reduceAdd, Int.reduceAdd, Int.reduceToNat, Int.reduceSub, Int.reduceNeg, Int.cast_ofNat_Int]
    try simp (disch := omega) only [pk_us, pk_un, va_up_self, va_up_ne, nI_add, pk_mul, nI_clamp, vp_inT, nI_ltI, nI_leI, nI_eqI, pk_sub, true_and, and_true]
    exact hR _ _ (rz_nb_i (by decide)) (by rw [← hQ]; exact rv_e h 1 (by decide) (by decide) (Or.inl ⟨rfl, hno⟩))
  subst hg
  simp only [Option.toList, List.cons_append, List.nil_append]
  have hnk : ¬ dk_no (nI k) := fun q => q k hk rfl
  have hm := h.1 k hk
  obtain ⟨m1, m2, m3, m4, m5, m6, m7, m8, m9, m10, m11⟩ := id hm
  have hwf := re_m_wf hm
  have htw := tk_tw hwf
  have hnrok : ∀ c, c = 2 → ¬ dk_rok yn u → ∀ (I1 : Nat → Int32), rf I1 A V → Q (some (.int 0)) (re_put G a (upd I1 0 (nI c)) A) := fun c hc hn I1 h1 => by
    subst hc
    rw [← hQ]; exact rv_e h1 2 (by decide) (by decide) (Or.inr ⟨k, hk, rfl, Or.inl ⟨rfl, hn⟩⟩)
  generalize hT : tk (V.1 k) = T at *
  have hgo : ∀ n, n ≤ 10 → yn = nI n → (∀ i, i < n → dk_let u.toBitVec.toNat i < 3) → rz_T w (d + 3) 0 0 m_Mod_read 0 0 59 [some (.ref a), some (.int (nI k)), some (.int (nI n)), some (.int u), some (.int yk), some (.int (nI n)), none, none] [] (re_put G a (upd I 0 (nI 0)) A) Q := by
    intro n hn10 hyn hlet
    have hrok : dk_rok yn u := ⟨n, hn10, hyn, hlet⟩
    have hend : ∀ (W : List (Nat × List Nat)) (O : List (Nat × List Nat)), rr_k T (dk_let u.toBitVec.toNat) n = some W → O = rr_f T W → ∀ (j i : Nat) (Rs : List Nat) (I1 : Nat → Int32) (A1 : Nat → Nat → Int32) (z6 z7 : Option Value), i + j = O.length → Rs = rd_out O yk i → I1 0 = nI 0 → wy (I1 50) (A1 52) (A1 53) (A1 54) O → (∀ l, (l = 46 ∨ 67 ≤ l) → l < 70 → I1 l = I l) → (∀ l, l < 13 → A1 l = A l) → (∀ l, 70 ≤ l → l < 76 → A1 l = A l) → I1 12 = nI Rs.length → sg (A1 13) 0 Rs → Rs.length ≤ 36 → rz_T w (d + 3) 0 0 m_Mod_read 0 0 351 [some (.ref a), some (.int (nI k)), some (.int (nI n)), some (.int u), some (.int yk), some (.int (nI i)), z6, z7] [] (re_put G a I1 A1) Q := by
      intro W O hW hO j
      induction j with
      | zero =>
        intro i Rs I1 A1 z6 z7 hij hR1 h0 hwy hI hA1 hA2 h12 h13 hl
        obtain ⟨w1, w2, w3⟩ := id hwy
        refine rz_blk' [(.iload 5, 2, 0, 0), (.aload_n 0, 1, 0, 0), (.getfield 232, 3, 10, 50), (.if_icmp .ge 107, 3, 0, 0)] (by decide +kernel) (Nat.le_refl _) (Nat.le_refl _) (fun K R hK hR => ?_)
        simp only [↓rx_aload_n0, ↓rx_getfield, ↓rx_if_icmp_ge, ↓rx_iload, ↓rx_nil, ↓ry_i2, ↓ry_li0s, ↓ry_li0z, ↓ry_lr0s, ↓ry_lr0z, ↓ry_obu, ↓ry_r1, ↓re_F50, ↓re_ob, w1, rz_set, rz_nol, rz_clr, List.set_cons_zero, List.set_cons_succ, rz_tr, Nat.reduceAdd, Int.reduceAdd, Int.reduceToNat, Int.reduceSub, Int.reduceNeg, Int.cast_ofNat_Int]
        try simp (disch := omega) only [w1, pk_us, pk_un, va_up_self, va_up_ne, nI_add, pk_mul, nI_clamp, vp_inT, nI_ltI, nI_leI, nI_eqI, pk_sub, true_and, and_true]
        refine ⟨fun q21 => hK _ _ _ _ ?_, fun q21 => by omega⟩
        refine rz_blk' [(.aload_n 0, 1, 0, 0), (.getfield 232, 3, 10, 50), (.ireturn, 1, 0, 0)] (by decide +kernel) (Nat.le_refl _) (Nat.le_refl _) (fun K R hK hR => ?_)
        simp only [↓rx_aload_n0, ↓rx_getfield, ↓rx_ireturn, ↓rx_nil, ↓ry_lr0s, ↓ry_lr0z, ↓ry_obu, ↓ry_r1, ↓re_F50, ↓re_ob, w1, rz_set, rz_nol, rz_clr, List.set_cons_zero, List.set_cons_succ, rz_tr, Nat.reduceAdd, Int.reduceAdd, Int.reduceToNat, Int.reduceSub, Int.reduceNeg, Int.cast_ofNat_Int]
        try simp (disch := omega) only [w1, pk_us, pk_un, va_up_self, va_up_ne, nI_add, pk_mul, nI_clamp, vp_inT, nI_ltI, nI_leI, nI_eqI, pk_sub, true_and, and_true]
        refine hR _ _ (rz_nb_i (by decide)) ?_
        rw [← hQ]
        refine rv_f (V' := dk_ur V Rs) h0 ⟨fun k hk => re_m_keep (h.1 k hk) (fun f x ho => by rw [hA1 f (by unfold re_own at ho; omega)]), ⟨h12, h13, show Rs.length ≤ 4096 by omega⟩, re_w_keep h.2.2 hI hA2⟩ ⟨k, n, W, hk, hn10, rfl, hyn, hrok, by rw [hT]; exact hW, by rw [hT, ← hO], ?_⟩
        rw [hT, ← hO, hR1]
        have : i = O.length := by omega
        rw [this]
      | succ j ih =>
        intro i Rs I1 A1 z6 z7 hij hR1 h0 hwy hI hA1 hA2 h12 h13 hl
        obtain ⟨w1, w2, w3⟩ := id hwy
        have hiO : i < O.length := by omega
        obtain ⟨i1, i2, i3, i4, i5, i6⟩ := w3 i hiO
        have hstep : rd_out O yk (i + 1) = if nI (rd_bef O O[i].2) = yk then O[i].2 else Rs := by
          rw [hR1]; simp only [rd_out, List.getElem?_eq_getElem hiO]
        have hnext : ∀ (R' : List Nat) (I2 : Nat → Int32) (A2 : Nat → Nat → Int32) (z6 z7 : Option Value), R' = rd_out O yk (i + 1) → I2 0 = nI 0 → wy (I2 50) (A2 52) (A2 53) (A2 54) O → (∀ l, (l = 46 ∨ 67 ≤ l) → l < 70 → I2 l = I l) → (∀ l, l < 13 → A2 l = A l) → (∀ l, 70 ≤ l → l < 76 → A2 l = A l) → I2 12 = nI R'.length → sg (A2 13) 0 R' → R'.length ≤ 36 → rz_T w (d + 3) 0 0 m_Mod_read 0 0 458 [some (.ref a), some (.int (nI k)), some (.int (nI n)), some (.int u), some (.int yk), some (.int (nI i)), z6, z7] [] (re_put G a I2 A2) Q := by
          intro R' I2 A2 z6 z7 e1 e2 e3 e4 e5 e6 e7 e8 e9
          refine rz_blk' [(.iinc 5 1, 3, 0, 0)] (by decide +kernel) (Nat.le_refl _) (Nat.le_refl _) (fun K R hK hR => ?_)
          simp only [rw_c1, ↓rx_iinc, ↓rx_nil, ↓ry_li0s, ↓ry_li0z, rz_set, rz_nol, rz_clr, List.set_cons_zero, List.set_cons_succ, rz_tr, Nat.reduceAdd, Int.reduceAdd, Int.reduceToNat, Int.reduceSub, Int.reduceNeg, Int.cast_ofNat_Int]
          try simp (disch := omega) only [pk_us, pk_un, va_up_self, va_up_ne, nI_add, pk_mul, nI_clamp, vp_inT, nI_ltI, nI_leI, nI_eqI, pk_sub, true_and, and_true]
          refine hK _ _ _ _ ?_
          refine rz_blk' [(.goto (-110), 3, 0, 0)] (by decide +kernel) (Nat.le_refl _) (Nat.le_refl _) (fun K R hK hR => ?_)
          simp only [↓rx_goto, ↓rx_nil, rz_set, rz_nol, rz_clr, List.set_cons_zero, List.set_cons_succ, rz_tr, Nat.reduceAdd, Int.reduceAdd, Int.reduceToNat, Int.reduceSub, Int.reduceNeg, Int.cast_ofNat_Int]
          try simp (disch := omega) only [pk_us, pk_un, va_up_self, va_up_ne, nI_add, pk_mul, nI_clamp, vp_inT, nI_ltI, nI_leI, nI_eqI, pk_sub, true_and, and_true]
          refine hK _ _ _ _ ?_
          exact ih (i + 1) R' _ _ _ _ (by omega) e1 e2 e3 e4 e5 e6 e7 e8 e9
        have cr : ∀ (B : Nat → Nat → Int32) (I2 : Nat → Int32) (y6 : Int32), I2 12 = nI O[i].2.length → rz_T w (d + 3) 0 0 m_Mod_read 0 0 458 [some (.ref a), some (.int (nI k)), some (.int (nI n)), some (.int u), some (.int yk), some (.int (nI i)), some (.int y6), some (.int (nI (O[i].2.length)))] [] (re_put G a I2 (va_up B 13 (cp (B 13) (0) (B 54) (40 * i) (O[i].2.length)))) Q → rz_T w (d + 3) 0 0 m_Mod_read 0 0 423 [some (.ref a), some (.int (nI k)), some (.int (nI n)), some (.int u), some (.int yk), some (.int (nI i)), some (.int y6), some (.int (nI 0))] [] (re_put G a I2 B) Q := by
          intro B I2 y6 hi2 hx
          have lp : ∀ (cj cx : Nat), cx + cj = O[i].2.length → rz_T w (d + 3) 0 0 m_Mod_read 0 0 423 [some (.ref a), some (.int (nI k)), some (.int (nI n)), some (.int u), some (.int yk), some (.int (nI i)), some (.int y6), some (.int (nI cx))] [] (re_put G a I2 (va_up B 13 (cp (B 13) (0) (B 54) (40 * i) cx))) Q := by
            intro cj
            induction cj with
            | zero =>
              intro cx hij
              have hi : cx = O[i].2.length := by omega
              subst hi
              refine rz_blk' [(.iload 7, 2, 0, 0), (.aload_n 0, 1, 0, 0), (.getfield 246, 3, 10, 12), (.if_icmp .ge 29, 3, 0, 0)] (by decide +kernel) (Nat.le_refl _) (Nat.le_refl _) (fun K R hK hR => ?_)
              simp only [↓rx_aload_n0, ↓rx_getfield, ↓rx_if_icmp_ge, ↓rx_iload, ↓rx_nil, ↓ry_i2, ↓ry_li0s, ↓ry_li0z, ↓ry_lr0s, ↓ry_lr0z, ↓ry_obu, ↓ry_r1, ↓re_F12, ↓re_ob, hi2, rz_set, rz_nol, rz_clr, List.set_cons_zero, List.set_cons_succ, rz_tr, Nat.reduceAdd, Int.reduceAdd, Int.reduceToNat, Int.reduceSub, Int.reduceNeg, Int.cast_ofNat_Int]
              try simp (disch := omega) only [hi2, pk_us, pk_un, va_up_self, va_up_ne, nI_add, pk_mul, nI_clamp, vp_inT, nI_ltI, nI_leI, nI_eqI, pk_sub, true_and, and_true]
              refine ⟨fun q22 => hK _ _ _ _ ?_, fun q22 => by omega⟩
              exact hx
            | succ cj ih =>
              intro cx hij
              refine rz_blk' [(.iload 7, 2, 0, 0), (.aload_n 0, 1, 0, 0), (.getfield 246, 3, 10, 12), (.if_icmp .ge 29, 3, 0, 0)] (by decide +kernel) (Nat.le_refl _) (Nat.le_refl _) (fun K R hK hR => ?_)
              simp only [↓rx_aload_n0, ↓rx_getfield, ↓rx_if_icmp_ge, ↓rx_iload, ↓rx_nil, ↓ry_i2, ↓ry_li0s, ↓ry_li0z, ↓ry_lr0s, ↓ry_lr0z, ↓ry_obu, ↓ry_r1, ↓re_F12, ↓re_ob, hi2, rz_set, rz_nol, rz_clr, List.set_cons_zero, List.set_cons_succ, rz_tr, Nat.reduceAdd, Int.reduceAdd, Int.reduceToNat, Int.reduceSub, Int.reduceNeg, Int.cast_ofNat_Int]
              try simp (disch := omega) only [hi2, pk_us, pk_un, va_up_self, va_up_ne, nI_add, pk_mul, nI_clamp, vp_inT, nI_ltI, nI_leI, nI_eqI, pk_sub, true_and, and_true]
              refine ⟨fun q23 => by omega, fun q23 => hK _ _ _ _ ?_⟩
              refine rz_blk' [(.aload_n 0, 1, 0, 0), (.getfield 43, 3, 10, 13), (.iload 7, 2, 0, 0), (.aload_n 0, 1, 0, 0), (.getfield 138, 3, 10, 54), (.bipush 40, 2, 0, 0), (.iload 5, 2, 0, 0), (.imul, 1, 0, 0), (.iload 7, 2, 0, 0), (.iadd, 1, 0, 0), (.iaload, 1, 0, 0), (.iastore, 1, 0, 0)] (by decide +kernel) (Nat.le_refl _) (Nat.le_refl _) (fun K R hK hR => ?_)
              simp only [rw_b40, ↓rx_aload_n0, ↓rx_bipush, ↓rx_getfield, ↓rx_iadd, ↓rx_iaload, ↓rx_iastore, ↓rx_iload, ↓rx_imul, ↓rx_nil, ↓ry_i2, ↓ry_iau, ↓ry_li0s, ↓ry_li0z, ↓ry_lr0s, ↓ry_lr0z, ↓ry_obu, ↓ry_r1, ↓ry_ri, ↓ry_rii, true_and, re_a13, re_a54, ↓re_F13, ↓re_F54, ↓re_i13, ↓re_i54, ↓re_ob, hi2, rz_set, rz_nol, rz_clr, List.set_cons_zero, List.set_cons_succ, rz_tr, Nat.reduceAdd, Int.reduceAdd, Int.reduceToNat, Int.reduceSub, Int.reduceNeg, Int.cast_ofNat_Int]
              try simp (disch := omega) only [hi2, pk_us, pk_un, va_up_self, va_up_ne, nI_add, pk_mul, nI_clamp, vp_inT, nI_ltI, nI_leI, nI_eqI, pk_sub, true_and, and_true]
              refine hK _ _ _ _ ?_
              refine rz_blk' [(.iinc 7 1, 3, 0, 0)] (by decide +kernel) (Nat.le_refl _) (Nat.le_refl _) (fun K R hK hR => ?_)
              simp only [rw_c1, ↓rx_iinc, ↓rx_nil, ↓ry_li0s, ↓ry_li0z, hi2, rz_set, rz_nol, rz_clr, List.set_cons_zero, List.set_cons_succ, rz_tr, Nat.reduceAdd, Int.reduceAdd, Int.reduceToNat, Int.reduceSub, Int.reduceNeg, Int.cast_ofNat_Int]
              try simp (disch := omega) only [hi2, pk_us, pk_un, va_up_self, va_up_ne, nI_add, pk_mul, nI_clamp, vp_inT, nI_ltI, nI_leI, nI_eqI, pk_sub, true_and, and_true]
              refine hK _ _ _ _ ?_
              refine rz_blk' [(.goto (-32), 3, 0, 0)] (by decide +kernel) (Nat.le_refl _) (Nat.le_refl _) (fun K R hK hR => ?_)
              simp only [↓rx_goto, ↓rx_nil, hi2, rz_set, rz_nol, rz_clr, List.set_cons_zero, List.set_cons_succ, rz_tr, Nat.reduceAdd, Int.reduceAdd, Int.reduceToNat, Int.reduceSub, Int.reduceNeg, Int.cast_ofNat_Int]
              try simp (disch := omega) only [hi2, pk_us, pk_un, va_up_self, va_up_ne, nI_add, pk_mul, nI_clamp, vp_inT, nI_ltI, nI_leI, nI_eqI, pk_sub, true_and, and_true]
              refine hK _ _ _ _ ?_
              have ih := ih (cx + 1) (by omega)
              rw [← cp_s] at ih
              simp only [Nat.zero_add] at ih
              rw [re_vv]
              exact ih
          have := lp (O[i].2.length) 0 (Nat.zero_add _)
          rw [cp_0, re_ve] at this
          exact this
        have rl : ∀ (jj b : Nat) (z7 : Option Value), b + jj = O.length → rz_T w (d + 3) 0 0 m_Mod_read 0 0 366 [some (.ref a), some (.int (nI k)), some (.int (nI n)), some (.int u), some (.int yk), some (.int (nI i)), some (.int (nI ((O.take b).countP (fun v => wd_bef v.2 O[i].2)))), some (.int (nI b))] [] (re_put G a I1 A1) Q := by
          intro jj
          induction jj with
          | zero =>
            intro b z7 hbj
            have hb : b = O.length := by omega
            subst hb
            rw [List.take_length]
            have hrb : O.countP (fun v => wd_bef v.2 O[i].2) = rd_bef O O[i].2 := rfl
            rw [hrb]
            refine rz_blk' [(.iload 7, 2, 0, 0), (.aload_n 0, 1, 0, 0), (.getfield 232, 3, 10, 50), (.if_icmp .ge 30, 3, 0, 0)] (by decide +kernel) (Nat.le_refl _) (Nat.le_refl _) (fun K R hK hR => ?_)
            simp only [↓rx_aload_n0, ↓rx_getfield, ↓rx_if_icmp_ge, ↓rx_iload, ↓rx_nil, ↓ry_i2, ↓ry_li0s, ↓ry_li0z, ↓ry_lr0s, ↓ry_lr0z, ↓ry_obu, ↓ry_r1, ↓re_F50, ↓re_ob, w1, i2, rz_set, rz_nol, rz_clr, List.set_cons_zero, List.set_cons_succ, rz_tr, Nat.reduceAdd, Int.reduceAdd, Int.reduceToNat, Int.reduceSub, Int.reduceNeg, Int.cast_ofNat_Int]
            try simp (disch := omega) only [w1, i2, pk_us, pk_un, va_up_self, va_up_ne, nI_add, pk_mul, nI_clamp, vp_inT, nI_ltI, nI_leI, nI_eqI, pk_sub, true_and, and_true]
            refine ⟨fun q24 => hK _ _ _ _ ?_, fun q24 => by omega⟩
            refine rz_blk' [(.iload 6, 2, 0, 0), (.iload 4, 2, 0, 0), (.if_icmp .ne 52, 3, 0, 0)] (by decide +kernel) (Nat.le_refl _) (Nat.le_refl _) (fun K R hK hR => ?_)
            simp only [↓rx_if_icmp_ne, ↓rx_iload, ↓rx_nil, ↓ry_i2, ↓ry_li0s, ↓ry_li0z, w1, i2, rz_set, rz_nol, rz_clr, List.set_cons_zero, List.set_cons_succ, rz_tr, Nat.reduceAdd, Int.reduceAdd, Int.reduceToNat, Int.reduceSub, Int.reduceNeg, Int.cast_ofNat_Int]
            try simp (disch := omega) only [w1, i2, pk_us, pk_un, va_up_self, va_up_ne, nI_add, pk_mul, nI_clamp, vp_inT, nI_ltI, nI_leI, nI_eqI, pk_sub, true_and, and_true]
            
            refine ⟨fun q25 => hK _ _ _ _ ?_, fun q25 => hK _ _ _ _ ?_⟩
            · -- 406 taken
              refine hnext Rs I1 A1 _ _ ?_ h0 hwy hI hA1 hA2 h12 h13 hl
              rw [hstep, if_neg q25]
            · -- 406 not taken
              refine rz_blk' [(.aload_n 0, 1, 0, 0), (.aload_n 0, 1, 0, 0), (.getfield 135, 3, 10, 53), (.iload 5, 2, 0, 0), (.iaload, 1, 0, 0), (.putfield 246, 3, 10, 12)] (by decide +kernel) (Nat.le_refl _) (Nat.le_refl _) (fun K R hK hR => ?_)
              simp only [List.length_cons, List.length_nil, Nat.reduceLT, rf_10_12, ↓rx_aload_n0, ↓rx_getfield, ↓rx_iaload, ↓rx_iload, ↓rx_nil, ↓rx_putfield, ↓ry_iau, ↓ry_li0s, ↓ry_li0z, ↓ry_lr0s, ↓ry_lr0z, ↓ry_obu, ↓ry_r1, ↓ry_ri, ↓ry_vr, true_and, re_a53, re_len, re_u12, ↓re_F53, ↓re_i53, ↓re_ob, w1, i2, rz_set, rz_nol, rz_clr, List.set_cons_zero, List.set_cons_succ, rz_tr, Nat.reduceAdd, Int.reduceAdd, Int.reduceToNat, Int.reduceSub, Int.reduceNeg, Int.cast_ofNat_Int]
              try simp (disch := omega) only [w1, i2, pk_us, pk_un, va_up_self, va_up_ne, nI_add, pk_mul, nI_clamp, vp_inT, nI_ltI, nI_leI, nI_eqI, pk_sub, true_and, and_true]
              refine hK _ _ _ _ ?_
              refine rz_blk' [(.iconst 0, 1, 0, 0), (.istore 7, 2, 0, 0)] (by decide +kernel) (Nat.le_refl _) (Nat.le_refl _) (fun K R hK hR => ?_)
              simp only [rw_c0, ↓rx_iconst, ↓rx_istore, ↓rx_nil, ↓ry_i1, w1, i2, rz_set, rz_nol, rz_clr, List.set_cons_zero, List.set_cons_succ, rz_tr, Nat.reduceAdd, Int.reduceAdd, Int.reduceToNat, Int.reduceSub, Int.reduceNeg, Int.cast_ofNat_Int]
              try simp (disch := omega) only [w1, i2, pk_us, pk_un, va_up_self, va_up_ne, nI_add, pk_mul, nI_clamp, vp_inT, nI_ltI, nI_leI, nI_eqI, pk_sub, true_and, and_true]
              refine hK _ _ _ _ ?_
              refine cr _ _ _ (by rw [pk_us]) ?_
              refine hnext O[i].2 _ _ _ _ ?_ ?_ ?_ (fun l h1 h2 => ?_) (fun l hl => ?_) (fun l h1 h2 => ?_) pk_us ?_ i5
              · rw [hstep, if_pos (by simpa using q25)]
              · rw [pk_un (by decide)]; exact h0
              · rw [pk_un (by decide), va_up_ne _ _ (by decide), va_up_ne _ _ (by decide), va_up_ne _ _ (by decide)]; exact hwy
              · rw [pk_un (by omega)]; exact hI l h1 h2
              · rw [va_up_ne _ _ (by omega)]; exact hA1 l hl
              · rw [va_up_ne _ _ (by omega)]; exact hA2 l h1 h2
              · rw [va_up_self]; exact sg_cp i3 (Nat.le_refl _)
          | succ jj ihb =>
            intro b z7 hbj
            have hbO : b < O.length := by omega
            have hc : (O.take (b + 1)).countP (fun v => wd_bef v.2 O[i].2) = (O.take b).countP (fun v => wd_bef v.2 O[i].2) + (if wd_bef O[b].2 O[i].2 then 1 else 0) := by
              rw [List.take_succ_eq_append_getElem hbO, List.countP_append]; simp [List.countP_cons]
            have ihb := ihb (b + 1) none (by omega)
            rw [hc] at ihb
            have hcl := c_Mod_isBefore (w := w) (d := d + 2) (G := G) (a := a) (p := b) (q := i) (u := O[b].2) (v := O[i].2) hwy (by rw [List.getElem?_eq_getElem hbO]; rfl) (by rw [List.getElem?_eq_getElem hiO]; rfl)
            cases hbf : wd_bef O[b].2 O[i].2 with
            | true =>
              rw [hbf] at hcl ihb
              refine rz_blk' [(.iload 7, 2, 0, 0), (.aload_n 0, 1, 0, 0), (.getfield 232, 3, 10, 50), (.if_icmp .ge 30, 3, 0, 0)] (by decide +kernel) (Nat.le_refl _) (Nat.le_refl _) (fun K R hK hR => ?_)
              simp only [↓rx_aload_n0, ↓rx_getfield, ↓rx_if_icmp_ge, ↓rx_iload, ↓rx_nil, ↓ry_i2, ↓ry_li0s, ↓ry_li0z, ↓ry_lr0s, ↓ry_lr0z, ↓ry_obu, ↓ry_r1, ↓re_F50, ↓re_ob, w1, rz_set, rz_nol, rz_clr, List.set_cons_zero, List.set_cons_succ, rz_tr, Nat.reduceAdd, Int.reduceAdd, Int.reduceToNat, Int.reduceSub, Int.reduceNeg, Int.cast_ofNat_Int]
              try simp (disch := omega) only [w1, pk_us, pk_un, va_up_self, va_up_ne, nI_add, pk_mul, nI_clamp, vp_inT, nI_ltI, nI_leI, nI_eqI, pk_sub, true_and, and_true]
              refine ⟨fun q26 => by omega, fun q26 => hK _ _ _ _ ?_⟩
              refine rz_blk' [(.iload 6, 2, 0, 0), (.aload_n 0, 1, 0, 0), (.iload 7, 2, 0, 0), (.iload 5, 2, 0, 0)] (by decide +kernel) (Nat.le_refl _) (Nat.le_refl _) (fun K R hK hR => ?_)
              simp only [↓rx_aload_n0, ↓rx_iload, ↓rx_nil, ↓ry_li0s, ↓ry_li0z, ↓ry_lr0s, ↓ry_lr0z, w1, rz_set, rz_nol, rz_clr, List.set_cons_zero, List.set_cons_succ, rz_tr, Nat.reduceAdd, Int.reduceAdd, Int.reduceToNat, Int.reduceSub, Int.reduceNeg, Int.cast_ofNat_Int]
              try simp (disch := omega) only [w1, pk_us, pk_un, va_up_self, va_up_ne, nI_add, pk_mul, nI_clamp, vp_inT, nI_ltI, nI_leI, nI_eqI, pk_sub, true_and, and_true]
              refine hK _ _ _ _ ?_
              refine rz_cV (As := [.int (nI b), .int (nI i)]) (b := a) (S := [.int (nI _)]) l_Mod_249 (by decide +kernel) rfl re_at0 rfl (Nat.le_of_ble_eq_true rfl) (Nat.le_refl _) (Nat.le_refl _) (hcl) (fun r G' hr => ?_)
              obtain ⟨rfl, rfl⟩ := hr
              simp only [Option.toList, List.cons_append, List.nil_append]
              refine rz_blk' [(.ifCond .eq 7, 3, 0, 0)] (by decide +kernel) (Nat.le_refl _) (Nat.le_refl _) (fun K R hK hR => ?_)
              simp only [↓rx_ifCond_eq, ↓rx_nil, ↓ry_i1, w1, rz_set, rz_nol, rz_clr, List.set_cons_zero, List.set_cons_succ, rz_tr, Nat.reduceAdd, Int.reduceAdd, Int.reduceToNat, Int.reduceSub, Int.reduceNeg, Int.cast_ofNat_Int]
              try simp (disch := omega) only [w1, pk_us, pk_un, va_up_self, va_up_ne, nI_add, pk_mul, nI_clamp, vp_inT, nI_ltI, nI_leI, nI_eqI, pk_sub, true_and, and_true]
              refine ⟨fun q27 => absurd q27 (by decide), fun q27 => hK _ _ _ _ ?_⟩
              refine rz_blk' [(.iconst 1, 1, 0, 0), (.goto 4, 3, 0, 0)] (by decide +kernel) (Nat.le_refl _) (Nat.le_refl _) (fun K R hK hR => ?_)
              simp only [rw_c1, ↓rx_goto, ↓rx_iconst, ↓rx_nil, w1, rz_set, rz_nol, rz_clr, List.set_cons_zero, List.set_cons_succ, rz_tr, Nat.reduceAdd, Int.reduceAdd, Int.reduceToNat, Int.reduceSub, Int.reduceNeg, Int.cast_ofNat_Int]
              try simp (disch := omega) only [w1, pk_us, pk_un, va_up_self, va_up_ne, nI_add, pk_mul, nI_clamp, vp_inT, nI_ltI, nI_leI, nI_eqI, pk_sub, true_and, and_true]
              refine hK _ _ _ _ ?_
              refine rz_blk' [(.iadd, 1, 0, 0), (.istore 6, 2, 0, 0)] (by decide +kernel) (Nat.le_refl _) (Nat.le_refl _) (fun K R hK hR => ?_)
              simp only [↓rx_iadd, ↓rx_istore, ↓rx_nil, ↓ry_i1, ↓ry_i2, w1, rz_set, rz_nol, rz_clr, List.set_cons_zero, List.set_cons_succ, rz_tr, Nat.reduceAdd, Int.reduceAdd, Int.reduceToNat, Int.reduceSub, Int.reduceNeg, Int.cast_ofNat_Int]
              try simp (disch := omega) only [w1, pk_us, pk_un, va_up_self, va_up_ne, nI_add, pk_mul, nI_clamp, vp_inT, nI_ltI, nI_leI, nI_eqI, pk_sub, true_and, and_true]
              refine hK _ _ _ _ ?_
              refine rz_blk' [(.iinc 7 1, 3, 0, 0)] (by decide +kernel) (Nat.le_refl _) (Nat.le_refl _) (fun K R hK hR => ?_)
              simp only [rw_c1, ↓rx_iinc, ↓rx_nil, ↓ry_li0s, ↓ry_li0z, w1, rz_set, rz_nol, rz_clr, List.set_cons_zero, List.set_cons_succ, rz_tr, Nat.reduceAdd, Int.reduceAdd, Int.reduceToNat, Int.reduceSub, Int.reduceNeg, Int.cast_ofNat_Int]
              try simp (disch := omega) only [w1, pk_us, pk_un, va_up_self, va_up_ne, nI_add, pk_mul, nI_clamp, vp_inT, nI_ltI, nI_leI, nI_eqI, pk_sub, true_and, and_true]
              refine hK _ _ _ _ ?_
              refine rz_blk' [(.goto (-33), 3, 0, 0)] (by decide +kernel) (Nat.le_refl _) (Nat.le_refl _) (fun K R hK hR => ?_)
              simp only [↓rx_goto, ↓rx_nil, w1, rz_set, rz_nol, rz_clr, List.set_cons_zero, List.set_cons_succ, rz_tr, Nat.reduceAdd, Int.reduceAdd, Int.reduceToNat, Int.reduceSub, Int.reduceNeg, Int.cast_ofNat_Int]
              try simp (disch := omega) only [w1, pk_us, pk_un, va_up_self, va_up_ne, nI_add, pk_mul, nI_clamp, vp_inT, nI_ltI, nI_leI, nI_eqI, pk_sub, true_and, and_true]
              refine hK _ _ _ _ ?_
              exact ihb
            | false =>
              rw [hbf] at hcl ihb
              refine rz_blk' [(.iload 7, 2, 0, 0), (.aload_n 0, 1, 0, 0), (.getfield 232, 3, 10, 50), (.if_icmp .ge 30, 3, 0, 0)] (by decide +kernel) (Nat.le_refl _) (Nat.le_refl _) (fun K R hK hR => ?_)
              simp only [↓rx_aload_n0, ↓rx_getfield, ↓rx_if_icmp_ge, ↓rx_iload, ↓rx_nil, ↓ry_i2, ↓ry_li0s, ↓ry_li0z, ↓ry_lr0s, ↓ry_lr0z, ↓ry_obu, ↓ry_r1, ↓re_F50, ↓re_ob, w1, rz_set, rz_nol, rz_clr, List.set_cons_zero, List.set_cons_succ, rz_tr, Nat.reduceAdd, Int.reduceAdd, Int.reduceToNat, Int.reduceSub, Int.reduceNeg, Int.cast_ofNat_Int]
              try simp (disch := omega) only [w1, pk_us, pk_un, va_up_self, va_up_ne, nI_add, pk_mul, nI_clamp, vp_inT, nI_ltI, nI_leI, nI_eqI, pk_sub, true_and, and_true]
              refine ⟨fun q28 => by omega, fun q28 => hK _ _ _ _ ?_⟩
              refine rz_blk' [(.iload 6, 2, 0, 0), (.aload_n 0, 1, 0, 0), (.iload 7, 2, 0, 0), (.iload 5, 2, 0, 0)] (by decide +kernel) (Nat.le_refl _) (Nat.le_refl _) (fun K R hK hR => ?_)
              simp only [↓rx_aload_n0, ↓rx_iload, ↓rx_nil, ↓ry_li0s, ↓ry_li0z, ↓ry_lr0s, ↓ry_lr0z, w1, rz_set, rz_nol, rz_clr, List.set_cons_zero, List.set_cons_succ, rz_tr, Nat.reduceAdd, Int.reduceAdd, Int.reduceToNat, Int.reduceSub, Int.reduceNeg, Int.cast_ofNat_Int]
              try simp (disch := omega) only [w1, pk_us, pk_un, va_up_self, va_up_ne, nI_add, pk_mul, nI_clamp, vp_inT, nI_ltI, nI_leI, nI_eqI, pk_sub, true_and, and_true]
              refine hK _ _ _ _ ?_
              refine rz_cV (As := [.int (nI b), .int (nI i)]) (b := a) (S := [.int (nI _)]) l_Mod_249 (by decide +kernel) rfl re_at0 rfl (Nat.le_of_ble_eq_true rfl) (Nat.le_refl _) (Nat.le_refl _) (hcl) (fun r G' hr => ?_)
              obtain ⟨rfl, rfl⟩ := hr
              simp only [Option.toList, List.cons_append, List.nil_append]
              refine rz_blk' [(.ifCond .eq 7, 3, 0, 0)] (by decide +kernel) (Nat.le_refl _) (Nat.le_refl _) (fun K R hK hR => ?_)
              simp only [↓rx_ifCond_eq, ↓rx_nil, ↓ry_i1, w1, rz_set, rz_nol, rz_clr, List.set_cons_zero, List.set_cons_succ, rz_tr, Nat.reduceAdd, Int.reduceAdd, Int.reduceToNat, Int.reduceSub, Int.reduceNeg, Int.cast_ofNat_Int]
              try simp (disch := omega) only [w1, pk_us, pk_un, va_up_self, va_up_ne, nI_add, pk_mul, nI_clamp, vp_inT, nI_ltI, nI_leI, nI_eqI, pk_sub, true_and, and_true]
              refine ⟨fun q29 => hK _ _ _ _ ?_, fun q29 => absurd rfl q29⟩
              refine rz_blk' [(.iconst 0, 1, 0, 0), (.iadd, 1, 0, 0), (.istore 6, 2, 0, 0)] (by decide +kernel) (Nat.le_refl _) (Nat.le_refl _) (fun K R hK hR => ?_)
              simp only [rw_c0, ↓rx_iadd, ↓rx_iconst, ↓rx_istore, ↓rx_nil, ↓ry_i1, ↓ry_i2, w1, rz_set, rz_nol, rz_clr, List.set_cons_zero, List.set_cons_succ, rz_tr, Nat.reduceAdd, Int.reduceAdd, Int.reduceToNat, Int.reduceSub, Int.reduceNeg, Int.cast_ofNat_Int]
              try simp (disch := omega) only [w1, pk_us, pk_un, va_up_self, va_up_ne, nI_add, pk_mul, nI_clamp, vp_inT, nI_ltI, nI_leI, nI_eqI, pk_sub, true_and, and_true]
              refine hK _ _ _ _ ?_
              refine rz_blk' [(.iinc 7 1, 3, 0, 0)] (by decide +kernel) (Nat.le_refl _) (Nat.le_refl _) (fun K R hK hR => ?_)
              simp only [rw_c1, ↓rx_iinc, ↓rx_nil, ↓ry_li0s, ↓ry_li0z, w1, rz_set, rz_nol, rz_clr, List.set_cons_zero, List.set_cons_succ, rz_tr, Nat.reduceAdd, Int.reduceAdd, Int.reduceToNat, Int.reduceSub, Int.reduceNeg, Int.cast_ofNat_Int]
              try simp (disch := omega) only [w1, pk_us, pk_un, va_up_self, va_up_ne, nI_add, pk_mul, nI_clamp, vp_inT, nI_ltI, nI_leI, nI_eqI, pk_sub, true_and, and_true]
              refine hK _ _ _ _ ?_
              refine rz_blk' [(.goto (-33), 3, 0, 0)] (by decide +kernel) (Nat.le_refl _) (Nat.le_refl _) (fun K R hK hR => ?_)
              simp only [↓rx_goto, ↓rx_nil, w1, rz_set, rz_nol, rz_clr, List.set_cons_zero, List.set_cons_succ, rz_tr, Nat.reduceAdd, Int.reduceAdd, Int.reduceToNat, Int.reduceSub, Int.reduceNeg, Int.cast_ofNat_Int]
              try simp (disch := omega) only [w1, pk_us, pk_un, va_up_self, va_up_ne, nI_add, pk_mul, nI_clamp, vp_inT, nI_ltI, nI_leI, nI_eqI, pk_sub, true_and, and_true]
              refine hK _ _ _ _ ?_
              exact ihb
        refine rz_blk' [(.iload 5, 2, 0, 0), (.aload_n 0, 1, 0, 0), (.getfield 232, 3, 10, 50), (.if_icmp .ge 107, 3, 0, 0)] (by decide +kernel) (Nat.le_refl _) (Nat.le_refl _) (fun K R hK hR => ?_)
        simp only [↓rx_aload_n0, ↓rx_getfield, ↓rx_if_icmp_ge, ↓rx_iload, ↓rx_nil, ↓ry_i2, ↓ry_li0s, ↓ry_li0z, ↓ry_lr0s, ↓ry_lr0z, ↓ry_obu, ↓ry_r1, ↓re_F50, ↓re_ob, w1, rz_set, rz_nol, rz_clr, List.set_cons_zero, List.set_cons_succ, rz_tr, Nat.reduceAdd, Int.reduceAdd, Int.reduceToNat, Int.reduceSub, Int.reduceNeg, Int.cast_ofNat_Int]
        try simp (disch := omega) only [w1, pk_us, pk_un, va_up_self, va_up_ne, nI_add, pk_mul, nI_clamp, vp_inT, nI_ltI, nI_leI, nI_eqI, pk_sub, true_and, and_true]
        refine ⟨fun q30 => by omega, fun q30 => hK _ _ _ _ ?_⟩
        refine rz_blk' [(.iconst 0, 1, 0, 0), (.istore 6, 2, 0, 0)] (by decide +kernel) (Nat.le_refl _) (Nat.le_refl _) (fun K R hK hR => ?_)
        simp only [rw_c0, ↓rx_iconst, ↓rx_istore, ↓rx_nil, ↓ry_i1, w1, rz_set, rz_nol, rz_clr, List.set_cons_zero, List.set_cons_succ, rz_tr, Nat.reduceAdd, Int.reduceAdd, Int.reduceToNat, Int.reduceSub, Int.reduceNeg, Int.cast_ofNat_Int]
        try simp (disch := omega) only [w1, pk_us, pk_un, va_up_self, va_up_ne, nI_add, pk_mul, nI_clamp, vp_inT, nI_ltI, nI_leI, nI_eqI, pk_sub, true_and, and_true]
        refine hK _ _ _ _ ?_
        refine rz_blk' [(.iconst 0, 1, 0, 0), (.istore 7, 2, 0, 0)] (by decide +kernel) (Nat.le_refl _) (Nat.le_refl _) (fun K R hK hR => ?_)
        simp only [rw_c0, ↓rx_iconst, ↓rx_istore, ↓rx_nil, ↓ry_i1, w1, rz_set, rz_nol, rz_clr, List.set_cons_zero, List.set_cons_succ, rz_tr, Nat.reduceAdd, Int.reduceAdd, Int.reduceToNat, Int.reduceSub, Int.reduceNeg, Int.cast_ofNat_Int]
        try simp (disch := omega) only [w1, pk_us, pk_un, va_up_self, va_up_ne, nI_add, pk_mul, nI_clamp, vp_inT, nI_ltI, nI_leI, nI_eqI, pk_sub, true_and, and_true]
        refine hK _ _ _ _ ?_
        exact rl O.length 0 none (Nat.zero_add _)
    have hfin : ∀ (W : List (Nat × List Nat)), rr_k T (dk_let u.toBitVec.toNat) n = some W → (∀ w ∈ W, w.2.length ≤ 33) → ∀ (j i : Nat) (N : List (Nat × List Nat)) (I1 : Nat → Int32) (A1 : Nat → Nat → Int32) (z6 z7 : Option Value), i + j = W.length → N = (W.take i).foldl (rr_g T) [] → I1 0 = nI 0 → kp I A I1 A1 → re_t A1 0 T → wy (I1 50) (A1 52) (A1 53) (A1 54) W → wy (I1 51) (A1 55) (A1 56) (A1 57) N → rz_T w (d + 3) 0 0 m_Mod_read 0 0 278 [some (.ref a), some (.int (nI k)), some (.int (nI n)), some (.int u), some (.int yk), some (.int (nI i)), z6, z7] [] (re_put G a I1 A1) Q := by
      intro W hW hW33 j
      induction j with
      | zero =>
        intro i N I1 A1 z6 z7 hij hNf h0 hkp hre hwy hny
        obtain ⟨w1, w2, w3⟩ := id hwy
        have hi : i = W.length := by omega
        rw [hi, List.take_length] at hNf
        refine rz_blk' [(.iload 5, 2, 0, 0), (.aload_n 0, 1, 0, 0), (.getfield 232, 3, 10, 50), (.if_icmp .ge 55, 3, 0, 0)] (by decide +kernel) (Nat.le_refl _) (Nat.le_refl _) (fun K R hK hR => ?_)
        simp only [↓rx_aload_n0, ↓rx_getfield, ↓rx_if_icmp_ge, ↓rx_iload, ↓rx_nil, ↓ry_i2, ↓ry_li0s, ↓ry_li0z, ↓ry_lr0s, ↓ry_lr0z, ↓ry_obu, ↓ry_r1, ↓re_F50, ↓re_ob, w1, rz_set, rz_nol, rz_clr, List.set_cons_zero, List.set_cons_succ, rz_tr, Nat.reduceAdd, Int.reduceAdd, Int.reduceToNat, Int.reduceSub, Int.reduceNeg, Int.cast_ofNat_Int]
        try simp (disch := omega) only [w1, pk_us, pk_un, va_up_self, va_up_ne, nI_add, pk_mul, nI_clamp, vp_inT, nI_ltI, nI_leI, nI_eqI, pk_sub, true_and, and_true]
        refine ⟨fun q31 => hK _ _ _ _ ?_, fun q31 => by omega⟩
        refine rz_blk' [(.aload_n 0, 1, 0, 0)] (by decide +kernel) (Nat.le_refl _) (Nat.le_refl _) (fun K R hK hR => ?_)
        simp only [↓rx_aload_n0, ↓rx_nil, ↓ry_lr0s, ↓ry_lr0z, w1, rz_set, rz_nol, rz_clr, List.set_cons_zero, List.set_cons_succ, rz_tr, Nat.reduceAdd, Int.reduceAdd, Int.reduceToNat, Int.reduceSub, Int.reduceNeg, Int.cast_ofNat_Int]
        try simp (disch := omega) only [w1, pk_us, pk_un, va_up_self, va_up_ne, nI_add, pk_mul, nI_clamp, vp_inT, nI_ltI, nI_leI, nI_eqI, pk_sub, true_and, and_true]
        refine hK _ _ _ _ ?_
        refine rz_cV (As := []) (b := a) (S := []) l_Mod_243 (by decide +kernel) rfl re_at0 rfl (Nat.le_of_ble_eq_true rfl) (Nat.le_refl _) (Nat.le_refl _) (c_Mod_turnWays hny) (fun r G' hr => ?_)
        obtain ⟨rfl, I2, A2, rfl, f1, f2, f3⟩ := hr
        simp only [Option.toList, List.cons_append, List.nil_append]
        refine rz_blk' [(.aload_n 0, 1, 0, 0), (.iconst 0, 1, 0, 0), (.putfield 246, 3, 10, 12)] (by decide +kernel) (Nat.le_refl _) (Nat.le_refl _) (fun K R hK hR => ?_)
        simp only [List.length_cons, List.length_nil, Nat.reduceLT, rf_10_12, rw_c0, ↓rx_aload_n0, ↓rx_iconst, ↓rx_nil, ↓rx_putfield, ↓ry_lr0s, ↓ry_lr0z, ↓ry_obu, ↓ry_vr, true_and, re_len, re_u12, ↓re_ob, w1, rz_set, rz_nol, rz_clr, List.set_cons_zero, List.set_cons_succ, rz_tr, Nat.reduceAdd, Int.reduceAdd, Int.reduceToNat, Int.reduceSub, Int.reduceNeg, Int.cast_ofNat_Int]
        try simp (disch := omega) only [w1, pk_us, pk_un, va_up_self, va_up_ne, nI_add, pk_mul, nI_clamp, vp_inT, nI_ltI, nI_leI, nI_eqI, pk_sub, true_and, and_true]
        refine hK _ _ _ _ ?_
        refine rz_blk' [(.iconst 0, 1, 0, 0), (.istore 5, 2, 0, 0)] (by decide +kernel) (Nat.le_refl _) (Nat.le_refl _) (fun K R hK hR => ?_)
        simp only [rw_c0, ↓rx_iconst, ↓rx_istore, ↓rx_nil, ↓ry_i1, w1, rz_set, rz_nol, rz_clr, List.set_cons_zero, List.set_cons_succ, rz_tr, Nat.reduceAdd, Int.reduceAdd, Int.reduceToNat, Int.reduceSub, Int.reduceNeg, Int.cast_ofNat_Int]
        try simp (disch := omega) only [w1, pk_us, pk_un, va_up_self, va_up_ne, nI_add, pk_mul, nI_clamp, vp_inT, nI_ltI, nI_leI, nI_eqI, pk_sub, true_and, and_true]
        refine hK _ _ _ _ ?_
        have hk2 := (hkp.i f1 rfl).a f2 rfl
        refine hend W N hW hNf N.length 0 [] _ _ _ _ (Nat.zero_add _) rfl ?_ ?_ (fun l h1 h2 => ?_) (fun l hl => hk2.2.1 l (by omega)) hk2.2.2 pk_us sg_nil (by simp)
        · rw [pk_un (by decide), f1 0 rfl]; exact h0
        · rw [pk_un (by decide)]; exact f3
        · rw [pk_un (by omega)]; exact hk2.1.2 l h1 h2
      | succ j ih =>
        intro i N I1 A1 z6 z7 hij hNf h0 hkp hre hwy hny
        obtain ⟨w1, w2, w3⟩ := id hwy
        have hiW : i < W.length := by omega
        obtain ⟨i1, i2, i3, i4, i5, i6⟩ := w3 i hiW
        obtain ⟨r1, r2, r3, r4, r5, r6⟩ := id hre
        obtain ⟨q1, q2⟩ := r4 W[i].1 i4
        rw [Nat.mul_zero, Nat.zero_add] at q1 q2
        have hstep : (W.take (i + 1)).foldl (rr_g T) [] = rr_g T N W[i] := by rw [foldl_take _ _ _ hiW, hNf]
        have hw33 := hW33 _ (List.getElem_mem hiW)
        have hosl := os_lt (f := T.2.2.1 W[i].1) (fun xs hx => by have := (htw.2.2.2.2.1 _ xs hx).1; omega)
        cases hfw : T.2.2.1 W[i].1 with
        | none =>
          rw [hfw] at hosl q1
          have hst2 : rr_g T N W[i] = N := by simp only [rr_g, hfw]
          refine rz_blk' [(.iload 5, 2, 0, 0), (.aload_n 0, 1, 0, 0), (.getfield 232, 3, 10, 50), (.if_icmp .ge 55, 3, 0, 0)] (by decide +kernel) (Nat.le_refl _) (Nat.le_refl _) (fun K R hK hR => ?_)
          simp only [↓rx_aload_n0, ↓rx_getfield, ↓rx_if_icmp_ge, ↓rx_iload, ↓rx_nil, ↓ry_i2, ↓ry_li0s, ↓ry_li0z, ↓ry_lr0s, ↓ry_lr0z, ↓ry_obu, ↓ry_r1, ↓re_F50, ↓re_ob, w1, i1, q1, rz_set, rz_nol, rz_clr, List.set_cons_zero, List.set_cons_succ, rz_tr, Nat.reduceAdd, Int.reduceAdd, Int.reduceToNat, Int.reduceSub, Int.reduceNeg, Int.cast_ofNat_Int]
          try simp (disch := omega) only [w1, i1, q1, pk_us, pk_un, va_up_self, va_up_ne, nI_add, pk_mul, nI_clamp, vp_inT, nI_ltI, nI_leI, nI_eqI, pk_sub, true_and, and_true]
          refine ⟨fun q32 => by omega, fun q32 => hK _ _ _ _ ?_⟩
          refine rz_blk' [(.aload_n 0, 1, 0, 0), (.getfield 68, 3, 10, 21), (.aload_n 0, 1, 0, 0), (.getfield 132, 3, 10, 52), (.iload 5, 2, 0, 0), (.iaload, 1, 0, 0), (.iaload, 1, 0, 0), (.ifCond .lt 34, 3, 0, 0)] (by decide +kernel) (Nat.le_refl _) (Nat.le_refl _) (fun K R hK hR => ?_)
          simp only [↓rx_aload_n0, ↓rx_getfield, ↓rx_iaload, ↓rx_ifCond_lt, ↓rx_iload, ↓rx_nil, ↓ry_i1, ↓ry_iau, ↓ry_li0s, ↓ry_li0z, ↓ry_lr0s, ↓ry_lr0z, ↓ry_obu, ↓ry_r1, ↓ry_ri, true_and, re_a21, re_a52, ↓re_F21, ↓re_F52, ↓re_i21, ↓re_i52, ↓re_ob, w1, i1, q1, rz_set, rz_nol, rz_clr, List.set_cons_zero, List.set_cons_succ, rz_tr, Nat.reduceAdd, Int.reduceAdd, Int.reduceToNat, Int.reduceSub, Int.reduceNeg, Int.cast_ofNat_Int]
          try simp (disch := omega) only [w1, i1, q1, pk_us, pk_un, va_up_self, va_up_ne, nI_add, pk_mul, nI_clamp, vp_inT, nI_ltI, nI_leI, nI_eqI, pk_sub, true_and, and_true]
          refine ⟨fun q33 => hK _ _ _ _ ?_, fun q33 => absurd (show os none < 0 by decide) q33⟩
          refine rz_blk' [(.iinc 5 1, 3, 0, 0)] (by decide +kernel) (Nat.le_refl _) (Nat.le_refl _) (fun K R hK hR => ?_)
          simp only [rw_c1, ↓rx_iinc, ↓rx_nil, ↓ry_li0s, ↓ry_li0z, w1, i1, q1, rz_set, rz_nol, rz_clr, List.set_cons_zero, List.set_cons_succ, rz_tr, Nat.reduceAdd, Int.reduceAdd, Int.reduceToNat, Int.reduceSub, Int.reduceNeg, Int.cast_ofNat_Int]
          try simp (disch := omega) only [w1, i1, q1, pk_us, pk_un, va_up_self, va_up_ne, nI_add, pk_mul, nI_clamp, vp_inT, nI_ltI, nI_leI, nI_eqI, pk_sub, true_and, and_true]
          refine hK _ _ _ _ ?_
          refine rz_blk' [(.goto (-58), 3, 0, 0)] (by decide +kernel) (Nat.le_refl _) (Nat.le_refl _) (fun K R hK hR => ?_)
          simp only [↓rx_goto, ↓rx_nil, w1, i1, q1, rz_set, rz_nol, rz_clr, List.set_cons_zero, List.set_cons_succ, rz_tr, Nat.reduceAdd, Int.reduceAdd, Int.reduceToNat, Int.reduceSub, Int.reduceNeg, Int.cast_ofNat_Int]
          try simp (disch := omega) only [w1, i1, q1, pk_us, pk_un, va_up_self, va_up_ne, nI_add, pk_mul, nI_clamp, vp_inT, nI_ltI, nI_leI, nI_eqI, pk_sub, true_and, and_true]
          refine hK _ _ _ _ ?_
          exact ih (i + 1) N I1 A1 _ _ (by omega) (by rw [hstep, hst2]) h0 hkp hre hwy hny
        | some v =>
          have hv3 := htw.2.2.2.2.1 _ v hfw
          rw [hfw] at hosl q1 q2
          have hst2 : rr_g T N W[i] = wadd N (0, W[i].2 ++ v) := by simp only [rr_g, hfw]
          simp only [os] at q1
          have hcl := c_Mod_addWay (w := w) (d := d + 2) (G := G) (a := a) (st := 0) (way := i) (v := v) (o := -1 - nI (32 * W[i].1)) hwy hny (by decide) hiW hv3.2 (by omega) (Or.inr ⟨_, i4, rfl, q2⟩)
          refine rz_blk' [(.iload 5, 2, 0, 0), (.aload_n 0, 1, 0, 0), (.getfield 232, 3, 10, 50), (.if_icmp .ge 55, 3, 0, 0)] (by decide +kernel) (Nat.le_refl _) (Nat.le_refl _) (fun K R hK hR => ?_)
          simp only [↓rx_aload_n0, ↓rx_getfield, ↓rx_if_icmp_ge, ↓rx_iload, ↓rx_nil, ↓ry_i2, ↓ry_li0s, ↓ry_li0z, ↓ry_lr0s, ↓ry_lr0z, ↓ry_obu, ↓ry_r1, ↓re_F50, ↓re_ob, w1, i1, q1, rz_set, rz_nol, rz_clr, List.set_cons_zero, List.set_cons_succ, rz_tr, Nat.reduceAdd, Int.reduceAdd, Int.reduceToNat, Int.reduceSub, Int.reduceNeg, Int.cast_ofNat_Int]
          try simp (disch := omega) only [w1, i1, q1, pk_us, pk_un, va_up_self, va_up_ne, nI_add, pk_mul, nI_clamp, vp_inT, nI_ltI, nI_leI, nI_eqI, pk_sub, true_and, and_true]
          refine ⟨fun q34 => by omega, fun q34 => hK _ _ _ _ ?_⟩
          refine rz_blk' [(.aload_n 0, 1, 0, 0), (.getfield 68, 3, 10, 21), (.aload_n 0, 1, 0, 0), (.getfield 132, 3, 10, 52), (.iload 5, 2, 0, 0), (.iaload, 1, 0, 0), (.iaload, 1, 0, 0), (.ifCond .lt 34, 3, 0, 0)] (by decide +kernel) (Nat.le_refl _) (Nat.le_refl _) (fun K R hK hR => ?_)
          simp only [↓rx_aload_n0, ↓rx_getfield, ↓rx_iaload, ↓rx_ifCond_lt, ↓rx_iload, ↓rx_nil, ↓ry_i1, ↓ry_iau, ↓ry_li0s, ↓ry_li0z, ↓ry_lr0s, ↓ry_lr0z, ↓ry_obu, ↓ry_r1, ↓ry_ri, true_and, re_a21, re_a52, ↓re_F21, ↓re_F52, ↓re_i21, ↓re_i52, ↓re_ob, w1, i1, q1, rz_set, rz_nol, rz_clr, List.set_cons_zero, List.set_cons_succ, rz_tr, Nat.reduceAdd, Int.reduceAdd, Int.reduceToNat, Int.reduceSub, Int.reduceNeg, Int.cast_ofNat_Int]
          try simp (disch := omega) only [w1, i1, q1, pk_us, pk_un, va_up_self, va_up_ne, nI_add, pk_mul, nI_clamp, vp_inT, nI_ltI, nI_leI, nI_eqI, pk_sub, true_and, and_true]
          refine ⟨fun q35 => absurd q35 (nI_pos (by omega)), fun q35 => hK _ _ _ _ ?_⟩
          refine rz_blk' [(.aload_n 0, 1, 0, 0), (.iconst 0, 1, 0, 0), (.iload 5, 2, 0, 0), (.iconst (-1), 1, 0, 0), (.bipush 32, 2, 0, 0), (.aload_n 0, 1, 0, 0), (.getfield 132, 3, 10, 52), (.iload 5, 2, 0, 0), (.iaload, 1, 0, 0), (.imul, 1, 0, 0), (.isub, 1, 0, 0), (.aload_n 0, 1, 0, 0), (.getfield 68, 3, 10, 21), (.aload_n 0, 1, 0, 0), (.getfield 132, 3, 10, 52), (.iload 5, 2, 0, 0), (.iaload, 1, 0, 0), (.iaload, 1, 0, 0)] (by decide +kernel) (Nat.le_refl _) (Nat.le_refl _) (fun K R hK hR => ?_)
          simp only [rw_b32, rw_c0, rw_cm1, ↓rx_aload_n0, ↓rx_bipush, ↓rx_getfield, ↓rx_iaload, ↓rx_iconst, ↓rx_iload, ↓rx_imul, ↓rx_isub, ↓rx_nil, ↓ry_i2, ↓ry_iau, ↓ry_li0s, ↓ry_li0z, ↓ry_lr0s, ↓ry_lr0z, ↓ry_obu, ↓ry_r1, ↓ry_ri, true_and, re_a21, re_a52, ↓re_F21, ↓re_F52, ↓re_i21, ↓re_i52, ↓re_ob, w1, i1, q1, rz_set, rz_nol, rz_clr, List.set_cons_zero, List.set_cons_succ, rz_tr, Nat.reduceAdd, Int.reduceAdd, Int.reduceToNat, Int.reduceSub, Int.reduceNeg, Int.cast_ofNat_Int]
          try simp (disch := omega) only [w1, i1, q1, pk_us, pk_un, va_up_self, va_up_ne, nI_add, pk_mul, nI_clamp, vp_inT, nI_ltI, nI_leI, nI_eqI, pk_sub, true_and, and_true]
          refine hK _ _ _ _ ?_
          refine rz_cV (As := [.int (nI 0), .int (nI i), .int (-1 - nI (32 * W[i].1)), .int (nI v.length)]) (b := a) (S := []) l_Mod_239 (by decide +kernel) rfl re_at0 rfl (Nat.le_of_ble_eq_true rfl) (Nat.le_refl _) (Nat.le_refl _) (hcl) (fun r G' hr => ?_)
          obtain ⟨rfl, I2, A2, rfl, f1, f2, f3⟩ := hr
          simp only [Option.toList, List.nil_append]
          refine rz_blk' [(.iinc 5 1, 3, 0, 0)] (by decide +kernel) (Nat.le_refl _) (Nat.le_refl _) (fun K R hK hR => ?_)
          simp only [rw_c1, ↓rx_iinc, ↓rx_nil, ↓ry_li0s, ↓ry_li0z, w1, i1, q1, rz_set, rz_nol, rz_clr, List.set_cons_zero, List.set_cons_succ, rz_tr, Nat.reduceAdd, Int.reduceAdd, Int.reduceToNat, Int.reduceSub, Int.reduceNeg, Int.cast_ofNat_Int]
          try simp (disch := omega) only [w1, i1, q1, pk_us, pk_un, va_up_self, va_up_ne, nI_add, pk_mul, nI_clamp, vp_inT, nI_ltI, nI_leI, nI_eqI, pk_sub, true_and, and_true]
          refine hK _ _ _ _ ?_
          refine rz_blk' [(.goto (-58), 3, 0, 0)] (by decide +kernel) (Nat.le_refl _) (Nat.le_refl _) (fun K R hK hR => ?_)
          simp only [↓rx_goto, ↓rx_nil, w1, i1, q1, rz_set, rz_nol, rz_clr, List.set_cons_zero, List.set_cons_succ, rz_tr, Nat.reduceAdd, Int.reduceAdd, Int.reduceToNat, Int.reduceSub, Int.reduceNeg, Int.cast_ofNat_Int]
          try simp (disch := omega) only [w1, i1, q1, pk_us, pk_un, va_up_self, va_up_ne, nI_add, pk_mul, nI_clamp, vp_inT, nI_ltI, nI_leI, nI_eqI, pk_sub, true_and, and_true]
          refine hK _ _ _ _ ?_
          refine ih (i + 1) _ I2 A2 _ _ (by omega) (by rw [hstep, hst2]) ?_ ((hkp.i f1 rfl).a f2 rfl) (re_t_fa hre f2 rfl) ?_ f3
          · rw [f1 0 rfl]; exact h0
          · rw [f1 50 rfl, f2 52 rfl, f2 53 rfl, f2 54 rfl]; exact hwy
    have hlt : ∀ (j i : Nat) (W : List (Nat × List Nat)) (I1 : Nat → Int32) (A1 : Nat → Nat → Int32) (z6 z7 : Option Value), i + j = n → rr_k T (dk_let u.toBitVec.toNat) i = some W → (∀ w ∈ W, w.2.length ≤ 3 + 3 * i) → I1 0 = nI 0 → kp I A I1 A1 → re_t A1 0 T → wy (I1 50) (A1 52) (A1 53) (A1 54) W → rz_T w (d + 3) 0 0 m_Mod_read 0 0 135 [some (.ref a), some (.int (nI k)), some (.int (nI n)), some (.int u), some (.int yk), some (.int (nI i)), z6, z7] [] (re_put G a I1 A1) Q := by
      intro j
      induction j with
      | zero =>
        intro i W I1 A1 z6 z7 hij hW hW3 h0 hkp hre hwy
        have hi : i = n := by omega
        subst hi
        refine rz_blk' [(.iload 5, 2, 0, 0), (.iload_n 2, 1, 0, 0), (.if_icmp .ge 132, 3, 0, 0)] (by decide +kernel) (Nat.le_refl _) (Nat.le_refl _) (fun K R hK hR => ?_)
        simp only [↓rx_if_icmp_ge, ↓rx_iload, ↓rx_iload_n2, ↓rx_nil, ↓ry_i2, ↓ry_li0s, ↓ry_li0z, rz_set, rz_nol, rz_clr, List.set_cons_zero, List.set_cons_succ, rz_tr, Nat.reduceAdd, Int.reduceAdd, Int.reduceToNat, Int.reduceSub, Int.reduceNeg, Int.cast_ofNat_Int]
        try simp (disch := omega) only [pk_us, pk_un, va_up_self, va_up_ne, nI_add, pk_mul, nI_clamp, vp_inT, nI_ltI, nI_leI, nI_eqI, pk_sub, true_and, and_true]
        refine ⟨fun q36 => hK _ _ _ _ ?_, fun q36 => by omega⟩
        refine rz_blk' [(.aload_n 0, 1, 0, 0), (.iconst 0, 1, 0, 0), (.putfield 229, 3, 10, 51)] (by decide +kernel) (Nat.le_refl _) (Nat.le_refl _) (fun K R hK hR => ?_)
        simp only [List.length_cons, List.length_nil, Nat.reduceLT, rf_10_51, rw_c0, ↓rx_aload_n0, ↓rx_iconst, ↓rx_nil, ↓rx_putfield, ↓ry_lr0s, ↓ry_lr0z, ↓ry_obu, ↓ry_vr, true_and, re_len, re_u51, ↓re_ob, rz_set, rz_nol, rz_clr, List.set_cons_zero, List.set_cons_succ, rz_tr, Nat.reduceAdd, Int.reduceAdd, Int.reduceToNat, Int.reduceSub, Int.reduceNeg, Int.cast_ofNat_Int]
        try simp (disch := omega) only [pk_us, pk_un, va_up_self, va_up_ne, nI_add, pk_mul, nI_clamp, vp_inT, nI_ltI, nI_leI, nI_eqI, pk_sub, true_and, and_true]
        refine hK _ _ _ _ ?_
        refine rz_blk' [(.iconst 0, 1, 0, 0), (.istore 5, 2, 0, 0)] (by decide +kernel) (Nat.le_refl _) (Nat.le_refl _) (fun K R hK hR => ?_)
        simp only [rw_c0, ↓rx_iconst, ↓rx_istore, ↓rx_nil, ↓ry_i1, rz_set, rz_nol, rz_clr, List.set_cons_zero, List.set_cons_succ, rz_tr, Nat.reduceAdd, Int.reduceAdd, Int.reduceToNat, Int.reduceSub, Int.reduceNeg, Int.cast_ofNat_Int]
        try simp (disch := omega) only [pk_us, pk_un, va_up_self, va_up_ne, nI_add, pk_mul, nI_clamp, vp_inT, nI_ltI, nI_leI, nI_eqI, pk_sub, true_and, and_true]
        refine hK _ _ _ _ ?_
        refine hfin W hW (fun w hw => Nat.le_trans (hW3 w hw) (by omega)) W.length 0 [] _ _ _ _ (Nat.zero_add _) rfl ?_ (hkp.i (K := [51]) (fi.rf.u rfl) rfl) hre ?_ ?_
        · rw [pk_un (by decide)]; exact h0
        · rw [pk_un (by decide)]; exact hwy
        · rw [pk_us]; exact ⟨rfl, by simp, fun i h => absurd h (Nat.not_lt_zero _)⟩
      | succ j ih =>
        intro i W I1 A1 z6 z7 hij hW hW3 h0 hkp hre hwy
        have hi10 : i < 10 := by omega
        have hl3 := hlet i (by omega)
        have hsh := re_sh2 u hi10
        generalize hx : dk_let u.toBitVec.toNat i = x at *
        have hafter : ∀ (I2 : Nat → Int32) (A2 : Nat → Nat → Int32) (z6 z7 : Option Value), I2 0 = nI 0 → kp I A I2 A2 → re_t A2 0 T → wy (I2 51) (A2 55) (A2 56) (A2 57) (rr_w T.2.1 x W) → (∀ w ∈ rr_w T.2.1 x W, w.2.length ≤ 3 + 3 * (i + 1)) → rz_T w (d + 3) 0 0 m_Mod_read 0 0 244 [some (.ref a), some (.int (nI k)), some (.int (nI n)), some (.int u), some (.int yk), some (.int (nI i)), z6, z7] [] (re_put G a I2 A2) Q := by
          intro I2 A2 z6 z7 g0 gk gr gn gl
          obtain ⟨n1, n2, n3⟩ := id gn
          have hk1 : rr_k T (dk_let u.toBitVec.toNat) (i + 1) = if 200 < (rr_w T.2.1 x W).length then none else some (rr_w T.2.1 x W) := by
            simp only [rr_k, hW, hx]
          refine rz_blk' [(.aload_n 0, 1, 0, 0), (.getfield 229, 3, 10, 51), (.sipush 200, 3, 0, 0), (.if_icmp .le 9, 3, 0, 0)] (by decide +kernel) (Nat.le_refl _) (Nat.le_refl _) (fun K R hK hR => ?_)
          simp only [rw_s200, ↓rx_aload_n0, ↓rx_getfield, ↓rx_if_icmp_le, ↓rx_nil, ↓rx_sipush, ↓ry_i2, ↓ry_lr0s, ↓ry_lr0z, ↓ry_obu, ↓ry_r1, ↓re_F51, ↓re_ob, n1, rz_set, rz_nol, rz_clr, List.set_cons_zero, List.set_cons_succ, rz_tr, Nat.reduceAdd, Int.reduceAdd, Int.reduceToNat, Int.reduceSub, Int.reduceNeg, Int.cast_ofNat_Int]
          try simp (disch := omega) only [n1, pk_us, pk_un, va_up_self, va_up_ne, nI_add, pk_mul, nI_clamp, vp_inT, nI_ltI, nI_leI, nI_eqI, pk_sub, true_and, and_true]
          refine ⟨fun q37 => hK _ _ _ _ ?_, fun q37 => hK _ _ _ _ ?_⟩
          · -- 251 taken
            refine rz_blk' [(.aload_n 0, 1, 0, 0)] (by decide +kernel) (Nat.le_refl _) (Nat.le_refl _) (fun K R hK hR => ?_)
            simp only [↓rx_aload_n0, ↓rx_nil, ↓ry_lr0s, ↓ry_lr0z, n1, rz_set, rz_nol, rz_clr, List.set_cons_zero, List.set_cons_succ, rz_tr, Nat.reduceAdd, Int.reduceAdd, Int.reduceToNat, Int.reduceSub, Int.reduceNeg, Int.cast_ofNat_Int]
            try simp (disch := omega) only [n1, pk_us, pk_un, va_up_self, va_up_ne, nI_add, pk_mul, nI_clamp, vp_inT, nI_ltI, nI_leI, nI_eqI, pk_sub, true_and, and_true]
            refine hK _ _ _ _ ?_
            refine rz_cV (As := []) (b := a) (S := []) l_Mod_243 (by decide +kernel) rfl re_at0 rfl (Nat.le_of_ble_eq_true rfl) (Nat.le_refl _) (Nat.le_refl _) (c_Mod_turnWays gn) (fun r G' hr => ?_)
            obtain ⟨rfl, I3, A3, rfl, f1, f2, f3⟩ := hr
            simp only [Option.toList, List.cons_append, List.nil_append]
            refine rz_blk' [(.iinc 5 1, 3, 0, 0)] (by decide +kernel) (Nat.le_refl _) (Nat.le_refl _) (fun K R hK hR => ?_)
            simp only [rw_c1, ↓rx_iinc, ↓rx_nil, ↓ry_li0s, ↓ry_li0z, n1, rz_set, rz_nol, rz_clr, List.set_cons_zero, List.set_cons_succ, rz_tr, Nat.reduceAdd, Int.reduceAdd, Int.reduceToNat, Int.reduceSub, Int.reduceNeg, Int.cast_ofNat_Int]
            try simp (disch := omega) only [n1, pk_us, pk_un, va_up_self, va_up_ne, nI_add, pk_mul, nI_clamp, vp_inT, nI_ltI, nI_leI, nI_eqI, pk_sub, true_and, and_true]
            refine hK _ _ _ _ ?_
            refine rz_blk' [(.goto (-132), 3, 0, 0)] (by decide +kernel) (Nat.le_refl _) (Nat.le_refl _) (fun K R hK hR => ?_)
            simp only [↓rx_goto, ↓rx_nil, n1, rz_set, rz_nol, rz_clr, List.set_cons_zero, List.set_cons_succ, rz_tr, Nat.reduceAdd, Int.reduceAdd, Int.reduceToNat, Int.reduceSub, Int.reduceNeg, Int.cast_ofNat_Int]
            try simp (disch := omega) only [n1, pk_us, pk_un, va_up_self, va_up_ne, nI_add, pk_mul, nI_clamp, vp_inT, nI_ltI, nI_leI, nI_eqI, pk_sub, true_and, and_true]
            refine hK _ _ _ _ ?_
            refine ih (i + 1) _ I3 A3 _ _ (by omega) (by rw [hk1, if_neg (by omega)]) gl ?_ ((gk.i f1 rfl).a f2 rfl) (re_t_fa gr f2 rfl) f3
            rw [f1 0 rfl]; exact g0
          · -- 251 not taken
            refine rz_blk' [(.aload_n 0, 1, 0, 0), (.iconst 3, 1, 0, 0)] (by decide +kernel) (Nat.le_refl _) (Nat.le_refl _) (fun K R hK hR => ?_)
            simp only [rw_c3, ↓rx_aload_n0, ↓rx_iconst, ↓rx_nil, ↓ry_lr0s, ↓ry_lr0z, n1, rz_set, rz_nol, rz_clr, List.set_cons_zero, List.set_cons_succ, rz_tr, Nat.reduceAdd, Int.reduceAdd, Int.reduceToNat, Int.reduceSub, Int.reduceNeg, Int.cast_ofNat_Int]
            try simp (disch := omega) only [n1, pk_us, pk_un, va_up_self, va_up_ne, nI_add, pk_mul, nI_clamp, vp_inT, nI_ltI, nI_leI, nI_eqI, pk_sub, true_and, and_true]
            refine hK _ _ _ _ ?_
            refine rz_cV (As := [.int (nI 3)]) (b := a) (S := []) l_Mod_218 (by decide +kernel) rfl re_at0 rfl (Nat.le_of_ble_eq_true rfl) (Nat.le_refl _) (Nat.le_refl _) (c_Mod_fail _) (fun r G' hr => ?_)
            obtain ⟨rfl, rfl⟩ := hr
            simp only [Option.toList, List.cons_append, List.nil_append]
            refine rz_blk' [(.ireturn, 1, 0, 0)] (by decide +kernel) (Nat.le_refl _) (Nat.le_refl _) (fun K R hK hR => ?_)
            simp only [↓rx_ireturn, ↓rx_nil, n1, rz_set, rz_nol, rz_clr, List.set_cons_zero, List.set_cons_succ, rz_tr, Nat.reduceAdd, Int.reduceAdd, Int.reduceToNat, Int.reduceSub, Int.reduceNeg, Int.cast_ofNat_Int]
            try simp (disch := omega) only [n1, pk_us, pk_un, va_up_self, va_up_ne, nI_add, pk_mul, nI_clamp, vp_inT, nI_ltI, nI_leI, nI_eqI, pk_sub, true_and, and_true]
            refine hR _ _ (rz_nb_i (by decide)) ?_
            rw [← hQ]
            refine rv_e (kp_rf gk h) 3 (by decide) (by decide) (Or.inr ⟨k, hk, rfl, Or.inr ⟨rfl, n, hn10, hyn, hrok, ?_⟩⟩)
            rw [hT]
            exact rr_kn (i := i) (by omega) (by rw [hk1, if_pos (by omega)])
        have el : ∀ (wi : Nat) (hwi : wi < W.length) (N0 : List (Nat × List Nat)) (I0 : Nat → Int32) (A0 : Nat → Nat → Int32), (∀ (I2 : Nat → Int32) (A2 : Nat → Nat → Int32) (z7 : Option Value), I2 0 = nI 0 → kp I A I2 A2 → re_t A2 0 T → wy (I2 50) (A2 52) (A2 53) (A2 54) W → wy (I2 51) (A2 55) (A2 56) (A2 57) (rr_e T.2.1 x N0 W[wi]) → (∀ w ∈ rr_e T.2.1 x N0 W[wi], w.2.length ≤ 3 + 3 * (i + 1)) → rz_T w (d + 3) 0 0 m_Mod_read 0 0 238 [some (.ref a), some (.int (nI k)), some (.int (nI n)), some (.int u), some (.int yk), some (.int (nI i)), some (.int (nI wi)), z7] [] (re_put G a I2 A2) Q) → ∀ (jj e : Nat) (N : List (Nat × List Nat)) (I1 : Nat → Int32) (A1 : Nat → Nat → Int32), e + jj = T.2.1.length → N = (T.2.1.take e).foldl (rr_1 x W[wi]) N0 → I1 0 = nI 0 → kp I A I1 A1 → re_t A1 0 T → wy (I1 50) (A1 52) (A1 53) (A1 54) W → wy (I1 51) (A1 55) (A1 56) (A1 57) N → (∀ w ∈ N, w.2.length ≤ 3 + 3 * (i + 1)) → rz_T w (d + 3) 0 0 m_Mod_read 0 0 161 [some (.ref a), some (.int (nI k)), some (.int (nI n)), some (.int u), some (.int yk), some (.int (nI i)), some (.int (nI wi)), some (.int (nI e))] [] (re_put G a I1 A1) Q := by
          intro wi hwi N0 I0 A0 hx238 jj
          induction jj with
          | zero =>
            intro e N I1 A1 hej hNf h0 hkp hre hwy hny hnl
            have h24 := htw.2.1
            obtain ⟨r1, r2, r3, r4, r5, r6⟩ := id hre
            have he : e = T.2.1.length := by omega
            rw [he, List.take_length] at hNf
            have hN2 : N = rr_e T.2.1 x N0 W[wi] := hNf
            refine rz_blk' [(.iload 7, 2, 0, 0), (.aload_n 0, 1, 0, 0), (.getfield 50, 3, 10, 15), (.iconst 0, 1, 0, 0), (.iaload, 1, 0, 0), (.if_icmp .ge 69, 3, 0, 0)] (by decide +kernel) (Nat.le_refl _) (Nat.le_refl _) (fun K R hK hR => ?_)
            simp only [rw_c0, ↓rx_aload_n0, ↓rx_getfield, ↓rx_iaload, ↓rx_iconst, ↓rx_if_icmp_ge, ↓rx_iload, ↓rx_nil, ↓ry_i2, ↓ry_iau, ↓ry_li0s, ↓ry_li0z, ↓ry_lr0s, ↓ry_lr0z, ↓ry_obu, ↓ry_r1, ↓ry_ri, true_and, re_a15, ↓re_F15, ↓re_i15, ↓re_ob, r2, rz_set, rz_nol, rz_clr, List.set_cons_zero, List.set_cons_succ, rz_tr, Nat.reduceAdd, Int.reduceAdd, Int.reduceToNat, Int.reduceSub, Int.reduceNeg, Int.cast_ofNat_Int]
            try simp (disch := omega) only [r2, pk_us, pk_un, va_up_self, va_up_ne, nI_add, pk_mul, nI_clamp, vp_inT, nI_ltI, nI_leI, nI_eqI, pk_sub, true_and, and_true]
            refine ⟨fun q38 => hK _ _ _ _ ?_, fun q38 => by omega⟩
            exact hx238 _ _ _ h0 hkp hre hwy (by rw [← hN2]; exact hny) (by rw [← hN2]; exact hnl)
          | succ jj ihe =>
            intro e N I1 A1 hej hNf h0 hkp hre hwy hny hnl
            obtain ⟨w1, w2, w3⟩ := id hwy
            obtain ⟨i1, i2, i3, i4, i5, i6⟩ := w3 wi hwi
            obtain ⟨r1, r2, r3, r4, r5, r6⟩ := id hre
            have heT : e < T.2.1.length := by omega
            obtain ⟨a1, a2, a3, a4, a5⟩ := r3 e heT
            rw [Nat.mul_zero, Nat.zero_add] at a1 a2 a3 a4 a5
            obtain ⟨b1, b2, b3, b4, b5⟩ := tw_e htw heT
            have h24 := htw.2.1
            have hwl := hW3 _ (List.getElem_mem hwi)
            have hstep : (T.2.1.take (e + 1)).foldl (rr_1 x W[wi]) N0 = rr_1 x W[wi] N T.2.1[e] := by rw [foldl_take _ _ _ heT, hNf]
            have hcl := c_Mod_addWay (w := w) (d := d + 2) (G := G) (a := a) (st := T.2.1[e].2.2.1) (way := wi) (v := T.2.1[e].2.2.2) (o := nI (32 * e)) hwy hny b3 hwi b5 (by omega) (Or.inl ⟨_, by omega, rfl, a5⟩)
            refine rz_blk' [(.iload 7, 2, 0, 0), (.aload_n 0, 1, 0, 0), (.getfield 50, 3, 10, 15), (.iconst 0, 1, 0, 0), (.iaload, 1, 0, 0), (.if_icmp .ge 69, 3, 0, 0)] (by decide +kernel) (Nat.le_refl _) (Nat.le_refl _) (fun K R hK hR => ?_)
            simp only [rw_c0, ↓rx_aload_n0, ↓rx_getfield, ↓rx_iaload, ↓rx_iconst, ↓rx_if_icmp_ge, ↓rx_iload, ↓rx_nil, ↓ry_i2, ↓ry_iau, ↓ry_li0s, ↓ry_li0z, ↓ry_lr0s, ↓ry_lr0z, ↓ry_obu, ↓ry_r1, ↓ry_ri, true_and, re_a15, ↓re_F15, ↓re_i15, ↓re_ob, r2, a1, a2, a3, a4, i1, hsh, rz_set, rz_nol, rz_clr, List.set_cons_zero, List.set_cons_succ, rz_tr, Nat.reduceAdd, Int.reduceAdd, Int.reduceToNat, Int.reduceSub, Int.reduceNeg, Int.cast_ofNat_Int]
            try simp (disch := omega) only [r2, a1, a2, a3, a4, i1, hsh, pk_us, pk_un, va_up_self, va_up_ne, nI_add, pk_mul, nI_clamp, vp_inT, nI_ltI, nI_leI, nI_eqI, pk_sub, true_and, and_true]
            refine ⟨fun q39 => by omega, fun q39 => hK _ _ _ _ ?_⟩
            refine rz_blk' [(.aload_n 0, 1, 0, 0), (.getfield 53, 3, 10, 16), (.iload 7, 2, 0, 0), (.iaload, 1, 0, 0), (.aload_n 0, 1, 0, 0), (.getfield 132, 3, 10, 52), (.iload 6, 2, 0, 0), (.iaload, 1, 0, 0), (.if_icmp .ne 46, 3, 0, 0)] (by decide +kernel) (Nat.le_refl _) (Nat.le_refl _) (fun K R hK hR => ?_)
            simp only [↓rx_aload_n0, ↓rx_getfield, ↓rx_iaload, ↓rx_if_icmp_ne, ↓rx_iload, ↓rx_nil, ↓ry_i2, ↓ry_iau, ↓ry_li0s, ↓ry_li0z, ↓ry_lr0s, ↓ry_lr0z, ↓ry_obu, ↓ry_r1, ↓ry_ri, true_and, re_a16, re_a52, ↓re_F16, ↓re_F52, ↓re_i16, ↓re_i52, ↓re_ob, r2, a1, a2, a3, a4, i1, hsh, rz_set, rz_nol, rz_clr, List.set_cons_zero, List.set_cons_succ, rz_tr, Nat.reduceAdd, Int.reduceAdd, Int.reduceToNat, Int.reduceSub, Int.reduceNeg, Int.cast_ofNat_Int]
            try simp (disch := omega) only [r2, a1, a2, a3, a4, i1, hsh, pk_us, pk_un, va_up_self, va_up_ne, nI_add, pk_mul, nI_clamp, vp_inT, nI_ltI, nI_leI, nI_eqI, pk_sub, true_and, and_true]
            
            refine ⟨fun q40 => hK _ _ _ _ ?_, fun q40 => hK _ _ _ _ ?_⟩
            · -- 186 taken
              refine rz_blk' [(.iinc 7 1, 3, 0, 0)] (by decide +kernel) (Nat.le_refl _) (Nat.le_refl _) (fun K R hK hR => ?_)
              simp only [rw_c1, ↓rx_iinc, ↓rx_nil, ↓ry_li0s, ↓ry_li0z, r2, a1, a2, a3, a4, i1, hsh, rz_set, rz_nol, rz_clr, List.set_cons_zero, List.set_cons_succ, rz_tr, Nat.reduceAdd, Int.reduceAdd, Int.reduceToNat, Int.reduceSub, Int.reduceNeg, Int.cast_ofNat_Int]
              try simp (disch := omega) only [r2, a1, a2, a3, a4, i1, hsh, pk_us, pk_un, va_up_self, va_up_ne, nI_add, pk_mul, nI_clamp, vp_inT, nI_ltI, nI_leI, nI_eqI, pk_sub, true_and, and_true]
              refine hK _ _ _ _ ?_
              refine rz_blk' [(.goto (-74), 3, 0, 0)] (by decide +kernel) (Nat.le_refl _) (Nat.le_refl _) (fun K R hK hR => ?_)
              simp only [↓rx_goto, ↓rx_nil, r2, a1, a2, a3, a4, i1, hsh, rz_set, rz_nol, rz_clr, List.set_cons_zero, List.set_cons_succ, rz_tr, Nat.reduceAdd, Int.reduceAdd, Int.reduceToNat, Int.reduceSub, Int.reduceNeg, Int.cast_ofNat_Int]
              try simp (disch := omega) only [r2, a1, a2, a3, a4, i1, hsh, pk_us, pk_un, va_up_self, va_up_ne, nI_add, pk_mul, nI_clamp, vp_inT, nI_ltI, nI_leI, nI_eqI, pk_sub, true_and, and_true]
              refine hK _ _ _ _ ?_
              exact ihe (e + 1) N I1 A1 (by omega) (by rw [hstep, rr_1, if_neg (by omega)]) h0 hkp hre hwy hny hnl
            · -- 186 not taken
              refine rz_blk' [(.aload_n 0, 1, 0, 0), (.getfield 56, 3, 10, 17), (.iload 7, 2, 0, 0), (.iaload, 1, 0, 0), (.iload_n 3, 1, 0, 0), (.iconst 2, 1, 0, 0), (.iload 5, 2, 0, 0), (.imul, 1, 0, 0), (.ishr, 1, 0, 0), (.iconst 3, 1, 0, 0), (.iand, 1, 0, 0), (.if_icmp .ne 28, 3, 0, 0)] (by decide +kernel) (Nat.le_refl _) (Nat.le_refl _) (fun K R hK hR => ?_)
              simp only [rw_c2, rw_c3, ↓rx_aload_n0, ↓rx_getfield, ↓rx_iaload, ↓rx_iand, ↓rx_iconst, ↓rx_if_icmp_ne, ↓rx_iload, ↓rx_iload_n3, ↓rx_imul, ↓rx_ishr, ↓rx_nil, ↓ry_i2, ↓ry_iau, ↓ry_li0s, ↓ry_li0z, ↓ry_lr0s, ↓ry_lr0z, ↓ry_obu, ↓ry_r1, ↓ry_ri, true_and, re_a17, ↓re_F17, ↓re_i17, ↓re_ob, r2, a1, a2, a3, a4, i1, hsh, rz_set, rz_nol, rz_clr, List.set_cons_zero, List.set_cons_succ, rz_tr, Nat.reduceAdd, Int.reduceAdd, Int.reduceToNat, Int.reduceSub, Int.reduceNeg, Int.cast_ofNat_Int]
              try simp (disch := omega) only [r2, a1, a2, a3, a4, i1, hsh, pk_us, pk_un, va_up_self, va_up_ne, nI_add, pk_mul, nI_clamp, vp_inT, nI_ltI, nI_leI, nI_eqI, pk_sub, true_and, and_true]
              
              refine ⟨fun q41 => hK _ _ _ _ ?_, fun q41 => hK _ _ _ _ ?_⟩
              · -- 204 taken
                refine rz_blk' [(.iinc 7 1, 3, 0, 0)] (by decide +kernel) (Nat.le_refl _) (Nat.le_refl _) (fun K R hK hR => ?_)
                simp only [rw_c1, ↓rx_iinc, ↓rx_nil, ↓ry_li0s, ↓ry_li0z, r2, a1, a2, a3, a4, i1, hsh, rz_set, rz_nol, rz_clr, List.set_cons_zero, List.set_cons_succ, rz_tr, Nat.reduceAdd, Int.reduceAdd, Int.reduceToNat, Int.reduceSub, Int.reduceNeg, Int.cast_ofNat_Int]
                try simp (disch := omega) only [r2, a1, a2, a3, a4, i1, hsh, pk_us, pk_un, va_up_self, va_up_ne, nI_add, pk_mul, nI_clamp, vp_inT, nI_ltI, nI_leI, nI_eqI, pk_sub, true_and, and_true]
                refine hK _ _ _ _ ?_
                refine rz_blk' [(.goto (-74), 3, 0, 0)] (by decide +kernel) (Nat.le_refl _) (Nat.le_refl _) (fun K R hK hR => ?_)
                simp only [↓rx_goto, ↓rx_nil, r2, a1, a2, a3, a4, i1, hsh, rz_set, rz_nol, rz_clr, List.set_cons_zero, List.set_cons_succ, rz_tr, Nat.reduceAdd, Int.reduceAdd, Int.reduceToNat, Int.reduceSub, Int.reduceNeg, Int.cast_ofNat_Int]
                try simp (disch := omega) only [r2, a1, a2, a3, a4, i1, hsh, pk_us, pk_un, va_up_self, va_up_ne, nI_add, pk_mul, nI_clamp, vp_inT, nI_ltI, nI_leI, nI_eqI, pk_sub, true_and, and_true]
                refine hK _ _ _ _ ?_
                exact ihe (e + 1) N I1 A1 (by omega) (by rw [hstep, rr_1, if_neg (by omega)]) h0 hkp hre hwy hny hnl
              · -- 204 not taken
                refine rz_blk' [(.aload_n 0, 1, 0, 0), (.aload_n 0, 1, 0, 0), (.getfield 59, 3, 10, 18), (.iload 7, 2, 0, 0), (.iaload, 1, 0, 0), (.iload 6, 2, 0, 0), (.bipush 32, 2, 0, 0), (.iload 7, 2, 0, 0), (.imul, 1, 0, 0), (.aload_n 0, 1, 0, 0), (.getfield 62, 3, 10, 19), (.iload 7, 2, 0, 0), (.iaload, 1, 0, 0)] (by decide +kernel) (Nat.le_refl _) (Nat.le_refl _) (fun K R hK hR => ?_)
                simp only [rw_b32, ↓rx_aload_n0, ↓rx_bipush, ↓rx_getfield, ↓rx_iaload, ↓rx_iload, ↓rx_imul, ↓rx_nil, ↓ry_i2, ↓ry_iau, ↓ry_li0s, ↓ry_li0z, ↓ry_lr0s, ↓ry_lr0z, ↓ry_obu, ↓ry_r1, ↓ry_ri, true_and, re_a18, re_a19, ↓re_F18, ↓re_F19, ↓re_i18, ↓re_i19, ↓re_ob, r2, a1, a2, a3, a4, i1, hsh, rz_set, rz_nol, rz_clr, List.set_cons_zero, List.set_cons_succ, rz_tr, Nat.reduceAdd, Int.reduceAdd, Int.reduceToNat, Int.reduceSub, Int.reduceNeg, Int.cast_ofNat_Int]
                try simp (disch := omega) only [r2, a1, a2, a3, a4, i1, hsh, pk_us, pk_un, va_up_self, va_up_ne, nI_add, pk_mul, nI_clamp, vp_inT, nI_ltI, nI_leI, nI_eqI, pk_sub, true_and, and_true]
                refine hK _ _ _ _ ?_
                refine rz_cV (As := [.int (nI T.2.1[e].2.2.1), .int (nI wi), .int (nI (32 * e)), .int (nI T.2.1[e].2.2.2.length)]) (b := a) (S := []) l_Mod_239 (by decide +kernel) rfl re_at0 rfl (Nat.le_of_ble_eq_true rfl) (Nat.le_refl _) (Nat.le_refl _) (hcl) (fun r G' hr => ?_)
                obtain ⟨rfl, I2, A2, rfl, f1, f2, f3⟩ := hr
                simp only [Option.toList, List.nil_append]
                refine rz_blk' [(.iinc 7 1, 3, 0, 0)] (by decide +kernel) (Nat.le_refl _) (Nat.le_refl _) (fun K R hK hR => ?_)
                simp only [rw_c1, ↓rx_iinc, ↓rx_nil, ↓ry_li0s, ↓ry_li0z, rz_set, rz_nol, rz_clr, List.set_cons_zero, List.set_cons_succ, rz_tr, Nat.reduceAdd, Int.reduceAdd, Int.reduceToNat, Int.reduceSub, Int.reduceNeg, Int.cast_ofNat_Int]
                try simp (disch := omega) only [pk_us, pk_un, va_up_self, va_up_ne, nI_add, pk_mul, nI_clamp, vp_inT, nI_ltI, nI_leI, nI_eqI, pk_sub, true_and, and_true]
                refine hK _ _ _ _ ?_
                refine rz_blk' [(.goto (-74), 3, 0, 0)] (by decide +kernel) (Nat.le_refl _) (Nat.le_refl _) (fun K R hK hR => ?_)
                simp only [↓rx_goto, ↓rx_nil, rz_set, rz_nol, rz_clr, List.set_cons_zero, List.set_cons_succ, rz_tr, Nat.reduceAdd, Int.reduceAdd, Int.reduceToNat, Int.reduceSub, Int.reduceNeg, Int.cast_ofNat_Int]
                try simp (disch := omega) only [pk_us, pk_un, va_up_self, va_up_ne, nI_add, pk_mul, nI_clamp, vp_inT, nI_ltI, nI_leI, nI_eqI, pk_sub, true_and, and_true]
                refine hK _ _ _ _ ?_
                refine ihe (e + 1) _ I2 A2 (by omega) (by rw [hstep, rr_1, if_pos (by omega)]) ?_ ((hkp.i f1 rfl).a f2 rfl) (re_t_fa hre f2 rfl) ?_ f3 (wadd_le hnl ?_)
                · rw [f1 0 rfl]; exact h0
                · rw [f1 50 rfl, f2 52 rfl, f2 53 rfl, f2 54 rfl]; exact hwy
                · simp only [List.length_append]; omega
        have wl : ∀ (jj wi : Nat) (N : List (Nat × List Nat)) (I1 : Nat → Int32) (A1 : Nat → Nat → Int32) (z7 : Option Value), wi + jj = W.length → N = (W.take wi).foldl (rr_e T.2.1 x) [] → I1 0 = nI 0 → kp I A I1 A1 → re_t A1 0 T → wy (I1 50) (A1 52) (A1 53) (A1 54) W → wy (I1 51) (A1 55) (A1 56) (A1 57) N → (∀ w ∈ N, w.2.length ≤ 3 + 3 * (i + 1)) → rz_T w (d + 3) 0 0 m_Mod_read 0 0 149 [some (.ref a), some (.int (nI k)), some (.int (nI n)), some (.int u), some (.int yk), some (.int (nI i)), some (.int (nI wi)), z7] [] (re_put G a I1 A1) Q := by
          intro jj
          induction jj with
          | zero =>
            intro wi N I1 A1 z7 hwj hNf h0 hkp hre hwy hny hnl
            obtain ⟨w1, w2, w3⟩ := id hwy
            have he : wi = W.length := by omega
            rw [he, List.take_length] at hNf
            have hN2 : N = rr_w T.2.1 x W := hNf
            refine rz_blk' [(.iload 6, 2, 0, 0), (.aload_n 0, 1, 0, 0), (.getfield 232, 3, 10, 50), (.if_icmp .ge 89, 3, 0, 0)] (by decide +kernel) (Nat.le_refl _) (Nat.le_refl _) (fun K R hK hR => ?_)
            simp only [↓rx_aload_n0, ↓rx_getfield, ↓rx_if_icmp_ge, ↓rx_iload, ↓rx_nil, ↓ry_i2, ↓ry_li0s, ↓ry_li0z, ↓ry_lr0s, ↓ry_lr0z, ↓ry_obu, ↓ry_r1, ↓re_F50, ↓re_ob, w1, rz_set, rz_nol, rz_clr, List.set_cons_zero, List.set_cons_succ, rz_tr, Nat.reduceAdd, Int.reduceAdd, Int.reduceToNat, Int.reduceSub, Int.reduceNeg, Int.cast_ofNat_Int]
            try simp (disch := omega) only [w1, pk_us, pk_un, va_up_self, va_up_ne, nI_add, pk_mul, nI_clamp, vp_inT, nI_ltI, nI_leI, nI_eqI, pk_sub, true_and, and_true]
            refine ⟨fun q42 => hK _ _ _ _ ?_, fun q42 => by omega⟩
            exact hafter _ _ _ _ h0 hkp hre (by rw [← hN2]; exact hny) (by rw [← hN2]; exact hnl)
          | succ jj ihw =>
            intro wi N I1 A1 z7 hwj hNf h0 hkp hre hwy hny hnl
            obtain ⟨w1, w2, w3⟩ := id hwy
            have hwi : wi < W.length := by omega
            refine rz_blk' [(.iload 6, 2, 0, 0), (.aload_n 0, 1, 0, 0), (.getfield 232, 3, 10, 50), (.if_icmp .ge 89, 3, 0, 0)] (by decide +kernel) (Nat.le_refl _) (Nat.le_refl _) (fun K R hK hR => ?_)
            simp only [↓rx_aload_n0, ↓rx_getfield, ↓rx_if_icmp_ge, ↓rx_iload, ↓rx_nil, ↓ry_i2, ↓ry_li0s, ↓ry_li0z, ↓ry_lr0s, ↓ry_lr0z, ↓ry_obu, ↓ry_r1, ↓re_F50, ↓re_ob, w1, rz_set, rz_nol, rz_clr, List.set_cons_zero, List.set_cons_succ, rz_tr, Nat.reduceAdd, Int.reduceAdd, Int.reduceToNat, Int.reduceSub, Int.reduceNeg, Int.cast_ofNat_Int]
            try simp (disch := omega) only [w1, pk_us, pk_un, va_up_self, va_up_ne, nI_add, pk_mul, nI_clamp, vp_inT, nI_ltI, nI_leI, nI_eqI, pk_sub, true_and, and_true]
            refine ⟨fun q43 => by omega, fun q43 => hK _ _ _ _ ?_⟩
            refine rz_blk' [(.iconst 0, 1, 0, 0), (.istore 7, 2, 0, 0)] (by decide +kernel) (Nat.le_refl _) (Nat.le_refl _) (fun K R hK hR => ?_)
            simp only [rw_c0, ↓rx_iconst, ↓rx_istore, ↓rx_nil, ↓ry_i1, w1, rz_set, rz_nol, rz_clr, List.set_cons_zero, List.set_cons_succ, rz_tr, Nat.reduceAdd, Int.reduceAdd, Int.reduceToNat, Int.reduceSub, Int.reduceNeg, Int.cast_ofNat_Int]
            try simp (disch := omega) only [w1, pk_us, pk_un, va_up_self, va_up_ne, nI_add, pk_mul, nI_clamp, vp_inT, nI_ltI, nI_leI, nI_eqI, pk_sub, true_and, and_true]
            refine hK _ _ _ _ ?_
            refine el wi hwi N I1 A1 (fun I2 A2 z7 k0 kk kr ky kn kl => ?_) T.2.1.length 0 N I1 A1 (Nat.zero_add _) rfl h0 hkp hre hwy hny hnl
            refine rz_blk' [(.iinc 6 1, 3, 0, 0)] (by decide +kernel) (Nat.le_refl _) (Nat.le_refl _) (fun K R hK hR => ?_)
            simp only [rw_c1, ↓rx_iinc, ↓rx_nil, ↓ry_li0s, ↓ry_li0z, rz_set, rz_nol, rz_clr, List.set_cons_zero, List.set_cons_succ, rz_tr, Nat.reduceAdd, Int.reduceAdd, Int.reduceToNat, Int.reduceSub, Int.reduceNeg, Int.cast_ofNat_Int]
            try simp (disch := omega) only [pk_us, pk_un, va_up_self, va_up_ne, nI_add, pk_mul, nI_clamp, vp_inT, nI_ltI, nI_leI, nI_eqI, pk_sub, true_and, and_true]
            refine hK _ _ _ _ ?_
            refine rz_blk' [(.goto (-92), 3, 0, 0)] (by decide +kernel) (Nat.le_refl _) (Nat.le_refl _) (fun K R hK hR => ?_)
            simp only [↓rx_goto, ↓rx_nil, rz_set, rz_nol, rz_clr, List.set_cons_zero, List.set_cons_succ, rz_tr, Nat.reduceAdd, Int.reduceAdd, Int.reduceToNat, Int.reduceSub, Int.reduceNeg, Int.cast_ofNat_Int]
            try simp (disch := omega) only [pk_us, pk_un, va_up_self, va_up_ne, nI_add, pk_mul, nI_clamp, vp_inT, nI_ltI, nI_leI, nI_eqI, pk_sub, true_and, and_true]
            refine hK _ _ _ _ ?_
            exact ihw (wi + 1) _ I2 A2 _ (by omega) (by rw [foldl_take _ _ _ hwi, ← hNf]) k0 kk kr ky kn kl
        refine rz_blk' [(.iload 5, 2, 0, 0), (.iload_n 2, 1, 0, 0), (.if_icmp .ge 132, 3, 0, 0)] (by decide +kernel) (Nat.le_refl _) (Nat.le_refl _) (fun K R hK hR => ?_)
        simp only [↓rx_if_icmp_ge, ↓rx_iload, ↓rx_iload_n2, ↓rx_nil, ↓ry_i2, ↓ry_li0s, ↓ry_li0z, rz_set, rz_nol, rz_clr, List.set_cons_zero, List.set_cons_succ, rz_tr, Nat.reduceAdd, Int.reduceAdd, Int.reduceToNat, Int.reduceSub, Int.reduceNeg, Int.cast_ofNat_Int]
        try simp (disch := omega) only [pk_us, pk_un, va_up_self, va_up_ne, nI_add, pk_mul, nI_clamp, vp_inT, nI_ltI, nI_leI, nI_eqI, pk_sub, true_and, and_true]
        refine ⟨fun q44 => by omega, fun q44 => hK _ _ _ _ ?_⟩
        refine rz_blk' [(.aload_n 0, 1, 0, 0), (.iconst 0, 1, 0, 0), (.putfield 229, 3, 10, 51)] (by decide +kernel) (Nat.le_refl _) (Nat.le_refl _) (fun K R hK hR => ?_)
        simp only [List.length_cons, List.length_nil, Nat.reduceLT, rf_10_51, rw_c0, ↓rx_aload_n0, ↓rx_iconst, ↓rx_nil, ↓rx_putfield, ↓ry_lr0s, ↓ry_lr0z, ↓ry_obu, ↓ry_vr, true_and, re_len, re_u51, ↓re_ob, rz_set, rz_nol, rz_clr, List.set_cons_zero, List.set_cons_succ, rz_tr, Nat.reduceAdd, Int.reduceAdd, Int.reduceToNat, Int.reduceSub, Int.reduceNeg, Int.cast_ofNat_Int]
        try simp (disch := omega) only [pk_us, pk_un, va_up_self, va_up_ne, nI_add, pk_mul, nI_clamp, vp_inT, nI_ltI, nI_leI, nI_eqI, pk_sub, true_and, and_true]
        refine hK _ _ _ _ ?_
        refine rz_blk' [(.iconst 0, 1, 0, 0), (.istore 6, 2, 0, 0)] (by decide +kernel) (Nat.le_refl _) (Nat.le_refl _) (fun K R hK hR => ?_)
        simp only [rw_c0, ↓rx_iconst, ↓rx_istore, ↓rx_nil, ↓ry_i1, rz_set, rz_nol, rz_clr, List.set_cons_zero, List.set_cons_succ, rz_tr, Nat.reduceAdd, Int.reduceAdd, Int.reduceToNat, Int.reduceSub, Int.reduceNeg, Int.cast_ofNat_Int]
        try simp (disch := omega) only [pk_us, pk_un, va_up_self, va_up_ne, nI_add, pk_mul, nI_clamp, vp_inT, nI_ltI, nI_leI, nI_eqI, pk_sub, true_and, and_true]
        refine hK _ _ _ _ ?_
        refine wl W.length 0 [] _ _ _ (Nat.zero_add _) rfl ?_ (hkp.i (K := [51]) (fi.rf.u rfl) rfl) hre ?_ ?_ (fun w hw => absurd hw (by simp))
        · rw [pk_un (by decide)]; exact h0
        · rw [pk_un (by decide)]; exact hwy
        · rw [pk_us]; exact ⟨rfl, by simp, fun i h => absurd h (Nat.not_lt_zero _)⟩
    have cs0 : ∀ (B : Nat → Nat → Int32) (I2 : Nat → Int32) (z6 z7 : Option Value), rz_T w (d + 3) 0 0 m_Mod_read 0 0 132 [some (.ref a), some (.int (nI k)), some (.int (nI n)), some (.int u), some (.int yk), some (.int (nI (3))), z6, z7] [] (re_put G a I2 (va_up B 54 (cp (B 54) (0) (B 24) (0) (3)))) Q → rz_T w (d + 3) 0 0 m_Mod_read 0 0 106 [some (.ref a), some (.int (nI k)), some (.int (nI n)), some (.int u), some (.int yk), some (.int (nI 0)), z6, z7] [] (re_put G a I2 B) Q := by
      intro B I2 z6 z7  hx
      have lp : ∀ (cj cx : Nat), cx + cj = 3 → rz_T w (d + 3) 0 0 m_Mod_read 0 0 106 [some (.ref a), some (.int (nI k)), some (.int (nI n)), some (.int u), some (.int yk), some (.int (nI cx)), z6, z7] [] (re_put G a I2 (va_up B 54 (cp (B 54) (0) (B 24) (0) cx))) Q := by
        intro cj
        induction cj with
        | zero =>
          intro cx hij
          have hi : cx = 3 := by omega
          subst hi
          refine rz_blk' [(.iload 5, 2, 0, 0), (.iconst 3, 1, 0, 0), (.if_icmp .ge 23, 3, 0, 0)] (by decide +kernel) (Nat.le_refl _) (Nat.le_refl _) (fun K R hK hR => ?_)
          simp only [rw_c3, ↓rx_iconst, ↓rx_if_icmp_ge, ↓rx_iload, ↓rx_nil, ↓ry_i2, ↓ry_li0s, ↓ry_li0z, rz_set, rz_nol, rz_clr, List.set_cons_zero, List.set_cons_succ, rz_tr, Nat.reduceAdd, Int.reduceAdd, Int.reduceToNat, Int.reduceSub, Int.reduceNeg, Int.cast_ofNat_Int]
          try simp (disch := omega) only [pk_us, pk_un, va_up_self, va_up_ne, nI_add, pk_mul, nI_clamp, vp_inT, nI_ltI, nI_leI, nI_eqI, pk_sub, true_and, and_true]
          refine ⟨fun q45 => hK _ _ _ _ ?_, fun q45 => by omega⟩
          exact hx
        | succ cj ih =>
          intro cx hij
          refine rz_blk' [(.iload 5, 2, 0, 0), (.iconst 3, 1, 0, 0), (.if_icmp .ge 23, 3, 0, 0)] (by decide +kernel) (Nat.le_refl _) (Nat.le_refl _) (fun K R hK hR => ?_)
          simp only [rw_c3, ↓rx_iconst, ↓rx_if_icmp_ge, ↓rx_iload, ↓rx_nil, ↓ry_i2, ↓ry_li0s, ↓ry_li0z, rz_set, rz_nol, rz_clr, List.set_cons_zero, List.set_cons_succ, rz_tr, Nat.reduceAdd, Int.reduceAdd, Int.reduceToNat, Int.reduceSub, Int.reduceNeg, Int.cast_ofNat_Int]
          try simp (disch := omega) only [pk_us, pk_un, va_up_self, va_up_ne, nI_add, pk_mul, nI_clamp, vp_inT, nI_ltI, nI_leI, nI_eqI, pk_sub, true_and, and_true]
          refine ⟨fun q46 => by omega, fun q46 => hK _ _ _ _ ?_⟩
          refine rz_blk' [(.aload_n 0, 1, 0, 0), (.getfield 138, 3, 10, 54), (.iload 5, 2, 0, 0), (.aload_n 0, 1, 0, 0), (.getfield 77, 3, 10, 24), (.iload 5, 2, 0, 0), (.iaload, 1, 0, 0), (.iastore, 1, 0, 0)] (by decide +kernel) (Nat.le_refl _) (Nat.le_refl _) (fun K R hK hR => ?_)
          simp only [↓rx_aload_n0, ↓rx_getfield, ↓rx_iaload, ↓rx_iastore, ↓rx_iload, ↓rx_nil, ↓ry_iau, ↓ry_li0s, ↓ry_li0z, ↓ry_lr0s, ↓ry_lr0z, ↓ry_obu, ↓ry_r1, ↓ry_ri, ↓ry_rii, true_and, re_a24, re_a54, ↓re_F24, ↓re_F54, ↓re_i24, ↓re_i54, ↓re_ob, rz_set, rz_nol, rz_clr, List.set_cons_zero, List.set_cons_succ, rz_tr, Nat.reduceAdd, Int.reduceAdd, Int.reduceToNat, Int.reduceSub, Int.reduceNeg, Int.cast_ofNat_Int]
          try simp (disch := omega) only [pk_us, pk_un, va_up_self, va_up_ne, nI_add, pk_mul, nI_clamp, vp_inT, nI_ltI, nI_leI, nI_eqI, pk_sub, true_and, and_true]
          refine hK _ _ _ _ ?_
          refine rz_blk' [(.iinc 5 1, 3, 0, 0)] (by decide +kernel) (Nat.le_refl _) (Nat.le_refl _) (fun K R hK hR => ?_)
          simp only [rw_c1, ↓rx_iinc, ↓rx_nil, ↓ry_li0s, ↓ry_li0z, rz_set, rz_nol, rz_clr, List.set_cons_zero, List.set_cons_succ, rz_tr, Nat.reduceAdd, Int.reduceAdd, Int.reduceToNat, Int.reduceSub, Int.reduceNeg, Int.cast_ofNat_Int]
          try simp (disch := omega) only [pk_us, pk_un, va_up_self, va_up_ne, nI_add, pk_mul, nI_clamp, vp_inT, nI_ltI, nI_leI, nI_eqI, pk_sub, true_and, and_true]
          refine hK _ _ _ _ ?_
          refine rz_blk' [(.goto (-23), 3, 0, 0)] (by decide +kernel) (Nat.le_refl _) (Nat.le_refl _) (fun K R hK hR => ?_)
          simp only [↓rx_goto, ↓rx_nil, rz_set, rz_nol, rz_clr, List.set_cons_zero, List.set_cons_succ, rz_tr, Nat.reduceAdd, Int.reduceAdd, Int.reduceToNat, Int.reduceSub, Int.reduceNeg, Int.cast_ofNat_Int]
          try simp (disch := omega) only [pk_us, pk_un, va_up_self, va_up_ne, nI_add, pk_mul, nI_clamp, vp_inT, nI_ltI, nI_leI, nI_eqI, pk_sub, true_and, and_true]
          refine hK _ _ _ _ ?_
          have ih := ih (cx + 1) (by omega)
          rw [← cp_s] at ih
          simp only [Nat.zero_add] at ih
          rw [re_vv]
          exact ih
      have := lp (3) 0 (Nat.zero_add _)
      rw [cp_0, re_ve] at this
      exact this
    have hcl := c_Mod_take (w := w) (d := d) (G := G) (a := a) (I := upd I 0 (nI 0)) (A := A) (k := k) (hh := 0) hk (by decide) hm
    rw [hT] at hcl
    refine rz_blk' [(.aload_n 0, 1, 0, 0), (.iload_n 1, 1, 0, 0), (.iconst 0, 1, 0, 0)] (by decide +kernel) (Nat.le_refl _) (Nat.le_refl _) (fun K R hK hR => ?_)
    simp only [rw_c0, ↓rx_aload_n0, ↓rx_iconst, ↓rx_iload_n1, ↓rx_nil, ↓ry_li0s, ↓ry_li0z, ↓ry_lr0s, ↓ry_lr0z, rz_set, rz_nol, rz_clr, List.set_cons_zero, List.set_cons_succ, rz_tr, Nat.reduceAdd, Int.reduceAdd, Int.reduceToNat, Int.reduceSub, Int.reduceNeg, Int.cast_ofNat_Int]
    try simp (disch := omega) only [pk_us, pk_un, va_up_self, va_up_ne, nI_add, pk_mul, nI_clamp, vp_inT, nI_ltI, nI_leI, nI_eqI, pk_sub, true_and, and_true]
    refine hK _ _ _ _ ?_
    refine rz_cV (As := [.int (nI k), .int (nI 0)]) (b := a) (S := []) l_Mod_235 (by decide +kernel) rfl re_at0 rfl (Nat.le_of_ble_eq_true rfl) (Nat.le_refl _) (Nat.le_refl _) (hcl) (fun r G' hr => ?_)
    obtain ⟨rfl, A1, rfl, hft, hre⟩ := hr
    have hkp0 : kp I A (upd I 0 (nI 0)) A1 := (kp.rf.i (K := [0]) (fi.rf.u rfl) rfl).ft hft
    obtain ⟨r1, r2, r3, r4, r5, r6⟩ := id hre
    have u0 := r1 0 (by decide)
    rw [Nat.mul_zero] at u0 r6
    rw [Nat.zero_add] at u0
    simp only [Option.toList, List.nil_append]
    cases hb : T.1.testBit 0 with
    | false =>
      rw [hb] at u0
      refine rz_blk' [(.aload_n 0, 1, 0, 0), (.iconst 0, 1, 0, 0), (.putfield 232, 3, 10, 50)] (by decide +kernel) (Nat.le_refl _) (Nat.le_refl _) (fun K R hK hR => ?_)
      simp only [List.length_cons, List.length_nil, Nat.reduceLT, rf_10_50, rw_c0, ↓rx_aload_n0, ↓rx_iconst, ↓rx_nil, ↓rx_putfield, ↓ry_lr0s, ↓ry_lr0z, ↓ry_obu, ↓ry_vr, true_and, re_len, re_u50, ↓re_ob, u0, rz_set, rz_nol, rz_clr, List.set_cons_zero, List.set_cons_succ, rz_tr, Nat.reduceAdd, Int.reduceAdd, Int.reduceToNat, Int.reduceSub, Int.reduceNeg, Int.cast_ofNat_Int]
      try simp (disch := omega) only [u0, pk_us, pk_un, va_up_self, va_up_ne, nI_add, pk_mul, nI_clamp, vp_inT, nI_ltI, nI_leI, nI_eqI, pk_sub, true_and, and_true]
      refine hK _ _ _ _ ?_
      refine rz_blk' [(.aload_n 0, 1, 0, 0), (.getfield 46, 3, 10, 14), (.iconst 0, 1, 0, 0), (.baload, 1, 0, 0), (.ifCond .eq 56, 3, 0, 0)] (by decide +kernel) (Nat.le_refl _) (Nat.le_refl _) (fun K R hK hR => ?_)
      simp only [Nat.reduceEqDiff, false_or, or_false, or_true, reduceIte, rw_c0, ↓rx_aload_n0, ↓rx_baload, ↓rx_getfield, ↓rx_iconst, ↓rx_ifCond_eq, ↓rx_nil, ↓ry_i1, ↓ry_iau, ↓ry_lr0s, ↓ry_lr0z, ↓ry_obu, ↓ry_r1, ↓ry_ri, true_and, true_or, re_a14, ↓re_F14, ↓re_i14, ↓re_ob, u0, rz_set, rz_nol, rz_clr, List.set_cons_zero, List.set_cons_succ, rz_tr, Nat.reduceAdd, Int.reduceAdd, Int.reduceToNat, Int.reduceSub, Int.reduceNeg, Int.cast_ofNat_Int]
      try simp (disch := omega) only [u0, pk_us, pk_un, va_up_self, va_up_ne, nI_add, pk_mul, nI_clamp, vp_inT, nI_ltI, nI_leI, nI_eqI, pk_sub, true_and, and_true]
      refine ⟨fun q47 => hK _ _ _ _ ?_, fun q47 => absurd rfl q47⟩
      refine rz_blk' [(.iconst 0, 1, 0, 0), (.istore 5, 2, 0, 0)] (by decide +kernel) (Nat.le_refl _) (Nat.le_refl _) (fun K R hK hR => ?_)
      simp only [rw_c0, ↓rx_iconst, ↓rx_istore, ↓rx_nil, ↓ry_i1, u0, rz_set, rz_nol, rz_clr, List.set_cons_zero, List.set_cons_succ, rz_tr, Nat.reduceAdd, Int.reduceAdd, Int.reduceToNat, Int.reduceSub, Int.reduceNeg, Int.cast_ofNat_Int]
      try simp (disch := omega) only [u0, pk_us, pk_un, va_up_self, va_up_ne, nI_add, pk_mul, nI_clamp, vp_inT, nI_ltI, nI_leI, nI_eqI, pk_sub, true_and, and_true]
      refine hK _ _ _ _ ?_
      refine hlt n 0 [] _ _ _ _ (Nat.zero_add _) (by simp only [rr_k, hb]; rfl) (fun w hw => absurd hw (by simp)) ?_ (hkp0.i (K := [50]) (fi.rf.u rfl) rfl) hre ?_
      · rw [pk_un (by decide), pk_us]
      · rw [pk_us]; exact ⟨rfl, by simp, fun i h => absurd h (Nat.not_lt_zero _)⟩
    | true =>
      rw [hb] at u0
      refine rz_blk' [(.aload_n 0, 1, 0, 0), (.iconst 0, 1, 0, 0), (.putfield 232, 3, 10, 50)] (by decide +kernel) (Nat.le_refl _) (Nat.le_refl _) (fun K R hK hR => ?_)
      simp only [List.length_cons, List.length_nil, Nat.reduceLT, rf_10_50, rw_c0, ↓rx_aload_n0, ↓rx_iconst, ↓rx_nil, ↓rx_putfield, ↓ry_lr0s, ↓ry_lr0z, ↓ry_obu, ↓ry_vr, true_and, re_len, re_u50, ↓re_ob, u0, r5, rz_set, rz_nol, rz_clr, List.set_cons_zero, List.set_cons_succ, rz_tr, Nat.reduceAdd, Int.reduceAdd, Int.reduceToNat, Int.reduceSub, Int.reduceNeg, Int.cast_ofNat_Int]
      try simp (disch := omega) only [u0, r5, pk_us, pk_un, va_up_self, va_up_ne, nI_add, pk_mul, nI_clamp, vp_inT, nI_ltI, nI_leI, nI_eqI, pk_sub, true_and, and_true]
      refine hK _ _ _ _ ?_
      refine rz_blk' [(.aload_n 0, 1, 0, 0), (.getfield 46, 3, 10, 14), (.iconst 0, 1, 0, 0), (.baload, 1, 0, 0), (.ifCond .eq 56, 3, 0, 0)] (by decide +kernel) (Nat.le_refl _) (Nat.le_refl _) (fun K R hK hR => ?_)
      simp only [Nat.reduceEqDiff, false_or, or_false, or_true, reduceIte, rw_c0, ↓rx_aload_n0, ↓rx_baload, ↓rx_getfield, ↓rx_iconst, ↓rx_ifCond_eq, ↓rx_nil, ↓ry_i1, ↓ry_iau, ↓ry_lr0s, ↓ry_lr0z, ↓ry_obu, ↓ry_r1, ↓ry_ri, true_and, true_or, re_a14, ↓re_F14, ↓re_i14, ↓re_ob, u0, r5, rz_set, rz_nol, rz_clr, List.set_cons_zero, List.set_cons_succ, rz_tr, Nat.reduceAdd, Int.reduceAdd, Int.reduceToNat, Int.reduceSub, Int.reduceNeg, Int.cast_ofNat_Int]
      try simp (disch := omega) only [u0, r5, pk_us, pk_un, va_up_self, va_up_ne, nI_add, pk_mul, nI_clamp, vp_inT, nI_ltI, nI_leI, nI_eqI, pk_sub, true_and, and_true]
      refine ⟨fun q48 => absurd q48 (by decide), fun q48 => hK _ _ _ _ ?_⟩
      refine rz_blk' [(.aload_n 0, 1, 0, 0), (.iconst 1, 1, 0, 0), (.putfield 232, 3, 10, 50)] (by decide +kernel) (Nat.le_refl _) (Nat.le_refl _) (fun K R hK hR => ?_)
      simp only [List.length_cons, List.length_nil, Nat.reduceLT, rf_10_50, rw_c1, ↓rx_aload_n0, ↓rx_iconst, ↓rx_nil, ↓rx_putfield, ↓ry_lr0s, ↓ry_lr0z, ↓ry_obu, ↓ry_vr, true_and, re_len, re_u50, ↓re_ob, u0, r5, rz_set, rz_nol, rz_clr, List.set_cons_zero, List.set_cons_succ, rz_tr, Nat.reduceAdd, Int.reduceAdd, Int.reduceToNat, Int.reduceSub, Int.reduceNeg, Int.cast_ofNat_Int]
      try simp (disch := omega) only [u0, r5, pk_us, pk_un, va_up_self, va_up_ne, nI_add, pk_mul, nI_clamp, vp_inT, nI_ltI, nI_leI, nI_eqI, pk_sub, true_and, and_true]
      refine hK _ _ _ _ ?_
      refine rz_blk' [(.aload_n 0, 1, 0, 0), (.getfield 132, 3, 10, 52), (.iconst 0, 1, 0, 0), (.iconst 0, 1, 0, 0), (.iastore, 1, 0, 0)] (by decide +kernel) (Nat.le_refl _) (Nat.le_refl _) (fun K R hK hR => ?_)
      simp only [rw_c0, ↓rx_aload_n0, ↓rx_getfield, ↓rx_iastore, ↓rx_iconst, ↓rx_nil, ↓ry_iau, ↓ry_lr0s, ↓ry_lr0z, ↓ry_obu, ↓ry_r1, ↓ry_rii, true_and, re_a52, ↓re_F52, ↓re_i52, ↓re_ob, u0, r5, rz_set, rz_nol, rz_clr, List.set_cons_zero, List.set_cons_succ, rz_tr, Nat.reduceAdd, Int.reduceAdd, Int.reduceToNat, Int.reduceSub, Int.reduceNeg, Int.cast_ofNat_Int]
      try simp (disch := omega) only [u0, r5, pk_us, pk_un, va_up_self, va_up_ne, nI_add, pk_mul, nI_clamp, vp_inT, nI_ltI, nI_leI, nI_eqI, pk_sub, true_and, and_true]
      refine hK _ _ _ _ ?_
      refine rz_blk' [(.aload_n 0, 1, 0, 0), (.getfield 135, 3, 10, 53), (.iconst 0, 1, 0, 0), (.aload_n 0, 1, 0, 0), (.getfield 74, 3, 10, 23), (.iconst 0, 1, 0, 0), (.iaload, 1, 0, 0), (.iastore, 1, 0, 0)] (by decide +kernel) (Nat.le_refl _) (Nat.le_refl _) (fun K R hK hR => ?_)
      simp only [rw_c0, ↓rx_aload_n0, ↓rx_getfield, ↓rx_iaload, ↓rx_iastore, ↓rx_iconst, ↓rx_nil, ↓ry_iau, ↓ry_lr0s, ↓ry_lr0z, ↓ry_obu, ↓ry_r1, ↓ry_ri, ↓ry_rii, true_and, re_a23, re_a53, ↓re_F23, ↓re_F53, ↓re_i23, ↓re_i53, ↓re_ob, u0, r5, rz_set, rz_nol, rz_clr, List.set_cons_zero, List.set_cons_succ, rz_tr, Nat.reduceAdd, Int.reduceAdd, Int.reduceToNat, Int.reduceSub, Int.reduceNeg, Int.cast_ofNat_Int]
      try simp (disch := omega) only [u0, r5, pk_us, pk_un, va_up_self, va_up_ne, nI_add, pk_mul, nI_clamp, vp_inT, nI_ltI, nI_leI, nI_eqI, pk_sub, true_and, and_true]
      refine hK _ _ _ _ ?_
      refine rz_blk' [(.iconst 0, 1, 0, 0), (.istore 5, 2, 0, 0)] (by decide +kernel) (Nat.le_refl _) (Nat.le_refl _) (fun K R hK hR => ?_)
      simp only [rw_c0, ↓rx_iconst, ↓rx_istore, ↓rx_nil, ↓ry_i1, u0, r5, rz_set, rz_nol, rz_clr, List.set_cons_zero, List.set_cons_succ, rz_tr, Nat.reduceAdd, Int.reduceAdd, Int.reduceToNat, Int.reduceSub, Int.reduceNeg, Int.cast_ofNat_Int]
      try simp (disch := omega) only [u0, r5, pk_us, pk_un, va_up_self, va_up_ne, nI_add, pk_mul, nI_clamp, vp_inT, nI_ltI, nI_leI, nI_eqI, pk_sub, true_and, and_true]
      refine hK _ _ _ _ ?_
      refine cs0 _ _ _ _ ?_
      generalize hB : va_up (va_up A1 52 _) 53 _ = B
      have hB52 : B 52 = upd (A1 52) 0 (nI 0) := by rw [← hB]; simp [va_up]
      have hB53 : B 53 = upd (A1 53) 0 (nI T.2.2.2.length) := by rw [← hB]; simp [va_up]
      have hBf : fa [52, 53, 54] A1 B := by rw [← hB]; exact (fa.rf.u rfl).u rfl
      generalize hC : va_up B 54 _ = C
      have hCf : fa [52, 53, 54] A1 C := by rw [← hC]; exact hBf.u rfl
      have hC54 : C 54 = cp (B 54) 0 (A1 24) 0 3 := by rw [← hC, va_up_self, hBf 24 rfl]
      have hC52 : C 52 = B 52 := by rw [← hC, va_up_ne _ _ (by decide)]
      have hC53 : C 53 = B 53 := by rw [← hC, va_up_ne _ _ (by decide)]
      clear hB hC
      refine rz_blk' [(.iconst 0, 1, 0, 0), (.istore 5, 2, 0, 0)] (by decide +kernel) (Nat.le_refl _) (Nat.le_refl _) (fun K R hK hR => ?_)
      simp only [rw_c0, ↓rx_iconst, ↓rx_istore, ↓rx_nil, ↓ry_i1, rz_set, rz_nol, rz_clr, List.set_cons_zero, List.set_cons_succ, rz_tr, Nat.reduceAdd, Int.reduceAdd, Int.reduceToNat, Int.reduceSub, Int.reduceNeg, Int.cast_ofNat_Int]
      try simp (disch := omega) only [pk_us, pk_un, va_up_self, va_up_ne, nI_add, pk_mul, nI_clamp, vp_inT, nI_ltI, nI_leI, nI_eqI, pk_sub, true_and, and_true]
      refine hK _ _ _ _ ?_
      have hs3 := htw.2.2.2.2.2
      refine hlt n 0 [(0, T.2.2.2)] _ C _ _ (Nat.zero_add _) (by simp only [rr_k, hb]; rfl) (fun w hw => ?_) ?_ ((hkp0.i (K := [50]) ((fi.rf.u rfl).u rfl) rfl).a hCf rfl) (re_t_fa hre hCf rfl) ?_
      · simp at hw; subst hw; exact hs3.1
      · rw [pk_un (by decide), pk_un (by decide), pk_us]
      · rw [pk_us, hC52, hC53, hC54, hB52, hB53]
        refine ⟨rfl, by simp, fun i h => ?_⟩
        have hi : i = 0 := by simp at h; exact h
        subst hi
        exact ⟨pk_us, pk_us, sg_cp r6 hs3.1, by simp, by have := hs3.1; simp; omega, hs3.2⟩
  have ck : ∀ n, n ≤ 10 → yn = nI n → ∀ (j i : Nat), i + j = n → (∀ l, l < i → dk_let u.toBitVec.toNat l < 3) → rz_T w (d + 3) 0 0 m_Mod_read 0 0 29 [some (.ref a), some (.int (nI k)), some (.int (nI n)), some (.int u), some (.int yk), some (.int (nI i)), none, none] [] (re_put G a (upd I 0 (nI 0)) A) Q := by
    intro n hn10 hyn j
    induction j with
    | zero =>
      intro i hij hl
      have hi : i = n := by omega
      subst hi
      refine rz_blk' [(.iload 5, 2, 0, 0), (.iload_n 2, 1, 0, 0), (.if_icmp .ge 27, 3, 0, 0)] (by decide +kernel) (Nat.le_refl _) (Nat.le_refl _) (fun K R hK hR => ?_)
      simp only [↓rx_if_icmp_ge, ↓rx_iload, ↓rx_iload_n2, ↓rx_nil, ↓ry_i2, ↓ry_li0s, ↓ry_li0z, rz_set, rz_nol, rz_clr, List.set_cons_zero, List.set_cons_succ, rz_tr, Nat.reduceAdd, Int.reduceAdd, Int.reduceToNat, Int.reduceSub, Int.reduceNeg, Int.cast_ofNat_Int]
      try simp (disch := omega) only [pk_us, pk_un, va_up_self, va_up_ne, nI_add, pk_mul, nI_clamp, vp_inT, nI_ltI, nI_leI, nI_eqI, pk_sub, true_and, and_true]
      refine ⟨fun q501 => hK _ _ _ _ ?_, fun q501 => by omega⟩
      exact hgo i hn10 hyn hl
    | succ j ih =>
      intro i hij hl
      have hsh := re_sh2 u (k := i) (by omega)
      have h4 := dk_let4 u.toBitVec.toNat i
      refine rz_blk' [(.iload 5, 2, 0, 0), (.iload_n 2, 1, 0, 0), (.if_icmp .ge 27, 3, 0, 0)] (by decide +kernel) (Nat.le_refl _) (Nat.le_refl _) (fun K R hK hR => ?_)
      simp only [↓rx_if_icmp_ge, ↓rx_iload, ↓rx_iload_n2, ↓rx_nil, ↓ry_i2, ↓ry_li0s, ↓ry_li0z, hsh, rz_set, rz_nol, rz_clr, List.set_cons_zero, List.set_cons_succ, rz_tr, Nat.reduceAdd, Int.reduceAdd, Int.reduceToNat, Int.reduceSub, Int.reduceNeg, Int.cast_ofNat_Int]
      try simp (disch := omega) only [hsh, pk_us, pk_un, va_up_self, va_up_ne, nI_add, pk_mul, nI_clamp, vp_inT, nI_ltI, nI_leI, nI_eqI, pk_sub, true_and, and_true]
      refine ⟨fun q502 => by omega, fun q502 => hK _ _ _ _ ?_⟩
      refine rz_blk' [(.iload_n 3, 1, 0, 0), (.iconst 2, 1, 0, 0), (.iload 5, 2, 0, 0), (.imul, 1, 0, 0), (.ishr, 1, 0, 0), (.iconst 3, 1, 0, 0), (.iand, 1, 0, 0), (.iconst 3, 1, 0, 0), (.if_icmp .ne 9, 3, 0, 0)] (by decide +kernel) (Nat.le_refl _) (Nat.le_refl _) (fun K R hK hR => ?_)
      simp only [rw_c2, rw_c3, ↓rx_iand, ↓rx_iconst, ↓rx_if_icmp_ne, ↓rx_iload, ↓rx_iload_n3, ↓rx_imul, ↓rx_ishr, ↓rx_nil, ↓ry_i2, ↓ry_li0s, ↓ry_li0z, hsh, rz_set, rz_nol, rz_clr, List.set_cons_zero, List.set_cons_succ, rz_tr, Nat.reduceAdd, Int.reduceAdd, Int.reduceToNat, Int.reduceSub, Int.reduceNeg, Int.cast_ofNat_Int]
      try simp (disch := omega) only [hsh, pk_us, pk_un, va_up_self, va_up_ne, nI_add, pk_mul, nI_clamp, vp_inT, nI_ltI, nI_leI, nI_eqI, pk_sub, true_and, and_true]
      refine ⟨fun q503 => hK _ _ _ _ ?_, fun q503 => hK _ _ _ _ ?_⟩
      · -- 44 taken
        refine rz_blk' [(.iinc 5 1, 3, 0, 0)] (by decide +kernel) (Nat.le_refl _) (Nat.le_refl _) (fun K R hK hR => ?_)
        simp only [rw_c1, ↓rx_iinc, ↓rx_nil, ↓ry_li0s, ↓ry_li0z, hsh, rz_set, rz_nol, rz_clr, List.set_cons_zero, List.set_cons_succ, rz_tr, Nat.reduceAdd, Int.reduceAdd, Int.reduceToNat, Int.reduceSub, Int.reduceNeg, Int.cast_ofNat_Int]
        try simp (disch := omega) only [hsh, pk_us, pk_un, va_up_self, va_up_ne, nI_add, pk_mul, nI_clamp, vp_inT, nI_ltI, nI_leI, nI_eqI, pk_sub, true_and, and_true]
        refine hK _ _ _ _ ?_
        refine rz_blk' [(.goto (-27), 3, 0, 0)] (by decide +kernel) (Nat.le_refl _) (Nat.le_refl _) (fun K R hK hR => ?_)
        simp only [↓rx_goto, ↓rx_nil, hsh, rz_set, rz_nol, rz_clr, List.set_cons_zero, List.set_cons_succ, rz_tr, Nat.reduceAdd, Int.reduceAdd, Int.reduceToNat, Int.reduceSub, Int.reduceNeg, Int.cast_ofNat_Int]
        try simp (disch := omega) only [hsh, pk_us, pk_un, va_up_self, va_up_ne, nI_add, pk_mul, nI_clamp, vp_inT, nI_ltI, nI_leI, nI_eqI, pk_sub, true_and, and_true]
        refine hK _ _ _ _ ?_
        refine ih (i + 1) (by omega) (fun l hl2 => ?_)
        by_cases c : l = i
        · subst c; omega
        · exact hl l (by omega)
      · -- 44 not taken
        refine rz_blk' [(.aload_n 0, 1, 0, 0), (.iconst 2, 1, 0, 0)] (by decide +kernel) (Nat.le_refl _) (Nat.le_refl _) (fun K R hK hR => ?_)
        simp only [rw_c2, ↓rx_aload_n0, ↓rx_iconst, ↓rx_nil, ↓ry_lr0s, ↓ry_lr0z, hsh, rz_set, rz_nol, rz_clr, List.set_cons_zero, List.set_cons_succ, rz_tr, Nat.reduceAdd, Int.reduceAdd, Int.reduceToNat, Int.reduceSub, Int.reduceNeg, Int.cast_ofNat_Int]
        try simp (disch := omega) only [hsh, pk_us, pk_un, va_up_self, va_up_ne, nI_add, pk_mul, nI_clamp, vp_inT, nI_ltI, nI_leI, nI_eqI, pk_sub, true_and, and_true]
        refine hK _ _ _ _ ?_
        refine rz_cV (As := [.int (nI 2)]) (b := a) (S := []) l_Mod_218 (by decide +kernel) rfl re_at0 rfl (Nat.le_of_ble_eq_true rfl) (Nat.le_refl _) (Nat.le_refl _) (c_Mod_fail _) (fun r G' hr => ?_)
        obtain ⟨rfl, rfl⟩ := hr
        simp only [Option.toList, List.cons_append, List.nil_append]
        refine rz_blk' [(.ireturn, 1, 0, 0)] (by decide +kernel) (Nat.le_refl _) (Nat.le_refl _) (fun K R hK hR => ?_)
        simp only [↓rx_ireturn, ↓rx_nil, hsh, rz_set, rz_nol, rz_clr, List.set_cons_zero, List.set_cons_succ, rz_tr, Nat.reduceAdd, Int.reduceAdd, Int.reduceToNat, Int.reduceSub, Int.reduceNeg, Int.cast_ofNat_Int]
        try simp (disch := omega) only [hsh, pk_us, pk_un, va_up_self, va_up_ne, nI_add, pk_mul, nI_clamp, vp_inT, nI_ltI, nI_leI, nI_eqI, pk_sub, true_and, and_true]
        refine hR _ _ (rz_nb_i (by decide)) (hnrok 2 rfl ?_ _ (rf_0 h))
        rintro ⟨n', hn', e, hall⟩
        have e2 : n = n' := by
          have := hyn.symm.trans e
          rwa [nI_eq (by omega) (by omega)] at this
        have := hall i (by omega)
        omega
  have key := wi_iff (x := yn) (lo := 0) (hi := 10) (by decide) (by decide)
  refine rz_blk' [(.ifCond .ne 5, 3, 0, 0)] (by decide +kernel) (Nat.le_refl _) (Nat.le_refl _) (fun K R hK hR => ?_)
  simp only [↓rx_ifCond_ne, ↓rx_nil, ↓ry_i1, rz_set, rz_nol, rz_clr, List.set_cons_zero, List.set_cons_succ, rz_tr, Nat.reduceAdd, Int.reduceAdd, Int.reduceToNat, Int.reduceSub, Int.reduceNeg, Int.cast_ofNat_Int]
  try simp (disch := omega) only [pk_us, pk_un, va_up_self, va_up_ne, nI_add, pk_mul, nI_clamp, vp_inT, nI_ltI, nI_leI, nI_eqI, pk_sub, true_and, and_true]
  refine ⟨fun q504 => hK _ _ _ _ ?_, fun q504 => absurd q504 (by decide)⟩
  refine rz_blk' [(.iload_n 2, 1, 0, 0), (.iconst 0, 1, 0, 0), (.bipush 10, 2, 0, 0)] (by decide +kernel) (Nat.le_refl _) (Nat.le_refl _) (fun K R hK hR => ?_)
  simp only [rw_b10, rw_c0, ↓rx_bipush, ↓rx_iconst, ↓rx_iload_n2, ↓rx_nil, ↓ry_li0s, ↓ry_li0z, rz_set, rz_nol, rz_clr, List.set_cons_zero, List.set_cons_succ, rz_tr, Nat.reduceAdd, Int.reduceAdd, Int.reduceToNat, Int.reduceSub, Int.reduceNeg, Int.cast_ofNat_Int]
  try simp (disch := omega) only [pk_us, pk_un, va_up_self, va_up_ne, nI_add, pk_mul, nI_clamp, vp_inT, nI_ltI, nI_leI, nI_eqI, pk_sub, true_and, and_true]
  refine hK _ _ _ _ ?_
  refine rz_cS (As := [.int yn, .int (nI 0), .int (nI 10)]) (S := []) l_Mod_210 (by decide +kernel) rfl (Nat.le_of_ble_eq_true rfl) (Nat.le_refl _) (Nat.le_refl _) (c_Mod_within _ _ _) (fun r G' hr => ?_)
  obtain ⟨rfl, hg⟩ := hr
  subst hg
  simp only [Option.toList, List.cons_append, List.nil_append]
  refine rz_blk' [(.ifCond .ne 9, 3, 0, 0)] (by decide +kernel) (Nat.le_refl _) (Nat.le_refl _) (fun K R hK hR => ?_)
  simp only [↓rx_ifCond_ne, ↓rx_nil, ↓ry_i1, rz_set, rz_nol, rz_clr, List.set_cons_zero, List.set_cons_succ, rz_tr, Nat.reduceAdd, Int.reduceAdd, Int.reduceToNat, Int.reduceSub, Int.reduceNeg, Int.cast_ofNat_Int]
  try simp (disch := omega) only [pk_us, pk_un, va_up_self, va_up_ne, nI_add, pk_mul, nI_clamp, vp_inT, nI_ltI, nI_leI, nI_eqI, pk_sub, true_and, and_true]
  rw [rz_b_0]
  refine ⟨fun q505 => hK _ _ _ _ ?_, fun q505 => hK _ _ _ _ ?_⟩
  · -- 17 taken
    refine rz_blk' [(.iconst 0, 1, 0, 0), (.istore 5, 2, 0, 0)] (by decide +kernel) (Nat.le_refl _) (Nat.le_refl _) (fun K R hK hR => ?_)
    simp only [rw_c0, ↓rx_iconst, ↓rx_istore, ↓rx_nil, ↓ry_i1, rz_set, rz_nol, rz_clr, List.set_cons_zero, List.set_cons_succ, rz_tr, Nat.reduceAdd, Int.reduceAdd, Int.reduceToNat, Int.reduceSub, Int.reduceNeg, Int.cast_ofNat_Int]
    try simp (disch := omega) only [pk_us, pk_un, va_up_self, va_up_ne, nI_add, pk_mul, nI_clamp, vp_inT, nI_ltI, nI_leI, nI_eqI, pk_sub, true_and, and_true]
    refine hK _ _ _ _ ?_
    obtain ⟨n, -, hn, rfl⟩ := key.mp (by simpa using q505)
    exact ck n hn rfl n 0 (Nat.zero_add _) (fun l hl => absurd hl (Nat.not_lt_zero _))
  · -- 17 not taken
    refine rz_blk' [(.aload_n 0, 1, 0, 0), (.iconst 2, 1, 0, 0)] (by decide +kernel) (Nat.le_refl _) (Nat.le_refl _) (fun K R hK hR => ?_)
    simp only [rw_c2, ↓rx_aload_n0, ↓rx_iconst, ↓rx_nil, ↓ry_lr0s, ↓ry_lr0z, rz_set, rz_nol, rz_clr, List.set_cons_zero, List.set_cons_succ, rz_tr, Nat.reduceAdd, Int.reduceAdd, Int.reduceToNat, Int.reduceSub, Int.reduceNeg, Int.cast_ofNat_Int]
    try simp (disch := omega) only [pk_us, pk_un, va_up_self, va_up_ne, nI_add, pk_mul, nI_clamp, vp_inT, nI_ltI, nI_leI, nI_eqI, pk_sub, true_and, and_true]
    refine hK _ _ _ _ ?_
    refine rz_cV (As := [.int (nI 2)]) (b := a) (S := []) l_Mod_218 (by decide +kernel) rfl re_at0 rfl (Nat.le_of_ble_eq_true rfl) (Nat.le_refl _) (Nat.le_refl _) (c_Mod_fail _) (fun r G' hr => ?_)
    obtain ⟨rfl, rfl⟩ := hr
    simp only [Option.toList, List.cons_append, List.nil_append]
    refine rz_blk' [(.ireturn, 1, 0, 0)] (by decide +kernel) (Nat.le_refl _) (Nat.le_refl _) (fun K R hK hR => ?_)
    simp only [↓rx_ireturn, ↓rx_nil, rz_set, rz_nol, rz_clr, List.set_cons_zero, List.set_cons_succ, rz_tr, Nat.reduceAdd, Int.reduceAdd, Int.reduceToNat, Int.reduceSub, Int.reduceNeg, Int.cast_ofNat_Int]
    try simp (disch := omega) only [pk_us, pk_un, va_up_self, va_up_ne, nI_add, pk_mul, nI_clamp, vp_inT, nI_ltI, nI_leI, nI_eqI, pk_sub, true_and, and_true]
    refine hR _ _ (rz_nb_i (by decide)) (hnrok 2 rfl ?_ _ (rf_0 h))
    rintro ⟨n', hn', e, -⟩
    rw [key.mpr ⟨n', Nat.zero_le _, hn', e⟩] at q505
    cases q505
