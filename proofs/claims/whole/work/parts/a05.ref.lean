/-! the reference: stepSet, endsIn, readsApart -/
def xt_1 (x s : Nat) (n : Nat) (e : xe_T) : Nat := if s.testBit e.1 = true ∧ e.2.1 = x then n ||| 2 ^ e.2.2.1 else n
def xt (T : mv_T) (x s : Nat) : Nat := T.2.1.foldl (xt_1 x s) 0
def xe (T : mv_T) (s : Nat) : Bool := (List.range 6).any (fun q => s.testBit q && (T.2.2.1 q).isSome)
def xr (T : mv_T) (s : Nat) (v : List Nat) : Nat := v.foldl (fun s l => xt T l s) s
theorem xr_app {T : mv_T} {s : Nat} {v : List Nat} {l : Nat} : xr T s (v ++ [l]) = xt T l (xr T s v) := by simp [xr]
theorem xt_64f {x s : Nat} : ∀ (es : List xe_T) (n : Nat), (∀ e ∈ es, e.2.2.1 < 6) → n < 64 → es.foldl (xt_1 x s) n < 64
  | [], n, _, hn => hn
  | e :: es, n, h, hn => by
    refine xt_64f es _ (fun e' h' => h e' (List.mem_cons_of_mem _ h')) ?_
    unfold xt_1; split
    · exact hp_or64 n hn _ (h e List.mem_cons_self)
    · exact hn
theorem xt_64 {T : mv_T} {b x s : Nat} (h : tw T b) : xt T x s < 64 := xt_64f _ _ (fun e he => (h.2.2.1 e he).2.2.1) (by decide)
theorem xr_64 {T : mv_T} {b : Nat} (h : tw T b) : ∀ (v : List Nat) (s : Nat), s < 64 → xr T s v < 64
  | [], s, hs => hs
  | l :: v, s, hs => xr_64 h v (xt T l s) (xt_64 h)
/-- the words that one of the two reads to the end, and the other doesn't: none, or the least one -/
def xl_is (T1 T2 : mv_T) (a b : Nat) (r : Bool) (u : List Nat) : Prop := (r = false ∧ ∀ v : List Nat, (∀ x ∈ v, x < 3) → xe T1 (xr T1 a v) = xe T2 (xr T2 b v)) ∨ (r = true ∧ xe T1 (xr T1 a u) ≠ xe T2 (xr T2 b u) ∧ ∀ v : List Nat, (∀ x ∈ v, x < 3) → xe T1 (xr T1 a v) ≠ xe T2 (xr T2 b v) → vl u ≤ vl v)
/-- the pairs of sets with their words; the first k are done -/
def xa_i (T1 T2 : mv_T) (a b : Nat) (L : List (Nat × Nat)) (W : List (List Nat)) (k l : Nat) : Prop :=
  L.Nodup ∧ L.length = W.length ∧ (∀ (i : Nat) (x : Nat × Nat) (u : List Nat), L[i]? = some x → W[i]? = some u → x = (xr T1 a u, xr T2 b u) ∧ ∀ y ∈ u, y < 3) ∧ W[0]? = some [] ∧
  (∀ (i j : Nat) (u v : List Nat), i < j → W[i]? = some u → W[j]? = some v → vl u < vl v) ∧
  (∀ u ∈ W, ∀ v, W[k]? = some v → vl u < 3 * vl v + 1 + l) ∧
  (∀ (i : Nat) (x : Nat × Nat) (u : List Nat), i < k → L[i]? = some x → W[i]? = some u → xe T1 x.1 = xe T2 x.2 ∧ ∀ m, m < 3 → ∃ (j : Nat) (v : List Nat), L[j]? = some (xt T1 m x.1, xt T2 m x.2) ∧ W[j]? = some v ∧ vl v ≤ vl (u ++ [m])) ∧
  (∀ (x : Nat × Nat) (u : List Nat), L[k]? = some x → W[k]? = some u → ∀ m, m < l → ∃ (j : Nat) (v : List Nat), L[j]? = some (xt T1 m x.1, xt T2 m x.2) ∧ W[j]? = some v ∧ vl v ≤ vl (u ++ [m]))
theorem xa_pg : ∀ (n : Nat) (L : List Nat), L.Nodup → (∀ x ∈ L, x < n) → L.length ≤ n
  | 0, [], _, _ => Nat.le_refl _
  | 0, x :: L, _, h => absurd (h x List.mem_cons_self) (Nat.not_lt_zero _)
  | n + 1, L, hd, h => by
    by_cases c : n ∈ L
    · have h1 := xa_pg n (L.erase n) (hd.erase n) (fun x hx => by
        have := (hd.mem_erase_iff).mp hx
        have := h x this.2
        omega)
      have h2 := List.length_erase_of_mem c
      omega
    · have := xa_pg n L hd (fun x hx => by
        have h1 := h x hx
        have h2 : x ≠ n := fun e => c (e ▸ hx)
        omega)
      omega
theorem xa_len {L : List (Nat × Nat)} (hd : L.Nodup) (h : ∀ x ∈ L, x.1 < 64 ∧ x.2 < 64) : L.length ≤ 4096 := by
  have h1 : (L.map (fun x => 64 * x.1 + x.2)).Nodup := by
    refine List.pairwise_map.mpr (List.Pairwise.imp_of_mem ?_ hd)
    intro x y hx hy hne e
    have := h x hx
    have := h y hy
    exact hne (Prod.ext (by omega) (by omega))
  have := xa_pg 4096 _ h1 (fun y hy => by
    obtain ⟨x, hx, rfl⟩ := List.mem_map.mp hy
    have := h x hx
    omega)
  simpa using this
set_option maxRecDepth 100000 in
set_option maxHeartbeats 400000 in
theorem c_Mod_stepSet {w : rz_w} {d : Nat} {G : rz_G} {a : Nat} {I : Nat → Int32} {A : Nat → Nat → Int32} {T : mv_T} {hh s x b : Nat} (hh2 : hh < 2) (t : re_t A hh T) (w1 : tw T b) (hs : s < 64) (hx : x < 3) : rz_C w d 0 0 y_Mod_stepSet m_Mod_stepSet [.ref a, .int (nI s), .int (nI x), .int (nI hh)] (re_put G a I A) (fun (r : Option Value) (G' : rz_G) => r = some (.int (nI (xt T x s))) ∧ G' = re_put G a I A) := by
  generalize hQ : (fun (r : Option Value) (G' : rz_G) => r = some (.int (nI (xt T x s))) ∧ G' = re_put G a I A) = Q
  obtain ⟨-, u2, u3, -⟩ := id t
  have hl := w1.2.1
  have lp : ∀ (j i n : Nat), i + j = T.2.1.length → n < 64 → n = (T.2.1.take i).foldl (xt_1 x s) 0 → rz_T w d 0 0 m_Mod_stepSet 0 0 9 [some (.ref a), some (.int (nI s)), some (.int (nI x)), some (.int (nI hh)), some (.int (nI n)), some (.int (nI (24 * hh + i)))] [] (re_put G a I A) Q := by
    intro j
    induction j with
    | zero =>
      intro i n hij hn hf
      have hi : i = T.2.1.length := by omega
      rw [hi, List.take_length] at hf
      refine rz_blk' [(.iload 5, 2, 0, 0), (.bipush 24, 2, 0, 0), (.iload_n 3, 1, 0, 0), (.imul, 1, 0, 0), (.aload_n 0, 1, 0, 0), (.getfield 50, 3, 10, 15), (.iload_n 3, 1, 0, 0), (.iaload, 1, 0, 0), (.iadd, 1, 0, 0), (.if_icmp .ge 54, 3, 0, 0)] (by decide +kernel) (Nat.le_refl _) (Nat.le_refl _) (fun K R hK hR => ?_)
      simp only [rw_b24, ↓rx_aload_n0, ↓rx_bipush, ↓rx_getfield, ↓rx_iadd, ↓rx_iaload, ↓rx_if_icmp_ge, ↓rx_iload, ↓rx_iload_n3, ↓rx_imul, ↓rx_nil, ↓ry_i2, ↓ry_iau, ↓ry_li0s, ↓ry_li0z, ↓ry_lr0s, ↓ry_lr0z, ↓ry_obu, ↓ry_r1, ↓ry_ri, true_and, re_a15, ↓re_F15, ↓re_i15, ↓re_ob, u2, rz_set, rz_nol, rz_clr, List.set_cons_zero, List.set_cons_succ, rz_tr, Nat.reduceAdd, Int.reduceAdd, Int.reduceToNat, Int.reduceSub, Int.reduceNeg, Int.cast_ofNat_Int]
      try simp (disch := omega) only [u2, pk_us, pk_un, va_up_self, va_up_ne, nI_add, pk_mul, nI_clamp, vp_inT, nI_ltI, nI_leI, nI_eqI, pk_sub, true_and, and_true]
      refine ⟨fun q1 => hK _ _ _ _ ?_, fun q1 => by omega⟩
      refine rz_blk' [(.iload 4, 2, 0, 0), (.ireturn, 1, 0, 0)] (by decide +kernel) (Nat.le_refl _) (Nat.le_refl _) (fun K R hK hR => ?_)
      simp only [↓rx_iload, ↓rx_ireturn, ↓rx_nil, ↓ry_li0s, ↓ry_li0z, u2, rz_set, rz_nol, rz_clr, List.set_cons_zero, List.set_cons_succ, rz_tr, Nat.reduceAdd, Int.reduceAdd, Int.reduceToNat, Int.reduceSub, Int.reduceNeg, Int.cast_ofNat_Int]
      try simp (disch := omega) only [u2, pk_us, pk_un, va_up_self, va_up_ne, nI_add, pk_mul, nI_clamp, vp_inT, nI_ltI, nI_leI, nI_eqI, pk_sub, true_and, and_true]
      exact hR _ _ (rz_nb_i (by decide)) (by rw [← hQ]; exact ⟨by rw [hf]; rfl, rfl⟩)
    | succ j ih =>
      intro i n hij hn hf
      have hiT : i < T.2.1.length := by omega
      obtain ⟨a1, a2, a3, -, -⟩ := u3 i hiT
      obtain ⟨b1, b2, b3, -, -⟩ := tw_e w1 hiT
      have hst : (T.2.1.take (i + 1)).foldl (xt_1 x s) 0 = xt_1 x s n T.2.1[i] := by rw [foldl_take _ _ _ hiT, hf]
      refine rz_blk' [(.iload 5, 2, 0, 0), (.bipush 24, 2, 0, 0), (.iload_n 3, 1, 0, 0), (.imul, 1, 0, 0), (.aload_n 0, 1, 0, 0), (.getfield 50, 3, 10, 15), (.iload_n 3, 1, 0, 0), (.iaload, 1, 0, 0), (.iadd, 1, 0, 0), (.if_icmp .ge 54, 3, 0, 0)] (by decide +kernel) (Nat.le_refl _) (Nat.le_refl _) (fun K R hK hR => ?_)
      simp only [rw_b24, ↓rx_aload_n0, ↓rx_bipush, ↓rx_getfield, ↓rx_iadd, ↓rx_iaload, ↓rx_if_icmp_ge, ↓rx_iload, ↓rx_iload_n3, ↓rx_imul, ↓rx_nil, ↓ry_i2, ↓ry_iau, ↓ry_li0s, ↓ry_li0z, ↓ry_lr0s, ↓ry_lr0z, ↓ry_obu, ↓ry_r1, ↓ry_ri, true_and, re_a15, ↓re_F15, ↓re_i15, ↓re_ob, u2, a1, a2, a3, rz_set, rz_nol, rz_clr, List.set_cons_zero, List.set_cons_succ, rz_tr, Nat.reduceAdd, Int.reduceAdd, Int.reduceToNat, Int.reduceSub, Int.reduceNeg, Int.cast_ofNat_Int]
      try simp (disch := omega) only [u2, a1, a2, a3, re_bit, rb_1, hp_bit, hp_ors, pk_us, pk_un, va_up_self, va_up_ne, nI_add, pk_mul, nI_clamp, vp_inT, nI_ltI, nI_leI, nI_eqI, pk_sub, true_and, and_true]
      refine ⟨fun q2 => by omega, fun q2 => hK _ _ _ _ ?_⟩
      refine rz_blk' [(.iload_n 1, 1, 0, 0), (.aload_n 0, 1, 0, 0), (.getfield 53, 3, 10, 16), (.iload 5, 2, 0, 0), (.iaload, 1, 0, 0), (.ishr, 1, 0, 0), (.iconst 1, 1, 0, 0), (.iand, 1, 0, 0), (.iconst 1, 1, 0, 0), (.if_icmp .ne 29, 3, 0, 0)] (by decide +kernel) (Nat.le_refl _) (Nat.le_refl _) (fun K R hK hR => ?_)
      simp only [rw_c1, ↓rx_aload_n0, ↓rx_getfield, ↓rx_iaload, ↓rx_iand, ↓rx_iconst, ↓rx_if_icmp_ne, ↓rx_iload, ↓rx_iload_n1, ↓rx_ishr, ↓rx_nil, ↓ry_i2, ↓ry_iau, ↓ry_li0s, ↓ry_li0z, ↓ry_lr0s, ↓ry_lr0z, ↓ry_obu, ↓ry_r1, ↓ry_ri, true_and, re_a16, ↓re_F16, ↓re_i16, ↓re_ob, u2, a1, a2, a3, rz_set, rz_nol, rz_clr, List.set_cons_zero, List.set_cons_succ, rz_tr, Nat.reduceAdd, Int.reduceAdd, Int.reduceToNat, Int.reduceSub, Int.reduceNeg, Int.cast_ofNat_Int]
      try simp (disch := omega) only [u2, a1, a2, a3, re_bit, rb_1, hp_bit, hp_ors, pk_us, pk_un, va_up_self, va_up_ne, nI_add, pk_mul, nI_clamp, vp_inT, nI_ltI, nI_leI, nI_eqI, pk_sub, true_and, and_true]
      refine ⟨fun q3 => hK _ _ _ _ ?_, fun q3 => hK _ _ _ _ ?_⟩
      · -- 37 taken
        refine rz_blk' [(.iload 4, 2, 0, 0), (.istore 4, 2, 0, 0)] (by decide +kernel) (Nat.le_refl _) (Nat.le_refl _) (fun K R hK hR => ?_)
        simp only [↓rx_iload, ↓rx_istore, ↓rx_nil, ↓ry_i1, ↓ry_li0s, ↓ry_li0z, u2, a1, a2, a3, rz_set, rz_nol, rz_clr, List.set_cons_zero, List.set_cons_succ, rz_tr, Nat.reduceAdd, Int.reduceAdd, Int.reduceToNat, Int.reduceSub, Int.reduceNeg, Int.cast_ofNat_Int]
        try simp (disch := omega) only [u2, a1, a2, a3, re_bit, rb_1, hp_bit, hp_ors, pk_us, pk_un, va_up_self, va_up_ne, nI_add, pk_mul, nI_clamp, vp_inT, nI_ltI, nI_leI, nI_eqI, pk_sub, true_and, and_true]
        refine hK _ _ _ _ ?_
        refine rz_blk' [(.iinc 5 1, 3, 0, 0)] (by decide +kernel) (Nat.le_refl _) (Nat.le_refl _) (fun K R hK hR => ?_)
        simp only [rw_c1, ↓rx_iinc, ↓rx_nil, ↓ry_li0s, ↓ry_li0z, u2, a1, a2, a3, rz_set, rz_nol, rz_clr, List.set_cons_zero, List.set_cons_succ, rz_tr, Nat.reduceAdd, Int.reduceAdd, Int.reduceToNat, Int.reduceSub, Int.reduceNeg, Int.cast_ofNat_Int]
        try simp (disch := omega) only [u2, a1, a2, a3, re_bit, rb_1, hp_bit, hp_ors, pk_us, pk_un, va_up_self, va_up_ne, nI_add, pk_mul, nI_clamp, vp_inT, nI_ltI, nI_leI, nI_eqI, pk_sub, true_and, and_true]
        refine hK _ _ _ _ ?_
        refine rz_blk' [(.goto (-64), 3, 0, 0)] (by decide +kernel) (Nat.le_refl _) (Nat.le_refl _) (fun K R hK hR => ?_)
        simp only [↓rx_goto, ↓rx_nil, u2, a1, a2, a3, rz_set, rz_nol, rz_clr, List.set_cons_zero, List.set_cons_succ, rz_tr, Nat.reduceAdd, Int.reduceAdd, Int.reduceToNat, Int.reduceSub, Int.reduceNeg, Int.cast_ofNat_Int]
        try simp (disch := omega) only [u2, a1, a2, a3, re_bit, rb_1, hp_bit, hp_ors, pk_us, pk_un, va_up_self, va_up_ne, nI_add, pk_mul, nI_clamp, vp_inT, nI_ltI, nI_leI, nI_eqI, pk_sub, true_and, and_true]
        refine hK _ _ _ _ ?_
        first
          | exact ih (i + 1) _ (by omega) (hp_or64 n hn _ (by omega)) (by rw [hst, xt_1, if_pos ⟨by simpa using q2, by simpa using q3⟩])
          | exact ih (i + 1) n (by omega) hn (by rw [hst, xt_1, if_neg]; rintro ⟨q1, q2⟩; simp_all)
      · -- 37 not taken
        refine rz_blk' [(.aload_n 0, 1, 0, 0), (.getfield 56, 3, 10, 17), (.iload 5, 2, 0, 0), (.iaload, 1, 0, 0), (.iload_n 2, 1, 0, 0), (.if_icmp .ne 18, 3, 0, 0)] (by decide +kernel) (Nat.le_refl _) (Nat.le_refl _) (fun K R hK hR => ?_)
        simp only [↓rx_aload_n0, ↓rx_getfield, ↓rx_iaload, ↓rx_if_icmp_ne, ↓rx_iload, ↓rx_iload_n2, ↓rx_nil, ↓ry_i2, ↓ry_iau, ↓ry_li0s, ↓ry_li0z, ↓ry_lr0s, ↓ry_lr0z, ↓ry_obu, ↓ry_r1, ↓ry_ri, true_and, re_a17, ↓re_F17, ↓re_i17, ↓re_ob, u2, a1, a2, a3, rz_set, rz_nol, rz_clr, List.set_cons_zero, List.set_cons_succ, rz_tr, Nat.reduceAdd, Int.reduceAdd, Int.reduceToNat, Int.reduceSub, Int.reduceNeg, Int.cast_ofNat_Int]
        try simp (disch := omega) only [u2, a1, a2, a3, re_bit, rb_1, hp_bit, hp_ors, pk_us, pk_un, va_up_self, va_up_ne, nI_add, pk_mul, nI_clamp, vp_inT, nI_ltI, nI_leI, nI_eqI, pk_sub, true_and, and_true]
        refine ⟨fun q4 => hK _ _ _ _ ?_, fun q4 => hK _ _ _ _ ?_⟩
        · -- 48 taken
          refine rz_blk' [(.iload 4, 2, 0, 0), (.istore 4, 2, 0, 0)] (by decide +kernel) (Nat.le_refl _) (Nat.le_refl _) (fun K R hK hR => ?_)
          simp only [↓rx_iload, ↓rx_istore, ↓rx_nil, ↓ry_i1, ↓ry_li0s, ↓ry_li0z, u2, a1, a2, a3, rz_set, rz_nol, rz_clr, List.set_cons_zero, List.set_cons_succ, rz_tr, Nat.reduceAdd, Int.reduceAdd, Int.reduceToNat, Int.reduceSub, Int.reduceNeg, Int.cast_ofNat_Int]
          try simp (disch := omega) only [u2, a1, a2, a3, re_bit, rb_1, hp_bit, hp_ors, pk_us, pk_un, va_up_self, va_up_ne, nI_add, pk_mul, nI_clamp, vp_inT, nI_ltI, nI_leI, nI_eqI, pk_sub, true_and, and_true]
          refine hK _ _ _ _ ?_
          refine rz_blk' [(.iinc 5 1, 3, 0, 0)] (by decide +kernel) (Nat.le_refl _) (Nat.le_refl _) (fun K R hK hR => ?_)
          simp only [rw_c1, ↓rx_iinc, ↓rx_nil, ↓ry_li0s, ↓ry_li0z, u2, a1, a2, a3, rz_set, rz_nol, rz_clr, List.set_cons_zero, List.set_cons_succ, rz_tr, Nat.reduceAdd, Int.reduceAdd, Int.reduceToNat, Int.reduceSub, Int.reduceNeg, Int.cast_ofNat_Int]
          try simp (disch := omega) only [u2, a1, a2, a3, re_bit, rb_1, hp_bit, hp_ors, pk_us, pk_un, va_up_self, va_up_ne, nI_add, pk_mul, nI_clamp, vp_inT, nI_ltI, nI_leI, nI_eqI, pk_sub, true_and, and_true]
          refine hK _ _ _ _ ?_
          refine rz_blk' [(.goto (-64), 3, 0, 0)] (by decide +kernel) (Nat.le_refl _) (Nat.le_refl _) (fun K R hK hR => ?_)
          simp only [↓rx_goto, ↓rx_nil, u2, a1, a2, a3, rz_set, rz_nol, rz_clr, List.set_cons_zero, List.set_cons_succ, rz_tr, Nat.reduceAdd, Int.reduceAdd, Int.reduceToNat, Int.reduceSub, Int.reduceNeg, Int.cast_ofNat_Int]
          try simp (disch := omega) only [u2, a1, a2, a3, re_bit, rb_1, hp_bit, hp_ors, pk_us, pk_un, va_up_self, va_up_ne, nI_add, pk_mul, nI_clamp, vp_inT, nI_ltI, nI_leI, nI_eqI, pk_sub, true_and, and_true]
          refine hK _ _ _ _ ?_
          first
            | exact ih (i + 1) _ (by omega) (hp_or64 n hn _ (by omega)) (by rw [hst, xt_1, if_pos ⟨by simpa using q3, by simpa using q4⟩])
            | exact ih (i + 1) n (by omega) hn (by rw [hst, xt_1, if_neg]; rintro ⟨q1, q2⟩; simp_all)
        · -- 48 not taken
          refine rz_blk' [(.iload 4, 2, 0, 0), (.iconst 1, 1, 0, 0), (.aload_n 0, 1, 0, 0), (.getfield 59, 3, 10, 18), (.iload 5, 2, 0, 0), (.iaload, 1, 0, 0), (.ishl, 1, 0, 0), (.ior, 1, 0, 0), (.goto 5, 3, 0, 0)] (by decide +kernel) (Nat.le_refl _) (Nat.le_refl _) (fun K R hK hR => ?_)
          simp only [rw_c1, ↓rx_aload_n0, ↓rx_getfield, ↓rx_goto, ↓rx_iaload, ↓rx_iconst, ↓rx_iload, ↓rx_ior, ↓rx_ishl, ↓rx_nil, ↓ry_i2, ↓ry_iau, ↓ry_li0s, ↓ry_li0z, ↓ry_lr0s, ↓ry_lr0z, ↓ry_obu, ↓ry_r1, ↓ry_ri, true_and, re_a18, ↓re_F18, ↓re_i18, ↓re_ob, u2, a1, a2, a3, rz_set, rz_nol, rz_clr, List.set_cons_zero, List.set_cons_succ, rz_tr, Nat.reduceAdd, Int.reduceAdd, Int.reduceToNat, Int.reduceSub, Int.reduceNeg, Int.cast_ofNat_Int]
          try simp (disch := omega) only [u2, a1, a2, a3, re_bit, rb_1, hp_bit, hp_ors, pk_us, pk_un, va_up_self, va_up_ne, nI_add, pk_mul, nI_clamp, vp_inT, nI_ltI, nI_leI, nI_eqI, pk_sub, true_and, and_true]
          refine hK _ _ _ _ ?_
          refine rz_blk' [(.istore 4, 2, 0, 0)] (by decide +kernel) (Nat.le_refl _) (Nat.le_refl _) (fun K R hK hR => ?_)
          simp only [↓rx_istore, ↓rx_nil, ↓ry_i1, u2, a1, a2, a3, rz_set, rz_nol, rz_clr, List.set_cons_zero, List.set_cons_succ, rz_tr, Nat.reduceAdd, Int.reduceAdd, Int.reduceToNat, Int.reduceSub, Int.reduceNeg, Int.cast_ofNat_Int]
          try simp (disch := omega) only [u2, a1, a2, a3, re_bit, rb_1, hp_bit, hp_ors, pk_us, pk_un, va_up_self, va_up_ne, nI_add, pk_mul, nI_clamp, vp_inT, nI_ltI, nI_leI, nI_eqI, pk_sub, true_and, and_true]
          refine hK _ _ _ _ ?_
          refine rz_blk' [(.iinc 5 1, 3, 0, 0)] (by decide +kernel) (Nat.le_refl _) (Nat.le_refl _) (fun K R hK hR => ?_)
          simp only [rw_c1, ↓rx_iinc, ↓rx_nil, ↓ry_li0s, ↓ry_li0z, u2, a1, a2, a3, rz_set, rz_nol, rz_clr, List.set_cons_zero, List.set_cons_succ, rz_tr, Nat.reduceAdd, Int.reduceAdd, Int.reduceToNat, Int.reduceSub, Int.reduceNeg, Int.cast_ofNat_Int]
          try simp (disch := omega) only [u2, a1, a2, a3, re_bit, rb_1, hp_bit, hp_ors, pk_us, pk_un, va_up_self, va_up_ne, nI_add, pk_mul, nI_clamp, vp_inT, nI_ltI, nI_leI, nI_eqI, pk_sub, true_and, and_true]
          refine hK _ _ _ _ ?_
          refine rz_blk' [(.goto (-64), 3, 0, 0)] (by decide +kernel) (Nat.le_refl _) (Nat.le_refl _) (fun K R hK hR => ?_)
          simp only [↓rx_goto, ↓rx_nil, u2, a1, a2, a3, rz_set, rz_nol, rz_clr, List.set_cons_zero, List.set_cons_succ, rz_tr, Nat.reduceAdd, Int.reduceAdd, Int.reduceToNat, Int.reduceSub, Int.reduceNeg, Int.cast_ofNat_Int]
          try simp (disch := omega) only [u2, a1, a2, a3, re_bit, rb_1, hp_bit, hp_ors, pk_us, pk_un, va_up_self, va_up_ne, nI_add, pk_mul, nI_clamp, vp_inT, nI_ltI, nI_leI, nI_eqI, pk_sub, true_and, and_true]
          refine hK _ _ _ _ ?_
          first
            | exact ih (i + 1) _ (by omega) (hp_or64 n hn _ (by omega)) (by rw [hst, xt_1, if_pos ⟨by simpa using q3, by simpa using q4⟩])
            | exact ih (i + 1) n (by omega) hn (by rw [hst, xt_1, if_neg]; rintro ⟨q1, q2⟩; simp_all)
  refine rz_enter' [some (.ref a), some (.int (nI s)), some (.int (nI x)), some (.int (nI hh)), none, none] (by decide +kernel) rfl rfl (Nat.le_of_ble_eq_true rfl) rfl ?_
  refine rz_blk' [(.iconst 0, 1, 0, 0), (.istore 4, 2, 0, 0)] (by decide +kernel) (Nat.le_refl _) (Nat.le_refl _) (fun K R hK hR => ?_)
  simp only [rw_c0, ↓rx_iconst, ↓rx_istore, ↓rx_nil, ↓ry_i1, rz_set, rz_nol, rz_clr, List.set_cons_zero, List.set_cons_succ, rz_tr, Nat.reduceAdd, Int.reduceAdd, Int.reduceToNat, Int.reduceSub, Int.reduceNeg, Int.cast_ofNat_Int]
  try simp (disch := omega) only [pk_us, pk_un, va_up_self, va_up_ne, nI_add, pk_mul, nI_clamp, vp_inT, nI_ltI, nI_leI, nI_eqI, pk_sub, true_and, and_true]
  refine hK _ _ _ _ ?_
  refine rz_blk' [(.bipush 24, 2, 0, 0), (.iload_n 3, 1, 0, 0), (.imul, 1, 0, 0), (.istore 5, 2, 0, 0)] (by decide +kernel) (Nat.le_refl _) (Nat.le_refl _) (fun K R hK hR => ?_)
  simp only [rw_b24, ↓rx_bipush, ↓rx_iload_n3, ↓rx_imul, ↓rx_istore, ↓rx_nil, ↓ry_i1, ↓ry_i2, ↓ry_li0s, ↓ry_li0z, rz_set, rz_nol, rz_clr, List.set_cons_zero, List.set_cons_succ, rz_tr, Nat.reduceAdd, Int.reduceAdd, Int.reduceToNat, Int.reduceSub, Int.reduceNeg, Int.cast_ofNat_Int]
  try simp (disch := omega) only [pk_us, pk_un, va_up_self, va_up_ne, nI_add, pk_mul, nI_clamp, vp_inT, nI_ltI, nI_leI, nI_eqI, pk_sub, true_and, and_true]
  refine hK _ _ _ _ ?_
  exact lp T.2.1.length 0 0 (by omega) (by decide) rfl
set_option maxRecDepth 100000 in
set_option maxHeartbeats 400000 in
theorem c_Mod_endsIn {w : rz_w} {d : Nat} {G : rz_G} {a : Nat} {I : Nat → Int32} {A : Nat → Nat → Int32} {T : mv_T} {hh s : Nat} (hh2 : hh < 2) (t : re_t A hh T) (w1 : tw T 32) (hs : s < 64) : rz_C w d 0 0 y_Mod_endsIn m_Mod_endsIn [.ref a, .int (nI s), .int (nI hh)] (re_put G a I A) (fun (r : Option Value) (G' : rz_G) => r = some (.int (rz_b (xe T s))) ∧ G' = re_put G a I A) := by
  generalize hQ : (fun (r : Option Value) (G' : rz_G) => r = some (.int (rz_b (xe T s))) ∧ G' = re_put G a I A) = Q
  obtain ⟨-, -, -, u4, -⟩ := id t
  have hos : ∀ {q : Nat}, (os (T.2.2.1 q) < 0) = (T.2.2.1 q = none) := os_lt (fun xs hx => by have := (w1.2.2.2.2.1 _ xs hx).1; omega)
  have lp : ∀ (j i : Nat) (b : Bool), i + j = 6 → b = (List.range i).any (fun q => s.testBit q && (T.2.2.1 q).isSome) → rz_T w d 0 0 m_Mod_endsIn 0 0 5 [some (.ref a), some (.int (nI s)), some (.int (nI hh)), some (.int (rz_b b)), some (.int (nI i))] [] (re_put G a I A) Q := by
    intro j
    induction j with
    | zero =>
      intro i b hij hb
      have hi : i = 6 := by omega
      subst hi
      refine rz_blk' [(.iload 4, 2, 0, 0), (.bipush 6, 2, 0, 0), (.if_icmp .ge 44, 3, 0, 0)] (by decide +kernel) (Nat.le_refl _) (Nat.le_refl _) (fun K R hK hR => ?_)
      simp only [rw_b6, ↓rx_bipush, ↓rx_if_icmp_ge, ↓rx_iload, ↓rx_nil, ↓ry_i2, ↓ry_li0s, ↓ry_li0z, rz_set, rz_nol, rz_clr, List.set_cons_zero, List.set_cons_succ, rz_tr, Nat.reduceAdd, Int.reduceAdd, Int.reduceToNat, Int.reduceSub, Int.reduceNeg, Int.cast_ofNat_Int]
      try simp (disch := omega) only [pk_us, pk_un, va_up_self, va_up_ne, nI_add, pk_mul, nI_clamp, vp_inT, nI_ltI, nI_leI, nI_eqI, pk_sub, true_and, and_true]
      refine ⟨fun q1 => hK _ _ _ _ ?_, fun q1 => by omega⟩
      refine rz_blk' [(.iload_n 3, 1, 0, 0), (.ireturn, 1, 0, 0)] (by decide +kernel) (Nat.le_refl _) (Nat.le_refl _) (fun K R hK hR => ?_)
      simp only [↓rx_iload_n3, ↓rx_ireturn, ↓rx_nil, ↓ry_li0s, ↓ry_li0z, rz_set, rz_nol, rz_clr, List.set_cons_zero, List.set_cons_succ, rz_tr, Nat.reduceAdd, Int.reduceAdd, Int.reduceToNat, Int.reduceSub, Int.reduceNeg, Int.cast_ofNat_Int]
      try simp (disch := omega) only [pk_us, pk_un, va_up_self, va_up_ne, nI_add, pk_mul, nI_clamp, vp_inT, nI_ltI, nI_leI, nI_eqI, pk_sub, true_and, and_true]
      exact hR _ _ rz_b_nb (by rw [← hQ]; exact ⟨by rw [hb]; rfl, rfl⟩)
    | succ j ih =>
      intro i b hij hb
      have a1 := (u4 i (by omega)).1
      have a2 := hos (q := i)
      have hst : (List.range (i + 1)).any (fun q => s.testBit q && (T.2.2.1 q).isSome) = (b || (s.testBit i && (T.2.2.1 i).isSome)) := by
        rw [List.range_succ, List.any_append, ← hb]; simp
      have ih1 := ih (i + 1) true (by omega)
      have ih0 := ih (i + 1) false (by omega)
      rw [hst] at ih1 ih0
      cases b with
      | true =>
        refine rz_blk' [(.iload 4, 2, 0, 0), (.bipush 6, 2, 0, 0), (.if_icmp .ge 44, 3, 0, 0)] (by decide +kernel) (Nat.le_refl _) (Nat.le_refl _) (fun K R hK hR => ?_)
        simp only [rw_b6, ↓rx_bipush, ↓rx_if_icmp_ge, ↓rx_iload, ↓rx_nil, ↓ry_i2, ↓ry_li0s, ↓ry_li0z, a1, rz_set, rz_nol, rz_clr, List.set_cons_zero, List.set_cons_succ, rz_tr, Nat.reduceAdd, Int.reduceAdd, Int.reduceToNat, Int.reduceSub, Int.reduceNeg, Int.cast_ofNat_Int]
        try simp (disch := omega) only [a1, re_bit, rb_1, pk_us, pk_un, va_up_self, va_up_ne, nI_add, pk_mul, nI_clamp, vp_inT, nI_ltI, nI_leI, nI_eqI, pk_sub, true_and, and_true]
        refine ⟨fun q2 => by omega, fun q2 => hK _ _ _ _ ?_⟩
        refine rz_blk' [(.iload_n 3, 1, 0, 0), (.ifCond .ne 28, 3, 0, 0)] (by decide +kernel) (Nat.le_refl _) (Nat.le_refl _) (fun K R hK hR => ?_)
        simp only [↓rx_ifCond_ne, ↓rx_iload_n3, ↓rx_nil, ↓ry_i1, ↓ry_li0s, ↓ry_li0z, a1, rz_set, rz_nol, rz_clr, List.set_cons_zero, List.set_cons_succ, rz_tr, Nat.reduceAdd, Int.reduceAdd, Int.reduceToNat, Int.reduceSub, Int.reduceNeg, Int.cast_ofNat_Int]
        try simp (disch := omega) only [a1, re_bit, rb_1, pk_us, pk_un, va_up_self, va_up_ne, nI_add, pk_mul, nI_clamp, vp_inT, nI_ltI, nI_leI, nI_eqI, pk_sub, true_and, and_true]
        refine ⟨fun q3 => hK _ _ _ _ ?_, fun q3 => absurd q3 (by decide)⟩
        refine rz_blk' [(.iconst 1, 1, 0, 0), (.goto 4, 3, 0, 0)] (by decide +kernel) (Nat.le_refl _) (Nat.le_refl _) (fun K R hK hR => ?_)
        simp only [rw_c1, ↓rx_goto, ↓rx_iconst, ↓rx_nil, a1, rz_set, rz_nol, rz_clr, List.set_cons_zero, List.set_cons_succ, rz_tr, Nat.reduceAdd, Int.reduceAdd, Int.reduceToNat, Int.reduceSub, Int.reduceNeg, Int.cast_ofNat_Int]
        try simp (disch := omega) only [a1, re_bit, rb_1, pk_us, pk_un, va_up_self, va_up_ne, nI_add, pk_mul, nI_clamp, vp_inT, nI_ltI, nI_leI, nI_eqI, pk_sub, true_and, and_true]
        refine hK _ _ _ _ ?_
        refine rz_blk' [(.istore_n 3, 1, 0, 0)] (by decide +kernel) (Nat.le_refl _) (Nat.le_refl _) (fun K R hK hR => ?_)
        simp only [↓rx_istore_n3, ↓rx_nil, ↓ry_i1, a1, rz_set, rz_nol, rz_clr, List.set_cons_zero, List.set_cons_succ, rz_tr, Nat.reduceAdd, Int.reduceAdd, Int.reduceToNat, Int.reduceSub, Int.reduceNeg, Int.cast_ofNat_Int]
        try simp (disch := omega) only [a1, re_bit, rb_1, pk_us, pk_un, va_up_self, va_up_ne, nI_add, pk_mul, nI_clamp, vp_inT, nI_ltI, nI_leI, nI_eqI, pk_sub, true_and, and_true]
        refine hK _ _ _ _ ?_
        refine rz_blk' [(.iinc 4 1, 3, 0, 0)] (by decide +kernel) (Nat.le_refl _) (Nat.le_refl _) (fun K R hK hR => ?_)
        simp only [rw_c1, ↓rx_iinc, ↓rx_nil, ↓ry_li0s, ↓ry_li0z, a1, rz_set, rz_nol, rz_clr, List.set_cons_zero, List.set_cons_succ, rz_tr, Nat.reduceAdd, Int.reduceAdd, Int.reduceToNat, Int.reduceSub, Int.reduceNeg, Int.cast_ofNat_Int]
        try simp (disch := omega) only [a1, re_bit, rb_1, pk_us, pk_un, va_up_self, va_up_ne, nI_add, pk_mul, nI_clamp, vp_inT, nI_ltI, nI_leI, nI_eqI, pk_sub, true_and, and_true]
        refine hK _ _ _ _ ?_
        refine rz_blk' [(.goto (-45), 3, 0, 0)] (by decide +kernel) (Nat.le_refl _) (Nat.le_refl _) (fun K R hK hR => ?_)
        simp only [↓rx_goto, ↓rx_nil, a1, rz_set, rz_nol, rz_clr, List.set_cons_zero, List.set_cons_succ, rz_tr, Nat.reduceAdd, Int.reduceAdd, Int.reduceToNat, Int.reduceSub, Int.reduceNeg, Int.cast_ofNat_Int]
        try simp (disch := omega) only [a1, re_bit, rb_1, pk_us, pk_un, va_up_self, va_up_ne, nI_add, pk_mul, nI_clamp, vp_inT, nI_ltI, nI_leI, nI_eqI, pk_sub, true_and, and_true]
        refine hK _ _ _ _ ?_
        exact ih1 rfl
      | false =>
        refine rz_blk' [(.iload 4, 2, 0, 0), (.bipush 6, 2, 0, 0), (.if_icmp .ge 44, 3, 0, 0)] (by decide +kernel) (Nat.le_refl _) (Nat.le_refl _) (fun K R hK hR => ?_)
        simp only [rw_b6, ↓rx_bipush, ↓rx_if_icmp_ge, ↓rx_iload, ↓rx_nil, ↓ry_i2, ↓ry_li0s, ↓ry_li0z, a1, rz_set, rz_nol, rz_clr, List.set_cons_zero, List.set_cons_succ, rz_tr, Nat.reduceAdd, Int.reduceAdd, Int.reduceToNat, Int.reduceSub, Int.reduceNeg, Int.cast_ofNat_Int]
        try simp (disch := omega) only [a1, re_bit, rb_1, a2, pk_us, pk_un, va_up_self, va_up_ne, nI_add, pk_mul, nI_clamp, vp_inT, nI_ltI, nI_leI, nI_eqI, pk_sub, true_and, and_true]
        refine ⟨fun q4 => by omega, fun q4 => hK _ _ _ _ ?_⟩
        refine rz_blk' [(.iload_n 3, 1, 0, 0), (.ifCond .ne 28, 3, 0, 0)] (by decide +kernel) (Nat.le_refl _) (Nat.le_refl _) (fun K R hK hR => ?_)
        simp only [↓rx_ifCond_ne, ↓rx_iload_n3, ↓rx_nil, ↓ry_i1, ↓ry_li0s, ↓ry_li0z, a1, rz_set, rz_nol, rz_clr, List.set_cons_zero, List.set_cons_succ, rz_tr, Nat.reduceAdd, Int.reduceAdd, Int.reduceToNat, Int.reduceSub, Int.reduceNeg, Int.cast_ofNat_Int]
        try simp (disch := omega) only [a1, re_bit, rb_1, a2, pk_us, pk_un, va_up_self, va_up_ne, nI_add, pk_mul, nI_clamp, vp_inT, nI_ltI, nI_leI, nI_eqI, pk_sub, true_and, and_true]
        refine ⟨fun q5 => by first | exact absurd rfl q5 | exact absurd trivial q5, fun q5 => hK _ _ _ _ ?_⟩
        refine rz_blk' [(.iload_n 1, 1, 0, 0), (.iload 4, 2, 0, 0), (.ishr, 1, 0, 0), (.iconst 1, 1, 0, 0), (.iand, 1, 0, 0), (.iconst 1, 1, 0, 0), (.if_icmp .ne 22, 3, 0, 0)] (by decide +kernel) (Nat.le_refl _) (Nat.le_refl _) (fun K R hK hR => ?_)
        simp only [rw_c1, ↓rx_iand, ↓rx_iconst, ↓rx_if_icmp_ne, ↓rx_iload, ↓rx_iload_n1, ↓rx_ishr, ↓rx_nil, ↓ry_i2, ↓ry_li0s, ↓ry_li0z, a1, rz_set, rz_nol, rz_clr, List.set_cons_zero, List.set_cons_succ, rz_tr, Nat.reduceAdd, Int.reduceAdd, Int.reduceToNat, Int.reduceSub, Int.reduceNeg, Int.cast_ofNat_Int]
        try simp (disch := omega) only [a1, re_bit, rb_1, a2, pk_us, pk_un, va_up_self, va_up_ne, nI_add, pk_mul, nI_clamp, vp_inT, nI_ltI, nI_leI, nI_eqI, pk_sub, true_and, and_true]
        refine ⟨fun q6 => hK _ _ _ _ ?_, fun q6 => hK _ _ _ _ ?_⟩
        · -- 23 taken
          refine rz_blk' [(.iconst 0, 1, 0, 0), (.istore_n 3, 1, 0, 0)] (by decide +kernel) (Nat.le_refl _) (Nat.le_refl _) (fun K R hK hR => ?_)
          simp only [rw_c0, ↓rx_iconst, ↓rx_istore_n3, ↓rx_nil, ↓ry_i1, a1, rz_set, rz_nol, rz_clr, List.set_cons_zero, List.set_cons_succ, rz_tr, Nat.reduceAdd, Int.reduceAdd, Int.reduceToNat, Int.reduceSub, Int.reduceNeg, Int.cast_ofNat_Int]
          try simp (disch := omega) only [a1, re_bit, rb_1, a2, pk_us, pk_un, va_up_self, va_up_ne, nI_add, pk_mul, nI_clamp, vp_inT, nI_ltI, nI_leI, nI_eqI, pk_sub, true_and, and_true]
          refine hK _ _ _ _ ?_
          refine rz_blk' [(.iinc 4 1, 3, 0, 0)] (by decide +kernel) (Nat.le_refl _) (Nat.le_refl _) (fun K R hK hR => ?_)
          simp only [rw_c1, ↓rx_iinc, ↓rx_nil, ↓ry_li0s, ↓ry_li0z, a1, rz_set, rz_nol, rz_clr, List.set_cons_zero, List.set_cons_succ, rz_tr, Nat.reduceAdd, Int.reduceAdd, Int.reduceToNat, Int.reduceSub, Int.reduceNeg, Int.cast_ofNat_Int]
          try simp (disch := omega) only [a1, re_bit, rb_1, a2, pk_us, pk_un, va_up_self, va_up_ne, nI_add, pk_mul, nI_clamp, vp_inT, nI_ltI, nI_leI, nI_eqI, pk_sub, true_and, and_true]
          refine hK _ _ _ _ ?_
          refine rz_blk' [(.goto (-45), 3, 0, 0)] (by decide +kernel) (Nat.le_refl _) (Nat.le_refl _) (fun K R hK hR => ?_)
          simp only [↓rx_goto, ↓rx_nil, a1, rz_set, rz_nol, rz_clr, List.set_cons_zero, List.set_cons_succ, rz_tr, Nat.reduceAdd, Int.reduceAdd, Int.reduceToNat, Int.reduceSub, Int.reduceNeg, Int.cast_ofNat_Int]
          try simp (disch := omega) only [a1, re_bit, rb_1, a2, pk_us, pk_un, va_up_self, va_up_ne, nI_add, pk_mul, nI_clamp, vp_inT, nI_ltI, nI_leI, nI_eqI, pk_sub, true_and, and_true]
          refine hK _ _ _ _ ?_
          first
            | exact ih1 (by rw [show s.testBit i = true by simpa using q5, Option.isSome_iff_ne_none.mpr (by assumption)]; rfl)
            | exact ih0 (by rw [(by assumption : T.2.2.1 i = none)]; simp)
            | exact ih0 (by rw [show s.testBit i = false by simpa using q6]; rfl)
        · -- 23 not taken
          refine rz_blk' [(.aload_n 0, 1, 0, 0), (.getfield 68, 3, 10, 21), (.bipush 6, 2, 0, 0), (.iload_n 2, 1, 0, 0), (.imul, 1, 0, 0), (.iload 4, 2, 0, 0), (.iadd, 1, 0, 0), (.iaload, 1, 0, 0), (.ifCond .lt 7, 3, 0, 0)] (by decide +kernel) (Nat.le_refl _) (Nat.le_refl _) (fun K R hK hR => ?_)
          simp only [rw_b6, ↓rx_aload_n0, ↓rx_bipush, ↓rx_getfield, ↓rx_iadd, ↓rx_iaload, ↓rx_ifCond_lt, ↓rx_iload, ↓rx_iload_n2, ↓rx_imul, ↓rx_nil, ↓ry_i1, ↓ry_i2, ↓ry_iau, ↓ry_li0s, ↓ry_li0z, ↓ry_lr0s, ↓ry_lr0z, ↓ry_obu, ↓ry_r1, ↓ry_ri, true_and, re_a21, ↓re_F21, ↓re_i21, ↓re_ob, a1, rz_set, rz_nol, rz_clr, List.set_cons_zero, List.set_cons_succ, rz_tr, Nat.reduceAdd, Int.reduceAdd, Int.reduceToNat, Int.reduceSub, Int.reduceNeg, Int.cast_ofNat_Int]
          try simp (disch := omega) only [a1, re_bit, rb_1, a2, pk_us, pk_un, va_up_self, va_up_ne, nI_add, pk_mul, nI_clamp, vp_inT, nI_ltI, nI_leI, nI_eqI, pk_sub, true_and, and_true]
          refine ⟨fun q7 => hK _ _ _ _ ?_, fun q7 => hK _ _ _ _ ?_⟩
          · -- 38 taken
            refine rz_blk' [(.iconst 0, 1, 0, 0), (.istore_n 3, 1, 0, 0)] (by decide +kernel) (Nat.le_refl _) (Nat.le_refl _) (fun K R hK hR => ?_)
            simp only [rw_c0, ↓rx_iconst, ↓rx_istore_n3, ↓rx_nil, ↓ry_i1, a1, rz_set, rz_nol, rz_clr, List.set_cons_zero, List.set_cons_succ, rz_tr, Nat.reduceAdd, Int.reduceAdd, Int.reduceToNat, Int.reduceSub, Int.reduceNeg, Int.cast_ofNat_Int]
            try simp (disch := omega) only [a1, re_bit, rb_1, a2, pk_us, pk_un, va_up_self, va_up_ne, nI_add, pk_mul, nI_clamp, vp_inT, nI_ltI, nI_leI, nI_eqI, pk_sub, true_and, and_true]
            refine hK _ _ _ _ ?_
            refine rz_blk' [(.iinc 4 1, 3, 0, 0)] (by decide +kernel) (Nat.le_refl _) (Nat.le_refl _) (fun K R hK hR => ?_)
            simp only [rw_c1, ↓rx_iinc, ↓rx_nil, ↓ry_li0s, ↓ry_li0z, a1, rz_set, rz_nol, rz_clr, List.set_cons_zero, List.set_cons_succ, rz_tr, Nat.reduceAdd, Int.reduceAdd, Int.reduceToNat, Int.reduceSub, Int.reduceNeg, Int.cast_ofNat_Int]
            try simp (disch := omega) only [a1, re_bit, rb_1, a2, pk_us, pk_un, va_up_self, va_up_ne, nI_add, pk_mul, nI_clamp, vp_inT, nI_ltI, nI_leI, nI_eqI, pk_sub, true_and, and_true]
            refine hK _ _ _ _ ?_
            refine rz_blk' [(.goto (-45), 3, 0, 0)] (by decide +kernel) (Nat.le_refl _) (Nat.le_refl _) (fun K R hK hR => ?_)
            simp only [↓rx_goto, ↓rx_nil, a1, rz_set, rz_nol, rz_clr, List.set_cons_zero, List.set_cons_succ, rz_tr, Nat.reduceAdd, Int.reduceAdd, Int.reduceToNat, Int.reduceSub, Int.reduceNeg, Int.cast_ofNat_Int]
            try simp (disch := omega) only [a1, re_bit, rb_1, a2, pk_us, pk_un, va_up_self, va_up_ne, nI_add, pk_mul, nI_clamp, vp_inT, nI_ltI, nI_leI, nI_eqI, pk_sub, true_and, and_true]
            refine hK _ _ _ _ ?_
            first
              | exact ih1 (by rw [show s.testBit i = true by simpa using q6, Option.isSome_iff_ne_none.mpr (by assumption)]; rfl)
              | exact ih0 (by rw [(by assumption : T.2.2.1 i = none)]; simp)
              | exact ih0 (by rw [show s.testBit i = false by simpa using q7]; rfl)
          · -- 38 not taken
            refine rz_blk' [(.iconst 1, 1, 0, 0), (.goto 4, 3, 0, 0)] (by decide +kernel) (Nat.le_refl _) (Nat.le_refl _) (fun K R hK hR => ?_)
            simp only [rw_c1, ↓rx_goto, ↓rx_iconst, ↓rx_nil, a1, rz_set, rz_nol, rz_clr, List.set_cons_zero, List.set_cons_succ, rz_tr, Nat.reduceAdd, Int.reduceAdd, Int.reduceToNat, Int.reduceSub, Int.reduceNeg, Int.cast_ofNat_Int]
            try simp (disch := omega) only [a1, re_bit, rb_1, a2, pk_us, pk_un, va_up_self, va_up_ne, nI_add, pk_mul, nI_clamp, vp_inT, nI_ltI, nI_leI, nI_eqI, pk_sub, true_and, and_true]
            refine hK _ _ _ _ ?_
            refine rz_blk' [(.istore_n 3, 1, 0, 0)] (by decide +kernel) (Nat.le_refl _) (Nat.le_refl _) (fun K R hK hR => ?_)
            simp only [↓rx_istore_n3, ↓rx_nil, ↓ry_i1, a1, rz_set, rz_nol, rz_clr, List.set_cons_zero, List.set_cons_succ, rz_tr, Nat.reduceAdd, Int.reduceAdd, Int.reduceToNat, Int.reduceSub, Int.reduceNeg, Int.cast_ofNat_Int]
            try simp (disch := omega) only [a1, re_bit, rb_1, a2, pk_us, pk_un, va_up_self, va_up_ne, nI_add, pk_mul, nI_clamp, vp_inT, nI_ltI, nI_leI, nI_eqI, pk_sub, true_and, and_true]
            refine hK _ _ _ _ ?_
            refine rz_blk' [(.iinc 4 1, 3, 0, 0)] (by decide +kernel) (Nat.le_refl _) (Nat.le_refl _) (fun K R hK hR => ?_)
            simp only [rw_c1, ↓rx_iinc, ↓rx_nil, ↓ry_li0s, ↓ry_li0z, a1, rz_set, rz_nol, rz_clr, List.set_cons_zero, List.set_cons_succ, rz_tr, Nat.reduceAdd, Int.reduceAdd, Int.reduceToNat, Int.reduceSub, Int.reduceNeg, Int.cast_ofNat_Int]
            try simp (disch := omega) only [a1, re_bit, rb_1, a2, pk_us, pk_un, va_up_self, va_up_ne, nI_add, pk_mul, nI_clamp, vp_inT, nI_ltI, nI_leI, nI_eqI, pk_sub, true_and, and_true]
            refine hK _ _ _ _ ?_
            refine rz_blk' [(.goto (-45), 3, 0, 0)] (by decide +kernel) (Nat.le_refl _) (Nat.le_refl _) (fun K R hK hR => ?_)
            simp only [↓rx_goto, ↓rx_nil, a1, rz_set, rz_nol, rz_clr, List.set_cons_zero, List.set_cons_succ, rz_tr, Nat.reduceAdd, Int.reduceAdd, Int.reduceToNat, Int.reduceSub, Int.reduceNeg, Int.cast_ofNat_Int]
            try simp (disch := omega) only [a1, re_bit, rb_1, a2, pk_us, pk_un, va_up_self, va_up_ne, nI_add, pk_mul, nI_clamp, vp_inT, nI_ltI, nI_leI, nI_eqI, pk_sub, true_and, and_true]
            refine hK _ _ _ _ ?_
            first
              | exact ih1 (by rw [show s.testBit i = true by simpa using q6, Option.isSome_iff_ne_none.mpr (by assumption)]; rfl)
              | exact ih0 (by rw [(by assumption : T.2.2.1 i = none)]; simp)
              | exact ih0 (by rw [show s.testBit i = false by simpa using q7]; rfl)
  refine rz_enter' [some (.ref a), some (.int (nI s)), some (.int (nI hh)), none, none] (by decide +kernel) rfl rfl (Nat.le_of_ble_eq_true rfl) rfl ?_
  refine rz_blk' [(.iconst 0, 1, 0, 0), (.istore_n 3, 1, 0, 0)] (by decide +kernel) (Nat.le_refl _) (Nat.le_refl _) (fun K R hK hR => ?_)
  simp only [rw_c0, ↓rx_iconst, ↓rx_istore_n3, ↓rx_nil, ↓ry_i1, rz_set, rz_nol, rz_clr, List.set_cons_zero, List.set_cons_succ, rz_tr, Nat.reduceAdd, Int.reduceAdd, Int.reduceToNat, Int.reduceSub, Int.reduceNeg, Int.cast_ofNat_Int]
  try simp (disch := omega) only [pk_us, pk_un, va_up_self, va_up_ne, nI_add, pk_mul, nI_clamp, vp_inT, nI_ltI, nI_leI, nI_eqI, pk_sub, true_and, and_true]
  refine hK _ _ _ _ ?_
  refine rz_blk' [(.iconst 0, 1, 0, 0), (.istore 4, 2, 0, 0)] (by decide +kernel) (Nat.le_refl _) (Nat.le_refl _) (fun K R hK hR => ?_)
  simp only [rw_c0, ↓rx_iconst, ↓rx_istore, ↓rx_nil, ↓ry_i1, rz_set, rz_nol, rz_clr, List.set_cons_zero, List.set_cons_succ, rz_tr, Nat.reduceAdd, Int.reduceAdd, Int.reduceToNat, Int.reduceSub, Int.reduceNeg, Int.cast_ofNat_Int]
  try simp (disch := omega) only [pk_us, pk_un, va_up_self, va_up_ne, nI_add, pk_mul, nI_clamp, vp_inT, nI_ltI, nI_leI, nI_eqI, pk_sub, true_and, and_true]
  refine hK _ _ _ _ ?_
  exact lp 6 0 false rfl rfl
set_option maxRecDepth 100000 in
set_option maxHeartbeats 4000000 in
theorem c_Mod_readsApart {w : rz_w} {d : Nat} {G : rz_G} {a : Nat} {I : Nat → Int32} {A : Nat → Nat → Int32} {T1 T2 : mv_T} {g hh s1 s2 : Nat} (hg : g < 2) (hh2 : hh < 2) (t1 : re_t A g T1) (t2 : re_t A hh T2) (w1 : tw T1 32) (w2 : tw T2 32) (hs1 : s1 < 64) (hs2 : s2 < 64) : rz_C w (d + 1) 0 0 y_Mod_readsApart m_Mod_readsApart [.ref a, .int (nI s1), .int (nI s2), .int (nI g), .int (nI hh)] (re_put G a I A) (fun (r : Option Value) (G' : rz_G) => ∃ I' A' rb u, r = some (.int (rz_b rb)) ∧ G' = re_put G a I' A' ∧ fi [38, 41, 42] I I' ∧ fa [39, 40, 43, 44, 45] A A' ∧ xl_is T1 T2 s1 s2 rb u ∧ ∃ W k, (rb = true → I' 41 = nI k) ∧ xw_is I' A' W ∧ W.length ≤ 4096 ∧ W[k]? = some u) := by
  generalize hQ : (fun (r : Option Value) (G' : rz_G) => ∃ I' A' rb u, r = some (.int (rz_b rb)) ∧ G' = re_put G a I' A' ∧ fi [38, 41, 42] I I' ∧ fa [39, 40, 43, 44, 45] A A' ∧ xl_is T1 T2 s1 s2 rb u ∧ ∃ W k, (rb = true → I' 41 = nI k) ∧ xw_is I' A' W ∧ W.length ≤ 4096 ∧ W[k]? = some u) = Q
  have wl : ∀ (n k : Nat) (L : List (Nat × Nat)) (W : List (List Nat)) (I1 : Nat → Int32) (A1 : Nat → Nat → Int32) (z6 z7 z8 : Option Value), 4097 - k ≤ n → k ≤ L.length → fi [38, 41, 42] I I1 → fa [39, 40, 43, 44, 45] A A1 → xw_is I1 A1 W → I1 42 = nI L.length → (∀ (i : Nat) (x : Nat × Nat), L[i]? = some x → A1 43 i = nI x.1 ∧ A1 44 i = nI x.2 ∧ x.1 < 64 ∧ x.2 < 64) → (∀ x y : Nat, x < 64 → y < 64 → A1 45 (64 * x + y) = rz_b (decide ((x, y) ∈ L))) → xa_i T1 T2 s1 s2 L W k 0 → rz_T w (d + 1) 0 0 m_Mod_readsApart 0 0 71 [some (.ref a), some (.int (nI s1)), some (.int (nI s2)), some (.int (nI g)), some (.int (nI hh)), some (.int (nI k)), z6, z7, z8] [] (re_put G a I1 A1) Q := by
    intro n
    induction n with
    | zero =>
      intro k L W I1 A1 z6 z7 z8 hn hk ki ka kw k42 k43 k45 kx
      have := xa_len kx.1 (fun x hx => by
        obtain ⟨i, hi⟩ := List.mem_iff_getElem?.mp hx
        have := k43 i x hi
        exact ⟨this.2.2.1, this.2.2.2⟩)
      omega
    | succ n ih =>
      intro k L W I1 A1 z6 z7 z8 hn hk ki ka kw k42 k43 k45 kx
      have hLl := xa_len kx.1 (fun x hx => by
        obtain ⟨i, hi⟩ := List.mem_iff_getElem?.mp hx
        have := k43 i x hi
        exact ⟨this.2.2.1, this.2.2.2⟩)
      by_cases hke : k = L.length
      · have hWl : W.length ≤ 4096 := by rw [← kx.2.1]; exact hLl
        refine rz_blk' [(.iload 5, 2, 0, 0), (.aload_n 0, 1, 0, 0), (.getfield 324, 3, 10, 42), (.if_icmp .ge 164, 3, 0, 0)] (by decide +kernel) (Nat.le_refl _) (Nat.le_refl _) (fun K R hK hR => ?_)
        simp only [↓rx_aload_n0, ↓rx_getfield, ↓rx_if_icmp_ge, ↓rx_iload, ↓rx_nil, ↓ry_i2, ↓ry_li0s, ↓ry_li0z, ↓ry_lr0s, ↓ry_lr0z, ↓ry_obu, ↓ry_r1, ↓re_F42, ↓re_ob, k42, rz_set, rz_nol, rz_clr, List.set_cons_zero, List.set_cons_succ, rz_tr, Nat.reduceAdd, Int.reduceAdd, Int.reduceToNat, Int.reduceSub, Int.reduceNeg, Int.cast_ofNat_Int]
        try simp (disch := omega) only [k42, pk_us, pk_un, va_up_self, va_up_ne, nI_add, pk_mul, nI_clamp, vp_inT, nI_ltI, nI_leI, nI_eqI, pk_sub, true_and, and_true]
        refine ⟨fun q1 => hK _ _ _ _ ?_, fun q1 => by omega⟩
        refine rz_blk' [(.iconst 0, 1, 0, 0), (.ireturn, 1, 0, 0)] (by decide +kernel) (Nat.le_refl _) (Nat.le_refl _) (fun K R hK hR => ?_)
        simp only [rw_c0, ↓rx_iconst, ↓rx_ireturn, ↓rx_nil, k42, rz_set, rz_nol, rz_clr, List.set_cons_zero, List.set_cons_succ, rz_tr, Nat.reduceAdd, Int.reduceAdd, Int.reduceToNat, Int.reduceSub, Int.reduceNeg, Int.cast_ofNat_Int]
        try simp (disch := omega) only [k42, pk_us, pk_un, va_up_self, va_up_ne, nI_add, pk_mul, nI_clamp, vp_inT, nI_ltI, nI_leI, nI_eqI, pk_sub, true_and, and_true]
        refine hR _ _ rz_nb_0 ?_
        rw [← hQ]
        refine ⟨I1, A1, false, [], rfl, rfl, ki, ka, Or.inl ⟨rfl, fun v hv => ?_⟩, W, 0, (fun q => by cases q), kw, hWl, kx.2.2.2.1⟩
        obtain ⟨x1, x2, x3, x4, x5, x6, x7, x8⟩ := kx
        have key : ∀ (v : List Nat) (i : Nat) (x : Nat × Nat), (∀ y ∈ v, y < 3) → L[i]? = some x → xe T1 (xr T1 x.1 v) = xe T2 (xr T2 x.2 v) := by
          intro v
          induction v with
          | nil =>
            intro i x _ hx
            have hil := (List.getElem?_eq_some_iff.mp hx).1
            exact (x7 i x _ (by omega) hx (List.getElem?_eq_getElem (by omega))).1
          | cons m v ihv =>
            intro i x hv hx
            have hil := (List.getElem?_eq_some_iff.mp hx).1
            obtain ⟨j, v', h1, h2, h3⟩ := (x7 i x _ (by omega) hx (List.getElem?_eq_getElem (by omega))).2 m (hv m List.mem_cons_self)
            exact ihv j _ (fun y hy => hv y (List.mem_cons_of_mem _ hy)) h1
        obtain ⟨x0, hx0⟩ : ∃ x, L[0]? = some x := ⟨_, List.getElem?_eq_getElem (by have := (List.getElem?_eq_some_iff.mp x4).1; omega)⟩
        have e0 := (x3 0 x0 [] hx0 x4).1
        have := key v 0 x0 hv hx0
        rw [e0] at this
        exact this
      have hkl : k < L.length := by omega
      obtain ⟨⟨c1, c2⟩, hxk⟩ : ∃ x, L[k]? = some x := ⟨_, List.getElem?_eq_getElem hkl⟩
      have hWL := kx.2.1
      obtain ⟨u, huk⟩ : ∃ u, W[k]? = some u := ⟨_, List.getElem?_eq_getElem (by omega)⟩
      obtain ⟨e43, e44, hc1, hc2⟩ := k43 k _ hxk
      have t1' := re_t_fa t1 ka rfl
      have t2' := re_t_fa t2 ka rfl
      have he1 := c_Mod_endsIn (w := w) (d := d) (G := G) (a := a) (I := I1) (A := A1) hg t1' w1 hc1
      have he2 := c_Mod_endsIn (w := w) (d := d) (G := G) (a := a) (I := I1) (A := A1) hh2 t2' w2 hc2
      have hck := kx.2.2.1 k _ u hxk huk
      have ll : ∀ (j l : Nat) (L2 : List (Nat × Nat)) (W2 : List (List Nat)) (I2 : Nat → Int32) (A2 : Nat → Nat → Int32) (z7 z8 : Option Value), l + j = 3 → fi [38, 41, 42] I I2 → fa [39, 40, 43, 44, 45] A A2 → xw_is I2 A2 W2 → I2 42 = nI L2.length → (∀ (i : Nat) (x : Nat × Nat), L2[i]? = some x → A2 43 i = nI x.1 ∧ A2 44 i = nI x.2 ∧ x.1 < 64 ∧ x.2 < 64) → (∀ x y : Nat, x < 64 → y < 64 → A2 45 (64 * x + y) = rz_b (decide ((x, y) ∈ L2))) → xe T1 c1 = xe T2 c2 → L2[k]? = some (c1, c2) → W2[k]? = some u → xa_i T1 T2 s1 s2 L2 W2 k l → rz_T w (d + 1) 0 0 m_Mod_readsApart 0 0 119 [some (.ref a), some (.int (nI s1)), some (.int (nI s2)), some (.int (nI g)), some (.int (nI hh)), some (.int (nI k)), some (.int (nI l)), z7, z8] [] (re_put G a I2 A2) Q := by
        intro j
        induction j with
        | zero =>
          intro l L2 W2 I2 A2 z7 z8 hlj pi pa pw p42 p43 p45 hee px pu pj
          have hl : l = 3 := by omega
          subst hl
          have hkl2 := (List.getElem?_eq_some_iff.mp px).1
          have hLl2 := xa_len pj.1 (fun x hx => by
            obtain ⟨i, hi⟩ := List.mem_iff_getElem?.mp hx
            have := p43 i x hi
            exact ⟨this.2.2.1, this.2.2.2⟩)
          refine rz_blk' [(.iload 6, 2, 0, 0), (.iconst 3, 1, 0, 0), (.if_icmp .ge 113, 3, 0, 0)] (by decide +kernel) (Nat.le_refl _) (Nat.le_refl _) (fun K R hK hR => ?_)
          simp only [rw_c3, ↓rx_iconst, ↓rx_if_icmp_ge, ↓rx_iload, ↓rx_nil, ↓ry_i2, ↓ry_li0s, ↓ry_li0z, rz_set, rz_nol, rz_clr, List.set_cons_zero, List.set_cons_succ, rz_tr, Nat.reduceAdd, Int.reduceAdd, Int.reduceToNat, Int.reduceSub, Int.reduceNeg, Int.cast_ofNat_Int]
          try simp (disch := omega) only [pk_us, pk_un, va_up_self, va_up_ne, nI_add, pk_mul, nI_clamp, vp_inT, nI_ltI, nI_leI, nI_eqI, pk_sub, true_and, and_true]
          refine ⟨fun q2 => hK _ _ _ _ ?_, fun q2 => by omega⟩
          refine rz_blk' [(.iinc 5 1, 3, 0, 0)] (by decide +kernel) (Nat.le_refl _) (Nat.le_refl _) (fun K R hK hR => ?_)
          simp only [rw_c1, ↓rx_iinc, ↓rx_nil, ↓ry_li0s, ↓ry_li0z, rz_set, rz_nol, rz_clr, List.set_cons_zero, List.set_cons_succ, rz_tr, Nat.reduceAdd, Int.reduceAdd, Int.reduceToNat, Int.reduceSub, Int.reduceNeg, Int.cast_ofNat_Int]
          try simp (disch := omega) only [pk_us, pk_un, va_up_self, va_up_ne, nI_add, pk_mul, nI_clamp, vp_inT, nI_ltI, nI_leI, nI_eqI, pk_sub, true_and, and_true]
          refine hK _ _ _ _ ?_
          refine rz_blk' [(.goto (-167), 3, 0, 0)] (by decide +kernel) (Nat.le_refl _) (Nat.le_refl _) (fun K R hK hR => ?_)
          simp only [↓rx_goto, ↓rx_nil, rz_set, rz_nol, rz_clr, List.set_cons_zero, List.set_cons_succ, rz_tr, Nat.reduceAdd, Int.reduceAdd, Int.reduceToNat, Int.reduceSub, Int.reduceNeg, Int.cast_ofNat_Int]
          try simp (disch := omega) only [pk_us, pk_un, va_up_self, va_up_ne, nI_add, pk_mul, nI_clamp, vp_inT, nI_ltI, nI_leI, nI_eqI, pk_sub, true_and, and_true]
          refine hK _ _ _ _ ?_
          refine ih (k + 1) L2 W2 I2 A2 _ _ _ (by omega) (by omega) pi pa pw p42 p43 p45 ?_
          obtain ⟨x1, x2, x3, x4, x5, x6, x7, x8⟩ := pj
          refine ⟨x1, x2, x3, x4, x5, fun v hv v' hv' => ?_, fun i x v hi hx hv => ?_, fun x v hx hv m hm => absurd hm (Nat.not_lt_zero _)⟩
          · have := x6 v hv u pu
            have := x5 k (k + 1) u v' (by omega) pu hv'
            omega
          · by_cases c : i = k
            · subst c
              rw [px] at hx
              cases hx
              exact ⟨hee, x8 _ v px hv⟩
            · exact x7 i x v (by omega) hx hv
        | succ j ihl =>
          intro l L2 W2 I2 A2 z7 z8 hlj pi pa pw p42 p43 p45 hee px pu pj
          have hkl2 := (List.getElem?_eq_some_iff.mp px).1
          have hLl2 := xa_len pj.1 (fun x hx => by
            obtain ⟨i, hi⟩ := List.mem_iff_getElem?.mp hx
            have := p43 i x hi
            exact ⟨this.2.2.1, this.2.2.2⟩)
          have q1' := re_t_fa t1 pa rfl
          have q2' := re_t_fa t2 pa rfl
          obtain ⟨f43, f44, -, -⟩ := p43 k _ px
          have hst1 := c_Mod_stepSet (w := w) (d := d) (G := G) (a := a) (I := I2) (A := A2) (x := l) hg q1' w1 hc1 (by omega)
          have hst2 := c_Mod_stepSet (w := w) (d := d) (G := G) (a := a) (I := I2) (A := A2) (x := l) hh2 q2' w2 hc2 (by omega)
          have hn1 : xt T1 l c1 < 64 := xt_64 w1
          have hn2 : xt T2 l c2 < 64 := xt_64 w2
          have f45 := p45 (xt T1 l c1) (xt T2 l c2) hn1 hn2
          have hWL2 := pj.2.1
          have hck2 := pj.2.2.1 k _ u px pu
          generalize hx1 : xt T1 l c1 = x1 at *
          generalize hx2 : xt T2 l c2 = x2 at *
          refine rz_blk' [(.iload 6, 2, 0, 0), (.iconst 3, 1, 0, 0), (.if_icmp .ge 113, 3, 0, 0)] (by decide +kernel) (Nat.le_refl _) (Nat.le_refl _) (fun K R hK hR => ?_)
          simp only [rw_c3, ↓rx_iconst, ↓rx_if_icmp_ge, ↓rx_iload, ↓rx_nil, ↓ry_i2, ↓ry_li0s, ↓ry_li0z, f43, f44, f45, p42, re_a45, ↓re_i45, rz_set, rz_nol, rz_clr, List.set_cons_zero, List.set_cons_succ, rz_tr, Nat.reduceAdd, Int.reduceAdd, Int.reduceToNat, Int.reduceSub, Int.reduceNeg, Int.cast_ofNat_Int]
          try simp (disch := omega) only [f43, f44, f45, p42, rb_0, nar_1, decide_eq_false_iff_not, Classical.not_not, pk_us, pk_un, va_up_self, va_up_ne, nI_add, pk_mul, nI_clamp, vp_inT, nI_ltI, nI_leI, nI_eqI, pk_sub, true_and, and_true]
          refine ⟨fun q3 => by omega, fun q3 => hK _ _ _ _ ?_⟩
          refine rz_blk' [(.aload_n 0, 1, 0, 0), (.aload_n 0, 1, 0, 0), (.getfield 117, 3, 10, 43), (.iload 5, 2, 0, 0), (.iaload, 1, 0, 0), (.iload 6, 2, 0, 0), (.iload_n 3, 1, 0, 0)] (by decide +kernel) (Nat.le_refl _) (Nat.le_refl _) (fun K R hK hR => ?_)
          simp only [↓rx_aload_n0, ↓rx_getfield, ↓rx_iaload, ↓rx_iload, ↓rx_iload_n3, ↓rx_nil, ↓ry_iau, ↓ry_li0s, ↓ry_li0z, ↓ry_lr0s, ↓ry_lr0z, ↓ry_obu, ↓ry_r1, ↓ry_ri, true_and, re_a43, ↓re_F43, ↓re_i43, ↓re_ob, f43, f44, f45, p42, re_a45, ↓re_i45, rz_set, rz_nol, rz_clr, List.set_cons_zero, List.set_cons_succ, rz_tr, Nat.reduceAdd, Int.reduceAdd, Int.reduceToNat, Int.reduceSub, Int.reduceNeg, Int.cast_ofNat_Int]
          try simp (disch := omega) only [f43, f44, f45, p42, rb_0, nar_1, decide_eq_false_iff_not, Classical.not_not, pk_us, pk_un, va_up_self, va_up_ne, nI_add, pk_mul, nI_clamp, vp_inT, nI_ltI, nI_leI, nI_eqI, pk_sub, true_and, and_true]
          refine hK _ _ _ _ ?_
          refine rz_cV (As := [.int (nI c1), .int (nI l), .int (nI g)]) (b := a) (S := []) l_Mod_330 (by decide +kernel) rfl re_at0 rfl (Nat.le_of_ble_eq_true rfl) (Nat.le_refl _) (Nat.le_refl _) (hst1) (fun r G' hr => ?_)
          obtain ⟨rfl, rfl⟩ := hr
          simp only [Option.toList, List.cons_append, List.nil_append]
          refine rz_blk' [(.istore 7, 2, 0, 0)] (by decide +kernel) (Nat.le_refl _) (Nat.le_refl _) (fun K R hK hR => ?_)
          simp only [↓rx_istore, ↓rx_nil, ↓ry_i1, f43, f44, f45, p42, re_a45, ↓re_i45, rz_set, rz_nol, rz_clr, List.set_cons_zero, List.set_cons_succ, rz_tr, Nat.reduceAdd, Int.reduceAdd, Int.reduceToNat, Int.reduceSub, Int.reduceNeg, Int.cast_ofNat_Int]
          try simp (disch := omega) only [f43, f44, f45, p42, rb_0, nar_1, decide_eq_false_iff_not, Classical.not_not, pk_us, pk_un, va_up_self, va_up_ne, nI_add, pk_mul, nI_clamp, vp_inT, nI_ltI, nI_leI, nI_eqI, pk_sub, true_and, and_true]
          refine hK _ _ _ _ ?_
          refine rz_blk' [(.aload_n 0, 1, 0, 0), (.aload_n 0, 1, 0, 0), (.getfield 120, 3, 10, 44), (.iload 5, 2, 0, 0), (.iaload, 1, 0, 0), (.iload 6, 2, 0, 0), (.iload 4, 2, 0, 0)] (by decide +kernel) (Nat.le_refl _) (Nat.le_refl _) (fun K R hK hR => ?_)
          simp only [↓rx_aload_n0, ↓rx_getfield, ↓rx_iaload, ↓rx_iload, ↓rx_nil, ↓ry_iau, ↓ry_li0s, ↓ry_li0z, ↓ry_lr0s, ↓ry_lr0z, ↓ry_obu, ↓ry_r1, ↓ry_ri, true_and, re_a44, ↓re_F44, ↓re_i44, ↓re_ob, f43, f44, f45, p42, re_a45, ↓re_i45, rz_set, rz_nol, rz_clr, List.set_cons_zero, List.set_cons_succ, rz_tr, Nat.reduceAdd, Int.reduceAdd, Int.reduceToNat, Int.reduceSub, Int.reduceNeg, Int.cast_ofNat_Int]
          try simp (disch := omega) only [f43, f44, f45, p42, rb_0, nar_1, decide_eq_false_iff_not, Classical.not_not, pk_us, pk_un, va_up_self, va_up_ne, nI_add, pk_mul, nI_clamp, vp_inT, nI_ltI, nI_leI, nI_eqI, pk_sub, true_and, and_true]
          refine hK _ _ _ _ ?_
          refine rz_cV (As := [.int (nI c2), .int (nI l), .int (nI hh)]) (b := a) (S := []) l_Mod_330 (by decide +kernel) rfl re_at0 rfl (Nat.le_of_ble_eq_true rfl) (Nat.le_refl _) (Nat.le_refl _) (hst2) (fun r G' hr => ?_)
          obtain ⟨rfl, rfl⟩ := hr
          simp only [Option.toList, List.cons_append, List.nil_append]
          refine rz_blk' [(.istore 8, 2, 0, 0)] (by decide +kernel) (Nat.le_refl _) (Nat.le_refl _) (fun K R hK hR => ?_)
          simp only [↓rx_istore, ↓rx_nil, ↓ry_i1, f43, f44, f45, p42, re_a45, ↓re_i45, rz_set, rz_nol, rz_clr, List.set_cons_zero, List.set_cons_succ, rz_tr, Nat.reduceAdd, Int.reduceAdd, Int.reduceToNat, Int.reduceSub, Int.reduceNeg, Int.cast_ofNat_Int]
          try simp (disch := omega) only [f43, f44, f45, p42, rb_0, nar_1, decide_eq_false_iff_not, Classical.not_not, pk_us, pk_un, va_up_self, va_up_ne, nI_add, pk_mul, nI_clamp, vp_inT, nI_ltI, nI_leI, nI_eqI, pk_sub, true_and, and_true]
          refine hK _ _ _ _ ?_
          refine rz_blk' [(.aload_n 0, 1, 0, 0), (.getfield 123, 3, 10, 45), (.bipush 64, 2, 0, 0), (.iload 7, 2, 0, 0), (.imul, 1, 0, 0), (.iload 8, 2, 0, 0), (.iadd, 1, 0, 0), (.baload, 1, 0, 0), (.ifCond .ne 58, 3, 0, 0)] (by decide +kernel) (Nat.le_refl _) (Nat.le_refl _) (fun K R hK hR => ?_)
          simp only [Nat.reduceEqDiff, false_or, or_false, or_true, reduceIte, rw_b64, ↓rx_aload_n0, ↓rx_baload, ↓rx_bipush, ↓rx_getfield, ↓rx_iadd, ↓rx_ifCond_ne, ↓rx_iload, ↓rx_imul, ↓rx_nil, ↓ry_i1, ↓ry_i2, ↓ry_iau, ↓ry_li0s, ↓ry_li0z, ↓ry_lr0s, ↓ry_lr0z, ↓ry_obu, ↓ry_r1, ↓ry_ri, true_and, true_or, re_a45, ↓re_F45, ↓re_i45, ↓re_ob, f43, f44, f45, p42, re_a45, ↓re_i45, rz_set, rz_nol, rz_clr, List.set_cons_zero, List.set_cons_succ, rz_tr, Nat.reduceAdd, Int.reduceAdd, Int.reduceToNat, Int.reduceSub, Int.reduceNeg, Int.cast_ofNat_Int]
          try simp (disch := omega) only [f43, f44, f45, p42, rb_0, nar_1, decide_eq_false_iff_not, Classical.not_not, pk_us, pk_un, va_up_self, va_up_ne, nI_add, pk_mul, nI_clamp, vp_inT, nI_ltI, nI_leI, nI_eqI, pk_sub, true_and, and_true]
          refine ⟨fun q4 => hK _ _ _ _ ?_, fun q4 => hK _ _ _ _ ?_⟩
          · -- 171 taken
            refine rz_blk' [(.iinc 6 1, 3, 0, 0)] (by decide +kernel) (Nat.le_refl _) (Nat.le_refl _) (fun K R hK hR => ?_)
            simp only [rw_c1, ↓rx_iinc, ↓rx_nil, ↓ry_li0s, ↓ry_li0z, f43, f44, f45, p42, re_a45, ↓re_i45, rz_set, rz_nol, rz_clr, List.set_cons_zero, List.set_cons_succ, rz_tr, Nat.reduceAdd, Int.reduceAdd, Int.reduceToNat, Int.reduceSub, Int.reduceNeg, Int.cast_ofNat_Int]
            try simp (disch := omega) only [f43, f44, f45, p42, rb_0, nar_1, decide_eq_false_iff_not, Classical.not_not, pk_us, pk_un, va_up_self, va_up_ne, nI_add, pk_mul, nI_clamp, vp_inT, nI_ltI, nI_leI, nI_eqI, pk_sub, true_and, and_true]
            refine hK _ _ _ _ ?_
            refine rz_blk' [(.goto (-113), 3, 0, 0)] (by decide +kernel) (Nat.le_refl _) (Nat.le_refl _) (fun K R hK hR => ?_)
            simp only [↓rx_goto, ↓rx_nil, f43, f44, f45, p42, re_a45, ↓re_i45, rz_set, rz_nol, rz_clr, List.set_cons_zero, List.set_cons_succ, rz_tr, Nat.reduceAdd, Int.reduceAdd, Int.reduceToNat, Int.reduceSub, Int.reduceNeg, Int.cast_ofNat_Int]
            try simp (disch := omega) only [f43, f44, f45, p42, rb_0, nar_1, decide_eq_false_iff_not, Classical.not_not, pk_us, pk_un, va_up_self, va_up_ne, nI_add, pk_mul, nI_clamp, vp_inT, nI_ltI, nI_leI, nI_eqI, pk_sub, true_and, and_true]
            refine hK _ _ _ _ ?_
            have hin : (x1, x2) ∈ L2 := by
              have := q4
              simpa using this
            refine ihl (l + 1) L2 W2 I2 A2 _ _ (by omega) pi pa pw p42 p43 p45 hee px pu ?_
            obtain ⟨y1, y2, y3, y4, y5, y6, y7, y8⟩ := pj
            refine ⟨y1, y2, y3, y4, y5, fun v hv v' hv' => by have := y6 v hv v' hv'; omega, y7, fun x v hx hv m hm => ?_⟩
            by_cases c : m = l
            · subst c
              rw [px] at hx
              cases hx
              obtain ⟨i, hi⟩ := List.mem_iff_getElem?.mp hin
              have hil := (List.getElem?_eq_some_iff.mp hi).1
              obtain ⟨t, ht⟩ : ∃ t, W2[i]? = some t := ⟨_, List.getElem?_eq_getElem (by omega)⟩
              refine ⟨i, t, by rw [hx1, hx2]; exact hi, ht, ?_⟩
              have := y6 t (List.mem_of_getElem? ht) v hv
              rw [vl_app]; omega
            · exact y8 x v hx hv m (by omega)
          · -- 171 not taken
            have hnin : (x1, x2) ∉ L2 := by
              have := q4
              simpa using this
            have hnd2 : (L2 ++ [(x1, x2)]).Nodup := by
              rw [List.nodup_append]
              refine ⟨pj.1, by simp, fun p hp q hq => ?_⟩
              simp at hq
              subst hq
              rintro rfl
              exact hnin hp
            have hLl3 := xa_len hnd2 (fun x hx => by
              rcases List.mem_append.mp hx with q | q
              · obtain ⟨i, hi⟩ := List.mem_iff_getElem?.mp q
                have := p43 i x hi
                exact ⟨this.2.2.1, this.2.2.2⟩
              · simp at q; subst q; exact ⟨hn1, hn2⟩)
            rw [List.length_append] at hLl3
            simp only [List.length_cons, List.length_nil, Nat.zero_add] at hLl3
            refine rz_blk' [(.aload_n 0, 1, 0, 0), (.getfield 123, 3, 10, 45), (.bipush 64, 2, 0, 0), (.iload 7, 2, 0, 0), (.imul, 1, 0, 0), (.iload 8, 2, 0, 0), (.iadd, 1, 0, 0), (.iconst 1, 1, 0, 0), (.bastore, 1, 0, 0)] (by decide +kernel) (Nat.le_refl _) (Nat.le_refl _) (fun K R hK hR => ?_)
            simp only [Nat.reduceEqDiff, false_or, or_false, or_true, reduceIte, rw_b64, rw_c1, ↓rx_aload_n0, ↓rx_bastore, ↓rx_bipush, ↓rx_getfield, ↓rx_iadd, ↓rx_iconst, ↓rx_iload, ↓rx_imul, ↓rx_nil, ↓ry_i2, ↓ry_iau, ↓ry_li0s, ↓ry_li0z, ↓ry_lr0s, ↓ry_lr0z, ↓ry_obu, ↓ry_r1, ↓ry_rii, true_and, true_or, re_a45, ↓re_F45, ↓re_i45, ↓re_ob, f43, f44, f45, p42, re_a45, ↓re_i45, rz_set, rz_nol, rz_clr, List.set_cons_zero, List.set_cons_succ, rz_tr, Nat.reduceAdd, Int.reduceAdd, Int.reduceToNat, Int.reduceSub, Int.reduceNeg, Int.cast_ofNat_Int]
            try simp (disch := omega) only [f43, f44, f45, p42, rb_0, nar_1, decide_eq_false_iff_not, Classical.not_not, pk_us, pk_un, va_up_self, va_up_ne, nI_add, pk_mul, nI_clamp, vp_inT, nI_ltI, nI_leI, nI_eqI, pk_sub, true_and, and_true]
            refine hK _ _ _ _ ?_
            refine rz_blk' [(.aload_n 0, 1, 0, 0), (.getfield 117, 3, 10, 43), (.aload_n 0, 1, 0, 0), (.getfield 324, 3, 10, 42), (.iload 7, 2, 0, 0), (.iastore, 1, 0, 0)] (by decide +kernel) (Nat.le_refl _) (Nat.le_refl _) (fun K R hK hR => ?_)
            simp only [↓rx_aload_n0, ↓rx_getfield, ↓rx_iastore, ↓rx_iload, ↓rx_nil, ↓ry_iau, ↓ry_li0s, ↓ry_li0z, ↓ry_lr0s, ↓ry_lr0z, ↓ry_obu, ↓ry_r1, ↓ry_rii, true_and, re_a43, ↓re_F42, ↓re_F43, ↓re_i43, ↓re_ob, f43, f44, f45, p42, re_a45, ↓re_i45, rz_set, rz_nol, rz_clr, List.set_cons_zero, List.set_cons_succ, rz_tr, Nat.reduceAdd, Int.reduceAdd, Int.reduceToNat, Int.reduceSub, Int.reduceNeg, Int.cast_ofNat_Int]
            try simp (disch := omega) only [f43, f44, f45, p42, rb_0, nar_1, decide_eq_false_iff_not, Classical.not_not, pk_us, pk_un, va_up_self, va_up_ne, nI_add, pk_mul, nI_clamp, vp_inT, nI_ltI, nI_leI, nI_eqI, pk_sub, true_and, and_true]
            refine hK _ _ _ _ ?_
            refine rz_blk' [(.aload_n 0, 1, 0, 0), (.getfield 120, 3, 10, 44), (.aload_n 0, 1, 0, 0), (.getfield 324, 3, 10, 42), (.iload 8, 2, 0, 0), (.iastore, 1, 0, 0)] (by decide +kernel) (Nat.le_refl _) (Nat.le_refl _) (fun K R hK hR => ?_)
            simp only [↓rx_aload_n0, ↓rx_getfield, ↓rx_iastore, ↓rx_iload, ↓rx_nil, ↓ry_iau, ↓ry_li0s, ↓ry_li0z, ↓ry_lr0s, ↓ry_lr0z, ↓ry_obu, ↓ry_r1, ↓ry_rii, true_and, re_a44, ↓re_F42, ↓re_F44, ↓re_i44, ↓re_ob, f43, f44, f45, p42, re_a45, ↓re_i45, rz_set, rz_nol, rz_clr, List.set_cons_zero, List.set_cons_succ, rz_tr, Nat.reduceAdd, Int.reduceAdd, Int.reduceToNat, Int.reduceSub, Int.reduceNeg, Int.cast_ofNat_Int]
            try simp (disch := omega) only [f43, f44, f45, p42, rb_0, nar_1, decide_eq_false_iff_not, Classical.not_not, pk_us, pk_un, va_up_self, va_up_ne, nI_add, pk_mul, nI_clamp, vp_inT, nI_ltI, nI_leI, nI_eqI, pk_sub, true_and, and_true]
            refine hK _ _ _ _ ?_
            refine rz_blk' [(.aload_n 0, 1, 0, 0), (.dup, 1, 0, 0), (.getfield 324, 3, 10, 42), (.iconst 1, 1, 0, 0), (.iadd, 1, 0, 0), (.putfield 324, 3, 10, 42)] (by decide +kernel) (Nat.le_refl _) (Nat.le_refl _) (fun K R hK hR => ?_)
            simp only [List.length_cons, List.length_nil, Nat.reduceLT, rf_10_42, rw_c1, ↓rx_aload_n0, ↓rx_dup, ↓rx_getfield, ↓rx_iadd, ↓rx_iconst, ↓rx_nil, ↓rx_putfield, ↓ry_i2, ↓ry_lr0s, ↓ry_lr0z, ↓ry_obu, ↓ry_r1, ↓ry_v1i, ↓ry_v1r, ↓ry_vr, true_and, re_len, re_u42, ↓re_F42, ↓re_ob, f43, f44, f45, p42, re_a45, ↓re_i45, rz_set, rz_nol, rz_clr, List.set_cons_zero, List.set_cons_succ, rz_tr, Nat.reduceAdd, Int.reduceAdd, Int.reduceToNat, Int.reduceSub, Int.reduceNeg, Int.cast_ofNat_Int]
            try simp (disch := omega) only [f43, f44, f45, p42, rb_0, nar_1, decide_eq_false_iff_not, Classical.not_not, pk_us, pk_un, va_up_self, va_up_ne, nI_add, pk_mul, nI_clamp, vp_inT, nI_ltI, nI_leI, nI_eqI, pk_sub, true_and, and_true]
            refine hK _ _ _ _ ?_
            refine rz_blk' [(.aload_n 0, 1, 0, 0), (.iload 5, 2, 0, 0), (.iload 6, 2, 0, 0)] (by decide +kernel) (Nat.le_refl _) (Nat.le_refl _) (fun K R hK hR => ?_)
            simp only [↓rx_aload_n0, ↓rx_iload, ↓rx_nil, ↓ry_li0s, ↓ry_li0z, ↓ry_lr0s, ↓ry_lr0z, f43, f44, f45, p42, re_a45, ↓re_i45, rz_set, rz_nol, rz_clr, List.set_cons_zero, List.set_cons_succ, rz_tr, Nat.reduceAdd, Int.reduceAdd, Int.reduceToNat, Int.reduceSub, Int.reduceNeg, Int.cast_ofNat_Int]
            try simp (disch := omega) only [f43, f44, f45, p42, rb_0, nar_1, decide_eq_false_iff_not, Classical.not_not, pk_us, pk_un, va_up_self, va_up_ne, nI_add, pk_mul, nI_clamp, vp_inT, nI_ltI, nI_leI, nI_eqI, pk_sub, true_and, and_true]
            refine hK _ _ _ _ ?_
            have hnw := c_Mod_newWord (w := w) (d := d) (G := G) (a := a) (I := upd I2 42 (nI (L2.length + 1))) (A := va_up (va_up (va_up A2 45 (upd (A2 45) (64 * x1 + x2) (nI 1))) 43 (upd (A2 43) L2.length (nI x1))) 44 (upd (A2 44) L2.length (nI x2))) (n := W2.length) (by omega) (by rw [pk_un (by decide)]; exact pw.1) (nI k) (nI l)
            refine rz_cV (As := [.int (nI k), .int (nI l)]) (b := a) (S := []) l_Mod_286 (by decide +kernel) rfl re_at0 rfl (Nat.le_of_ble_eq_true rfl) (Nat.le_refl _) (Nat.le_refl _) (hnw) (fun r G' hr => ?_)
            obtain ⟨rfl, rfl⟩ := hr
            simp only [Option.toList, List.cons_append, List.nil_append]
            refine rz_blk' [(.pop, 1, 0, 0), (.iinc 6 1, 3, 0, 0)] (by decide +kernel) (Nat.le_refl _) (Nat.le_refl _) (fun K R hK hR => ?_)
            simp only [rw_c1, ↓rx_iinc, ↓rx_nil, ↓rx_pop, ↓ry_li0s, ↓ry_li0z, ↓ry_v1i, ↓ry_v1r, f43, f44, f45, p42, re_a45, ↓re_i45, rz_set, rz_nol, rz_clr, List.set_cons_zero, List.set_cons_succ, rz_tr, Nat.reduceAdd, Int.reduceAdd, Int.reduceToNat, Int.reduceSub, Int.reduceNeg, Int.cast_ofNat_Int]
            try simp (disch := omega) only [f43, f44, f45, p42, rb_0, nar_1, decide_eq_false_iff_not, Classical.not_not, pk_us, pk_un, va_up_self, va_up_ne, nI_add, pk_mul, nI_clamp, vp_inT, nI_ltI, nI_leI, nI_eqI, pk_sub, true_and, and_true]
            refine hK _ _ _ _ ?_
            refine rz_blk' [(.goto (-113), 3, 0, 0)] (by decide +kernel) (Nat.le_refl _) (Nat.le_refl _) (fun K R hK hR => ?_)
            simp only [↓rx_goto, ↓rx_nil, f43, f44, f45, p42, re_a45, ↓re_i45, rz_set, rz_nol, rz_clr, List.set_cons_zero, List.set_cons_succ, rz_tr, Nat.reduceAdd, Int.reduceAdd, Int.reduceToNat, Int.reduceSub, Int.reduceNeg, Int.cast_ofNat_Int]
            try simp (disch := omega) only [f43, f44, f45, p42, rb_0, nar_1, decide_eq_false_iff_not, Classical.not_not, pk_us, pk_un, va_up_self, va_up_ne, nI_add, pk_mul, nI_clamp, vp_inT, nI_ltI, nI_leI, nI_eqI, pk_sub, true_and, and_true]
            refine hK _ _ _ _ ?_
            refine ihl (l + 1) (L2 ++ [(x1, x2)]) (W2 ++ [u ++ [l]]) _ _ _ _ (by omega) ((pi.u rfl).u rfl) (((((pa.u rfl).u rfl).u rfl).u rfl).u rfl) ?_ ?_ (fun i x hx => ?_) (fun x y hx hy => ?_) hee ?_ ?_ ?_
            · refine xw_add pw (by omega) pu (by omega) (by rw [pk_us]) ?_ ?_
              · rw [va_up_ne _ _ (by decide), va_up_self]
              · rw [va_up_self]
            · rw [pk_un (by decide), pk_us]; simp
            · have e43' : ∀ {X : Nat → Int32} {Y : Nat → Int32}, va_up (va_up (va_up (va_up (va_up A2 45 (upd (A2 45) (64 * x1 + x2) (nI 1))) 43 (upd (A2 43) L2.length (nI x1))) 44 (upd (A2 44) L2.length (nI x2))) 39 X) 40 Y 43 = upd (A2 43) L2.length (nI x1) := by intro X Y; simp [va_up]
              have e44' : ∀ {X : Nat → Int32} {Y : Nat → Int32}, va_up (va_up (va_up (va_up (va_up A2 45 (upd (A2 45) (64 * x1 + x2) (nI 1))) 43 (upd (A2 43) L2.length (nI x1))) 44 (upd (A2 44) L2.length (nI x2))) 39 X) 40 Y 44 = upd (A2 44) L2.length (nI x2) := by intro X Y; simp [va_up]
              rw [e43', e44']
              by_cases c : i < L2.length
              · rw [List.getElem?_append_left c] at hx
                rw [pk_un (by omega), pk_un (by omega)]; exact p43 i x hx
              · have hil := (List.getElem?_eq_some_iff.mp hx).1
                simp only [List.length_append, List.length_cons, List.length_nil, Nat.zero_add] at hil
                have e : i = L2.length := by omega
                subst e
                rw [List.getElem?_append_right (Nat.le_refl _)] at hx
                simp at hx
                subst hx
                rw [pk_us, pk_us]
                exact ⟨rfl, rfl, hn1, hn2⟩
            · have e45' : ∀ {X : Nat → Int32} {Y : Nat → Int32}, va_up (va_up (va_up (va_up (va_up A2 45 (upd (A2 45) (64 * x1 + x2) (nI 1))) 43 (upd (A2 43) L2.length (nI x1))) 44 (upd (A2 44) L2.length (nI x2))) 39 X) 40 Y 45 = upd (A2 45) (64 * x1 + x2) (nI 1) := by intro X Y; simp [va_up]
              rw [e45']
              by_cases c : x = x1 ∧ y = x2
              · obtain ⟨rfl, rfl⟩ := c
                rw [pk_us, decide_eq_true (by simp)]; rfl
              · rw [pk_un (by omega), p45 x y hx hy]
                congr 1
                refine decide_eq_decide.mpr ?_
                simp only [List.mem_append, List.mem_singleton, Prod.mk.injEq]
                exact ⟨Or.inl, fun q => q.resolve_right c⟩
            · rw [List.getElem?_append_left hkl2]; exact px
            · rw [List.getElem?_append_left (by omega)]; exact pu
            · have hWk : (W2 ++ [u ++ [l]])[W2.length]? = some (u ++ [l]) := by rw [List.getElem?_append_right (Nat.le_refl _)]; simp
              have hLk : (L2 ++ [(x1, x2)])[L2.length]? = some (x1, x2) := by rw [List.getElem?_append_right (Nat.le_refl _)]; simp
              obtain ⟨y1, y2, y3, y4, y5, y6, y7, y8⟩ := pj
              have gL : ∀ {i x}, L2[i]? = some x → (L2 ++ [(x1, x2)])[i]? = some x := fun {i x} q => by rw [List.getElem?_append_left (List.getElem?_eq_some_iff.mp q).1]; exact q
              have gW : ∀ {i x}, W2[i]? = some x → (W2 ++ [u ++ [l]])[i]? = some x := fun {i x} q => by rw [List.getElem?_append_left (List.getElem?_eq_some_iff.mp q).1]; exact q
              have bW : ∀ {i x}, (W2 ++ [u ++ [l]])[i]? = some x → W2[i]? = some x ∨ (i = W2.length ∧ x = u ++ [l]) := fun {i x} q => by
                by_cases c : i < W2.length
                · rw [List.getElem?_append_left c] at q; exact Or.inl q
                · have hil := (List.getElem?_eq_some_iff.mp q).1
                  simp only [List.length_append, List.length_cons, List.length_nil, Nat.zero_add] at hil
                  have e : i = W2.length := by omega
                  subst e
                  rw [hWk] at q; cases q; exact Or.inr ⟨rfl, rfl⟩
              refine ⟨hnd2, by rw [List.length_append, List.length_append, y2]; rfl, fun i x v hx hv => ?_, gW y4, fun i j v v' hij hv hv' => ?_, fun v hv v' hv' => ?_, fun i x v hi hx hv => ?_, fun x v hx hv m hm => ?_⟩
              · rcases bW hv with q | ⟨q1, q2⟩
                · have hil := (List.getElem?_eq_some_iff.mp q).1
                  rw [List.getElem?_append_left (by omega)] at hx
                  exact y3 i x v hx q
                · subst q1; subst q2
                  rw [← y2, hLk] at hx
                  cases hx
                  rw [xr_app, xr_app]
                  have e := hck2.1
                  have e1 : c1 = xr T1 s1 u := congrArg Prod.fst e
                  have e2 : c2 = xr T2 s2 u := congrArg Prod.snd e
                  rw [← e1, ← e2, hx1, hx2]
                  refine ⟨rfl, fun y hy => ?_⟩
                  rcases List.mem_append.mp hy with q | q
                  · exact hck2.2 y q
                  · simp at q; omega
              · rcases bW hv with q | ⟨q1, q2⟩
                · rcases bW hv' with q' | ⟨q1', q2'⟩
                  · exact y5 i j v v' hij q q'
                  · subst q2'
                    have := y6 v (List.mem_of_getElem? q) u pu
                    rw [vl_app]; omega
                · have := (List.getElem?_eq_some_iff.mp hv').1
                  simp at this; omega
              · rw [gW pu] at hv'
                cases hv'
                rcases List.mem_append.mp hv with q | q
                · have := y6 v q u pu; omega
                · simp at q; subst q; rw [vl_app]; omega
              · rw [List.getElem?_append_left (by omega)] at hx hv
                obtain ⟨z1, z2⟩ := y7 i x v hi hx hv
                refine ⟨z1, fun m hm => ?_⟩
                obtain ⟨j, v', z3, z4, z5⟩ := z2 m hm
                exact ⟨j, v', gL z3, gW z4, z5⟩
              · rw [List.getElem?_append_left (by omega)] at hx hv
                by_cases c : m = l
                · subst c
                  rw [px] at hx
                  cases hx
                  rw [pu] at hv
                  cases hv
                  exact ⟨L2.length, u ++ [m], by rw [hx1, hx2]; exact hLk, by rw [y2]; exact hWk, Nat.le_refl _⟩
                · obtain ⟨j, v', z3, z4, z5⟩ := y8 x v hx hv m (by omega)
                  exact ⟨j, v', gL z3, gW z4, z5⟩
      refine rz_blk' [(.iload 5, 2, 0, 0), (.aload_n 0, 1, 0, 0), (.getfield 324, 3, 10, 42), (.if_icmp .ge 164, 3, 0, 0)] (by decide +kernel) (Nat.le_refl _) (Nat.le_refl _) (fun K R hK hR => ?_)
      simp only [↓rx_aload_n0, ↓rx_getfield, ↓rx_if_icmp_ge, ↓rx_iload, ↓rx_nil, ↓ry_i2, ↓ry_li0s, ↓ry_li0z, ↓ry_lr0s, ↓ry_lr0z, ↓ry_obu, ↓ry_r1, ↓re_F42, ↓re_ob, k42, e43, e44, rz_set, rz_nol, rz_clr, List.set_cons_zero, List.set_cons_succ, rz_tr, Nat.reduceAdd, Int.reduceAdd, Int.reduceToNat, Int.reduceSub, Int.reduceNeg, Int.cast_ofNat_Int]
      try simp (disch := omega) only [k42, e43, e44, pk_us, pk_un, va_up_self, va_up_ne, nI_add, pk_mul, nI_clamp, vp_inT, nI_ltI, nI_leI, nI_eqI, pk_sub, true_and, and_true]
      refine ⟨fun q5 => by omega, fun q5 => hK _ _ _ _ ?_⟩
      refine rz_blk' [(.aload_n 0, 1, 0, 0), (.aload_n 0, 1, 0, 0), (.getfield 117, 3, 10, 43), (.iload 5, 2, 0, 0), (.iaload, 1, 0, 0), (.iload_n 3, 1, 0, 0)] (by decide +kernel) (Nat.le_refl _) (Nat.le_refl _) (fun K R hK hR => ?_)
      simp only [↓rx_aload_n0, ↓rx_getfield, ↓rx_iaload, ↓rx_iload, ↓rx_iload_n3, ↓rx_nil, ↓ry_iau, ↓ry_li0s, ↓ry_li0z, ↓ry_lr0s, ↓ry_lr0z, ↓ry_obu, ↓ry_r1, ↓ry_ri, true_and, re_a43, ↓re_F43, ↓re_i43, ↓re_ob, k42, e43, e44, rz_set, rz_nol, rz_clr, List.set_cons_zero, List.set_cons_succ, rz_tr, Nat.reduceAdd, Int.reduceAdd, Int.reduceToNat, Int.reduceSub, Int.reduceNeg, Int.cast_ofNat_Int]
      try simp (disch := omega) only [k42, e43, e44, pk_us, pk_un, va_up_self, va_up_ne, nI_add, pk_mul, nI_clamp, vp_inT, nI_ltI, nI_leI, nI_eqI, pk_sub, true_and, and_true]
      refine hK _ _ _ _ ?_
      refine rz_cV (As := [.int (nI c1), .int (nI g)]) (b := a) (S := []) l_Mod_327 (by decide +kernel) rfl re_at0 rfl (Nat.le_of_ble_eq_true rfl) (Nat.le_refl _) (Nat.le_refl _) (he1) (fun r G' hr => ?_)
      obtain ⟨rfl, rfl⟩ := hr
      simp only [Option.toList, List.cons_append, List.nil_append]
      refine rz_blk' [(.aload_n 0, 1, 0, 0), (.aload_n 0, 1, 0, 0), (.getfield 120, 3, 10, 44), (.iload 5, 2, 0, 0), (.iaload, 1, 0, 0), (.iload 4, 2, 0, 0)] (by decide +kernel) (Nat.le_refl _) (Nat.le_refl _) (fun K R hK hR => ?_)
      simp only [↓rx_aload_n0, ↓rx_getfield, ↓rx_iaload, ↓rx_iload, ↓rx_nil, ↓ry_iau, ↓ry_li0s, ↓ry_li0z, ↓ry_lr0s, ↓ry_lr0z, ↓ry_obu, ↓ry_r1, ↓ry_ri, true_and, re_a44, ↓re_F44, ↓re_i44, ↓re_ob, k42, e43, e44, rz_set, rz_nol, rz_clr, List.set_cons_zero, List.set_cons_succ, rz_tr, Nat.reduceAdd, Int.reduceAdd, Int.reduceToNat, Int.reduceSub, Int.reduceNeg, Int.cast_ofNat_Int]
      try simp (disch := omega) only [k42, e43, e44, pk_us, pk_un, va_up_self, va_up_ne, nI_add, pk_mul, nI_clamp, vp_inT, nI_ltI, nI_leI, nI_eqI, pk_sub, true_and, and_true]
      refine hK _ _ _ _ ?_
      refine rz_cV (As := [.int (nI c2), .int (nI hh)]) (b := a) (S := [.int (rz_b (xe T1 c1))]) l_Mod_327 (by decide +kernel) rfl re_at0 rfl (Nat.le_of_ble_eq_true rfl) (Nat.le_refl _) (Nat.le_refl _) (he2) (fun r G' hr => ?_)
      obtain ⟨rfl, rfl⟩ := hr
      simp only [Option.toList, List.cons_append, List.nil_append]
      refine rz_blk' [(.if_icmp .eq 11, 3, 0, 0)] (by decide +kernel) (Nat.le_refl _) (Nat.le_refl _) (fun K R hK hR => ?_)
      simp only [↓rx_if_icmp_eq, ↓rx_nil, ↓ry_i2, k42, e43, e44, rz_set, rz_nol, rz_clr, List.set_cons_zero, List.set_cons_succ, rz_tr, Nat.reduceAdd, Int.reduceAdd, Int.reduceToNat, Int.reduceSub, Int.reduceNeg, Int.cast_ofNat_Int]
      try simp (disch := omega) only [k42, e43, e44, pk_us, pk_un, va_up_self, va_up_ne, nI_add, pk_mul, nI_clamp, vp_inT, nI_ltI, nI_leI, nI_eqI, pk_sub, true_and, and_true]
      refine ⟨fun q6 => hK _ _ _ _ ?_, fun q6 => hK _ _ _ _ ?_⟩
      · -- 105 taken
        refine rz_blk' [(.iconst 0, 1, 0, 0), (.istore 6, 2, 0, 0)] (by decide +kernel) (Nat.le_refl _) (Nat.le_refl _) (fun K R hK hR => ?_)
        simp only [rw_c0, ↓rx_iconst, ↓rx_istore, ↓rx_nil, ↓ry_i1, k42, e43, e44, rz_set, rz_nol, rz_clr, List.set_cons_zero, List.set_cons_succ, rz_tr, Nat.reduceAdd, Int.reduceAdd, Int.reduceToNat, Int.reduceSub, Int.reduceNeg, Int.cast_ofNat_Int]
        try simp (disch := omega) only [k42, e43, e44, pk_us, pk_un, va_up_self, va_up_ne, nI_add, pk_mul, nI_clamp, vp_inT, nI_ltI, nI_leI, nI_eqI, pk_sub, true_and, and_true]
        refine hK _ _ _ _ ?_
        have hee : xe T1 c1 = xe T2 c2 := by
          have := q6
          cases h1 : xe T1 c1 <;> cases h2 : xe T2 c2 <;> simp_all [rz_b]
        exact ll 3 0 L W I1 A1 _ _ rfl ki ka kw k42 k43 k45 hee hxk huk kx
      · -- 105 not taken
        refine rz_blk' [(.aload_n 0, 1, 0, 0), (.iload 5, 2, 0, 0), (.putfield 293, 3, 10, 41)] (by decide +kernel) (Nat.le_refl _) (Nat.le_refl _) (fun K R hK hR => ?_)
        simp only [List.length_cons, List.length_nil, Nat.reduceLT, rf_10_41, ↓rx_aload_n0, ↓rx_iload, ↓rx_nil, ↓rx_putfield, ↓ry_li0s, ↓ry_li0z, ↓ry_lr0s, ↓ry_lr0z, ↓ry_obu, ↓ry_vr, true_and, re_len, re_u41, ↓re_ob, k42, e43, e44, rz_set, rz_nol, rz_clr, List.set_cons_zero, List.set_cons_succ, rz_tr, Nat.reduceAdd, Int.reduceAdd, Int.reduceToNat, Int.reduceSub, Int.reduceNeg, Int.cast_ofNat_Int]
        try simp (disch := omega) only [k42, e43, e44, pk_us, pk_un, va_up_self, va_up_ne, nI_add, pk_mul, nI_clamp, vp_inT, nI_ltI, nI_leI, nI_eqI, pk_sub, true_and, and_true]
        refine hK _ _ _ _ ?_
        refine rz_blk' [(.iconst 1, 1, 0, 0), (.ireturn, 1, 0, 0)] (by decide +kernel) (Nat.le_refl _) (Nat.le_refl _) (fun K R hK hR => ?_)
        simp only [rw_c1, ↓rx_iconst, ↓rx_ireturn, ↓rx_nil, k42, e43, e44, rz_set, rz_nol, rz_clr, List.set_cons_zero, List.set_cons_succ, rz_tr, Nat.reduceAdd, Int.reduceAdd, Int.reduceToNat, Int.reduceSub, Int.reduceNeg, Int.cast_ofNat_Int]
        try simp (disch := omega) only [k42, e43, e44, pk_us, pk_un, va_up_self, va_up_ne, nI_add, pk_mul, nI_clamp, vp_inT, nI_ltI, nI_leI, nI_eqI, pk_sub, true_and, and_true]
        have hee : xe T1 c1 ≠ xe T2 c2 := fun q => q6 (by rw [q])
        refine hR _ _ rz_nb_1 ?_
        rw [← hQ]
        have e := hck.1
        have e1 : c1 = xr T1 s1 u := congrArg Prod.fst e
        have e2 : c2 = xr T2 s2 u := congrArg Prod.snd e
        refine ⟨_, A1, true, u, rfl, rfl, ki.u rfl, ka, Or.inr ⟨rfl, by rw [← e1, ← e2]; exact hee, fun v hv hne => ?_⟩, W, k, fun _ => pk_us, xw_keep kw (pk_un (by decide)) rfl rfl, by omega, huk⟩
        obtain ⟨x1, x2, x3, x4, x5, x6, x7, x8⟩ := kx
        have key : ∀ (v : List Nat) (i : Nat) (x : Nat × Nat) (t : List Nat), (∀ y ∈ v, y < 3) → L[i]? = some x → W[i]? = some t → xe T1 (xr T1 x.1 v) ≠ xe T2 (xr T2 x.2 v) → vl u ≤ vl (t ++ v) := by
          intro v
          induction v with
          | nil =>
            intro i x t _ hx ht hne
            rw [List.append_nil]
            by_cases c : i < k
            · exact absurd (x7 i x t c hx ht).1 hne
            · by_cases c2 : i = k
              · subst c2; rw [huk] at ht; cases ht; exact Nat.le_refl _
              · exact Nat.le_of_lt (x5 k i u t (by omega) huk ht)
          | cons m v ihv =>
            intro i x t hv hx ht hne
            by_cases c : i < k
            · obtain ⟨j, v', h1, h2, h3⟩ := (x7 i x t c hx ht).2 m (hv m List.mem_cons_self)
              have := ihv j _ v' (fun y hy => hv y (List.mem_cons_of_mem _ hy)) h1 h2 hne
              refine Nat.le_trans this ?_
              rw [List.append_cons t]
              exact vl_mono v h3
            · refine Nat.le_trans ?_ (vl_ext _ _)
              by_cases c2 : i = k
              · subst c2; rw [huk] at ht; cases ht; exact Nat.le_refl _
              · exact Nat.le_of_lt (x5 k i u t (by omega) huk ht)
        obtain ⟨x0, hx0⟩ : ∃ x, L[0]? = some x := ⟨_, List.getElem?_eq_getElem (by omega)⟩
        have e0 := (x3 0 x0 [] hx0 x4).1
        have := key v 0 x0 [] hv hx0 x4 (by rw [e0]; exact hne)
        exact this
  have cl : ∀ (j i : Nat) (A1 : Nat → Nat → Int32), i + j = 4096 → fa [39, 40, 43, 44, 45] A A1 → (∀ k, k < i → A1 45 k = nI 0) → rz_T w (d + 1) 0 0 m_Mod_readsApart 0 0 3 [some (.ref a), some (.int (nI s1)), some (.int (nI s2)), some (.int (nI g)), some (.int (nI hh)), some (.int (nI i)), none, none, none] [] (re_put G a I A1) Q := by
    intro j
    induction j with
    | zero =>
      intro i A1 hij ka h45
      have hnw := c_Mod_newWord (w := w) (d := d) (G := G) (a := a) (I := upd I 38 (nI 0)) (A := A1) (n := 0) (by decide) pk_us (-1) (-1)
      refine rz_blk' [(.iload 5, 2, 0, 0), (.sipush 4096, 3, 0, 0), (.if_icmp .ge 17, 3, 0, 0)] (by decide +kernel) (Nat.le_refl _) (Nat.le_refl _) (fun K R hK hR => ?_)
      simp only [rw_s4096, ↓rx_if_icmp_ge, ↓rx_iload, ↓rx_nil, ↓rx_sipush, ↓ry_i2, ↓ry_li0s, ↓ry_li0z, rz_set, rz_nol, rz_clr, List.set_cons_zero, List.set_cons_succ, rz_tr, Nat.reduceAdd, Int.reduceAdd, Int.reduceToNat, Int.reduceSub, Int.reduceNeg, Int.cast_ofNat_Int]
      try simp (disch := omega) only [nar_1, pk_us, pk_un, va_up_self, va_up_ne, nI_add, pk_mul, nI_clamp, vp_inT, nI_ltI, nI_leI, nI_eqI, pk_sub, true_and, and_true]
      refine ⟨fun q7 => hK _ _ _ _ ?_, fun q7 => by omega⟩
      refine rz_blk' [(.aload_n 0, 1, 0, 0), (.iconst 0, 1, 0, 0), (.putfield 270, 3, 10, 38)] (by decide +kernel) (Nat.le_refl _) (Nat.le_refl _) (fun K R hK hR => ?_)
      simp only [List.length_cons, List.length_nil, Nat.reduceLT, rf_10_38, rw_c0, ↓rx_aload_n0, ↓rx_iconst, ↓rx_nil, ↓rx_putfield, ↓ry_lr0s, ↓ry_lr0z, ↓ry_obu, ↓ry_vr, true_and, re_len, re_u38, ↓re_ob, rz_set, rz_nol, rz_clr, List.set_cons_zero, List.set_cons_succ, rz_tr, Nat.reduceAdd, Int.reduceAdd, Int.reduceToNat, Int.reduceSub, Int.reduceNeg, Int.cast_ofNat_Int]
      try simp (disch := omega) only [nar_1, pk_us, pk_un, va_up_self, va_up_ne, nI_add, pk_mul, nI_clamp, vp_inT, nI_ltI, nI_leI, nI_eqI, pk_sub, true_and, and_true]
      refine hK _ _ _ _ ?_
      refine rz_blk' [(.aload_n 0, 1, 0, 0), (.iconst (-1), 1, 0, 0), (.iconst (-1), 1, 0, 0)] (by decide +kernel) (Nat.le_refl _) (Nat.le_refl _) (fun K R hK hR => ?_)
      simp only [rw_cm1, ↓rx_aload_n0, ↓rx_iconst, ↓rx_nil, ↓ry_lr0s, ↓ry_lr0z, rz_set, rz_nol, rz_clr, List.set_cons_zero, List.set_cons_succ, rz_tr, Nat.reduceAdd, Int.reduceAdd, Int.reduceToNat, Int.reduceSub, Int.reduceNeg, Int.cast_ofNat_Int]
      try simp (disch := omega) only [nar_1, pk_us, pk_un, va_up_self, va_up_ne, nI_add, pk_mul, nI_clamp, vp_inT, nI_ltI, nI_leI, nI_eqI, pk_sub, true_and, and_true]
      refine hK _ _ _ _ ?_
      refine rz_cV (As := [.int (-1), .int (-1)]) (b := a) (S := []) l_Mod_286 (by decide +kernel) rfl re_at0 rfl (Nat.le_of_ble_eq_true rfl) (Nat.le_refl _) (Nat.le_refl _) (hnw) (fun r G' hr => ?_)
      obtain ⟨rfl, rfl⟩ := hr
      simp only [Option.toList, List.cons_append, List.nil_append]
      refine rz_blk' [(.pop, 1, 0, 0), (.aload_n 0, 1, 0, 0), (.iconst 1, 1, 0, 0), (.putfield 324, 3, 10, 42)] (by decide +kernel) (Nat.le_refl _) (Nat.le_refl _) (fun K R hK hR => ?_)
      simp only [List.length_cons, List.length_nil, Nat.reduceLT, rf_10_42, rw_c1, ↓rx_aload_n0, ↓rx_iconst, ↓rx_nil, ↓rx_pop, ↓rx_putfield, ↓ry_lr0s, ↓ry_lr0z, ↓ry_obu, ↓ry_v1i, ↓ry_v1r, ↓ry_vr, true_and, re_len, re_u42, ↓re_ob, rz_set, rz_nol, rz_clr, List.set_cons_zero, List.set_cons_succ, rz_tr, Nat.reduceAdd, Int.reduceAdd, Int.reduceToNat, Int.reduceSub, Int.reduceNeg, Int.cast_ofNat_Int]
      try simp (disch := omega) only [nar_1, pk_us, pk_un, va_up_self, va_up_ne, nI_add, pk_mul, nI_clamp, vp_inT, nI_ltI, nI_leI, nI_eqI, pk_sub, true_and, and_true]
      refine hK _ _ _ _ ?_
      refine rz_blk' [(.aload_n 0, 1, 0, 0), (.getfield 117, 3, 10, 43), (.iconst 0, 1, 0, 0), (.iload_n 1, 1, 0, 0), (.iastore, 1, 0, 0)] (by decide +kernel) (Nat.le_refl _) (Nat.le_refl _) (fun K R hK hR => ?_)
      simp only [rw_c0, ↓rx_aload_n0, ↓rx_getfield, ↓rx_iastore, ↓rx_iconst, ↓rx_iload_n1, ↓rx_nil, ↓ry_iau, ↓ry_li0s, ↓ry_li0z, ↓ry_lr0s, ↓ry_lr0z, ↓ry_obu, ↓ry_r1, ↓ry_rii, true_and, re_a43, ↓re_F43, ↓re_i43, ↓re_ob, rz_set, rz_nol, rz_clr, List.set_cons_zero, List.set_cons_succ, rz_tr, Nat.reduceAdd, Int.reduceAdd, Int.reduceToNat, Int.reduceSub, Int.reduceNeg, Int.cast_ofNat_Int]
      try simp (disch := omega) only [nar_1, pk_us, pk_un, va_up_self, va_up_ne, nI_add, pk_mul, nI_clamp, vp_inT, nI_ltI, nI_leI, nI_eqI, pk_sub, true_and, and_true]
      refine hK _ _ _ _ ?_
      refine rz_blk' [(.aload_n 0, 1, 0, 0), (.getfield 120, 3, 10, 44), (.iconst 0, 1, 0, 0), (.iload_n 2, 1, 0, 0), (.iastore, 1, 0, 0)] (by decide +kernel) (Nat.le_refl _) (Nat.le_refl _) (fun K R hK hR => ?_)
      simp only [rw_c0, ↓rx_aload_n0, ↓rx_getfield, ↓rx_iastore, ↓rx_iconst, ↓rx_iload_n2, ↓rx_nil, ↓ry_iau, ↓ry_li0s, ↓ry_li0z, ↓ry_lr0s, ↓ry_lr0z, ↓ry_obu, ↓ry_r1, ↓ry_rii, true_and, re_a44, ↓re_F44, ↓re_i44, ↓re_ob, rz_set, rz_nol, rz_clr, List.set_cons_zero, List.set_cons_succ, rz_tr, Nat.reduceAdd, Int.reduceAdd, Int.reduceToNat, Int.reduceSub, Int.reduceNeg, Int.cast_ofNat_Int]
      try simp (disch := omega) only [nar_1, pk_us, pk_un, va_up_self, va_up_ne, nI_add, pk_mul, nI_clamp, vp_inT, nI_ltI, nI_leI, nI_eqI, pk_sub, true_and, and_true]
      refine hK _ _ _ _ ?_
      refine rz_blk' [(.aload_n 0, 1, 0, 0), (.getfield 123, 3, 10, 45), (.bipush 64, 2, 0, 0), (.iload_n 1, 1, 0, 0), (.imul, 1, 0, 0), (.iload_n 2, 1, 0, 0), (.iadd, 1, 0, 0), (.iconst 1, 1, 0, 0), (.bastore, 1, 0, 0)] (by decide +kernel) (Nat.le_refl _) (Nat.le_refl _) (fun K R hK hR => ?_)
      simp only [Nat.reduceEqDiff, false_or, or_false, or_true, reduceIte, rw_b64, rw_c1, ↓rx_aload_n0, ↓rx_bastore, ↓rx_bipush, ↓rx_getfield, ↓rx_iadd, ↓rx_iconst, ↓rx_iload_n1, ↓rx_iload_n2, ↓rx_imul, ↓rx_nil, ↓ry_i2, ↓ry_iau, ↓ry_li0s, ↓ry_li0z, ↓ry_lr0s, ↓ry_lr0z, ↓ry_obu, ↓ry_r1, ↓ry_rii, true_and, true_or, re_a45, ↓re_F45, ↓re_i45, ↓re_ob, rz_set, rz_nol, rz_clr, List.set_cons_zero, List.set_cons_succ, rz_tr, Nat.reduceAdd, Int.reduceAdd, Int.reduceToNat, Int.reduceSub, Int.reduceNeg, Int.cast_ofNat_Int]
      try simp (disch := omega) only [nar_1, pk_us, pk_un, va_up_self, va_up_ne, nI_add, pk_mul, nI_clamp, vp_inT, nI_ltI, nI_leI, nI_eqI, pk_sub, true_and, and_true]
      refine hK _ _ _ _ ?_
      refine rz_blk' [(.iconst 0, 1, 0, 0), (.istore 5, 2, 0, 0)] (by decide +kernel) (Nat.le_refl _) (Nat.le_refl _) (fun K R hK hR => ?_)
      simp only [rw_c0, ↓rx_iconst, ↓rx_istore, ↓rx_nil, ↓ry_i1, rz_set, rz_nol, rz_clr, List.set_cons_zero, List.set_cons_succ, rz_tr, Nat.reduceAdd, Int.reduceAdd, Int.reduceToNat, Int.reduceSub, Int.reduceNeg, Int.cast_ofNat_Int]
      try simp (disch := omega) only [nar_1, pk_us, pk_un, va_up_self, va_up_ne, nI_add, pk_mul, nI_clamp, vp_inT, nI_ltI, nI_leI, nI_eqI, pk_sub, true_and, and_true]
      refine hK _ _ _ _ ?_
      refine wl 4097 0 [(s1, s2)] [[]] _ _ _ _ _ (by omega) (Nat.zero_le _) (((fi.rf.u rfl).u rfl).u rfl) (((((ka.u rfl).u rfl).u rfl).u rfl).u rfl) ?_ ?_ (fun i x hx => ?_) (fun x y hx hy => ?_) ?_
      · exact ⟨by rw [pk_un (by decide), pk_us]; rfl, by simp, rfl, fun k h0 h1 => (by simp at h1; omega)⟩
      · rw [pk_us]; rfl
      · have hil := (List.getElem?_eq_some_iff.mp hx).1
        have e : i = 0 := by simpa using hil
        subst e
        cases hx
        refine ⟨?_, ?_, hs1, hs2⟩
        · simp only [va_up]; simp [upd]
        · simp only [va_up]; simp [upd]
      · rw [va_up_self]
        by_cases c : x = s1 ∧ y = s2
        · obtain ⟨rfl, rfl⟩ := c
          rw [pk_us, decide_eq_true (by simp)]; rfl
        · rw [pk_un (by omega), decide_eq_false (by simp; omega)]
          have e : ∀ {X Y Z W : Nat → Int32}, va_up (va_up (va_up (va_up A1 39 X) 40 Y) 43 Z) 44 W 45 = A1 45 := by intro X Y Z W; simp [va_up]
          first | (rw [e, h45 _ (by omega)]; rfl) | (rw [h45 _ (by omega)]; rfl)
      · refine ⟨by simp, rfl, fun i x u hx hu => ?_, rfl, fun i j u v hij hu hv => ?_, fun u hu v hv => ?_, fun i x u hi => absurd hi (Nat.not_lt_zero _), fun x u hx hu m hm => absurd hm (Nat.not_lt_zero _)⟩
        · have hil := (List.getElem?_eq_some_iff.mp hx).1
          have e : i = 0 := by simpa using hil
          subst e
          cases hx; cases hu
          exact ⟨rfl, by simp⟩
        · have := (List.getElem?_eq_some_iff.mp hv).1
          simp at this; omega
        · cases hv
          simp at hu; subst hu; decide
    | succ j ih =>
      intro i A1 hij ka h45
      refine rz_blk' [(.iload 5, 2, 0, 0), (.sipush 4096, 3, 0, 0), (.if_icmp .ge 17, 3, 0, 0)] (by decide +kernel) (Nat.le_refl _) (Nat.le_refl _) (fun K R hK hR => ?_)
      simp only [rw_s4096, ↓rx_if_icmp_ge, ↓rx_iload, ↓rx_nil, ↓rx_sipush, ↓ry_i2, ↓ry_li0s, ↓ry_li0z, rz_set, rz_nol, rz_clr, List.set_cons_zero, List.set_cons_succ, rz_tr, Nat.reduceAdd, Int.reduceAdd, Int.reduceToNat, Int.reduceSub, Int.reduceNeg, Int.cast_ofNat_Int]
      try simp (disch := omega) only [nar_0, pk_us, pk_un, va_up_self, va_up_ne, nI_add, pk_mul, nI_clamp, vp_inT, nI_ltI, nI_leI, nI_eqI, pk_sub, true_and, and_true]
      refine ⟨fun q8 => by omega, fun q8 => hK _ _ _ _ ?_⟩
      refine rz_blk' [(.aload_n 0, 1, 0, 0), (.getfield 123, 3, 10, 45), (.iload 5, 2, 0, 0), (.iconst 0, 1, 0, 0), (.bastore, 1, 0, 0)] (by decide +kernel) (Nat.le_refl _) (Nat.le_refl _) (fun K R hK hR => ?_)
      simp only [Nat.reduceEqDiff, false_or, or_false, or_true, reduceIte, rw_c0, ↓rx_aload_n0, ↓rx_bastore, ↓rx_getfield, ↓rx_iconst, ↓rx_iload, ↓rx_nil, ↓ry_iau, ↓ry_li0s, ↓ry_li0z, ↓ry_lr0s, ↓ry_lr0z, ↓ry_obu, ↓ry_r1, ↓ry_rii, true_and, true_or, re_a45, ↓re_F45, ↓re_i45, ↓re_ob, rz_set, rz_nol, rz_clr, List.set_cons_zero, List.set_cons_succ, rz_tr, Nat.reduceAdd, Int.reduceAdd, Int.reduceToNat, Int.reduceSub, Int.reduceNeg, Int.cast_ofNat_Int]
      try simp (disch := omega) only [nar_0, pk_us, pk_un, va_up_self, va_up_ne, nI_add, pk_mul, nI_clamp, vp_inT, nI_ltI, nI_leI, nI_eqI, pk_sub, true_and, and_true]
      refine hK _ _ _ _ ?_
      refine rz_blk' [(.iinc 5 1, 3, 0, 0)] (by decide +kernel) (Nat.le_refl _) (Nat.le_refl _) (fun K R hK hR => ?_)
      simp only [rw_c1, ↓rx_iinc, ↓rx_nil, ↓ry_li0s, ↓ry_li0z, rz_set, rz_nol, rz_clr, List.set_cons_zero, List.set_cons_succ, rz_tr, Nat.reduceAdd, Int.reduceAdd, Int.reduceToNat, Int.reduceSub, Int.reduceNeg, Int.cast_ofNat_Int]
      try simp (disch := omega) only [nar_0, pk_us, pk_un, va_up_self, va_up_ne, nI_add, pk_mul, nI_clamp, vp_inT, nI_ltI, nI_leI, nI_eqI, pk_sub, true_and, and_true]
      refine hK _ _ _ _ ?_
      refine rz_blk' [(.goto (-19), 3, 0, 0)] (by decide +kernel) (Nat.le_refl _) (Nat.le_refl _) (fun K R hK hR => ?_)
      simp only [↓rx_goto, ↓rx_nil, rz_set, rz_nol, rz_clr, List.set_cons_zero, List.set_cons_succ, rz_tr, Nat.reduceAdd, Int.reduceAdd, Int.reduceToNat, Int.reduceSub, Int.reduceNeg, Int.cast_ofNat_Int]
      try simp (disch := omega) only [nar_0, pk_us, pk_un, va_up_self, va_up_ne, nI_add, pk_mul, nI_clamp, vp_inT, nI_ltI, nI_leI, nI_eqI, pk_sub, true_and, and_true]
      refine hK _ _ _ _ ?_
      refine ih (i + 1) _ (by omega) (ka.u rfl) (fun k hk => ?_)
      rw [va_up_self]
      by_cases ck : k = i
      · subst ck; rw [pk_us]
      · rw [pk_un ck]; exact h45 k (by omega)
  refine rz_enter' [some (.ref a), some (.int (nI s1)), some (.int (nI s2)), some (.int (nI g)), some (.int (nI hh)), none, none, none, none] (by decide +kernel) rfl rfl (Nat.le_of_ble_eq_true rfl) rfl ?_
  refine rz_blk' [(.iconst 0, 1, 0, 0), (.istore 5, 2, 0, 0)] (by decide +kernel) (Nat.le_refl _) (Nat.le_refl _) (fun K R hK hR => ?_)
  simp only [rw_c0, ↓rx_iconst, ↓rx_istore, ↓rx_nil, ↓ry_i1, rz_set, rz_nol, rz_clr, List.set_cons_zero, List.set_cons_succ, rz_tr, Nat.reduceAdd, Int.reduceAdd, Int.reduceToNat, Int.reduceSub, Int.reduceNeg, Int.cast_ofNat_Int]
  try simp (disch := omega) only [pk_us, pk_un, va_up_self, va_up_ne, nI_add, pk_mul, nI_clamp, vp_inT, nI_ltI, nI_leI, nI_eqI, pk_sub, true_and, and_true]
  refine hK _ _ _ _ ?_
  exact cl 4096 0 A rfl fa.rf (fun k hk => absurd hk (Nat.not_lt_zero _))
