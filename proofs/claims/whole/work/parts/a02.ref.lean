/-! the reference: searches -/
/-- how a search ends -/
def xs_end (T1 T2 : mv_T) (c : Nat → Bool) (N0 : List xn_T) (I : Nat → Int32) (N : List xn_T) (W : List (List Nat)) (b : Bool) : Prop := (b = false ∧ xs_i T1 T2 c N0 N W N.length) ∨ (b = true ∧ ∃ done k, xs_i T1 T2 c N0 N W done ∧ I 41 = nI k ∧ k < W.length ∧ (∃ (j : Nat) (x : xn_T), done ≤ j ∧ N[j]? = some x ∧ x.2 = k ∧ xn_ea T1 T2 x.1 = true) ∧ ∀ (j : Nat) (x : xn_T), done ≤ j → N[j]? = some x → k ≤ x.2)
theorem xn_get {N : List xn_T} {a b m : Nat} (hb : b ≤ N.length) (hm : a + m < b) : (((N.map (fun x => x.1)).drop a).take (b - a))[m]? = (N[a + m]?).map (fun x => x.1) := by
  rw [List.getElem?_take_of_lt (by omega), List.getElem?_drop, List.getElem?_map]
set_option maxRecDepth 100000 in
set_option maxHeartbeats 4000000 in
theorem c_Mod_searches {w : rz_w} {d : Nat} {G : rz_G} {a : Nat} {I : Nat → Int32} {A : Nat → Nat → Int32} {T1 T2 : mv_T} {g hh B0 b0 : Nat} {N : List xn_T} {c : Nat → Bool} (hg : g < 2) (hh2 : hh < 2) (t1 : re_t A g T1) (t2 : re_t A hh T2) (w1 : tw T1 b0) (w2 : tw T2 b0) (hb0 : b0 ≤ 32) (hN : xn_ns B0 b0 I A N) (hk : xk_is A N) (hc : ∀ i, i < 36 → A 25 i = rz_b (c i)) (hw : xw_is I A [[]]) (hd : (N.map (fun x => x.1)).Nodup) (h0 : ∀ x ∈ N, x.2 = 0) (hB : B0 + b0 * 72 ≤ 2000) : rz_C w (d + 3) 0 0 y_Mod_searches m_Mod_searches [.ref a, .int (nI g), .int (nI hh)] (re_put G a I A) (fun (r : Option Value) (G' : rz_G) => ∃ I' A' N' W' b, r = some (.int (rz_b b)) ∧ G' = re_put G a I' A' ∧ fi [26, 27, 30, 38, 41] I I' ∧ fa [28, 29, 31, 32, 33, 34, 35, 36, 37, 39, 40] A A' ∧ xw_is I' A' W' ∧ W'.length ≤ 217 ∧ xs_end T1 T2 c N I' N' W' b) := by
  generalize hQ : (fun (r : Option Value) (G' : rz_G) => ∃ I' A' N' W' b, r = some (.int (rz_b b)) ∧ G' = re_put G a I' A' ∧ fi [26, 27, 30, 38, 41] I I' ∧ fa [28, 29, 31, 32, 33, 34, 35, 36, 37, 39, 40] A A' ∧ xw_is I' A' W' ∧ W'.length ≤ 217 ∧ xs_end T1 T2 c N I' N' W' b) = Q
  have w1' := tw_m w1 hb0
  have w2' := tw_m w2 hb0
  have hb72 : ∀ i, i < 72 → B0 + b0 * i ≤ 2000 := fun i hi => by
    have := Nat.mul_le_mul_left b0 (Nat.le_of_lt hi); omega
  have wl : ∀ (n ci : Nat) (N1 : List xn_T) (W : List (List Nat)) (I1 : Nat → Int32) (A1 : Nat → Nat → Int32) (z4 z5 z6 z7 z8 : Option Value), 73 - ci ≤ n → ci ≤ N1.length → fi [26, 27, 30, 38, 41] I I1 → fa [28, 29, 31, 32, 33, 34, 35, 36, 37, 39, 40] A A1 → xn_ns B0 b0 I1 A1 N1 → xk_is A1 N1 → xw_is I1 A1 W → W.length ≤ 1 + 3 * ci → xs_i T1 T2 c N N1 W ci → rz_T w (d + 3) 0 0 m_Mod_searches 0 0 2 [some (.ref a), some (.int (nI g)), some (.int (nI hh)), some (.int (nI ci)), z4, z5, z6, z7, z8] [] (re_put G a I1 A1) Q := by
    intro n
    induction n with
    | zero =>
      intro ci N1 W I1 A1 z4 z5 z6 z7 z8 hn hci ki ka kn kk kw kl kx
      have := kn.2.1
      omega
    | succ n ih =>
      intro ci N1 W I1 A1 z4 z5 z6 z7 z8 hn hci ki ka kn kk kw kl kx
      obtain ⟨n1, n2, n3⟩ := id kn
      by_cases hce : ci = N1.length
      · rw [hce] at kx
        refine rz_blk' [(.iload_n 3, 1, 0, 0), (.aload_n 0, 1, 0, 0), (.getfield 263, 3, 10, 30), (.if_icmp .ge 119, 3, 0, 0)] (by decide +kernel) (Nat.le_refl _) (Nat.le_refl _) (fun K R hK hR => ?_)
        simp only [↓rx_aload_n0, ↓rx_getfield, ↓rx_if_icmp_ge, ↓rx_iload_n3, ↓rx_nil, ↓ry_i2, ↓ry_li0s, ↓ry_li0z, ↓ry_lr0s, ↓ry_lr0z, ↓ry_obu, ↓ry_r1, ↓re_F30, ↓re_ob, n1, rz_set, rz_nol, rz_clr, List.set_cons_zero, List.set_cons_succ, rz_tr, Nat.reduceAdd, Int.reduceAdd, Int.reduceToNat, Int.reduceSub, Int.reduceNeg, Int.cast_ofNat_Int]
        try simp (disch := omega) only [n1, pk_us, pk_un, va_up_self, va_up_ne, nI_add, pk_mul, nI_clamp, vp_inT, nI_ltI, nI_leI, nI_eqI, pk_sub, true_and, and_true]
        refine ⟨fun q1 => hK _ _ _ _ ?_, fun q1 => by omega⟩
        refine rz_blk' [(.iconst 0, 1, 0, 0), (.ireturn, 1, 0, 0)] (by decide +kernel) (Nat.le_refl _) (Nat.le_refl _) (fun K R hK hR => ?_)
        simp only [rw_c0, ↓rx_iconst, ↓rx_ireturn, ↓rx_nil, n1, rz_set, rz_nol, rz_clr, List.set_cons_zero, List.set_cons_succ, rz_tr, Nat.reduceAdd, Int.reduceAdd, Int.reduceToNat, Int.reduceSub, Int.reduceNeg, Int.cast_ofNat_Int]
        try simp (disch := omega) only [n1, pk_us, pk_un, va_up_self, va_up_ne, nI_add, pk_mul, nI_clamp, vp_inT, nI_ltI, nI_leI, nI_eqI, pk_sub, true_and, and_true]
        refine hR _ _ rz_nb_0 ?_
        rw [← hQ]
        exact ⟨I1, A1, N1, W, false, rfl, rfl, ki, ka, kw, by omega, Or.inl ⟨rfl, kx⟩⟩
      have hcl : ci < N1.length := by omega
      obtain ⟨⟨n0, w0⟩, hx0⟩ : ∃ x, N1[ci]? = some x := ⟨_, List.getElem?_eq_getElem hcl⟩
      have hw0 : w0 < W.length := kx.2.2.1 _ (List.mem_of_getElem? hx0)
      have e36 : A1 36 ci = nI w0 := by
        have := (n3 ci hcl).2.2.2.2.2.1
        rw [(List.getElem?_eq_some_iff.mp hx0).2] at this
        exact this
      have hw4 : W.length ≤ 4100 := kw.2.1
      obtain ⟨u, hu⟩ : ∃ u, W[w0]? = some u := ⟨_, List.getElem?_eq_getElem hw0⟩
      have hcg : ∀ (en : Nat) (I2 : Nat → Int32) (A2 : Nat → Nat → Int32) (z6 z7 z8 : Option Value), ci < en → en ≤ N1.length → fi [26, 27] I1 I2 → fa [28, 29] A1 A2 → (∀ (i : Nat) (x : xn_T), ci ≤ i → i < en → N1[i]? = some x → xn_ea T1 T2 x.1 = false ∧ x.2 = w0) → (∀ x : xn_T, N1[en]? = some x → x.2 ≠ w0) → rz_T w (d + 3) 0 0 m_Mod_searches 0 0 67 [some (.ref a), some (.int (nI g)), some (.int (nI hh)), some (.int (nI ci)), some (.int (nI w0)), some (.int (nI en)), z6, z7, z8] [] (re_put G a I2 A2) Q := by
        intro en I2 A2 z6 z7 z8 hcen henl i2 a2 hgr hnx
        generalize hns : ((N1.map (fun x => x.1)).drop ci).take (en - ci) = ns
        have hnsl : ns.length = en - ci := by rw [← hns, List.length_take, List.length_drop, List.length_map]; omega
        have hnsg : ∀ m, ci + m < en → ns[m]? = (N1[ci + m]?).map (fun x => x.1) := fun m hm => by rw [← hns]; exact xn_get henl hm
        have hj0 : xs_j T1 T2 c N N1 W ci en 0 ns w0 u := by
          refine xs_j_0 kx hcen henl hu (fun i x h1 h2 hx => ⟨(hgr i x h1 h2 hx).1, (hgr i x h1 h2 hx).2, ?_⟩) (fun m hm => ?_) hnx
          · have := hnsg (i - ci) (by omega)
            rw [show ci + (i - ci) = i by omega, hx] at this
            exact List.mem_of_getElem? this
          · obtain ⟨i, hi, rfl⟩ := List.mem_iff_getElem.mp hm
            rw [hnsl] at hi
            have hil : ci + i < N1.length := by omega
            have e := hnsg i (by omega)
            rw [List.getElem?_eq_getElem (by omega), List.getElem?_eq_getElem hil] at e
            exact ⟨N1[ci + i], List.getElem_mem hil, (Option.some.inj e).symm, (hgr (ci + i) _ (by omega) (by omega) (List.getElem?_eq_getElem hil)).2⟩
        have ll : ∀ (j k : Nat) (N2 : List xn_T) (W2 : List (List Nat)) (I3 : Nat → Int32) (A3 : Nat → Nat → Int32) (z7 z8 : Option Value), k + j = 3 → fi [26, 27, 30, 38, 41] I I3 → fa [28, 29, 31, 32, 33, 34, 35, 36, 37, 39, 40] A A3 → xn_ns B0 b0 I3 A3 N2 → xk_is A3 N2 → xw_is I3 A3 W2 → W2.length = W.length + k → xs_j T1 T2 c N N2 W2 ci en k ns w0 u → (∀ (i : Nat) (x : xn_T), N1[i]? = some x → N2[i]? = some x) → rz_T w (d + 3) 0 0 m_Mod_searches 0 0 70 [some (.ref a), some (.int (nI g)), some (.int (nI hh)), some (.int (nI ci)), some (.int (nI w0)), some (.int (nI en)), some (.int (nI k)), z7, z8] [] (re_put G a I3 A3) Q := by
          intro j
          induction j with
          | zero =>
            intro k N2 W2 I3 A3 z7 z8 hkj pi pa pn pk pw pl pj pg
            have hk3 : k = 3 := by omega
            subst hk3
            refine rz_blk' [(.iload 6, 2, 0, 0), (.iconst 3, 1, 0, 0), (.if_icmp .ge 47, 3, 0, 0)] (by decide +kernel) (Nat.le_refl _) (Nat.le_refl _) (fun K R hK hR => ?_)
            simp only [rw_c3, ↓rx_iconst, ↓rx_if_icmp_ge, ↓rx_iload, ↓rx_nil, ↓ry_i2, ↓ry_li0s, ↓ry_li0z, rz_set, rz_nol, rz_clr, List.set_cons_zero, List.set_cons_succ, rz_tr, Nat.reduceAdd, Int.reduceAdd, Int.reduceToNat, Int.reduceSub, Int.reduceNeg, Int.cast_ofNat_Int]
            try simp (disch := omega) only [pk_us, pk_un, va_up_self, va_up_ne, nI_add, pk_mul, nI_clamp, vp_inT, nI_ltI, nI_leI, nI_eqI, pk_sub, true_and, and_true]
            refine ⟨fun q2 => hK _ _ _ _ ?_, fun q2 => by omega⟩
            refine rz_blk' [(.iload 5, 2, 0, 0), (.istore_n 3, 1, 0, 0)] (by decide +kernel) (Nat.le_refl _) (Nat.le_refl _) (fun K R hK hR => ?_)
            simp only [↓rx_iload, ↓rx_istore_n3, ↓rx_nil, ↓ry_i1, ↓ry_li0s, ↓ry_li0z, rz_set, rz_nol, rz_clr, List.set_cons_zero, List.set_cons_succ, rz_tr, Nat.reduceAdd, Int.reduceAdd, Int.reduceToNat, Int.reduceSub, Int.reduceNeg, Int.cast_ofNat_Int]
            try simp (disch := omega) only [pk_us, pk_un, va_up_self, va_up_ne, nI_add, pk_mul, nI_clamp, vp_inT, nI_ltI, nI_leI, nI_eqI, pk_sub, true_and, and_true]
            refine hK _ _ _ _ ?_
            refine rz_blk' [(.goto (-121), 3, 0, 0)] (by decide +kernel) (Nat.le_refl _) (Nat.le_refl _) (fun K R hK hR => ?_)
            simp only [↓rx_goto, ↓rx_nil, rz_set, rz_nol, rz_clr, List.set_cons_zero, List.set_cons_succ, rz_tr, Nat.reduceAdd, Int.reduceAdd, Int.reduceToNat, Int.reduceSub, Int.reduceNeg, Int.cast_ofNat_Int]
            try simp (disch := omega) only [pk_us, pk_un, va_up_self, va_up_ne, nI_add, pk_mul, nI_clamp, vp_inT, nI_ltI, nI_leI, nI_eqI, pk_sub, true_and, and_true]
            refine hK _ _ _ _ ?_
            exact ih en N2 W2 I3 A3 _ _ _ _ _ (by omega) pj.2.2.2.2.2.2.2.1.2 pi pa pn pk pw (by omega) (xs_j_e pj)
          | succ j ihl =>
            intro k N2 W2 I3 A3 z7 z8 hkj pi pa pn pk pw pl pj pg
            have hk3 : k < 3 := by omega
            have n2' := pn.2.1
            have hWl : W2.length < 4000 := by omega
            have hs := xs_j_s hk3 pj
            have hncl := c_Mod_newWord (w := w) (d := d + 2) (G := G) (a := a) (I := I3) (A := A3) (by omega : W2.length < 4100) pw.1 (nI w0) (nI k)
            have gl : ∀ (j i : Nat) (N3 : List xn_T) (I4 : Nat → Int32) (A4 : Nat → Nat → Int32), i + j = en → ci ≤ i → N3 = xs_g c T1.2.1 T2.2.1 k W2.length (ns.take (i - ci)) N2 → fi [26, 27, 30, 38, 41] I I4 → fa [28, 29, 31, 32, 33, 34, 35, 36, 37, 39, 40] A A4 → xn_ns B0 b0 I4 A4 N3 → xk_is A4 N3 → xw_is I4 A4 (W2 ++ [u ++ [k]]) → rz_T w (d + 3) 0 0 m_Mod_searches 0 0 89 [some (.ref a), some (.int (nI g)), some (.int (nI hh)), some (.int (nI ci)), some (.int (nI w0)), some (.int (nI en)), some (.int (nI k)), some (.int (nI W2.length)), some (.int (nI i))] [] (re_put G a I4 A4) Q := by
              intro j
              induction j with
              | zero =>
                intro i N3 I4 A4 hij hic hN3 qi qa qn qk qw
                have hi : i = en := by omega
                subst hi
                rw [List.take_of_length_le (by omega)] at hN3
                rw [← hN3] at hs
                refine rz_blk' [(.iload 8, 2, 0, 0), (.iload 5, 2, 0, 0), (.if_icmp .ge 21, 3, 0, 0)] (by decide +kernel) (Nat.le_refl _) (Nat.le_refl _) (fun K R hK hR => ?_)
                simp only [↓rx_if_icmp_ge, ↓rx_iload, ↓rx_nil, ↓ry_i2, ↓ry_li0s, ↓ry_li0z, rz_set, rz_nol, rz_clr, List.set_cons_zero, List.set_cons_succ, rz_tr, Nat.reduceAdd, Int.reduceAdd, Int.reduceToNat, Int.reduceSub, Int.reduceNeg, Int.cast_ofNat_Int]
                try simp (disch := omega) only [pk_us, pk_un, va_up_self, va_up_ne, nI_add, pk_mul, nI_clamp, vp_inT, nI_ltI, nI_leI, nI_eqI, pk_sub, true_and, and_true]
                refine ⟨fun q3 => hK _ _ _ _ ?_, fun q3 => by omega⟩
                refine rz_blk' [(.iinc 6 1, 3, 0, 0)] (by decide +kernel) (Nat.le_refl _) (Nat.le_refl _) (fun K R hK hR => ?_)
                simp only [rw_c1, ↓rx_iinc, ↓rx_nil, ↓ry_li0s, ↓ry_li0z, rz_set, rz_nol, rz_clr, List.set_cons_zero, List.set_cons_succ, rz_tr, Nat.reduceAdd, Int.reduceAdd, Int.reduceToNat, Int.reduceSub, Int.reduceNeg, Int.cast_ofNat_Int]
                try simp (disch := omega) only [pk_us, pk_un, va_up_self, va_up_ne, nI_add, pk_mul, nI_clamp, vp_inT, nI_ltI, nI_leI, nI_eqI, pk_sub, true_and, and_true]
                refine hK _ _ _ _ ?_
                refine rz_blk' [(.goto (-47), 3, 0, 0)] (by decide +kernel) (Nat.le_refl _) (Nat.le_refl _) (fun K R hK hR => ?_)
                simp only [↓rx_goto, ↓rx_nil, rz_set, rz_nol, rz_clr, List.set_cons_zero, List.set_cons_succ, rz_tr, Nat.reduceAdd, Int.reduceAdd, Int.reduceToNat, Int.reduceSub, Int.reduceNeg, Int.cast_ofNat_Int]
                try simp (disch := omega) only [pk_us, pk_un, va_up_self, va_up_ne, nI_add, pk_mul, nI_clamp, vp_inT, nI_ltI, nI_leI, nI_eqI, pk_sub, true_and, and_true]
                refine hK _ _ _ _ ?_
                refine ihl (k + 1) N3 _ I4 A4 _ _ (by omega) qi qa qn qk qw (by rw [List.length_append]; simp; omega) hs (fun i x hx => ?_)
                rw [hN3]
                exact xs_g_r.1.get (pg i x hx)
              | succ j ihg =>
                intro i N3 I4 A4 hij hic hN3 qi qa qn qk qw
                have n2'' := qn.2.1
                have hil : i < N1.length := by omega
                obtain ⟨⟨m, o0⟩, hx⟩ : ∃ x, N1[i]? = some x := ⟨_, List.getElem?_eq_getElem hil⟩
                have hx3 : N3[i]? = some (m, o0) := by rw [hN3]; exact xs_g_r.1.get (pg i _ hx)
                have hnm : ns[i - ci]? = some m := by
                  rw [hnsg (i - ci) (by omega), show ci + (i - ci) = i by omega, hx]; rfl
                have hnm2 := (List.getElem?_eq_some_iff.mp hnm).2
                have hstep : xs_g c T1.2.1 T2.2.1 k W2.length (ns.take (i + 1 - ci)) N2 = xg_3 c m k W2.length T1.2.1 T2.2.1 N3 := by
                  rw [show i + 1 - ci = i - ci + 1 by omega, xs_g, foldl_take _ _ _ (by omega), hN3, hnm2]; rfl
                have hgo := c_Mod_goOn (w := w) (d := d) (G := G) (a := a) (o := W2.length) hg hh2 (re_t_fa t1 qa rfl) (re_t_fa t2 qa rfl) w1 w2 hb0 qn qk (fun i hi => by rw [qa 25 rfl]; exact hc i hi) hx3 hk3 (by omega) hB
                refine rz_blk' [(.iload 8, 2, 0, 0), (.iload 5, 2, 0, 0), (.if_icmp .ge 21, 3, 0, 0)] (by decide +kernel) (Nat.le_refl _) (Nat.le_refl _) (fun K R hK hR => ?_)
                simp only [↓rx_if_icmp_ge, ↓rx_iload, ↓rx_nil, ↓ry_i2, ↓ry_li0s, ↓ry_li0z, rz_set, rz_nol, rz_clr, List.set_cons_zero, List.set_cons_succ, rz_tr, Nat.reduceAdd, Int.reduceAdd, Int.reduceToNat, Int.reduceSub, Int.reduceNeg, Int.cast_ofNat_Int]
                try simp (disch := omega) only [pk_us, pk_un, va_up_self, va_up_ne, nI_add, pk_mul, nI_clamp, vp_inT, nI_ltI, nI_leI, nI_eqI, pk_sub, true_and, and_true]
                refine ⟨fun q4 => by omega, fun q4 => hK _ _ _ _ ?_⟩
                refine rz_blk' [(.aload_n 0, 1, 0, 0), (.iload 8, 2, 0, 0), (.iload 6, 2, 0, 0), (.iload_n 1, 1, 0, 0), (.iload_n 2, 1, 0, 0), (.iload 7, 2, 0, 0)] (by decide +kernel) (Nat.le_refl _) (Nat.le_refl _) (fun K R hK hR => ?_)
                simp only [↓rx_aload_n0, ↓rx_iload, ↓rx_iload_n1, ↓rx_iload_n2, ↓rx_nil, ↓ry_li0s, ↓ry_li0z, ↓ry_lr0s, ↓ry_lr0z, rz_set, rz_nol, rz_clr, List.set_cons_zero, List.set_cons_succ, rz_tr, Nat.reduceAdd, Int.reduceAdd, Int.reduceToNat, Int.reduceSub, Int.reduceNeg, Int.cast_ofNat_Int]
                try simp (disch := omega) only [pk_us, pk_un, va_up_self, va_up_ne, nI_add, pk_mul, nI_clamp, vp_inT, nI_ltI, nI_leI, nI_eqI, pk_sub, true_and, and_true]
                refine hK _ _ _ _ ?_
                refine rz_cV (As := [.int (nI i), .int (nI k), .int (nI g), .int (nI hh), .int (nI W2.length)]) (b := a) (S := []) l_Mod_296 (by decide +kernel) rfl re_at0 rfl (Nat.le_of_ble_eq_true rfl) (Nat.le_refl _) (Nat.le_refl _) (hgo) (fun r G' hr => ?_)
                obtain ⟨rfl, I5, A5, rfl, f1, f2, f3, f4⟩ := hr
                simp only [Option.toList, List.nil_append]
                refine rz_blk' [(.iinc 8 1, 3, 0, 0)] (by decide +kernel) (Nat.le_refl _) (Nat.le_refl _) (fun K R hK hR => ?_)
                simp only [rw_c1, ↓rx_iinc, ↓rx_nil, ↓ry_li0s, ↓ry_li0z, rz_set, rz_nol, rz_clr, List.set_cons_zero, List.set_cons_succ, rz_tr, Nat.reduceAdd, Int.reduceAdd, Int.reduceToNat, Int.reduceSub, Int.reduceNeg, Int.cast_ofNat_Int]
                try simp (disch := omega) only [pk_us, pk_un, va_up_self, va_up_ne, nI_add, pk_mul, nI_clamp, vp_inT, nI_ltI, nI_leI, nI_eqI, pk_sub, true_and, and_true]
                refine hK _ _ _ _ ?_
                refine rz_blk' [(.goto (-22), 3, 0, 0)] (by decide +kernel) (Nat.le_refl _) (Nat.le_refl _) (fun K R hK hR => ?_)
                simp only [↓rx_goto, ↓rx_nil, rz_set, rz_nol, rz_clr, List.set_cons_zero, List.set_cons_succ, rz_tr, Nat.reduceAdd, Int.reduceAdd, Int.reduceToNat, Int.reduceSub, Int.reduceNeg, Int.cast_ofNat_Int]
                try simp (disch := omega) only [pk_us, pk_un, va_up_self, va_up_ne, nI_add, pk_mul, nI_clamp, vp_inT, nI_ltI, nI_leI, nI_eqI, pk_sub, true_and, and_true]
                refine hK _ _ _ _ ?_
                refine ihg (i + 1) _ I5 A5 (by omega) (by omega) hstep.symm (qi.t f1 rfl) (qa.t f2 rfl) f3 f4 (xw_keep qw (f1 38 rfl) (f2 39 rfl) (f2 40 rfl))
            refine rz_blk' [(.iload 6, 2, 0, 0), (.iconst 3, 1, 0, 0), (.if_icmp .ge 47, 3, 0, 0)] (by decide +kernel) (Nat.le_refl _) (Nat.le_refl _) (fun K R hK hR => ?_)
            simp only [rw_c3, ↓rx_iconst, ↓rx_if_icmp_ge, ↓rx_iload, ↓rx_nil, ↓ry_i2, ↓ry_li0s, ↓ry_li0z, rz_set, rz_nol, rz_clr, List.set_cons_zero, List.set_cons_succ, rz_tr, Nat.reduceAdd, Int.reduceAdd, Int.reduceToNat, Int.reduceSub, Int.reduceNeg, Int.cast_ofNat_Int]
            try simp (disch := omega) only [pk_us, pk_un, va_up_self, va_up_ne, nI_add, pk_mul, nI_clamp, vp_inT, nI_ltI, nI_leI, nI_eqI, pk_sub, true_and, and_true]
            refine ⟨fun q5 => by omega, fun q5 => hK _ _ _ _ ?_⟩
            refine rz_blk' [(.aload_n 0, 1, 0, 0), (.iload 4, 2, 0, 0), (.iload 6, 2, 0, 0)] (by decide +kernel) (Nat.le_refl _) (Nat.le_refl _) (fun K R hK hR => ?_)
            simp only [↓rx_aload_n0, ↓rx_iload, ↓rx_nil, ↓ry_li0s, ↓ry_li0z, ↓ry_lr0s, ↓ry_lr0z, rz_set, rz_nol, rz_clr, List.set_cons_zero, List.set_cons_succ, rz_tr, Nat.reduceAdd, Int.reduceAdd, Int.reduceToNat, Int.reduceSub, Int.reduceNeg, Int.cast_ofNat_Int]
            try simp (disch := omega) only [pk_us, pk_un, va_up_self, va_up_ne, nI_add, pk_mul, nI_clamp, vp_inT, nI_ltI, nI_leI, nI_eqI, pk_sub, true_and, and_true]
            refine hK _ _ _ _ ?_
            refine rz_cV (As := [.int (nI w0), .int (nI k)]) (b := a) (S := []) l_Mod_286 (by decide +kernel) rfl re_at0 rfl (Nat.le_of_ble_eq_true rfl) (Nat.le_refl _) (Nat.le_refl _) (hncl) (fun r G' hr => ?_)
            obtain ⟨rfl, rfl⟩ := hr
            simp only [Option.toList, List.cons_append, List.nil_append]
            refine rz_blk' [(.istore 7, 2, 0, 0)] (by decide +kernel) (Nat.le_refl _) (Nat.le_refl _) (fun K R hK hR => ?_)
            simp only [↓rx_istore, ↓rx_nil, ↓ry_i1, rz_set, rz_nol, rz_clr, List.set_cons_zero, List.set_cons_succ, rz_tr, Nat.reduceAdd, Int.reduceAdd, Int.reduceToNat, Int.reduceSub, Int.reduceNeg, Int.cast_ofNat_Int]
            try simp (disch := omega) only [pk_us, pk_un, va_up_self, va_up_ne, nI_add, pk_mul, nI_clamp, vp_inT, nI_ltI, nI_leI, nI_eqI, pk_sub, true_and, and_true]
            refine hK _ _ _ _ ?_
            refine rz_blk' [(.iload_n 3, 1, 0, 0), (.istore 8, 2, 0, 0)] (by decide +kernel) (Nat.le_refl _) (Nat.le_refl _) (fun K R hK hR => ?_)
            simp only [↓rx_iload_n3, ↓rx_istore, ↓rx_nil, ↓ry_i1, ↓ry_li0s, ↓ry_li0z, rz_set, rz_nol, rz_clr, List.set_cons_zero, List.set_cons_succ, rz_tr, Nat.reduceAdd, Int.reduceAdd, Int.reduceToNat, Int.reduceSub, Int.reduceNeg, Int.cast_ofNat_Int]
            try simp (disch := omega) only [pk_us, pk_un, va_up_self, va_up_ne, nI_add, pk_mul, nI_clamp, vp_inT, nI_ltI, nI_leI, nI_eqI, pk_sub, true_and, and_true]
            refine hK _ _ _ _ ?_
            refine gl (en - ci) ci N2 _ _ (by omega) (Nat.le_refl _) (by rw [Nat.sub_self]; rfl) (pi.u rfl) ((pa.u rfl).u rfl) (xn_keep (K := [39, 40]) pn (pk_un (by decide)) ((fa.rf.u rfl).u rfl) rfl) (xk_keep (K := [39, 40]) pk ((fa.rf.u rfl).u rfl) rfl) (xw_add pw (by omega) pj.2.2.2.2.1 hk3 pk_us ?_ ?_)
            · rw [va_up_ne _ _ (by decide), va_up_self]
            · rw [va_up_self]
        refine rz_blk' [(.iconst 0, 1, 0, 0), (.istore 6, 2, 0, 0)] (by decide +kernel) (Nat.le_refl _) (Nat.le_refl _) (fun K R hK hR => ?_)
        simp only [rw_c0, ↓rx_iconst, ↓rx_istore, ↓rx_nil, ↓ry_i1, rz_set, rz_nol, rz_clr, List.set_cons_zero, List.set_cons_succ, rz_tr, Nat.reduceAdd, Int.reduceAdd, Int.reduceToNat, Int.reduceSub, Int.reduceNeg, Int.cast_ofNat_Int]
        try simp (disch := omega) only [pk_us, pk_un, va_up_self, va_up_ne, nI_add, pk_mul, nI_clamp, vp_inT, nI_ltI, nI_leI, nI_eqI, pk_sub, true_and, and_true]
        refine hK _ _ _ _ ?_
        exact ll 3 0 N1 W I2 A2 _ _ rfl (ki.t i2 rfl) (ka.t a2 rfl) (xn_keep kn (i2 30 rfl) a2 rfl) (xk_keep kk a2 rfl) (xw_keep kw (i2 38 rfl) (a2 39 rfl) (a2 40 rfl)) rfl hj0 (fun _ _ q => q)
      have cl : ∀ (j en : Nat) (I2 : Nat → Int32) (A2 : Nat → Nat → Int32), en + j = N1.length → ci ≤ en → fi [26, 27] I1 I2 → fa [28, 29] A1 A2 → (∀ (i : Nat) (x : xn_T), ci ≤ i → i < en → N1[i]? = some x → xn_ea T1 T2 x.1 = false ∧ x.2 = w0) → rz_T w (d + 3) 0 0 m_Mod_searches 0 0 21 [some (.ref a), some (.int (nI g)), some (.int (nI hh)), some (.int (nI ci)), some (.int (nI w0)), some (.int (nI en)), z6, z7, z8] [] (re_put G a I2 A2) Q := by
        intro j
        induction j with
        | zero =>
          intro en I2 A2 hej hce2 i2 a2 hgr
          have i30 := i2 30 rfl
          refine rz_blk' [(.iload 5, 2, 0, 0), (.aload_n 0, 1, 0, 0), (.getfield 263, 3, 10, 30), (.if_icmp .ge 40, 3, 0, 0)] (by decide +kernel) (Nat.le_refl _) (Nat.le_refl _) (fun K R hK hR => ?_)
          simp only [↓rx_aload_n0, ↓rx_getfield, ↓rx_if_icmp_ge, ↓rx_iload, ↓rx_nil, ↓ry_i2, ↓ry_li0s, ↓ry_li0z, ↓ry_lr0s, ↓ry_lr0z, ↓ry_obu, ↓ry_r1, ↓re_F30, ↓re_ob, i30, n1, rz_set, rz_nol, rz_clr, List.set_cons_zero, List.set_cons_succ, rz_tr, Nat.reduceAdd, Int.reduceAdd, Int.reduceToNat, Int.reduceSub, Int.reduceNeg, Int.cast_ofNat_Int]
          try simp (disch := omega) only [i30, n1, pk_us, pk_un, va_up_self, va_up_ne, nI_add, pk_mul, nI_clamp, vp_inT, nI_ltI, nI_leI, nI_eqI, pk_sub, true_and, and_true]
          refine ⟨fun q6 => hK _ _ _ _ ?_, fun q6 => by omega⟩
          exact hcg en I2 A2 _ _ _ (by omega) (by omega) i2 a2 hgr (fun x hx => by rw [List.getElem?_eq_none (by omega)] at hx; cases hx)
        | succ j ihc =>
          intro en I2 A2 hej hce2 i2 a2 hgr
          have i30 := i2 30 rfl
          have hel : en < N1.length := by omega
          obtain ⟨p1, p2, p3, p4, p5, p6, p7, p8, p9⟩ := n3 en hel
          have e36' : A2 36 en = nI N1[en].2 := by rw [a2 36 rfl]; exact p6
          have hxe := List.getElem?_eq_getElem hel
          have hb := hb72 en (by omega)
          have hea := c_Mod_endsApart (w := w) (d := d + 1) (G := G) (a := a) (I := I2) (A := A2) (c := en) (n := N1[en].1) hg hh2 (re_t_fa (re_t_fa t1 ka rfl) a2 rfl) (re_t_fa (re_t_fa t2 ka rfl) a2 rfl) w1' w2' (by omega) (by rw [a2 31 rfl]; exact p1) (by rw [a2 32 rfl]; exact p2) (by rw [a2 33 rfl]; exact p3) (by rw [a2 34 rfl]; exact p4) (by rw [a2 35 rfl]; exact p5) p7 (by omega)
          refine rz_blk' [(.iload 5, 2, 0, 0), (.aload_n 0, 1, 0, 0), (.getfield 263, 3, 10, 30), (.if_icmp .ge 40, 3, 0, 0)] (by decide +kernel) (Nat.le_refl _) (Nat.le_refl _) (fun K R hK hR => ?_)
          simp only [↓rx_aload_n0, ↓rx_getfield, ↓rx_if_icmp_ge, ↓rx_iload, ↓rx_nil, ↓ry_i2, ↓ry_li0s, ↓ry_li0z, ↓ry_lr0s, ↓ry_lr0z, ↓ry_obu, ↓ry_r1, ↓re_F30, ↓re_ob, i30, n1, e36', rz_set, rz_nol, rz_clr, List.set_cons_zero, List.set_cons_succ, rz_tr, Nat.reduceAdd, Int.reduceAdd, Int.reduceToNat, Int.reduceSub, Int.reduceNeg, Int.cast_ofNat_Int]
          try simp (disch := omega) only [i30, n1, e36', rb_0, pk_us, pk_un, va_up_self, va_up_ne, nI_add, pk_mul, nI_clamp, vp_inT, nI_ltI, nI_leI, nI_eqI, pk_sub, true_and, and_true]
          refine ⟨fun q7 => by omega, fun q7 => hK _ _ _ _ ?_⟩
          refine rz_blk' [(.aload_n 0, 1, 0, 0), (.getfield 105, 3, 10, 36), (.iload 5, 2, 0, 0), (.iaload, 1, 0, 0), (.iload 4, 2, 0, 0), (.if_icmp .ne 28, 3, 0, 0)] (by decide +kernel) (Nat.le_refl _) (Nat.le_refl _) (fun K R hK hR => ?_)
          simp only [↓rx_aload_n0, ↓rx_getfield, ↓rx_iaload, ↓rx_if_icmp_ne, ↓rx_iload, ↓rx_nil, ↓ry_i2, ↓ry_iau, ↓ry_li0s, ↓ry_li0z, ↓ry_lr0s, ↓ry_lr0z, ↓ry_obu, ↓ry_r1, ↓ry_ri, true_and, re_a36, ↓re_F36, ↓re_i36, ↓re_ob, i30, n1, e36', rz_set, rz_nol, rz_clr, List.set_cons_zero, List.set_cons_succ, rz_tr, Nat.reduceAdd, Int.reduceAdd, Int.reduceToNat, Int.reduceSub, Int.reduceNeg, Int.cast_ofNat_Int]
          try simp (disch := omega) only [i30, n1, e36', rb_0, pk_us, pk_un, va_up_self, va_up_ne, nI_add, pk_mul, nI_clamp, vp_inT, nI_ltI, nI_leI, nI_eqI, pk_sub, true_and, and_true]
          refine ⟨fun q8 => hK _ _ _ _ ?_, fun q8 => hK _ _ _ _ ?_⟩
          · -- 39 taken
            refine hcg en I2 A2 _ _ _ ?_ (by omega) i2 a2 hgr (fun x hx => by rw [hxe] at hx; cases hx; omega)
            rcases Nat.lt_or_ge ci en with q | q
            · exact q
            · have e : en = ci := by omega
              subst e
              rw [hx0] at hxe
              have := congrArg Prod.snd (Option.some.inj hxe)
              exact absurd this.symm q8
          · -- 39 not taken
            refine rz_blk' [(.aload_n 0, 1, 0, 0), (.iload 5, 2, 0, 0), (.iload_n 1, 1, 0, 0), (.iload_n 2, 1, 0, 0)] (by decide +kernel) (Nat.le_refl _) (Nat.le_refl _) (fun K R hK hR => ?_)
            simp only [↓rx_aload_n0, ↓rx_iload, ↓rx_iload_n1, ↓rx_iload_n2, ↓rx_nil, ↓ry_li0s, ↓ry_li0z, ↓ry_lr0s, ↓ry_lr0z, i30, n1, e36', rz_set, rz_nol, rz_clr, List.set_cons_zero, List.set_cons_succ, rz_tr, Nat.reduceAdd, Int.reduceAdd, Int.reduceToNat, Int.reduceSub, Int.reduceNeg, Int.cast_ofNat_Int]
            try simp (disch := omega) only [i30, n1, e36', rb_0, pk_us, pk_un, va_up_self, va_up_ne, nI_add, pk_mul, nI_clamp, vp_inT, nI_ltI, nI_leI, nI_eqI, pk_sub, true_and, and_true]
            refine hK _ _ _ _ ?_
            refine rz_cV (As := [.int (nI en), .int (nI g), .int (nI hh)]) (b := a) (S := []) l_Mod_290 (by decide +kernel) rfl re_at0 rfl (Nat.le_of_ble_eq_true rfl) (Nat.le_refl _) (Nat.le_refl _) (hea) (fun r G' hr => ?_)
            obtain ⟨rfl, I3, A3, rfl, i3, a3⟩ := hr
            simp only [Option.toList, List.cons_append, List.nil_append]
            refine rz_blk' [(.ifCond .eq 11, 3, 0, 0)] (by decide +kernel) (Nat.le_refl _) (Nat.le_refl _) (fun K R hK hR => ?_)
            simp only [↓rx_ifCond_eq, ↓rx_nil, ↓ry_i1, i30, n1, e36', rz_set, rz_nol, rz_clr, List.set_cons_zero, List.set_cons_succ, rz_tr, Nat.reduceAdd, Int.reduceAdd, Int.reduceToNat, Int.reduceSub, Int.reduceNeg, Int.cast_ofNat_Int]
            try simp (disch := omega) only [i30, n1, e36', rb_0, pk_us, pk_un, va_up_self, va_up_ne, nI_add, pk_mul, nI_clamp, vp_inT, nI_ltI, nI_leI, nI_eqI, pk_sub, true_and, and_true]
            refine ⟨fun q9 => hK _ _ _ _ ?_, fun q9 => hK _ _ _ _ ?_⟩
            · -- 50 taken
              have i4 : fi [26, 27] I1 I3 := i2.t i3 rfl
              have a4 : fa [28, 29] A1 A3 := a2.t a3 rfl
              refine rz_blk' [(.iinc 5 1, 3, 0, 0)] (by decide +kernel) (Nat.le_refl _) (Nat.le_refl _) (fun K R hK hR => ?_)
              simp only [rw_c1, ↓rx_iinc, ↓rx_nil, ↓ry_li0s, ↓ry_li0z, i30, n1, e36', rz_set, rz_nol, rz_clr, List.set_cons_zero, List.set_cons_succ, rz_tr, Nat.reduceAdd, Int.reduceAdd, Int.reduceToNat, Int.reduceSub, Int.reduceNeg, Int.cast_ofNat_Int]
              try simp (disch := omega) only [i30, n1, e36', rb_0, pk_us, pk_un, va_up_self, va_up_ne, nI_add, pk_mul, nI_clamp, vp_inT, nI_ltI, nI_leI, nI_eqI, pk_sub, true_and, and_true]
              refine hK _ _ _ _ ?_
              refine rz_blk' [(.goto (-43), 3, 0, 0)] (by decide +kernel) (Nat.le_refl _) (Nat.le_refl _) (fun K R hK hR => ?_)
              simp only [↓rx_goto, ↓rx_nil, i30, n1, e36', rz_set, rz_nol, rz_clr, List.set_cons_zero, List.set_cons_succ, rz_tr, Nat.reduceAdd, Int.reduceAdd, Int.reduceToNat, Int.reduceSub, Int.reduceNeg, Int.cast_ofNat_Int]
              try simp (disch := omega) only [i30, n1, e36', rb_0, pk_us, pk_un, va_up_self, va_up_ne, nI_add, pk_mul, nI_clamp, vp_inT, nI_ltI, nI_leI, nI_eqI, pk_sub, true_and, and_true]
              refine hK _ _ _ _ ?_
              refine ihc (en + 1) I3 A3 (by omega) (by omega) i4 a4 (fun i x h1 h2 hx => ?_)
              by_cases q : i = en
              · subst q
                rw [hxe] at hx
                cases hx
                exact ⟨q9, by omega⟩
              · exact hgr i x h1 (by omega) hx
            · -- 50 not taken
              refine rz_blk' [(.aload_n 0, 1, 0, 0), (.iload 4, 2, 0, 0), (.putfield 293, 3, 10, 41)] (by decide +kernel) (Nat.le_refl _) (Nat.le_refl _) (fun K R hK hR => ?_)
              simp only [List.length_cons, List.length_nil, Nat.reduceLT, rf_10_41, ↓rx_aload_n0, ↓rx_iload, ↓rx_nil, ↓rx_putfield, ↓ry_li0s, ↓ry_li0z, ↓ry_lr0s, ↓ry_lr0z, ↓ry_obu, ↓ry_vr, true_and, re_len, re_u41, ↓re_ob, i30, n1, e36', rz_set, rz_nol, rz_clr, List.set_cons_zero, List.set_cons_succ, rz_tr, Nat.reduceAdd, Int.reduceAdd, Int.reduceToNat, Int.reduceSub, Int.reduceNeg, Int.cast_ofNat_Int]
              try simp (disch := omega) only [i30, n1, e36', rb_0, pk_us, pk_un, va_up_self, va_up_ne, nI_add, pk_mul, nI_clamp, vp_inT, nI_ltI, nI_leI, nI_eqI, pk_sub, true_and, and_true]
              refine hK _ _ _ _ ?_
              refine rz_blk' [(.iconst 1, 1, 0, 0), (.ireturn, 1, 0, 0)] (by decide +kernel) (Nat.le_refl _) (Nat.le_refl _) (fun K R hK hR => ?_)
              simp only [rw_c1, ↓rx_iconst, ↓rx_ireturn, ↓rx_nil, i30, n1, e36', rz_set, rz_nol, rz_clr, List.set_cons_zero, List.set_cons_succ, rz_tr, Nat.reduceAdd, Int.reduceAdd, Int.reduceToNat, Int.reduceSub, Int.reduceNeg, Int.cast_ofNat_Int]
              try simp (disch := omega) only [i30, n1, e36', rb_0, pk_us, pk_un, va_up_self, va_up_ne, nI_add, pk_mul, nI_clamp, vp_inT, nI_ltI, nI_leI, nI_eqI, pk_sub, true_and, and_true]
              refine hR _ _ rz_nb_1 ?_
              rw [← hQ]
              have i4 : fi [26, 27] I1 I3 := i2.t i3 rfl
              have a4 : fa [28, 29] A1 A3 := a2.t a3 rfl
              refine ⟨_, _, N1, W, true, rfl, rfl, (ki.t i4 rfl).u rfl, ka.t a4 rfl, xw_keep kw ?_ (a4 39 rfl) (a4 40 rfl), by omega, Or.inr ⟨rfl, ci, w0, kx, pk_us, hw0, ⟨en, _, hce2, hxe, by omega, by simpa using q9⟩, fun j x hj hx => ?_⟩⟩
              · rw [pk_un (by decide)]; exact i4 38 rfl
              · exact kx.2.1 ci j (n0, w0) x hj hx0 hx
      refine rz_blk' [(.iload_n 3, 1, 0, 0), (.aload_n 0, 1, 0, 0), (.getfield 263, 3, 10, 30), (.if_icmp .ge 119, 3, 0, 0)] (by decide +kernel) (Nat.le_refl _) (Nat.le_refl _) (fun K R hK hR => ?_)
      simp only [↓rx_aload_n0, ↓rx_getfield, ↓rx_if_icmp_ge, ↓rx_iload_n3, ↓rx_nil, ↓ry_i2, ↓ry_li0s, ↓ry_li0z, ↓ry_lr0s, ↓ry_lr0z, ↓ry_obu, ↓ry_r1, ↓re_F30, ↓re_ob, n1, e36, rz_set, rz_nol, rz_clr, List.set_cons_zero, List.set_cons_succ, rz_tr, Nat.reduceAdd, Int.reduceAdd, Int.reduceToNat, Int.reduceSub, Int.reduceNeg, Int.cast_ofNat_Int]
      try simp (disch := omega) only [n1, e36, pk_us, pk_un, va_up_self, va_up_ne, nI_add, pk_mul, nI_clamp, vp_inT, nI_ltI, nI_leI, nI_eqI, pk_sub, true_and, and_true]
      refine ⟨fun q10 => by omega, fun q10 => hK _ _ _ _ ?_⟩
      refine rz_blk' [(.aload_n 0, 1, 0, 0), (.getfield 105, 3, 10, 36), (.iload_n 3, 1, 0, 0), (.iaload, 1, 0, 0), (.istore 4, 2, 0, 0)] (by decide +kernel) (Nat.le_refl _) (Nat.le_refl _) (fun K R hK hR => ?_)
      simp only [↓rx_aload_n0, ↓rx_getfield, ↓rx_iaload, ↓rx_iload_n3, ↓rx_istore, ↓rx_nil, ↓ry_i1, ↓ry_iau, ↓ry_li0s, ↓ry_li0z, ↓ry_lr0s, ↓ry_lr0z, ↓ry_obu, ↓ry_r1, ↓ry_ri, true_and, re_a36, ↓re_F36, ↓re_i36, ↓re_ob, n1, e36, rz_set, rz_nol, rz_clr, List.set_cons_zero, List.set_cons_succ, rz_tr, Nat.reduceAdd, Int.reduceAdd, Int.reduceToNat, Int.reduceSub, Int.reduceNeg, Int.cast_ofNat_Int]
      try simp (disch := omega) only [n1, e36, pk_us, pk_un, va_up_self, va_up_ne, nI_add, pk_mul, nI_clamp, vp_inT, nI_ltI, nI_leI, nI_eqI, pk_sub, true_and, and_true]
      refine hK _ _ _ _ ?_
      refine rz_blk' [(.iload_n 3, 1, 0, 0), (.istore 5, 2, 0, 0)] (by decide +kernel) (Nat.le_refl _) (Nat.le_refl _) (fun K R hK hR => ?_)
      simp only [↓rx_iload_n3, ↓rx_istore, ↓rx_nil, ↓ry_i1, ↓ry_li0s, ↓ry_li0z, n1, e36, rz_set, rz_nol, rz_clr, List.set_cons_zero, List.set_cons_succ, rz_tr, Nat.reduceAdd, Int.reduceAdd, Int.reduceToNat, Int.reduceSub, Int.reduceNeg, Int.cast_ofNat_Int]
      try simp (disch := omega) only [n1, e36, pk_us, pk_un, va_up_self, va_up_ne, nI_add, pk_mul, nI_clamp, vp_inT, nI_ltI, nI_leI, nI_eqI, pk_sub, true_and, and_true]
      refine hK _ _ _ _ ?_
      exact cl (N1.length - ci) ci I1 A1 (by omega) (Nat.le_refl _) fi.rf fa.rf (fun i x h1 h2 _ => absurd h2 (by omega))
  refine rz_enter' [some (.ref a), some (.int (nI g)), some (.int (nI hh)), none, none, none, none, none, none] (by decide +kernel) rfl rfl (Nat.le_of_ble_eq_true rfl) rfl ?_
  refine rz_blk' [(.iconst 0, 1, 0, 0), (.istore_n 3, 1, 0, 0)] (by decide +kernel) (Nat.le_refl _) (Nat.le_refl _) (fun K R hK hR => ?_)
  simp only [rw_c0, ↓rx_iconst, ↓rx_istore_n3, ↓rx_nil, ↓ry_i1, rz_set, rz_nol, rz_clr, List.set_cons_zero, List.set_cons_succ, rz_tr, Nat.reduceAdd, Int.reduceAdd, Int.reduceToNat, Int.reduceSub, Int.reduceNeg, Int.cast_ofNat_Int]
  try simp (disch := omega) only [pk_us, pk_un, va_up_self, va_up_ne, nI_add, pk_mul, nI_clamp, vp_inT, nI_ltI, nI_leI, nI_eqI, pk_sub, true_and, and_true]
  refine hK _ _ _ _ ?_
  refine wl 73 0 N [[]] I A _ _ _ _ _ (by omega) (Nat.zero_le _) fi.rf fa.rf hN hk hw (by simp) ⟨hd, ?_, ?_, ?_, ?_, ?_, ?_, fun x hx => Or.inl hx, fun x hx => hx⟩
  · intro i j x y _ hx hy
    rw [h0 x (List.mem_of_getElem? hx), h0 y (List.mem_of_getElem? hy)]; exact Nat.le_refl _
  · intro x hx; rw [h0 x hx]; decide
  · intro i j u v hij hu hv
    have := (List.getElem?_eq_some_iff.mp hv).1
    simp at this; omega
  · intro i j x y hi; omega
  · intro u hu j x v _ hx hv
    simp at hu; subst hu
    show 0 < _; omega
  · intro i x hi; omega
