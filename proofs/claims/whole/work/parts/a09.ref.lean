/-! the reference: steadiness, isSteady -/
theorem lcpn_self : ∀ u : List Nat, lcpn u u = u.length
  | [] => rfl
  | x :: u => by simp [lcpn, lcpn_self u]
theorem sp_1_sh {most n : Nat} {x : pd_T} {e f : xe_T} {S : List pd_T × Nat} : sp_1 most x e (S.1, n + S.2) f = ((sp_1 most x e S f).1, n + (sp_1 most x e S f).2) := by
  unfold sp_1; split
  · simp only [Nat.add_assoc]
  · rfl
theorem sh_fold {α : Type} {f : List pd_T × Nat → α → List pd_T × Nat} {n : Nat} (h : ∀ S a, f (S.1, n + S.2) a = ((f S a).1, n + (f S a).2)) : ∀ (l : List α) (S : List pd_T × Nat), l.foldl f (S.1, n + S.2) = ((l.foldl f S).1, n + (l.foldl f S).2)
  | [], S => rfl
  | a :: l, S => by rw [List.foldl_cons, List.foldl_cons, h, sh_fold h l]
theorem sp_3_sh {most n : Nat} {es : List xe_T} {P : List pd_T} {x : pd_T} : sp_3 most es (P, n) x = ((sp_3 most es (P, 0) x).1, n + (sp_3 most es (P, 0) x).2) := by
  have h2 : ∀ (S : List pd_T × Nat) (e : xe_T), sp_2 most x es (S.1, n + S.2) e = ((sp_2 most x es S e).1, n + (sp_2 most x es S e).2) := fun S e => sh_fold (fun S f => sp_1_sh) es S
  exact sh_fold h2 es (P, 0)
theorem lgx_le {T : mv_T} (h : tw T 3) : lgx T ≤ 3 := by
  have hm : ∀ {a b : Nat}, a ≤ 3 → b ≤ 3 → max a b ≤ 3 := fun h1 h2 => Nat.max_le.mpr ⟨h1, h2⟩
  have h1 : ∀ (l : List Nat) (g : Nat), g ≤ 3 → l.foldl (fun g q => max g ((T.2.2.1 q).getD []).length) g ≤ 3 := by
    intro l
    induction l with
    | nil => intro g hg; exact hg
    | cons q l ih => intro g hg; exact ih _ (hm hg (tw_f h))
  have h2 : ∀ (l : List xe_T) (g : Nat), (∀ e ∈ l, e.2.2.2.length ≤ 3) → g ≤ 3 → l.foldl (fun g e => max g e.2.2.2.length) g ≤ 3 := by
    intro l
    induction l with
    | nil => intro g _ hg; exact hg
    | cons e l ih => intro g he hg; exact ih _ (fun x hx => he x (List.mem_cons_of_mem _ hx)) (hm hg (he e List.mem_cons_self))
  exact h2 _ _ (fun e he => (h.2.2.1 e he).2.2.2.1) (h1 _ _ (hm (by decide) h.2.2.2.2.2.1))
theorem hp_cntx (s : Nat) : hp_cnt s ≤ 6 := by
  have := List.countP_le_length (p := fun q => s.testBit q) (l := List.range 6)
  simpa [hp_cnt] using this
theorem lgm_le {T : mv_T} (h : tw T 3) : lgm T ≤ 108 := by
  have h1 := hp_cntx T.1
  have h2 := lgx_le h
  have h3 : hp_cnt T.1 * hp_cnt T.1 ≤ 6 * 6 := Nat.mul_le_mul h1 h1
  exact Nat.le_trans (Nat.mul_le_mul h3 h2) (by decide)
set_option maxRecDepth 100000 in
set_option maxHeartbeats 4000000 in
theorem c_Mod_steadiness {w : rz_w} {d : Nat} {G : rz_G} {a : Nat} {I : Nat → Int32} {A : Nat → Nat → Int32} {T : mv_T} (t : re_t A 0 T) (w1 : tw T 3) : rz_C w (d + 3) 0 0 y_Mod_steadiness m_Mod_steadiness [.ref a] (re_put G a I A) (fun (r : Option Value) (G' : rz_G) => ∃ I' A' v, r = some (.int (nI v)) ∧ v ≤ 2 ∧ sdv T v ∧ G' = re_put G a I' A' ∧ fi [26, 27, 58, 64] I I' ∧ fa [28, 29, 59, 60, 61, 62, 63] A A') := by
  generalize hQ : (fun (r : Option Value) (G' : rz_G) => ∃ I' A' v, r = some (.int (nI v)) ∧ v ≤ 2 ∧ sdv T v ∧ G' = re_put G a I' A' ∧ fi [26, 27, 58, 64] I I' ∧ fa [28, 29, 59, 60, 61, 62, 63] A A') = Q
  have w1' := tw_m w1 (show 3 ≤ 32 by decide)
  have hm108 := lgm_le w1
  have hc6 := hp_cntx T.1
  have hfin : ∀ (v : Nat) (I1 : Nat → Int32) (A1 : Nat → Nat → Int32), v ≤ 2 → hp_cnt T.1 ≠ 0 → vd T (lgm T) v → fi [26, 27, 58, 64] I I1 → fa [28, 29, 59, 60, 61, 62, 63] A A1 → Q (some (.int (nI v))) (re_put G a I1 A1) := by
    intro v I1 A1 hv hc hvd i1 a1
    rw [← hQ]
    exact ⟨I1, A1, v, rfl, hv, by unfold sdv; rw [if_neg hc]; exact hvd, rfl, i1, a1⟩
  have wl : hp_cnt T.1 ≠ 0 → ∀ (n done : Nat) (P : List pd_T) (I1 : Nat → Int32) (A1 : Nat → Nat → Int32) (z3 z4 z5 : Option Value), 3002 - done ≤ n → fi [26, 27, 58, 64] I I1 → fa [28, 29, 59, 60, 61, 62, 63] A A1 → pd_is I1 A1 P → I1 64 = nI (lgm T) → P.length ≤ 3000 → ((done < P.length ∧ sd_i T (lgm T) P done) ∨ (done = P.length ∧ vd T (lgm T) 1)) → rz_T w (d + 3) 0 0 m_Mod_steadiness 0 0 93 [some (.ref a), some (.int (nI (hp_cnt T.1))), some (.int (nI done)), z3, z4, z5] [] (re_put G a I1 A1) Q := by
    intro hc0 n
    induction n with
    | zero =>
      intro done P I1 A1 z3 z4 z5 hn ki ka kp km kl kx
      rcases kx with ⟨q, -⟩ | ⟨q, -⟩ <;> omega
    | succ n ih =>
      intro done P I1 A1 z3 z4 z5 hn ki ka kp km kl kx
      have k58 := kp.1
      rcases kx with ⟨hd, kx⟩ | ⟨hd, hv1⟩
      rotate_left
      · subst hd
        refine rz_blk' [(.iload_n 2, 1, 0, 0), (.aload_n 0, 1, 0, 0), (.getfield 348, 3, 10, 58), (.if_icmp .ge 61, 3, 0, 0)] (by decide +kernel) (Nat.le_refl _) (Nat.le_refl _) (fun K R hK hR => ?_)
        simp only [↓rx_aload_n0, ↓rx_getfield, ↓rx_if_icmp_ge, ↓rx_iload_n2, ↓rx_nil, ↓ry_i2, ↓ry_li0s, ↓ry_li0z, ↓ry_lr0s, ↓ry_lr0z, ↓ry_obu, ↓ry_r1, ↓re_F58, ↓re_ob, k58, rz_set, rz_nol, rz_clr, List.set_cons_zero, List.set_cons_succ, rz_tr, Nat.reduceAdd, Int.reduceAdd, Int.reduceToNat, Int.reduceSub, Int.reduceNeg, Int.cast_ofNat_Int]
        try simp (disch := omega) only [k58, pk_us, pk_un, va_up_self, va_up_ne, nI_add, pk_mul, nI_clamp, vp_inT, nI_ltI, nI_leI, nI_eqI, pk_sub, true_and, and_true]
        refine ⟨fun q1 => hK _ _ _ _ ?_, fun q1 => by omega⟩
        refine rz_blk' [(.iconst 1, 1, 0, 0), (.ireturn, 1, 0, 0)] (by decide +kernel) (Nat.le_refl _) (Nat.le_refl _) (fun K R hK hR => ?_)
        simp only [rw_c1, ↓rx_iconst, ↓rx_ireturn, ↓rx_nil, k58, rz_set, rz_nol, rz_clr, List.set_cons_zero, List.set_cons_succ, rz_tr, Nat.reduceAdd, Int.reduceAdd, Int.reduceToNat, Int.reduceSub, Int.reduceNeg, Int.cast_ofNat_Int]
        try simp (disch := omega) only [k58, pk_us, pk_un, va_up_self, va_up_ne, nI_add, pk_mul, nI_clamp, vp_inT, nI_ltI, nI_leI, nI_eqI, pk_sub, true_and, and_true]
        exact hR _ _ (rz_nb_i (by decide)) (hfin 1 I1 A1 (by omega) hc0 hv1 ki ka)
      generalize hxs : P.drop done = xs
      have hxl : xs.length = P.length - done := by rw [← hxs, List.length_drop]
      have cl : ∀ (j c : Nat) (S : List pd_T × Nat) (I2 : Nat → Int32) (A2 : Nat → Nat → Int32), c + j = P.length → done ≤ c → S = sp_l (lgm T) T.2.1 (P, 0) (xs.take (c - done)) → S.2 ≤ 576 * (c - done) → fi [26, 27, 58, 64] I I2 → fa [28, 29, 59, 60, 61, 62, 63] A A2 → pd_is I2 A2 S.1 → I2 64 = nI (lgm T) → rz_T w (d + 3) 0 0 m_Mod_steadiness 0 0 112 [some (.ref a), some (.int (nI (hp_cnt T.1))), some (.int (nI done)), some (.int (nI P.length)), some (.int (nI S.2)), some (.int (nI c))] [] (re_put G a I2 A2) Q := by
        intro j
        induction j with
        | zero =>
          intro c S I2 A2 hcj hdc hS hS2 i2 a2 p2 m2
          have hc : c = P.length := by omega
          subst hc
          rw [List.take_of_length_le (by omega)] at hS
          rw [← hxs] at hS
          obtain ⟨s1, s2, s3⟩ := sd_step kx hd hS
          have h58 := p2.1
          have hSl := p2.2.1
          have hz := nI_le0 (k := S.2) (by omega)
          refine rz_blk' [(.iload 5, 2, 0, 0), (.iload_n 3, 1, 0, 0), (.if_icmp .ge 20, 3, 0, 0)] (by decide +kernel) (Nat.le_refl _) (Nat.le_refl _) (fun K R hK hR => ?_)
          simp only [↓rx_if_icmp_ge, ↓rx_iload, ↓rx_iload_n3, ↓rx_nil, ↓ry_i2, ↓ry_li0s, ↓ry_li0z, h58, rz_set, rz_nol, rz_clr, List.set_cons_zero, List.set_cons_succ, rz_tr, Nat.reduceAdd, Int.reduceAdd, Int.reduceToNat, Int.reduceSub, Int.reduceNeg, Int.cast_ofNat_Int]
          try simp (disch := omega) only [h58, hz, pk_us, pk_un, va_up_self, va_up_ne, nI_add, pk_mul, nI_clamp, vp_inT, nI_ltI, nI_leI, nI_eqI, pk_sub, true_and, and_true]
          refine ⟨fun q2 => hK _ _ _ _ ?_, fun q2 => by omega⟩
          refine rz_blk' [(.iload 4, 2, 0, 0), (.ifCond .le 5, 3, 0, 0)] (by decide +kernel) (Nat.le_refl _) (Nat.le_refl _) (fun K R hK hR => ?_)
          simp only [↓rx_ifCond_le, ↓rx_iload, ↓rx_nil, ↓ry_i1, ↓ry_li0s, ↓ry_li0z, h58, rz_set, rz_nol, rz_clr, List.set_cons_zero, List.set_cons_succ, rz_tr, Nat.reduceAdd, Int.reduceAdd, Int.reduceToNat, Int.reduceSub, Int.reduceNeg, Int.cast_ofNat_Int]
          try simp (disch := omega) only [h58, hz, pk_us, pk_un, va_up_self, va_up_ne, nI_add, pk_mul, nI_clamp, vp_inT, nI_ltI, nI_leI, nI_eqI, pk_sub, true_and, and_true]
          refine ⟨fun q3 => hK _ _ _ _ ?_, fun q3 => hK _ _ _ _ ?_⟩
          · -- 137 taken
            refine rz_blk' [(.aload_n 0, 1, 0, 0), (.getfield 348, 3, 10, 58), (.sipush 3000, 3, 0, 0), (.if_icmp .le 5, 3, 0, 0)] (by decide +kernel) (Nat.le_refl _) (Nat.le_refl _) (fun K R hK hR => ?_)
            simp only [rw_s3000, ↓rx_aload_n0, ↓rx_getfield, ↓rx_if_icmp_le, ↓rx_nil, ↓rx_sipush, ↓ry_i2, ↓ry_lr0s, ↓ry_lr0z, ↓ry_obu, ↓ry_r1, ↓re_F58, ↓re_ob, h58, rz_set, rz_nol, rz_clr, List.set_cons_zero, List.set_cons_succ, rz_tr, Nat.reduceAdd, Int.reduceAdd, Int.reduceToNat, Int.reduceSub, Int.reduceNeg, Int.cast_ofNat_Int]
            try simp (disch := omega) only [h58, hz, pk_us, pk_un, va_up_self, va_up_ne, nI_add, pk_mul, nI_clamp, vp_inT, nI_ltI, nI_leI, nI_eqI, pk_sub, true_and, and_true]
            refine ⟨fun q4 => hK _ _ _ _ ?_, fun q4 => hK _ _ _ _ ?_⟩
            · -- 149 taken
              refine rz_blk' [(.iload_n 3, 1, 0, 0), (.istore_n 2, 1, 0, 0)] (by decide +kernel) (Nat.le_refl _) (Nat.le_refl _) (fun K R hK hR => ?_)
              simp only [↓rx_iload_n3, ↓rx_istore_n2, ↓rx_nil, ↓ry_i1, ↓ry_li0s, ↓ry_li0z, h58, rz_set, rz_nol, rz_clr, List.set_cons_zero, List.set_cons_succ, rz_tr, Nat.reduceAdd, Int.reduceAdd, Int.reduceToNat, Int.reduceSub, Int.reduceNeg, Int.cast_ofNat_Int]
              try simp (disch := omega) only [h58, hz, pk_us, pk_un, va_up_self, va_up_ne, nI_add, pk_mul, nI_clamp, vp_inT, nI_ltI, nI_leI, nI_eqI, pk_sub, true_and, and_true]
              refine hK _ _ _ _ ?_
              refine rz_blk' [(.goto (-63), 3, 0, 0)] (by decide +kernel) (Nat.le_refl _) (Nat.le_refl _) (fun K R hK hR => ?_)
              simp only [↓rx_goto, ↓rx_nil, h58, rz_set, rz_nol, rz_clr, List.set_cons_zero, List.set_cons_succ, rz_tr, Nat.reduceAdd, Int.reduceAdd, Int.reduceToNat, Int.reduceSub, Int.reduceNeg, Int.cast_ofNat_Int]
              try simp (disch := omega) only [h58, hz, pk_us, pk_un, va_up_self, va_up_ne, nI_add, pk_mul, nI_clamp, vp_inT, nI_ltI, nI_leI, nI_eqI, pk_sub, true_and, and_true]
              refine hK _ _ _ _ ?_
              have hz0 : S.2 = 0 := by first | exact q3 | simpa using q3
              refine ih P.length S.1 I2 A2 _ _ _ (by omega) i2 a2 p2 m2 (by omega) ?_
              rcases s3 hz0 (by omega) with ⟨q1, q2⟩ | ⟨q1, q2⟩
              · exact Or.inr ⟨q1.symm, q2⟩
              · exact Or.inl ⟨q1, q2⟩
            · -- 149 not taken
              refine rz_blk' [(.iconst 2, 1, 0, 0), (.ireturn, 1, 0, 0)] (by decide +kernel) (Nat.le_refl _) (Nat.le_refl _) (fun K R hK hR => ?_)
              simp only [rw_c2, ↓rx_iconst, ↓rx_ireturn, ↓rx_nil, h58, rz_set, rz_nol, rz_clr, List.set_cons_zero, List.set_cons_succ, rz_tr, Nat.reduceAdd, Int.reduceAdd, Int.reduceToNat, Int.reduceSub, Int.reduceNeg, Int.cast_ofNat_Int]
              try simp (disch := omega) only [h58, hz, pk_us, pk_un, va_up_self, va_up_ne, nI_add, pk_mul, nI_clamp, vp_inT, nI_ltI, nI_leI, nI_eqI, pk_sub, true_and, and_true]
              exact hR _ _ (rz_nb_i (by decide)) (hfin 2 I2 A2 (by omega) hc0 (s2 (by omega) (by omega)) i2 a2)
          · -- 137 not taken
            refine rz_blk' [(.iconst 0, 1, 0, 0), (.ireturn, 1, 0, 0)] (by decide +kernel) (Nat.le_refl _) (Nat.le_refl _) (fun K R hK hR => ?_)
            simp only [rw_c0, ↓rx_iconst, ↓rx_ireturn, ↓rx_nil, h58, rz_set, rz_nol, rz_clr, List.set_cons_zero, List.set_cons_succ, rz_tr, Nat.reduceAdd, Int.reduceAdd, Int.reduceToNat, Int.reduceSub, Int.reduceNeg, Int.cast_ofNat_Int]
            try simp (disch := omega) only [h58, hz, pk_us, pk_un, va_up_self, va_up_ne, nI_add, pk_mul, nI_clamp, vp_inT, nI_ltI, nI_leI, nI_eqI, pk_sub, true_and, and_true]
            exact hR _ _ (rz_nb_i (by decide)) (hfin 0 I2 A2 (by omega) hc0 (s1 (by omega)) i2 a2)
        | succ j ihc =>
          intro c S I2 A2 hcj hdc hS hS2 i2 a2 p2 m2
          have hcP : c < P.length := by omega
          obtain ⟨x, hx⟩ : ∃ x, P[c]? = some x := ⟨_, List.getElem?_eq_getElem hcP⟩
          have hxs2 : xs[c - done]? = some x := by rw [← hxs, List.getElem?_drop, show done + (c - done) = c by omega]; exact hx
          have hxs3 := (List.getElem?_eq_some_iff.mp hxs2).2
          have hSr := (sp_l_r (most := lgm T) (T := T) (xs := xs.take (c - done)) (S := (P, 0))).1
          rw [← hS] at hSr
          have hSx : S.1[c]? = some x := hSr.get hx
          have hst : sp_l (lgm T) T.2.1 (P, 0) (xs.take (c + 1 - done)) = sp_3 (lgm T) T.2.1 S x := by
            rw [show c + 1 - done = c - done + 1 by omega, sp_l, foldl_take _ _ _ (by omega), hS, hxs3]; rfl
          have hsh : sp_3 (lgm T) T.2.1 S x = ((sp_3 (lgm T) T.2.1 (S.1, 0) x).1, S.2 + (sp_3 (lgm T) T.2.1 (S.1, 0) x).2) := sp_3_sh (P := S.1) (n := S.2)
          have hcl := c_Mod_stepPair (w := w) (d := d) (G := G) (a := a) (I := I2) (A := A2) (re_t_fa t a2 rfl) w1 p2 m2 hm108 hSx
          refine rz_blk' [(.iload 5, 2, 0, 0), (.iload_n 3, 1, 0, 0), (.if_icmp .ge 20, 3, 0, 0)] (by decide +kernel) (Nat.le_refl _) (Nat.le_refl _) (fun K R hK hR => ?_)
          simp only [↓rx_if_icmp_ge, ↓rx_iload, ↓rx_iload_n3, ↓rx_nil, ↓ry_i2, ↓ry_li0s, ↓ry_li0z, rz_set, rz_nol, rz_clr, List.set_cons_zero, List.set_cons_succ, rz_tr, Nat.reduceAdd, Int.reduceAdd, Int.reduceToNat, Int.reduceSub, Int.reduceNeg, Int.cast_ofNat_Int]
          try simp (disch := omega) only [pk_us, pk_un, va_up_self, va_up_ne, nI_add, pk_mul, nI_clamp, vp_inT, nI_ltI, nI_leI, nI_eqI, pk_sub, true_and, and_true]
          refine ⟨fun q5 => by omega, fun q5 => hK _ _ _ _ ?_⟩
          refine rz_blk' [(.iload 4, 2, 0, 0), (.aload_n 0, 1, 0, 0), (.iload 5, 2, 0, 0)] (by decide +kernel) (Nat.le_refl _) (Nat.le_refl _) (fun K R hK hR => ?_)
          simp only [↓rx_aload_n0, ↓rx_iload, ↓rx_nil, ↓ry_li0s, ↓ry_li0z, ↓ry_lr0s, ↓ry_lr0z, rz_set, rz_nol, rz_clr, List.set_cons_zero, List.set_cons_succ, rz_tr, Nat.reduceAdd, Int.reduceAdd, Int.reduceToNat, Int.reduceSub, Int.reduceNeg, Int.cast_ofNat_Int]
          try simp (disch := omega) only [pk_us, pk_un, va_up_self, va_up_ne, nI_add, pk_mul, nI_clamp, vp_inT, nI_ltI, nI_leI, nI_eqI, pk_sub, true_and, and_true]
          refine hK _ _ _ _ ?_
          refine rz_cV (As := [.int (nI c)]) (b := a) (S := [.int (nI S.2)]) l_Mod_360 (by decide +kernel) rfl re_at0 rfl (Nat.le_of_ble_eq_true rfl) (Nat.le_refl _) (Nat.le_refl _) (hcl) (fun r G' hr => ?_)
          obtain ⟨rfl, h576, I3, A3, rfl, i3, a3, p3⟩ := hr
          simp only [Option.toList, List.cons_append, List.nil_append]
          refine rz_blk' [(.iadd, 1, 0, 0), (.istore 4, 2, 0, 0)] (by decide +kernel) (Nat.le_refl _) (Nat.le_refl _) (fun K R hK hR => ?_)
          simp only [↓rx_iadd, ↓rx_istore, ↓rx_nil, ↓ry_i1, ↓ry_i2, rz_set, rz_nol, rz_clr, List.set_cons_zero, List.set_cons_succ, rz_tr, Nat.reduceAdd, Int.reduceAdd, Int.reduceToNat, Int.reduceSub, Int.reduceNeg, Int.cast_ofNat_Int]
          try simp (disch := omega) only [pk_us, pk_un, va_up_self, va_up_ne, nI_add, pk_mul, nI_clamp, vp_inT, nI_ltI, nI_leI, nI_eqI, pk_sub, true_and, and_true]
          refine hK _ _ _ _ ?_
          refine rz_blk' [(.iinc 5 1, 3, 0, 0)] (by decide +kernel) (Nat.le_refl _) (Nat.le_refl _) (fun K R hK hR => ?_)
          simp only [rw_c1, ↓rx_iinc, ↓rx_nil, ↓ry_li0s, ↓ry_li0z, rz_set, rz_nol, rz_clr, List.set_cons_zero, List.set_cons_succ, rz_tr, Nat.reduceAdd, Int.reduceAdd, Int.reduceToNat, Int.reduceSub, Int.reduceNeg, Int.cast_ofNat_Int]
          try simp (disch := omega) only [pk_us, pk_un, va_up_self, va_up_ne, nI_add, pk_mul, nI_clamp, vp_inT, nI_ltI, nI_leI, nI_eqI, pk_sub, true_and, and_true]
          refine hK _ _ _ _ ?_
          refine rz_blk' [(.goto (-20), 3, 0, 0)] (by decide +kernel) (Nat.le_refl _) (Nat.le_refl _) (fun K R hK hR => ?_)
          simp only [↓rx_goto, ↓rx_nil, rz_set, rz_nol, rz_clr, List.set_cons_zero, List.set_cons_succ, rz_tr, Nat.reduceAdd, Int.reduceAdd, Int.reduceToNat, Int.reduceSub, Int.reduceNeg, Int.cast_ofNat_Int]
          try simp (disch := omega) only [pk_us, pk_un, va_up_self, va_up_ne, nI_add, pk_mul, nI_clamp, vp_inT, nI_ltI, nI_leI, nI_eqI, pk_sub, true_and, and_true]
          refine hK _ _ _ _ ?_
          have hgo := ihc (c + 1) (sp_3 (lgm T) T.2.1 S x) I3 A3 (by omega) (by omega) hst.symm (by rw [hsh]; show S.2 + _ ≤ _; omega) (i2.t i3 rfl) (a2.t a3 rfl) (by rw [hsh]; exact p3) (by rw [i3 64 rfl]; exact m2)
          rw [hsh] at hgo
          exact hgo
      refine rz_blk' [(.iload_n 2, 1, 0, 0), (.aload_n 0, 1, 0, 0), (.getfield 348, 3, 10, 58), (.if_icmp .ge 61, 3, 0, 0)] (by decide +kernel) (Nat.le_refl _) (Nat.le_refl _) (fun K R hK hR => ?_)
      simp only [↓rx_aload_n0, ↓rx_getfield, ↓rx_if_icmp_ge, ↓rx_iload_n2, ↓rx_nil, ↓ry_i2, ↓ry_li0s, ↓ry_li0z, ↓ry_lr0s, ↓ry_lr0z, ↓ry_obu, ↓ry_r1, ↓re_F58, ↓re_ob, k58, rz_set, rz_nol, rz_clr, List.set_cons_zero, List.set_cons_succ, rz_tr, Nat.reduceAdd, Int.reduceAdd, Int.reduceToNat, Int.reduceSub, Int.reduceNeg, Int.cast_ofNat_Int]
      try simp (disch := omega) only [k58, pk_us, pk_un, va_up_self, va_up_ne, nI_add, pk_mul, nI_clamp, vp_inT, nI_ltI, nI_leI, nI_eqI, pk_sub, true_and, and_true]
      refine ⟨fun q6 => by omega, fun q6 => hK _ _ _ _ ?_⟩
      refine rz_blk' [(.aload_n 0, 1, 0, 0), (.getfield 348, 3, 10, 58), (.istore_n 3, 1, 0, 0)] (by decide +kernel) (Nat.le_refl _) (Nat.le_refl _) (fun K R hK hR => ?_)
      simp only [↓rx_aload_n0, ↓rx_getfield, ↓rx_istore_n3, ↓rx_nil, ↓ry_i1, ↓ry_lr0s, ↓ry_lr0z, ↓ry_obu, ↓ry_r1, ↓re_F58, ↓re_ob, k58, rz_set, rz_nol, rz_clr, List.set_cons_zero, List.set_cons_succ, rz_tr, Nat.reduceAdd, Int.reduceAdd, Int.reduceToNat, Int.reduceSub, Int.reduceNeg, Int.cast_ofNat_Int]
      try simp (disch := omega) only [k58, pk_us, pk_un, va_up_self, va_up_ne, nI_add, pk_mul, nI_clamp, vp_inT, nI_ltI, nI_leI, nI_eqI, pk_sub, true_and, and_true]
      refine hK _ _ _ _ ?_
      refine rz_blk' [(.iconst 0, 1, 0, 0), (.istore 4, 2, 0, 0)] (by decide +kernel) (Nat.le_refl _) (Nat.le_refl _) (fun K R hK hR => ?_)
      simp only [rw_c0, ↓rx_iconst, ↓rx_istore, ↓rx_nil, ↓ry_i1, k58, rz_set, rz_nol, rz_clr, List.set_cons_zero, List.set_cons_succ, rz_tr, Nat.reduceAdd, Int.reduceAdd, Int.reduceToNat, Int.reduceSub, Int.reduceNeg, Int.cast_ofNat_Int]
      try simp (disch := omega) only [k58, pk_us, pk_un, va_up_self, va_up_ne, nI_add, pk_mul, nI_clamp, vp_inT, nI_ltI, nI_leI, nI_eqI, pk_sub, true_and, and_true]
      refine hK _ _ _ _ ?_
      refine rz_blk' [(.iload_n 2, 1, 0, 0), (.istore 5, 2, 0, 0)] (by decide +kernel) (Nat.le_refl _) (Nat.le_refl _) (fun K R hK hR => ?_)
      simp only [↓rx_iload_n2, ↓rx_istore, ↓rx_nil, ↓ry_i1, ↓ry_li0s, ↓ry_li0z, k58, rz_set, rz_nol, rz_clr, List.set_cons_zero, List.set_cons_succ, rz_tr, Nat.reduceAdd, Int.reduceAdd, Int.reduceToNat, Int.reduceSub, Int.reduceNeg, Int.cast_ofNat_Int]
      try simp (disch := omega) only [k58, pk_us, pk_un, va_up_self, va_up_ne, nI_add, pk_mul, nI_clamp, vp_inT, nI_ltI, nI_leI, nI_eqI, pk_sub, true_and, and_true]
      refine hK _ _ _ _ ?_
      exact cl (P.length - done) done (P, 0) I1 A1 (by omega) (Nat.le_refl _) (by rw [Nat.sub_self]; rfl) (by simp) ki ka kp km
  have hl : hp_cnt T.1 ≠ 0 → ∀ (j i : Nat) (A1 : Nat → Nat → Int32), i + j = 4096 → fa [28, 29, 59, 60, 61, 62, 63] A A1 → (∀ k, k < i → A1 63 k = -1) → rz_T w (d + 3) 0 0 m_Mod_steadiness 0 0 58 [some (.ref a), some (.int (nI (hp_cnt T.1))), some (.int (nI i)), none, none, none] [] (re_put G a (upd (upd I 64 (nI (lgm T))) 58 (nI 0)) A1) Q := by
    intro hc0 j
    induction j with
    | zero =>
      intro i A1 hij ka h63
      have hls := c_Mod_loadStarts (w := w) (d := d + 2) (G := G) (a := a) (I := upd (upd I 64 (nI (lgm T))) 58 (nI 0)) (A := A1) (g := 0) (hh := 0) (by decide) (by decide) (re_t_fa t ka rfl) (re_t_fa t ka rfl) w1' w1'
      refine rz_blk' [(.iload_n 2, 1, 0, 0), (.sipush 4096, 3, 0, 0), (.if_icmp .ge 16, 3, 0, 0)] (by decide +kernel) (Nat.le_refl _) (Nat.le_refl _) (fun K R hK hR => ?_)
      simp only [rw_s4096, ↓rx_if_icmp_ge, ↓rx_iload_n2, ↓rx_nil, ↓rx_sipush, ↓ry_i2, ↓ry_li0s, ↓ry_li0z, rz_set, rz_nol, rz_clr, List.set_cons_zero, List.set_cons_succ, rz_tr, Nat.reduceAdd, Int.reduceAdd, Int.reduceToNat, Int.reduceSub, Int.reduceNeg, Int.cast_ofNat_Int]
      try simp (disch := omega) only [pk_us, pk_un, va_up_self, va_up_ne, nI_add, pk_mul, nI_clamp, vp_inT, nI_ltI, nI_leI, nI_eqI, pk_sub, true_and, and_true]
      refine ⟨fun q7 => hK _ _ _ _ ?_, fun q7 => by omega⟩
      refine rz_blk' [(.aload_n 0, 1, 0, 0), (.iconst 0, 1, 0, 0), (.iconst 0, 1, 0, 0)] (by decide +kernel) (Nat.le_refl _) (Nat.le_refl _) (fun K R hK hR => ?_)
      simp only [rw_c0, ↓rx_aload_n0, ↓rx_iconst, ↓rx_nil, ↓ry_lr0s, ↓ry_lr0z, rz_set, rz_nol, rz_clr, List.set_cons_zero, List.set_cons_succ, rz_tr, Nat.reduceAdd, Int.reduceAdd, Int.reduceToNat, Int.reduceSub, Int.reduceNeg, Int.cast_ofNat_Int]
      try simp (disch := omega) only [pk_us, pk_un, va_up_self, va_up_ne, nI_add, pk_mul, nI_clamp, vp_inT, nI_ltI, nI_leI, nI_eqI, pk_sub, true_and, and_true]
      refine hK _ _ _ _ ?_
      refine rz_cV (As := [.int (nI 0), .int (nI 0)]) (b := a) (S := []) l_Mod_303 (by decide +kernel) rfl re_at0 rfl (Nat.le_of_ble_eq_true rfl) (Nat.le_refl _) (Nat.le_refl _) (hls) (fun r G' hr => ?_)
      obtain ⟨rfl, I2, A2, rfl, i2, a2, h12⟩ := hr
      simp only [Option.toList, List.nil_append]
      have hs8 := w1.2.2.2.2.2.2
      have hp0 : pd_is I2 A2 [] := ⟨by rw [i2 58 rfl, pk_us]; rfl, by simp, fun i x hx => (by simp at hx), fun s hs => by rw [a2 63 rfl, h63 s (by omega)]; rfl⟩
      have h64 : I2 64 = nI (lgm T) := by rw [i2 64 rfl, pk_un (by decide), pk_us]
      have hap := c_Mod_addPair (w := w) (d := d + 1) (G := G) (a := a) (p := 0) (q := 0) (most := lgm T) h12 hp0 h64 hm108 (by decide) (by decide) hs8 hs8
      have hct : pd_cut 0 0 T.2.2.2 T.2.2.2 = (0, 0, [], []) := by unfold pd_cut; rw [lcpn_self, List.drop_length]
      rw [hct] at hap
      refine rz_blk' [(.aload_n 0, 1, 0, 0), (.iconst 0, 1, 0, 0), (.iconst 0, 1, 0, 0)] (by decide +kernel) (Nat.le_refl _) (Nat.le_refl _) (fun K R hK hR => ?_)
      simp only [rw_c0, ↓rx_aload_n0, ↓rx_iconst, ↓rx_nil, ↓ry_lr0s, ↓ry_lr0z, rz_set, rz_nol, rz_clr, List.set_cons_zero, List.set_cons_succ, rz_tr, Nat.reduceAdd, Int.reduceAdd, Int.reduceToNat, Int.reduceSub, Int.reduceNeg, Int.cast_ofNat_Int]
      try simp (disch := omega) only [pk_us, pk_un, va_up_self, va_up_ne, nI_add, pk_mul, nI_clamp, vp_inT, nI_ltI, nI_leI, nI_eqI, pk_sub, true_and, and_true]
      refine hK _ _ _ _ ?_
      refine rz_cV (As := [.int (nI 0), .int (nI 0)]) (b := a) (S := []) l_Mod_354 (by decide +kernel) rfl re_at0 rfl (Nat.le_of_ble_eq_true rfl) (Nat.le_refl _) (Nat.le_refl _) (hap) (fun r G' hr => ?_)
      obtain ⟨rfl, I3, A3, rfl, i3, a3, p3⟩ := hr
      simp only [Option.toList, List.cons_append, List.nil_append]
      have had : pd_add (lgm T) [] (0, 0, [], []) = [(0, 0, [], [])] := by simp [pd_add]
      rw [had] at p3
      refine rz_blk' [(.pop, 1, 0, 0), (.iconst 0, 1, 0, 0), (.istore_n 2, 1, 0, 0)] (by decide +kernel) (Nat.le_refl _) (Nat.le_refl _) (fun K R hK hR => ?_)
      simp only [rw_c0, ↓rx_iconst, ↓rx_istore_n2, ↓rx_nil, ↓rx_pop, ↓ry_i1, ↓ry_v1i, ↓ry_v1r, rz_set, rz_nol, rz_clr, List.set_cons_zero, List.set_cons_succ, rz_tr, Nat.reduceAdd, Int.reduceAdd, Int.reduceToNat, Int.reduceSub, Int.reduceNeg, Int.cast_ofNat_Int]
      try simp (disch := omega) only [pk_us, pk_un, va_up_self, va_up_ne, nI_add, pk_mul, nI_clamp, vp_inT, nI_ltI, nI_leI, nI_eqI, pk_sub, true_and, and_true]
      refine hK _ _ _ _ ?_
      refine wl hc0 3002 0 [(0, 0, [], [])] I3 A3 _ _ _ (by omega) ((((fi.rf.u rfl).u rfl).t i2 rfl).t i3 rfl) ((ka.t a2 rfl).t a3 rfl) p3 (by rw [i3 64 rfl]; exact h64) (by simp) (Or.inl ⟨by simp, 0, by simp, by simp, fun x => by simp [lev], fun x hx => (by simp at hx), fun j hj => absurd hj (Nat.not_lt_zero _)⟩)
    | succ j ih =>
      intro i A1 hij ka h63
      refine rz_blk' [(.iload_n 2, 1, 0, 0), (.sipush 4096, 3, 0, 0), (.if_icmp .ge 16, 3, 0, 0)] (by decide +kernel) (Nat.le_refl _) (Nat.le_refl _) (fun K R hK hR => ?_)
      simp only [rw_s4096, ↓rx_if_icmp_ge, ↓rx_iload_n2, ↓rx_nil, ↓rx_sipush, ↓ry_i2, ↓ry_li0s, ↓ry_li0z, rz_set, rz_nol, rz_clr, List.set_cons_zero, List.set_cons_succ, rz_tr, Nat.reduceAdd, Int.reduceAdd, Int.reduceToNat, Int.reduceSub, Int.reduceNeg, Int.cast_ofNat_Int]
      try simp (disch := omega) only [pk_us, pk_un, va_up_self, va_up_ne, nI_add, pk_mul, nI_clamp, vp_inT, nI_ltI, nI_leI, nI_eqI, pk_sub, true_and, and_true]
      refine ⟨fun q8 => by omega, fun q8 => hK _ _ _ _ ?_⟩
      refine rz_blk' [(.aload_n 0, 1, 0, 0), (.getfield 163, 3, 10, 63), (.iload_n 2, 1, 0, 0), (.iconst (-1), 1, 0, 0), (.iastore, 1, 0, 0)] (by decide +kernel) (Nat.le_refl _) (Nat.le_refl _) (fun K R hK hR => ?_)
      simp only [rw_cm1, ↓rx_aload_n0, ↓rx_getfield, ↓rx_iastore, ↓rx_iconst, ↓rx_iload_n2, ↓rx_nil, ↓ry_iau, ↓ry_li0s, ↓ry_li0z, ↓ry_lr0s, ↓ry_lr0z, ↓ry_obu, ↓ry_r1, ↓ry_rii, true_and, re_a63, ↓re_F63, ↓re_i63, ↓re_ob, rz_set, rz_nol, rz_clr, List.set_cons_zero, List.set_cons_succ, rz_tr, Nat.reduceAdd, Int.reduceAdd, Int.reduceToNat, Int.reduceSub, Int.reduceNeg, Int.cast_ofNat_Int]
      try simp (disch := omega) only [pk_us, pk_un, va_up_self, va_up_ne, nI_add, pk_mul, nI_clamp, vp_inT, nI_ltI, nI_leI, nI_eqI, pk_sub, true_and, and_true]
      refine hK _ _ _ _ ?_
      refine rz_blk' [(.iinc 2 1, 3, 0, 0)] (by decide +kernel) (Nat.le_refl _) (Nat.le_refl _) (fun K R hK hR => ?_)
      simp only [rw_c1, ↓rx_iinc, ↓rx_nil, ↓ry_li0s, ↓ry_li0z, rz_set, rz_nol, rz_clr, List.set_cons_zero, List.set_cons_succ, rz_tr, Nat.reduceAdd, Int.reduceAdd, Int.reduceToNat, Int.reduceSub, Int.reduceNeg, Int.cast_ofNat_Int]
      try simp (disch := omega) only [pk_us, pk_un, va_up_self, va_up_ne, nI_add, pk_mul, nI_clamp, vp_inT, nI_ltI, nI_leI, nI_eqI, pk_sub, true_and, and_true]
      refine hK _ _ _ _ ?_
      refine rz_blk' [(.goto (-17), 3, 0, 0)] (by decide +kernel) (Nat.le_refl _) (Nat.le_refl _) (fun K R hK hR => ?_)
      simp only [↓rx_goto, ↓rx_nil, rz_set, rz_nol, rz_clr, List.set_cons_zero, List.set_cons_succ, rz_tr, Nat.reduceAdd, Int.reduceAdd, Int.reduceToNat, Int.reduceSub, Int.reduceNeg, Int.cast_ofNat_Int]
      try simp (disch := omega) only [pk_us, pk_un, va_up_self, va_up_ne, nI_add, pk_mul, nI_clamp, vp_inT, nI_ltI, nI_leI, nI_eqI, pk_sub, true_and, and_true]
      refine hK _ _ _ _ ?_
      refine ih (i + 1) _ (by omega) (ka.u rfl) (fun k hk => ?_)
      rw [va_up_self]
      by_cases ck : k = i
      · subst ck; rw [pk_us]
      · rw [pk_un ck]; exact h63 k (by omega)
  have cn : ∀ (j i : Nat), i + j = 6 → rz_T w (d + 3) 0 0 m_Mod_steadiness 0 0 4 [some (.ref a), some (.int (nI ((List.range i).countP (fun q => T.1.testBit q)))), some (.int (nI i)), none, none, none] [] (re_put G a I A) Q := by
    intro j
    induction j with
    | zero =>
      intro i hij
      have hi : i = 6 := by omega
      subst hi
      have hcn : (List.range 6).countP (fun q => T.1.testBit q) = hp_cnt T.1 := rfl
      rw [hcn]
      have hlg := c_Mod_longest (w := w) (d := d + 2) (G := G) (a := a) (I := I) t w1'
      have hz : (nI (hp_cnt T.1) = 0) = (hp_cnt T.1 = 0) := by rw [show (0 : Int32) = nI 0 from rfl, nI_eqI (by omega) (by decide)]
      have hlm : hp_cnt T.1 * hp_cnt T.1 * lgx T = lgm T := rfl
      refine rz_blk' [(.iload_n 2, 1, 0, 0), (.bipush 6, 2, 0, 0), (.if_icmp .ge 26, 3, 0, 0)] (by decide +kernel) (Nat.le_refl _) (Nat.le_refl _) (fun K R hK hR => ?_)
      simp only [rw_b6, ↓rx_bipush, ↓rx_if_icmp_ge, ↓rx_iload_n2, ↓rx_nil, ↓ry_i2, ↓ry_li0s, ↓ry_li0z, rz_set, rz_nol, rz_clr, List.set_cons_zero, List.set_cons_succ, rz_tr, Nat.reduceAdd, Int.reduceAdd, Int.reduceToNat, Int.reduceSub, Int.reduceNeg, Int.cast_ofNat_Int]
      try simp (disch := omega) only [hz, hlm, pk_us, pk_un, va_up_self, va_up_ne, nI_add, pk_mul, nI_clamp, vp_inT, nI_ltI, nI_leI, nI_eqI, pk_sub, true_and, and_true]
      refine ⟨fun q9 => hK _ _ _ _ ?_, fun q9 => by omega⟩
      refine rz_blk' [(.iload_n 1, 1, 0, 0), (.ifCond .ne 5, 3, 0, 0)] (by decide +kernel) (Nat.le_refl _) (Nat.le_refl _) (fun K R hK hR => ?_)
      simp only [↓rx_ifCond_ne, ↓rx_iload_n1, ↓rx_nil, ↓ry_i1, ↓ry_li0s, ↓ry_li0z, rz_set, rz_nol, rz_clr, List.set_cons_zero, List.set_cons_succ, rz_tr, Nat.reduceAdd, Int.reduceAdd, Int.reduceToNat, Int.reduceSub, Int.reduceNeg, Int.cast_ofNat_Int]
      try simp (disch := omega) only [hz, hlm, pk_us, pk_un, va_up_self, va_up_ne, nI_add, pk_mul, nI_clamp, vp_inT, nI_ltI, nI_leI, nI_eqI, pk_sub, true_and, and_true]
      refine ⟨fun q10 => hK _ _ _ _ ?_, fun q10 => hK _ _ _ _ ?_⟩
      · -- 34 taken
        refine rz_blk' [(.aload_n 0, 1, 0, 0), (.iload_n 1, 1, 0, 0), (.iload_n 1, 1, 0, 0), (.imul, 1, 0, 0), (.aload_n 0, 1, 0, 0)] (by decide +kernel) (Nat.le_refl _) (Nat.le_refl _) (fun K R hK hR => ?_)
        simp only [↓rx_aload_n0, ↓rx_iload_n1, ↓rx_imul, ↓rx_nil, ↓ry_i2, ↓ry_li0s, ↓ry_li0z, ↓ry_lr0s, ↓ry_lr0z, rz_set, rz_nol, rz_clr, List.set_cons_zero, List.set_cons_succ, rz_tr, Nat.reduceAdd, Int.reduceAdd, Int.reduceToNat, Int.reduceSub, Int.reduceNeg, Int.cast_ofNat_Int]
        try simp (disch := omega) only [hz, hlm, pk_us, pk_un, va_up_self, va_up_ne, nI_add, pk_mul, nI_clamp, vp_inT, nI_ltI, nI_leI, nI_eqI, pk_sub, true_and, and_true]
        refine hK _ _ _ _ ?_
        refine rz_cV (As := []) (b := a) (S := [.int (nI (hp_cnt T.1 * hp_cnt T.1)), .ref a]) l_Mod_357 (by decide +kernel) rfl re_at0 rfl (Nat.le_of_ble_eq_true rfl) (Nat.le_refl _) (Nat.le_refl _) (hlg) (fun r G' hr => ?_)
        obtain ⟨rfl, rfl⟩ := hr
        simp only [Option.toList, List.cons_append, List.nil_append]
        refine rz_blk' [(.imul, 1, 0, 0), (.putfield 345, 3, 10, 64)] (by decide +kernel) (Nat.le_refl _) (Nat.le_refl _) (fun K R hK hR => ?_)
        simp only [List.length_cons, List.length_nil, Nat.reduceLT, rf_10_64, ↓rx_imul, ↓rx_nil, ↓rx_putfield, ↓ry_i2, ↓ry_obu, ↓ry_vr, true_and, re_len, re_u64, ↓re_ob, rz_set, rz_nol, rz_clr, List.set_cons_zero, List.set_cons_succ, rz_tr, Nat.reduceAdd, Int.reduceAdd, Int.reduceToNat, Int.reduceSub, Int.reduceNeg, Int.cast_ofNat_Int]
        try simp (disch := omega) only [hz, hlm, pk_us, pk_un, va_up_self, va_up_ne, nI_add, pk_mul, nI_clamp, vp_inT, nI_ltI, nI_leI, nI_eqI, pk_sub, true_and, and_true]
        refine hK _ _ _ _ ?_
        refine rz_blk' [(.aload_n 0, 1, 0, 0), (.iconst 0, 1, 0, 0), (.putfield 348, 3, 10, 58)] (by decide +kernel) (Nat.le_refl _) (Nat.le_refl _) (fun K R hK hR => ?_)
        simp only [List.length_cons, List.length_nil, Nat.reduceLT, rf_10_58, rw_c0, ↓rx_aload_n0, ↓rx_iconst, ↓rx_nil, ↓rx_putfield, ↓ry_lr0s, ↓ry_lr0z, ↓ry_obu, ↓ry_vr, true_and, re_len, re_u58, ↓re_ob, rz_set, rz_nol, rz_clr, List.set_cons_zero, List.set_cons_succ, rz_tr, Nat.reduceAdd, Int.reduceAdd, Int.reduceToNat, Int.reduceSub, Int.reduceNeg, Int.cast_ofNat_Int]
        try simp (disch := omega) only [hz, hlm, pk_us, pk_un, va_up_self, va_up_ne, nI_add, pk_mul, nI_clamp, vp_inT, nI_ltI, nI_leI, nI_eqI, pk_sub, true_and, and_true]
        refine hK _ _ _ _ ?_
        refine rz_blk' [(.iconst 0, 1, 0, 0), (.istore_n 2, 1, 0, 0)] (by decide +kernel) (Nat.le_refl _) (Nat.le_refl _) (fun K R hK hR => ?_)
        simp only [rw_c0, ↓rx_iconst, ↓rx_istore_n2, ↓rx_nil, ↓ry_i1, rz_set, rz_nol, rz_clr, List.set_cons_zero, List.set_cons_succ, rz_tr, Nat.reduceAdd, Int.reduceAdd, Int.reduceToNat, Int.reduceSub, Int.reduceNeg, Int.cast_ofNat_Int]
        try simp (disch := omega) only [hz, hlm, pk_us, pk_un, va_up_self, va_up_ne, nI_add, pk_mul, nI_clamp, vp_inT, nI_ltI, nI_leI, nI_eqI, pk_sub, true_and, and_true]
        refine hK _ _ _ _ ?_
        exact hl q10 4096 0 A rfl fa.rf (fun k hk => absurd hk (Nat.not_lt_zero _))
      · -- 34 not taken
        refine rz_blk' [(.iconst 1, 1, 0, 0), (.ireturn, 1, 0, 0)] (by decide +kernel) (Nat.le_refl _) (Nat.le_refl _) (fun K R hK hR => ?_)
        simp only [rw_c1, ↓rx_iconst, ↓rx_ireturn, ↓rx_nil, rz_set, rz_nol, rz_clr, List.set_cons_zero, List.set_cons_succ, rz_tr, Nat.reduceAdd, Int.reduceAdd, Int.reduceToNat, Int.reduceSub, Int.reduceNeg, Int.cast_ofNat_Int]
        try simp (disch := omega) only [hz, hlm, pk_us, pk_un, va_up_self, va_up_ne, nI_add, pk_mul, nI_clamp, vp_inT, nI_ltI, nI_leI, nI_eqI, pk_sub, true_and, and_true]
        refine hR _ _ (rz_nb_i (by decide)) ?_
        rw [← hQ]
        exact ⟨I, A, 1, rfl, by omega, by unfold sdv; rw [if_pos (by first | exact q10 | simpa using q10)], rfl, fi.rf, fa.rf⟩
    | succ j ih =>
      intro i hij
      have a1 := t.1 i (by omega)
      rw [Nat.mul_zero, Nat.zero_add] at a1
      have e1 : (List.range (i + 1)).countP (fun q => T.1.testBit q) = (List.range i).countP (fun q => T.1.testBit q) + (if T.1.testBit i then 1 else 0) := by
        rw [List.range_succ, List.countP_append]; simp [List.countP_cons]
      have ih := ih (i + 1) (by omega)
      rw [e1] at ih
      refine rz_blk' [(.iload_n 2, 1, 0, 0), (.bipush 6, 2, 0, 0), (.if_icmp .ge 26, 3, 0, 0)] (by decide +kernel) (Nat.le_refl _) (Nat.le_refl _) (fun K R hK hR => ?_)
      simp only [rw_b6, ↓rx_bipush, ↓rx_if_icmp_ge, ↓rx_iload_n2, ↓rx_nil, ↓ry_i2, ↓ry_li0s, ↓ry_li0z, a1, rz_set, rz_nol, rz_clr, List.set_cons_zero, List.set_cons_succ, rz_tr, Nat.reduceAdd, Int.reduceAdd, Int.reduceToNat, Int.reduceSub, Int.reduceNeg, Int.cast_ofNat_Int]
      try simp (disch := omega) only [a1, rb_0, pk_us, pk_un, va_up_self, va_up_ne, nI_add, pk_mul, nI_clamp, vp_inT, nI_ltI, nI_leI, nI_eqI, pk_sub, true_and, and_true]
      refine ⟨fun q11 => by omega, fun q11 => hK _ _ _ _ ?_⟩
      refine rz_blk' [(.iload_n 1, 1, 0, 0), (.aload_n 0, 1, 0, 0), (.getfield 46, 3, 10, 14), (.iload_n 2, 1, 0, 0), (.baload, 1, 0, 0), (.ifCond .eq 7, 3, 0, 0)] (by decide +kernel) (Nat.le_refl _) (Nat.le_refl _) (fun K R hK hR => ?_)
      simp only [Nat.reduceEqDiff, false_or, or_false, or_true, reduceIte, ↓rx_aload_n0, ↓rx_baload, ↓rx_getfield, ↓rx_ifCond_eq, ↓rx_iload_n1, ↓rx_iload_n2, ↓rx_nil, ↓ry_i1, ↓ry_iau, ↓ry_li0s, ↓ry_li0z, ↓ry_lr0s, ↓ry_lr0z, ↓ry_obu, ↓ry_r1, ↓ry_ri, true_and, true_or, re_a14, ↓re_F14, ↓re_i14, ↓re_ob, a1, rz_set, rz_nol, rz_clr, List.set_cons_zero, List.set_cons_succ, rz_tr, Nat.reduceAdd, Int.reduceAdd, Int.reduceToNat, Int.reduceSub, Int.reduceNeg, Int.cast_ofNat_Int]
      try simp (disch := omega) only [a1, rb_0, pk_us, pk_un, va_up_self, va_up_ne, nI_add, pk_mul, nI_clamp, vp_inT, nI_ltI, nI_leI, nI_eqI, pk_sub, true_and, and_true]
      refine ⟨fun q12 => hK _ _ _ _ ?_, fun q12 => hK _ _ _ _ ?_⟩
      · -- 17 taken
        refine rz_blk' [(.iconst 0, 1, 0, 0), (.iadd, 1, 0, 0), (.istore_n 1, 1, 0, 0)] (by decide +kernel) (Nat.le_refl _) (Nat.le_refl _) (fun K R hK hR => ?_)
        simp only [rw_c0, ↓rx_iadd, ↓rx_iconst, ↓rx_istore_n1, ↓rx_nil, ↓ry_i1, ↓ry_i2, a1, rz_set, rz_nol, rz_clr, List.set_cons_zero, List.set_cons_succ, rz_tr, Nat.reduceAdd, Int.reduceAdd, Int.reduceToNat, Int.reduceSub, Int.reduceNeg, Int.cast_ofNat_Int]
        try simp (disch := omega) only [a1, rb_0, pk_us, pk_un, va_up_self, va_up_ne, nI_add, pk_mul, nI_clamp, vp_inT, nI_ltI, nI_leI, nI_eqI, pk_sub, true_and, and_true]
        refine hK _ _ _ _ ?_
        refine rz_blk' [(.iinc 2 1, 3, 0, 0)] (by decide +kernel) (Nat.le_refl _) (Nat.le_refl _) (fun K R hK hR => ?_)
        simp only [rw_c1, ↓rx_iinc, ↓rx_nil, ↓ry_li0s, ↓ry_li0z, a1, rz_set, rz_nol, rz_clr, List.set_cons_zero, List.set_cons_succ, rz_tr, Nat.reduceAdd, Int.reduceAdd, Int.reduceToNat, Int.reduceSub, Int.reduceNeg, Int.cast_ofNat_Int]
        try simp (disch := omega) only [a1, rb_0, pk_us, pk_un, va_up_self, va_up_ne, nI_add, pk_mul, nI_clamp, vp_inT, nI_ltI, nI_leI, nI_eqI, pk_sub, true_and, and_true]
        refine hK _ _ _ _ ?_
        refine rz_blk' [(.goto (-26), 3, 0, 0)] (by decide +kernel) (Nat.le_refl _) (Nat.le_refl _) (fun K R hK hR => ?_)
        simp only [↓rx_goto, ↓rx_nil, a1, rz_set, rz_nol, rz_clr, List.set_cons_zero, List.set_cons_succ, rz_tr, Nat.reduceAdd, Int.reduceAdd, Int.reduceToNat, Int.reduceSub, Int.reduceNeg, Int.cast_ofNat_Int]
        try simp (disch := omega) only [a1, rb_0, pk_us, pk_un, va_up_self, va_up_ne, nI_add, pk_mul, nI_clamp, vp_inT, nI_ltI, nI_leI, nI_eqI, pk_sub, true_and, and_true]
        refine hK _ _ _ _ ?_
        first
          | (rw [if_pos (by simpa using q12)] at ih; exact ih)
          | (rw [if_neg (by rw [(by assumption : T.1.testBit i = false)]; decide)] at ih; exact ih)
      · -- 17 not taken
        refine rz_blk' [(.iconst 1, 1, 0, 0), (.goto 4, 3, 0, 0)] (by decide +kernel) (Nat.le_refl _) (Nat.le_refl _) (fun K R hK hR => ?_)
        simp only [rw_c1, ↓rx_goto, ↓rx_iconst, ↓rx_nil, a1, rz_set, rz_nol, rz_clr, List.set_cons_zero, List.set_cons_succ, rz_tr, Nat.reduceAdd, Int.reduceAdd, Int.reduceToNat, Int.reduceSub, Int.reduceNeg, Int.cast_ofNat_Int]
        try simp (disch := omega) only [a1, rb_0, pk_us, pk_un, va_up_self, va_up_ne, nI_add, pk_mul, nI_clamp, vp_inT, nI_ltI, nI_leI, nI_eqI, pk_sub, true_and, and_true]
        refine hK _ _ _ _ ?_
        refine rz_blk' [(.iadd, 1, 0, 0), (.istore_n 1, 1, 0, 0)] (by decide +kernel) (Nat.le_refl _) (Nat.le_refl _) (fun K R hK hR => ?_)
        simp only [↓rx_iadd, ↓rx_istore_n1, ↓rx_nil, ↓ry_i1, ↓ry_i2, a1, rz_set, rz_nol, rz_clr, List.set_cons_zero, List.set_cons_succ, rz_tr, Nat.reduceAdd, Int.reduceAdd, Int.reduceToNat, Int.reduceSub, Int.reduceNeg, Int.cast_ofNat_Int]
        try simp (disch := omega) only [a1, rb_0, pk_us, pk_un, va_up_self, va_up_ne, nI_add, pk_mul, nI_clamp, vp_inT, nI_ltI, nI_leI, nI_eqI, pk_sub, true_and, and_true]
        refine hK _ _ _ _ ?_
        refine rz_blk' [(.iinc 2 1, 3, 0, 0)] (by decide +kernel) (Nat.le_refl _) (Nat.le_refl _) (fun K R hK hR => ?_)
        simp only [rw_c1, ↓rx_iinc, ↓rx_nil, ↓ry_li0s, ↓ry_li0z, a1, rz_set, rz_nol, rz_clr, List.set_cons_zero, List.set_cons_succ, rz_tr, Nat.reduceAdd, Int.reduceAdd, Int.reduceToNat, Int.reduceSub, Int.reduceNeg, Int.cast_ofNat_Int]
        try simp (disch := omega) only [a1, rb_0, pk_us, pk_un, va_up_self, va_up_ne, nI_add, pk_mul, nI_clamp, vp_inT, nI_ltI, nI_leI, nI_eqI, pk_sub, true_and, and_true]
        refine hK _ _ _ _ ?_
        refine rz_blk' [(.goto (-26), 3, 0, 0)] (by decide +kernel) (Nat.le_refl _) (Nat.le_refl _) (fun K R hK hR => ?_)
        simp only [↓rx_goto, ↓rx_nil, a1, rz_set, rz_nol, rz_clr, List.set_cons_zero, List.set_cons_succ, rz_tr, Nat.reduceAdd, Int.reduceAdd, Int.reduceToNat, Int.reduceSub, Int.reduceNeg, Int.cast_ofNat_Int]
        try simp (disch := omega) only [a1, rb_0, pk_us, pk_un, va_up_self, va_up_ne, nI_add, pk_mul, nI_clamp, vp_inT, nI_ltI, nI_leI, nI_eqI, pk_sub, true_and, and_true]
        refine hK _ _ _ _ ?_
        first
          | (rw [if_pos (by simpa using q12)] at ih; exact ih)
          | (rw [if_neg (by rw [(by assumption : T.1.testBit i = false)]; decide)] at ih; exact ih)
  refine rz_enter' [some (.ref a), none, none, none, none, none] (by decide +kernel) rfl rfl (Nat.le_of_ble_eq_true rfl) rfl ?_
  refine rz_blk' [(.iconst 0, 1, 0, 0), (.istore_n 1, 1, 0, 0)] (by decide +kernel) (Nat.le_refl _) (Nat.le_refl _) (fun K R hK hR => ?_)
  simp only [rw_c0, ↓rx_iconst, ↓rx_istore_n1, ↓rx_nil, ↓ry_i1, rz_set, rz_nol, rz_clr, List.set_cons_zero, List.set_cons_succ, rz_tr, Nat.reduceAdd, Int.reduceAdd, Int.reduceToNat, Int.reduceSub, Int.reduceNeg, Int.cast_ofNat_Int]
  try simp (disch := omega) only [pk_us, pk_un, va_up_self, va_up_ne, nI_add, pk_mul, nI_clamp, vp_inT, nI_ltI, nI_leI, nI_eqI, pk_sub, true_and, and_true]
  refine hK _ _ _ _ ?_
  refine rz_blk' [(.iconst 0, 1, 0, 0), (.istore_n 2, 1, 0, 0)] (by decide +kernel) (Nat.le_refl _) (Nat.le_refl _) (fun K R hK hR => ?_)
  simp only [rw_c0, ↓rx_iconst, ↓rx_istore_n2, ↓rx_nil, ↓ry_i1, rz_set, rz_nol, rz_clr, List.set_cons_zero, List.set_cons_succ, rz_tr, Nat.reduceAdd, Int.reduceAdd, Int.reduceToNat, Int.reduceSub, Int.reduceNeg, Int.cast_ofNat_Int]
  try simp (disch := omega) only [pk_us, pk_un, va_up_self, va_up_ne, nI_add, pk_mul, nI_clamp, vp_inT, nI_ltI, nI_leI, nI_eqI, pk_sub, true_and, and_true]
  refine hK _ _ _ _ ?_
  exact cn 6 0 rfl
set_option maxRecDepth 100000 in
set_option maxHeartbeats 4000000 in
theorem c_Mod_isSteady {w : rz_w} {d : Nat} {G : rz_G} {a : Nat} {I : Nat → Int32} {A : Nat → Nat → Int32} {V : dk_V} (h : rf I A V) (x : Int32) : rz_C w (d + 6) 0 0 y_Mod_isSteady m_Mod_isSteady [.ref a, .int x] (re_put G a I A) (rv G a V (fun r V' => V' = V ∧ ∃ k v, k < 6 ∧ x = nI k ∧ (∀ v, ¬ df (tk (V.1 k)) (tk (V.1 k)) (xd_st (tk (V.1 k)) (tk (V.1 k))) v) ∧ sdv (tk (V.1 k)) v ∧ v < 2 ∧ r = some (.int (rz_b (decide (v = 1))))) (fun c => (c = 1 ∧ dk_no x) ∨ ∃ k, k < 6 ∧ x = nI k ∧ ((c = 2 ∧ (∃ v, df (tk (V.1 k)) (tk (V.1 k)) (xd_st (tk (V.1 k)) (tk (V.1 k))) v)) ∨ (c = 3 ∧ (∀ v, ¬ df (tk (V.1 k)) (tk (V.1 k)) (xd_st (tk (V.1 k)) (tk (V.1 k))) v) ∧ sdv (tk (V.1 k)) 2)))) := by
  generalize hQ : (rv G a V (fun r V' => V' = V ∧ ∃ k v, k < 6 ∧ x = nI k ∧ (∀ v, ¬ df (tk (V.1 k)) (tk (V.1 k)) (xd_st (tk (V.1 k)) (tk (V.1 k))) v) ∧ sdv (tk (V.1 k)) v ∧ v < 2 ∧ r = some (.int (rz_b (decide (v = 1))))) (fun c => (c = 1 ∧ dk_no x) ∨ ∃ k, k < 6 ∧ x = nI k ∧ ((c = 2 ∧ (∃ v, df (tk (V.1 k)) (tk (V.1 k)) (xd_st (tk (V.1 k)) (tk (V.1 k))) v)) ∨ (c = 3 ∧ (∀ v, ¬ df (tk (V.1 k)) (tk (V.1 k)) (xd_st (tk (V.1 k)) (tk (V.1 k))) v) ∧ sdv (tk (V.1 k)) 2)))) = Q
  refine rz_enter' [some (.ref a), some (.int x), none] (by decide +kernel) rfl rfl (Nat.le_of_ble_eq_true rfl) rfl ?_
  refine rz_blk' [(.aload_n 0, 1, 0, 0), (.iload_n 1, 1, 0, 0)] (by decide +kernel) (Nat.le_refl _) (Nat.le_refl _) (fun K R hK hR => ?_)
  simp only [↓rx_aload_n0, ↓rx_iload_n1, ↓rx_nil, ↓ry_li0s, ↓ry_li0z, ↓ry_lr0s, ↓ry_lr0z, rz_set, rz_nol, rz_clr, List.set_cons_zero, List.set_cons_succ, rz_tr, Nat.reduceAdd, Int.reduceAdd, Int.reduceToNat, Int.reduceSub, Int.reduceNeg, Int.cast_ofNat_Int]
  try simp (disch := omega) only [pk_us, pk_un, va_up_self, va_up_ne, nI_add, pk_mul, nI_clamp, vp_inT, nI_ltI, nI_leI, nI_eqI, pk_sub, true_and, and_true]
  refine hK _ _ _ _ ?_
  refine rz_cV (As := [.int x]) (b := a) (S := []) l_Mod_214 (by decide +kernel) rfl re_at0 rfl (Nat.le_of_ble_eq_true rfl) (Nat.le_refl _) (Nat.le_refl _) (c_Mod_isMachine _) (fun r G' hr => ?_)
  rcases hr with ⟨k, hk, rfl, rfl, hg⟩ | ⟨hno, rfl, hg⟩
  rotate_left
  · subst hg
    simp only [Option.toList, List.cons_append, List.nil_append]
    refine rz_blk' [(.ifCond .ne 5, 3, 0, 0)] (by decide +kernel) (Nat.le_refl _) (Nat.le_refl _) (fun K R hK hR => ?_)
    simp only [↓rx_ifCond_ne, ↓rx_nil, ↓ry_i1, rz_set, rz_nol, rz_clr, List.set_cons_zero, List.set_cons_succ, rz_tr, Nat.reduceAdd, Int.reduceAdd, Int.reduceToNat, Int.reduceSub, Int.reduceNeg, Int.cast_ofNat_Int]
    try simp (disch := omega) only [pk_us, pk_un, va_up_self, va_up_ne, nI_add, pk_mul, nI_clamp, vp_inT, nI_ltI, nI_leI, nI_eqI, pk_sub, true_and, and_true]
    refine ⟨fun q1 => absurd rfl q1, fun q1 => hK _ _ _ _ ?_⟩
    refine rz_blk' [(.iconst 0, 1, 0, 0), (.ireturn, 1, 0, 0)] (by decide +kernel) (Nat.le_refl _) (Nat.le_refl _) (fun K R hK hR => ?_)
    simp only [rw_c0, ↓rx_iconst, ↓rx_ireturn, ↓rx_nil, rz_set, rz_nol, rz_clr, List.set_cons_zero, List.set_cons_succ, rz_tr, Nat.reduceAdd, Int.reduceAdd, Int.reduceToNat, Int.reduceSub, Int.reduceNeg, Int.cast_ofNat_Int]
    try simp (disch := omega) only [pk_us, pk_un, va_up_self, va_up_ne, nI_add, pk_mul, nI_clamp, vp_inT, nI_ltI, nI_leI, nI_eqI, pk_sub, true_and, and_true]
    exact hR _ _ rz_nb_0 (by rw [← hQ]; exact rv_e h 1 (by decide) (by decide) (Or.inl ⟨rfl, hno⟩))
  subst hg
  simp only [Option.toList, List.cons_append, List.nil_append]
  have hnk : ¬ dk_no (nI k) := fun q => q k hk rfl
  have hm := h.1 k hk
  obtain ⟨m1, m2, m3, m4, m5, m6, m7, m8, m9, m10, m11⟩ := id hm
  generalize hI0 : upd I 0 (nI 0) = I0
  have h0 : rf I0 A V := by rw [← hI0]; exact rf_0 h
  have hI00 : I0 0 = nI 0 := by rw [← hI0, pk_us]
  have htw := tk_tw (re_m_wf hm)
  have hfo := c_Mod_functionOf (w := w) (d := d) (G := G) (a := a) (I := I0) (A := A) hk hm
  have hfail : ∀ (c : Nat) (I1 : Nat → Int32) (A1 : Nat → Nat → Int32), fi [26, 27, 30, 38, 41, 58, 64] I0 I1 → fa [14, 15, 16, 17, 18, 19, 20, 21, 22, 23, 24, 25, 26, 27, 28, 29, 30, 31, 32, 33, 34, 35, 36, 37, 38, 39, 40, 41, 42, 43, 44, 45, 46, 47, 48, 49, 59, 60, 61, 62, 63] A A1 → c < 4 → c ≠ 0 → ((c = 2 ∧ (∃ v, df (tk (V.1 k)) (tk (V.1 k)) (xd_st (tk (V.1 k)) (tk (V.1 k))) v)) ∨ (c = 3 ∧ (∀ v, ¬ df (tk (V.1 k)) (tk (V.1 k)) (xd_st (tk (V.1 k)) (tk (V.1 k))) v) ∧ sdv (tk (V.1 k)) 2)) → Q (some (.int (nI 0))) (re_put G a (upd I1 0 (nI c)) A1) := by
    intro c I1 A1 i1 a1 hc hc0 hne
    rw [← hQ]
    exact rv_e (rf_f h0 i1 a1 (i1 46 rfl) rfl rfl) c hc hc0 (Or.inr ⟨k, hk, rfl, hne⟩)
  refine rz_blk' [(.ifCond .ne 5, 3, 0, 0)] (by decide +kernel) (Nat.le_refl _) (Nat.le_refl _) (fun K R hK hR => ?_)
  simp only [↓rx_ifCond_ne, ↓rx_nil, ↓ry_i1, rz_set, rz_nol, rz_clr, List.set_cons_zero, List.set_cons_succ, rz_tr, Nat.reduceAdd, Int.reduceAdd, Int.reduceToNat, Int.reduceSub, Int.reduceNeg, Int.cast_ofNat_Int]
  try simp (disch := omega) only [rb_0, Bool.not_eq_true, Bool.not_eq_false, pk_us, pk_un, va_up_self, va_up_ne, nI_add, pk_mul, nI_clamp, vp_inT, nI_ltI, nI_leI, nI_eqI, pk_sub, true_and, and_true]
  refine ⟨fun q2 => hK _ _ _ _ ?_, fun q2 => absurd q2 (by decide)⟩
  refine rz_blk' [(.aload_n 0, 1, 0, 0), (.iload_n 1, 1, 0, 0)] (by decide +kernel) (Nat.le_refl _) (Nat.le_refl _) (fun K R hK hR => ?_)
  simp only [↓rx_aload_n0, ↓rx_iload_n1, ↓rx_nil, ↓ry_li0s, ↓ry_li0z, ↓ry_lr0s, ↓ry_lr0z, rz_set, rz_nol, rz_clr, List.set_cons_zero, List.set_cons_succ, rz_tr, Nat.reduceAdd, Int.reduceAdd, Int.reduceToNat, Int.reduceSub, Int.reduceNeg, Int.cast_ofNat_Int]
  try simp (disch := omega) only [rb_0, Bool.not_eq_true, Bool.not_eq_false, pk_us, pk_un, va_up_self, va_up_ne, nI_add, pk_mul, nI_clamp, vp_inT, nI_ltI, nI_leI, nI_eqI, pk_sub, true_and, and_true]
  refine hK _ _ _ _ ?_
  refine rz_cV (As := [.int (nI k)]) (b := a) (S := []) l_Mod_315 (by decide +kernel) rfl re_at0 rfl (Nat.le_of_ble_eq_true rfl) (Nat.le_refl _) (Nat.le_refl _) (hfo) (fun r G' hr => ?_)
  obtain ⟨I2, A2, b, u, rfl, rfl, hkp, i2, hre, a2, W, kk, -, -, -, -, z1⟩ := hr
  simp only [Option.toList, List.cons_append, List.nil_append]
  have hst := c_Mod_steadiness (w := w) (d := d + 2) (G := G) (a := a) (I := I2) (A := A2) hre htw
  refine rz_blk' [(.ifCond .ne 17, 3, 0, 0)] (by decide +kernel) (Nat.le_refl _) (Nat.le_refl _) (fun K R hK hR => ?_)
  simp only [↓rx_ifCond_ne, ↓rx_nil, ↓ry_i1, rz_set, rz_nol, rz_clr, List.set_cons_zero, List.set_cons_succ, rz_tr, Nat.reduceAdd, Int.reduceAdd, Int.reduceToNat, Int.reduceSub, Int.reduceNeg, Int.cast_ofNat_Int]
  try simp (disch := omega) only [rb_0, Bool.not_eq_true, Bool.not_eq_false, pk_us, pk_un, va_up_self, va_up_ne, nI_add, pk_mul, nI_clamp, vp_inT, nI_ltI, nI_leI, nI_eqI, pk_sub, true_and, and_true]
  refine ⟨fun q3 => hK _ _ _ _ ?_, fun q3 => hK _ _ _ _ ?_⟩
  · -- 15 taken
    refine rz_blk' [(.aload_n 0, 1, 0, 0)] (by decide +kernel) (Nat.le_refl _) (Nat.le_refl _) (fun K R hK hR => ?_)
    simp only [↓rx_aload_n0, ↓rx_nil, ↓ry_lr0s, ↓ry_lr0z, rz_set, rz_nol, rz_clr, List.set_cons_zero, List.set_cons_succ, rz_tr, Nat.reduceAdd, Int.reduceAdd, Int.reduceToNat, Int.reduceSub, Int.reduceNeg, Int.cast_ofNat_Int]
    try simp (disch := omega) only [rb_0, Bool.not_eq_true, Bool.not_eq_false, pk_us, pk_un, va_up_self, va_up_ne, nI_add, pk_mul, nI_clamp, vp_inT, nI_ltI, nI_leI, nI_eqI, pk_sub, true_and, and_true]
    refine hK _ _ _ _ ?_
    refine rz_cV (As := []) (b := a) (S := []) l_Mod_363 (by decide +kernel) rfl re_at0 rfl (Nat.le_of_ble_eq_true rfl) (Nat.le_refl _) (Nat.le_refl _) (hst) (fun r G' hr => ?_)
    obtain ⟨I3, A3, v, rfl, hv2, hsd, rfl, i3, a3⟩ := hr
    simp only [Option.toList, List.cons_append, List.nil_append]
    have hb : b = false := by simpa using q3
    subst hb
    have hF : (∀ v, ¬ df (tk (V.1 k)) (tk (V.1 k)) (xd_st (tk (V.1 k)) (tk (V.1 k))) v) := by
      rcases z1 with ⟨-, q⟩ | ⟨q, -⟩
      · exact q
      · cases q
    have i4 : fi [26, 27, 30, 38, 41, 58, 64] I0 I3 := i2.t' i3 rfl rfl
    have a4 : fa [14, 15, 16, 17, 18, 19, 20, 21, 22, 23, 24, 25, 26, 27, 28, 29, 30, 31, 32, 33, 34, 35, 36, 37, 38, 39, 40, 41, 42, 43, 44, 45, 46, 47, 48, 49, 59, 60, 61, 62, 63] A A3 := a2.t' a3 rfl rfl
    refine rz_blk' [(.istore_n 2, 1, 0, 0)] (by decide +kernel) (Nat.le_refl _) (Nat.le_refl _) (fun K R hK hR => ?_)
    simp only [↓rx_istore_n2, ↓rx_nil, ↓ry_i1, rz_set, rz_nol, rz_clr, List.set_cons_zero, List.set_cons_succ, rz_tr, Nat.reduceAdd, Int.reduceAdd, Int.reduceToNat, Int.reduceSub, Int.reduceNeg, Int.cast_ofNat_Int]
    try simp (disch := omega) only [rb_0, Bool.not_eq_true, Bool.not_eq_false, pk_us, pk_un, va_up_self, va_up_ne, nI_add, pk_mul, nI_clamp, vp_inT, nI_ltI, nI_leI, nI_eqI, pk_sub, true_and, and_true]
    refine hK _ _ _ _ ?_
    refine rz_blk' [(.iload_n 2, 1, 0, 0), (.iconst 2, 1, 0, 0), (.if_icmp .ne 17, 3, 0, 0)] (by decide +kernel) (Nat.le_refl _) (Nat.le_refl _) (fun K R hK hR => ?_)
    simp only [rw_c2, ↓rx_iconst, ↓rx_if_icmp_ne, ↓rx_iload_n2, ↓rx_nil, ↓ry_i2, ↓ry_li0s, ↓ry_li0z, rz_set, rz_nol, rz_clr, List.set_cons_zero, List.set_cons_succ, rz_tr, Nat.reduceAdd, Int.reduceAdd, Int.reduceToNat, Int.reduceSub, Int.reduceNeg, Int.cast_ofNat_Int]
    try simp (disch := omega) only [rb_0, Bool.not_eq_true, Bool.not_eq_false, pk_us, pk_un, va_up_self, va_up_ne, nI_add, pk_mul, nI_clamp, vp_inT, nI_ltI, nI_leI, nI_eqI, pk_sub, true_and, and_true]
    refine ⟨fun q4 => hK _ _ _ _ ?_, fun q4 => hK _ _ _ _ ?_⟩
    · -- 39 taken
      refine rz_blk' [(.iload_n 2, 1, 0, 0), (.iconst 1, 1, 0, 0), (.if_icmp .ne 7, 3, 0, 0)] (by decide +kernel) (Nat.le_refl _) (Nat.le_refl _) (fun K R hK hR => ?_)
      simp only [rw_c1, ↓rx_iconst, ↓rx_if_icmp_ne, ↓rx_iload_n2, ↓rx_nil, ↓ry_i2, ↓ry_li0s, ↓ry_li0z, rz_set, rz_nol, rz_clr, List.set_cons_zero, List.set_cons_succ, rz_tr, Nat.reduceAdd, Int.reduceAdd, Int.reduceToNat, Int.reduceSub, Int.reduceNeg, Int.cast_ofNat_Int]
      try simp (disch := omega) only [rb_0, Bool.not_eq_true, Bool.not_eq_false, pk_us, pk_un, va_up_self, va_up_ne, nI_add, pk_mul, nI_clamp, vp_inT, nI_ltI, nI_leI, nI_eqI, pk_sub, true_and, and_true]
      refine ⟨fun q5 => hK _ _ _ _ ?_, fun q5 => hK _ _ _ _ ?_⟩
      · -- 58 taken
        refine rz_blk' [(.iconst 0, 1, 0, 0), (.ireturn, 1, 0, 0)] (by decide +kernel) (Nat.le_refl _) (Nat.le_refl _) (fun K R hK hR => ?_)
        simp only [rw_c0, ↓rx_iconst, ↓rx_ireturn, ↓rx_nil, rz_set, rz_nol, rz_clr, List.set_cons_zero, List.set_cons_succ, rz_tr, Nat.reduceAdd, Int.reduceAdd, Int.reduceToNat, Int.reduceSub, Int.reduceNeg, Int.cast_ofNat_Int]
        try simp (disch := omega) only [rb_0, Bool.not_eq_true, Bool.not_eq_false, pk_us, pk_un, va_up_self, va_up_ne, nI_add, pk_mul, nI_clamp, vp_inT, nI_ltI, nI_leI, nI_eqI, pk_sub, true_and, and_true]
        have hq : ∀ r, r = some (.int (rz_b (decide (v = 1)))) → Q r (re_put G a I3 A3) := by
          intro r hr
          rw [← hQ]
          exact rv_f (by rw [i4 0 rfl]; exact hI00) (rf_f h0 i4 a4 (i4 46 rfl) rfl rfl) ⟨rfl, k, v, hk, rfl, hF, hsd, by omega, hr⟩
        first
          | exact hR _ _ rz_nb_1 (hq _ (by rw [decide_eq_true (by omega)]; rfl))
          | exact hR _ _ rz_nb_0 (hq _ (by rw [decide_eq_false (by omega)]; rfl))
      · -- 58 not taken
        refine rz_blk' [(.iconst 1, 1, 0, 0), (.goto 4, 3, 0, 0)] (by decide +kernel) (Nat.le_refl _) (Nat.le_refl _) (fun K R hK hR => ?_)
        simp only [rw_c1, ↓rx_goto, ↓rx_iconst, ↓rx_nil, rz_set, rz_nol, rz_clr, List.set_cons_zero, List.set_cons_succ, rz_tr, Nat.reduceAdd, Int.reduceAdd, Int.reduceToNat, Int.reduceSub, Int.reduceNeg, Int.cast_ofNat_Int]
        try simp (disch := omega) only [rb_0, Bool.not_eq_true, Bool.not_eq_false, pk_us, pk_un, va_up_self, va_up_ne, nI_add, pk_mul, nI_clamp, vp_inT, nI_ltI, nI_leI, nI_eqI, pk_sub, true_and, and_true]
        refine hK _ _ _ _ ?_
        refine rz_blk' [(.ireturn, 1, 0, 0)] (by decide +kernel) (Nat.le_refl _) (Nat.le_refl _) (fun K R hK hR => ?_)
        simp only [↓rx_ireturn, ↓rx_nil, rz_set, rz_nol, rz_clr, List.set_cons_zero, List.set_cons_succ, rz_tr, Nat.reduceAdd, Int.reduceAdd, Int.reduceToNat, Int.reduceSub, Int.reduceNeg, Int.cast_ofNat_Int]
        try simp (disch := omega) only [rb_0, Bool.not_eq_true, Bool.not_eq_false, pk_us, pk_un, va_up_self, va_up_ne, nI_add, pk_mul, nI_clamp, vp_inT, nI_ltI, nI_leI, nI_eqI, pk_sub, true_and, and_true]
        have hq : ∀ r, r = some (.int (rz_b (decide (v = 1)))) → Q r (re_put G a I3 A3) := by
          intro r hr
          rw [← hQ]
          exact rv_f (by rw [i4 0 rfl]; exact hI00) (rf_f h0 i4 a4 (i4 46 rfl) rfl rfl) ⟨rfl, k, v, hk, rfl, hF, hsd, by omega, hr⟩
        first
          | exact hR _ _ rz_nb_1 (hq _ (by rw [decide_eq_true (by omega)]; rfl))
          | exact hR _ _ rz_nb_0 (hq _ (by rw [decide_eq_false (by omega)]; rfl))
    · -- 39 not taken
      refine rz_blk' [(.aload_n 0, 1, 0, 0), (.iconst 3, 1, 0, 0)] (by decide +kernel) (Nat.le_refl _) (Nat.le_refl _) (fun K R hK hR => ?_)
      simp only [rw_c3, ↓rx_aload_n0, ↓rx_iconst, ↓rx_nil, ↓ry_lr0s, ↓ry_lr0z, rz_set, rz_nol, rz_clr, List.set_cons_zero, List.set_cons_succ, rz_tr, Nat.reduceAdd, Int.reduceAdd, Int.reduceToNat, Int.reduceSub, Int.reduceNeg, Int.cast_ofNat_Int]
      try simp (disch := omega) only [rb_0, Bool.not_eq_true, Bool.not_eq_false, pk_us, pk_un, va_up_self, va_up_ne, nI_add, pk_mul, nI_clamp, vp_inT, nI_ltI, nI_leI, nI_eqI, pk_sub, true_and, and_true]
      refine hK _ _ _ _ ?_
      refine rz_cV (As := [.int (nI 3)]) (b := a) (S := []) l_Mod_218 (by decide +kernel) rfl re_at0 rfl (Nat.le_of_ble_eq_true rfl) (Nat.le_refl _) (Nat.le_refl _) (c_Mod_fail _) (fun r G' hr => ?_)
      obtain ⟨rfl, rfl⟩ := hr
      simp only [Option.toList, List.cons_append, List.nil_append]
      refine rz_blk' [(.ifCond .le 7, 3, 0, 0)] (by decide +kernel) (Nat.le_refl _) (Nat.le_refl _) (fun K R hK hR => ?_)
      simp only [↓rx_ifCond_le, ↓rx_nil, ↓ry_i1, rz_set, rz_nol, rz_clr, List.set_cons_zero, List.set_cons_succ, rz_tr, Nat.reduceAdd, Int.reduceAdd, Int.reduceToNat, Int.reduceSub, Int.reduceNeg, Int.cast_ofNat_Int]
      try simp (disch := omega) only [rb_0, Bool.not_eq_true, Bool.not_eq_false, pk_us, pk_un, va_up_self, va_up_ne, nI_add, pk_mul, nI_clamp, vp_inT, nI_ltI, nI_leI, nI_eqI, pk_sub, true_and, and_true]
      refine ⟨fun q6 => hK _ _ _ _ ?_, fun q6 => absurd q6 (by decide)⟩
      refine rz_blk' [(.iconst 0, 1, 0, 0), (.ireturn, 1, 0, 0)] (by decide +kernel) (Nat.le_refl _) (Nat.le_refl _) (fun K R hK hR => ?_)
      simp only [rw_c0, ↓rx_iconst, ↓rx_ireturn, ↓rx_nil, rz_set, rz_nol, rz_clr, List.set_cons_zero, List.set_cons_succ, rz_tr, Nat.reduceAdd, Int.reduceAdd, Int.reduceToNat, Int.reduceSub, Int.reduceNeg, Int.cast_ofNat_Int]
      try simp (disch := omega) only [rb_0, Bool.not_eq_true, Bool.not_eq_false, pk_us, pk_un, va_up_self, va_up_ne, nI_add, pk_mul, nI_clamp, vp_inT, nI_ltI, nI_leI, nI_eqI, pk_sub, true_and, and_true]
      have hv : v = 2 := by omega
      subst hv
      exact hR _ _ rz_nb_0 (hfail 3 I3 A3 i4 a4 (by decide) (by decide) (Or.inr ⟨rfl, hF, hsd⟩))
  · -- 15 not taken
    refine rz_blk' [(.aload_n 0, 1, 0, 0), (.iconst 2, 1, 0, 0)] (by decide +kernel) (Nat.le_refl _) (Nat.le_refl _) (fun K R hK hR => ?_)
    simp only [rw_c2, ↓rx_aload_n0, ↓rx_iconst, ↓rx_nil, ↓ry_lr0s, ↓ry_lr0z, rz_set, rz_nol, rz_clr, List.set_cons_zero, List.set_cons_succ, rz_tr, Nat.reduceAdd, Int.reduceAdd, Int.reduceToNat, Int.reduceSub, Int.reduceNeg, Int.cast_ofNat_Int]
    try simp (disch := omega) only [rb_0, Bool.not_eq_true, Bool.not_eq_false, pk_us, pk_un, va_up_self, va_up_ne, nI_add, pk_mul, nI_clamp, vp_inT, nI_ltI, nI_leI, nI_eqI, pk_sub, true_and, and_true]
    refine hK _ _ _ _ ?_
    refine rz_cV (As := [.int (nI 2)]) (b := a) (S := []) l_Mod_218 (by decide +kernel) rfl re_at0 rfl (Nat.le_of_ble_eq_true rfl) (Nat.le_refl _) (Nat.le_refl _) (c_Mod_fail _) (fun r G' hr => ?_)
    obtain ⟨rfl, rfl⟩ := hr
    simp only [Option.toList, List.cons_append, List.nil_append]
    refine rz_blk' [(.ifCond .le 7, 3, 0, 0)] (by decide +kernel) (Nat.le_refl _) (Nat.le_refl _) (fun K R hK hR => ?_)
    simp only [↓rx_ifCond_le, ↓rx_nil, ↓ry_i1, rz_set, rz_nol, rz_clr, List.set_cons_zero, List.set_cons_succ, rz_tr, Nat.reduceAdd, Int.reduceAdd, Int.reduceToNat, Int.reduceSub, Int.reduceNeg, Int.cast_ofNat_Int]
    try simp (disch := omega) only [rb_0, Bool.not_eq_true, Bool.not_eq_false, pk_us, pk_un, va_up_self, va_up_ne, nI_add, pk_mul, nI_clamp, vp_inT, nI_ltI, nI_leI, nI_eqI, pk_sub, true_and, and_true]
    refine ⟨fun q7 => hK _ _ _ _ ?_, fun q7 => absurd q7 (by decide)⟩
    refine rz_blk' [(.iconst 0, 1, 0, 0), (.ireturn, 1, 0, 0)] (by decide +kernel) (Nat.le_refl _) (Nat.le_refl _) (fun K R hK hR => ?_)
    simp only [rw_c0, ↓rx_iconst, ↓rx_ireturn, ↓rx_nil, rz_set, rz_nol, rz_clr, List.set_cons_zero, List.set_cons_succ, rz_tr, Nat.reduceAdd, Int.reduceAdd, Int.reduceToNat, Int.reduceSub, Int.reduceNeg, Int.cast_ofNat_Int]
    try simp (disch := omega) only [rb_0, Bool.not_eq_true, Bool.not_eq_false, pk_us, pk_un, va_up_self, va_up_ne, nI_add, pk_mul, nI_clamp, vp_inT, nI_ltI, nI_leI, nI_eqI, pk_sub, true_and, and_true]
    have hb : b = true := by simpa using q3
    subst hb
    refine hR _ _ rz_nb_0 (hfail 2 I2 A2 (i2.m rfl) (a2.m rfl) (by decide) (by decide) (Or.inl ⟨rfl, u, ?_⟩))
    rcases z1 with ⟨q, -⟩ | ⟨-, q, -⟩
    · cases q
    · exact q
