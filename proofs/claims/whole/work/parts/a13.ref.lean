/-! the reference: moves, writeNow -/
def kt_fr (n : Nat) (A A' : Nat → Nat → Int32) : Prop := (∀ i, i < 6 * n → A' 77 i = A 77 i) ∧ ∀ i, i < 960 * n → A' 78 i = A 78 i
theorem kt_fr.rf {n : Nat} {A : Nat → Nat → Int32} : kt_fr n A A := ⟨fun _ _ => rfl, fun _ _ => rfl⟩
theorem kt_fr.t {n : Nat} {A A1 A2 : Nat → Nat → Int32} (h : kt_fr n A A1) (h2 : kt_fr n A1 A2) : kt_fr n A A2 := ⟨fun i hi => (h2.1 i hi).trans (h.1 i hi), fun i hi => (h2.2 i hi).trans (h.2 i hi)⟩
theorem kt_keep2 {A A' : Nat → Nat → Int32} {c n : Nat} {K : kt_T} (h : kt_at A c K) (hc : c < n) (hf : kt_fr n A A') : kt_at A' c K := by
  intro s hs
  obtain ⟨h1, h2, h3, h4⟩ := h s hs
  exact ⟨by rw [hf.1 _ (by omega)]; exact h1, h2.k (fun x q1 q2 => hf.2 x (by omega)), h3, h4⟩
def mx_1 (x : Nat) (K M : kt_T) (e : xe_T) : kt_T := if e.2.1 = x ∧ K e.1 ≠ none ∧ M e.2.2.1 = none then cm_up M e.2.2.1 ((K e.1).getD [] ++ e.2.2.2) else M
/-- where a class's states go to by a letter, and what was written -/
def mx (T : mv_T) (x : Nat) (K : kt_T) : kt_T := T.2.1.foldl (mx_1 x K) (fun _ => none)
/-- what all begin with -/
def lc_is (M : kt_T) (L : List Nat) : Prop := (∀ s w, s < 6 → M s = some w → L <+: w) ∧ ∀ L', (∀ s w, s < 6 → M s = some w → L' <+: w) → L' <+: L
theorem lc_uniq {M : kt_T} {L L' : List Nat} (h : lc_is M L) (h' : lc_is M L') : L = L' := by
  have p1 := h'.2 L h.1
  have p2 := h.2 L' h'.1
  exact p1.eq_of_length (Nat.le_antisymm p1.length_le p2.length_le)
set_option maxRecDepth 100000 in
set_option maxHeartbeats 4000000 in
theorem c_Mod_moves {w : rz_w} {d : Nat} {G : rz_G} {a : Nat} {I : Nat → Int32} {A : Nat → Nat → Int32} {T : mv_T} {c x n : Nat} {X : kt_T} (t : re_t A 0 T) (w1 : tw T 21) (hn : I 76 = nI n) (hc : c < n) (hn41 : n ≤ 41) (hx : x < 3) (h : kt_at A c X) (h129 : ∀ s, s < 6 → ((X s).getD []).length ≤ 129) : rz_C w d 0 0 y_Mod_moves m_Mod_moves [.ref a, .int (nI c), .int (nI x)] (re_put G a I A) (fun (r : Option Value) (G' : rz_G) => ∃ A' b, r = some (.int (rz_b b)) ∧ G' = re_put G a I A' ∧ fa [77, 78] A A' ∧ kt_fr n A A' ∧ kt_at A' n (mx T x X) ∧ (b = true ↔ ∃ s, s < 6 ∧ mx T x X s ≠ none)) := by
  generalize hQ : (fun (r : Option Value) (G' : rz_G) => ∃ A' b, r = some (.int (rz_b b)) ∧ G' = re_put G a I A' ∧ fa [77, 78] A A' ∧ kt_fr n A A' ∧ kt_at A' n (mx T x X) ∧ (b = true ↔ ∃ s, s < 6 ∧ mx T x X s ≠ none)) = Q
  have hl := w1.2.1
  have el : ∀ (j e : Nat) (M : kt_T) (b : Bool) (A1 : Nat → Nat → Int32) (z5 z6 z7 : Option Value), e + j = T.2.1.length → M = (T.2.1.take e).foldl (mx_1 x X) (fun _ => none) → fa [77, 78] A A1 → kt_fr n A A1 → kt_at A1 n M → (b = true ↔ ∃ s, s < 6 ∧ M s ≠ none) → rz_T w d 0 0 m_Mod_moves 0 0 37 [some (.ref a), some (.int (nI c)), some (.int (nI x)), some (.int (rz_b b)), some (.int (nI e)), z5, z6, z7] [] (re_put G a I A1) Q := by
    intro j
    induction j with
    | zero =>
      intro e M b A1 z5 z6 z7 hej hM a1 f1 k1 hb
      have f15 : A1 15 0 = nI T.2.1.length := by rw [a1 15 rfl]; exact t.2.1
      have he : e = T.2.1.length := by omega
      rw [he, List.take_length] at hM
      have hM' : mx T x X = M := hM.symm
      refine rz_blk' [(.iload 4, 2, 0, 0), (.aload_n 0, 1, 0, 0), (.getfield 50, 3, 10, 15), (.iconst 0, 1, 0, 0), (.iaload, 1, 0, 0), (.if_icmp .ge 180, 3, 0, 0)] (by decide +kernel) (Nat.le_refl _) (Nat.le_refl _) (fun K R hK hR => ?_)
      simp only [rw_c0, ↓rx_aload_n0, ↓rx_getfield, ↓rx_iaload, ↓rx_iconst, ↓rx_if_icmp_ge, ↓rx_iload, ↓rx_nil, ↓ry_i2, ↓ry_iau, ↓ry_li0s, ↓ry_li0z, ↓ry_lr0s, ↓ry_lr0z, ↓ry_obu, ↓ry_r1, ↓ry_ri, true_and, re_a15, ↓re_F15, ↓re_i15, ↓re_ob, f15, rz_set, rz_nol, rz_clr, List.set_cons_zero, List.set_cons_succ, rz_tr, Nat.reduceAdd, Int.reduceAdd, Int.reduceToNat, Int.reduceSub, Int.reduceNeg, Int.cast_ofNat_Int]
      try simp (disch := omega) only [f15, pk_us, pk_un, va_up_self, va_up_ne, nI_add, pk_mul, nI_clamp, vp_inT, nI_ltI, nI_leI, nI_eqI, pk_sub, true_and, and_true]
      refine ⟨fun q1 => hK _ _ _ _ ?_, fun q1 => by omega⟩
      refine rz_blk' [(.iload_n 3, 1, 0, 0), (.ireturn, 1, 0, 0)] (by decide +kernel) (Nat.le_refl _) (Nat.le_refl _) (fun K R hK hR => ?_)
      simp only [↓rx_iload_n3, ↓rx_ireturn, ↓rx_nil, ↓ry_li0s, ↓ry_li0z, f15, rz_set, rz_nol, rz_clr, List.set_cons_zero, List.set_cons_succ, rz_tr, Nat.reduceAdd, Int.reduceAdd, Int.reduceToNat, Int.reduceSub, Int.reduceNeg, Int.cast_ofNat_Int]
      try simp (disch := omega) only [f15, pk_us, pk_un, va_up_self, va_up_ne, nI_add, pk_mul, nI_clamp, vp_inT, nI_ltI, nI_leI, nI_eqI, pk_sub, true_and, and_true]
      refine hR _ _ rz_b_nb ?_
      rw [← hQ, hM']
      exact ⟨A1, b, rfl, rfl, a1, f1, k1, hb⟩
    | succ j ih =>
      intro e M b A1 z5 z6 z7 hej hM a1 f1 k1 hb
      obtain ⟨-, f15, u3, -⟩ := re_t_fa (K := [77, 78]) t a1 rfl
      have heT : e < T.2.1.length := by omega
      obtain ⟨p1, p2, p3, p4, p5⟩ := u3 e heT
      rw [Nat.mul_zero, Nat.zero_add] at p1 p2 p3 p4 p5
      obtain ⟨b1, b2, b3, b4, b5⟩ := tw_e w1 heT
      have kc := kt_keep2 h hc f1
      obtain ⟨x1, x2, x3, x4⟩ := kc _ b1
      obtain ⟨y1, y2, y3, y4⟩ := k1 _ b3
      have s1 := kt_os kc b1
      have s2 := kt_os k1 b3
      have s2b := os_ge s2
      have hstep : (T.2.1.take (e + 1)).foldl (mx_1 x X) (fun _ => none) = mx_1 x X M T.2.1[e] := by rw [foldl_take _ _ _ heT, hM]
      have hskip : ¬ (T.2.1[e].2.1 = x ∧ X T.2.1[e].1 ≠ none ∧ M T.2.1[e].2.2.1 = none) → ∀ z5 z6 z7, rz_T w d 0 0 m_Mod_moves 0 0 37 [some (.ref a), some (.int (nI c)), some (.int (nI x)), some (.int (rz_b b)), some (.int (nI (e + 1))), z5, z6, z7] [] (re_put G a I A1) Q := by
        intro hno z5 z6 z7
        exact ih (e + 1) M b A1 z5 z6 z7 (by omega) (by rw [hstep, mx_1, if_neg hno]) a1 f1 k1 hb
      have hadd : T.2.1[e].2.1 = x → ∀ u, X T.2.1[e].1 = some u → M T.2.1[e].2.2.1 = none → rz_T w d 0 0 m_Mod_moves 0 0 110 [some (.ref a), some (.int (nI c)), some (.int (nI x)), some (.int (rz_b b)), some (.int (nI e)), some (.int (nI (6 * c + T.2.1[e].1))), some (.int (nI (6 * n + T.2.1[e].2.2.1))), z7] [] (re_put G a I A1) Q := by
        intro hxe u hu hM0
        have h129' := h129 _ b1
        rw [hu] at x1 x2 x3 x4 h129'
        have x1 : A1 77 (6 * c + T.2.1[e].1) = nI u.length := x1
        simp only [Option.getD_some] at x2 x3 x4 h129'
        have hMM : mx_1 x X M T.2.1[e] = cm_up M T.2.1[e].2.2.1 (u ++ T.2.1[e].2.2.2) := by
          rw [mx_1, if_pos ⟨hxe, by rw [hu]; simp, hM0⟩, hu]; rfl
        rw [hMM] at hstep
        generalize hvv : T.2.1[e].2.2.2 = v at *
        generalize hfr : T.2.1[e].1 = fr at *
        generalize hto : T.2.1[e].2.2.1 = to at *
        have cl : ∀ (j i : Nat) (B : Nat → Nat → Int32), i + j = u.length + v.length → B 77 = upd (A1 77) (6 * n + to) (nI (u.length + v.length)) → (∀ f, f ≠ 77 → B f = A1 f) → rz_T w d 0 0 m_Mod_moves 0 0 137 [some (.ref a), some (.int (nI c)), some (.int (nI x)), some (.int (rz_b true)), some (.int (nI e)), some (.int (nI (6 * c + fr))), some (.int (nI (6 * n + to))), some (.int (nI i))] [] (re_put G a I (va_up B 78 (cp (A1 78) (160 * (6 * n + to)) (wsg (u ++ v)) 0 i))) Q := by
          intro j
          induction j with
          | zero =>
            intro i B hij hB77 hBo
            have hi : i = (u ++ v).length := by rw [List.length_append]; omega
            subst hi
            have g77 : B 77 (6 * n + to) = nI (u.length + v.length) := by rw [hB77, pk_us]
            refine rz_blk' [(.iload 7, 2, 0, 0), (.aload_n 0, 1, 0, 0), (.getfield 190, 3, 10, 77), (.iload 6, 2, 0, 0), (.iaload, 1, 0, 0), (.if_icmp .ge 73, 3, 0, 0)] (by decide +kernel) (Nat.le_refl _) (Nat.le_refl _) (fun K R hK hR => ?_)
            simp only [↓rx_aload_n0, ↓rx_getfield, ↓rx_iaload, ↓rx_if_icmp_ge, ↓rx_iload, ↓rx_nil, ↓ry_i2, ↓ry_iau, ↓ry_li0s, ↓ry_li0z, ↓ry_lr0s, ↓ry_lr0z, ↓ry_obu, ↓ry_r1, ↓ry_ri, true_and, re_a77, ↓re_F77, ↓re_i77, ↓re_ob, g77, rz_set, rz_nol, rz_clr, List.set_cons_zero, List.set_cons_succ, rz_tr, Nat.reduceAdd, Int.reduceAdd, Int.reduceToNat, Int.reduceSub, Int.reduceNeg, Int.cast_ofNat_Int]
            try simp (disch := omega) only [g77, List.length_append, pk_us, pk_un, va_up_self, va_up_ne, nI_add, pk_mul, nI_clamp, vp_inT, nI_ltI, nI_leI, nI_eqI, pk_sub, true_and, and_true]
            refine ⟨fun q2 => hK _ _ _ _ ?_, fun q2 => by omega⟩
            refine rz_blk' [(.iinc 4 1, 3, 0, 0)] (by decide +kernel) (Nat.le_refl _) (Nat.le_refl _) (fun K R hK hR => ?_)
            simp only [rw_c1, ↓rx_iinc, ↓rx_nil, ↓ry_li0s, ↓ry_li0z, g77, rz_set, rz_nol, rz_clr, List.set_cons_zero, List.set_cons_succ, rz_tr, Nat.reduceAdd, Int.reduceAdd, Int.reduceToNat, Int.reduceSub, Int.reduceNeg, Int.cast_ofNat_Int]
            try simp (disch := omega) only [g77, List.length_append, pk_us, pk_un, va_up_self, va_up_ne, nI_add, pk_mul, nI_clamp, vp_inT, nI_ltI, nI_leI, nI_eqI, pk_sub, true_and, and_true]
            refine hK _ _ _ _ ?_
            refine rz_blk' [(.goto (-185), 3, 0, 0)] (by decide +kernel) (Nat.le_refl _) (Nat.le_refl _) (fun K R hK hR => ?_)
            simp only [↓rx_goto, ↓rx_nil, g77, rz_set, rz_nol, rz_clr, List.set_cons_zero, List.set_cons_succ, rz_tr, Nat.reduceAdd, Int.reduceAdd, Int.reduceToNat, Int.reduceSub, Int.reduceNeg, Int.cast_ofNat_Int]
            try simp (disch := omega) only [g77, List.length_append, pk_us, pk_un, va_up_self, va_up_ne, nI_add, pk_mul, nI_clamp, vp_inT, nI_ltI, nI_leI, nI_eqI, pk_sub, true_and, and_true]
            refine hK _ _ _ _ ?_
            refine ih (e + 1) (cm_up M to (u ++ v)) true _ _ _ _ (by omega) hstep.symm ?_ ⟨fun i hi => ?_, fun i hi => ?_⟩ (fun s hs => ?_) ⟨fun _ => ⟨to, b3, by rw [cm_us]; simp⟩, fun _ => rfl⟩
            · intro f hf
              have n77 : f ≠ 77 := by intro q; subst q; revert hf; decide
              have n78 : f ≠ 78 := by intro q; subst q; revert hf; decide
              rw [va_up_ne _ _ n78, hBo f n77]; exact a1 f hf
            · rw [va_up_ne _ _ (by decide), hB77, pk_un (by omega)]; exact f1.1 i hi
            · rw [va_up_self, cp_out (by omega)]; exact f1.2 i hi
            · rw [va_up_ne _ _ (by decide), va_up_self, hB77]
              by_cases cs : s = to
              · subst cs
                rw [pk_us, cm_us]
                refine ⟨by simp only [os, List.length_append], sg_cp sg_wsg (by simp), by simp; omega, fun y hy => ?_⟩
                rcases List.mem_append.mp hy with q | q
                · exact x4 y q
                · exact b5 y q
              · rw [pk_un (by omega), cm_un cs]
                obtain ⟨z1, z2, z3, z4⟩ := k1 s hs
                exact ⟨z1, z2.k (fun y q1 q2 => cp_out (by omega)), z3, z4⟩
          | succ j ihc =>
            intro i B hij hB77 hBo
            have g77 : B 77 (6 * n + to) = nI (u.length + v.length) := by rw [hB77, pk_us]
            have g77c : B 77 (6 * c + fr) = nI u.length := by rw [hB77, pk_un (by omega)]; exact x1
            have g20 := hBo 20 (by decide)
            have g78 := hBo 78 (by decide)
            have hiF : i < (u ++ v).length := by rw [List.length_append]; omega
            have ihc := ihc (i + 1) B (by omega) hB77 hBo
            rw [← cp_s, Nat.zero_add, wsg_at hiF] at ihc
            by_cases cu : i < u.length
            · have e1 : cp (A1 78) (160 * (6 * n + to)) (wsg (u ++ v)) 0 i (160 * (6 * c + fr) + i) = nI (u ++ v)[i] := by
                rw [cp_out (by omega), List.getElem_append_left cu]; exact x2 i cu
              refine rz_blk' [(.iload 7, 2, 0, 0), (.aload_n 0, 1, 0, 0), (.getfield 190, 3, 10, 77), (.iload 6, 2, 0, 0), (.iaload, 1, 0, 0), (.if_icmp .ge 73, 3, 0, 0)] (by decide +kernel) (Nat.le_refl _) (Nat.le_refl _) (fun K R hK hR => ?_)
              simp only [↓rx_aload_n0, ↓rx_getfield, ↓rx_iaload, ↓rx_if_icmp_ge, ↓rx_iload, ↓rx_nil, ↓ry_i2, ↓ry_iau, ↓ry_li0s, ↓ry_li0z, ↓ry_lr0s, ↓ry_lr0z, ↓ry_obu, ↓ry_r1, ↓ry_ri, true_and, re_a77, ↓re_F77, ↓re_i77, ↓re_ob, g77, g77c, e1, re_a78, ↓re_i78, rz_set, rz_nol, rz_clr, List.set_cons_zero, List.set_cons_succ, rz_tr, Nat.reduceAdd, Int.reduceAdd, Int.reduceToNat, Int.reduceSub, Int.reduceNeg, Int.cast_ofNat_Int]
              try simp (disch := omega) only [g77, g77c, e1, pk_us, pk_un, va_up_self, va_up_ne, nI_add, pk_mul, nI_clamp, vp_inT, nI_ltI, nI_leI, nI_eqI, pk_sub, true_and, and_true]
              refine ⟨fun q3 => by omega, fun q3 => hK _ _ _ _ ?_⟩
              refine rz_blk' [(.aload_n 0, 1, 0, 0), (.getfield 194, 3, 10, 78), (.sipush 160, 3, 0, 0), (.iload 6, 2, 0, 0), (.imul, 1, 0, 0), (.iload 7, 2, 0, 0), (.iadd, 1, 0, 0), (.iload 7, 2, 0, 0), (.aload_n 0, 1, 0, 0), (.getfield 190, 3, 10, 77), (.iload 5, 2, 0, 0), (.iaload, 1, 0, 0), (.if_icmp .ge 20, 3, 0, 0)] (by decide +kernel) (Nat.le_refl _) (Nat.le_refl _) (fun K R hK hR => ?_)
              simp only [rw_s160, ↓rx_aload_n0, ↓rx_getfield, ↓rx_iadd, ↓rx_iaload, ↓rx_if_icmp_ge, ↓rx_iload, ↓rx_imul, ↓rx_nil, ↓rx_sipush, ↓ry_i2, ↓ry_iau, ↓ry_li0s, ↓ry_li0z, ↓ry_lr0s, ↓ry_lr0z, ↓ry_obu, ↓ry_r1, ↓ry_ri, true_and, re_a77, re_a78, ↓re_F77, ↓re_F78, ↓re_i77, ↓re_i78, ↓re_ob, g77, g77c, e1, re_a78, ↓re_i78, rz_set, rz_nol, rz_clr, List.set_cons_zero, List.set_cons_succ, rz_tr, Nat.reduceAdd, Int.reduceAdd, Int.reduceToNat, Int.reduceSub, Int.reduceNeg, Int.cast_ofNat_Int]
              try simp (disch := omega) only [g77, g77c, e1, pk_us, pk_un, va_up_self, va_up_ne, nI_add, pk_mul, nI_clamp, vp_inT, nI_ltI, nI_leI, nI_eqI, pk_sub, true_and, and_true]
              refine ⟨fun q4 => by omega, fun q4 => hK _ _ _ _ ?_⟩
              refine rz_blk' [(.aload_n 0, 1, 0, 0), (.getfield 194, 3, 10, 78), (.sipush 160, 3, 0, 0), (.iload 5, 2, 0, 0), (.imul, 1, 0, 0), (.iload 7, 2, 0, 0), (.iadd, 1, 0, 0), (.iaload, 1, 0, 0), (.goto 24, 3, 0, 0)] (by decide +kernel) (Nat.le_refl _) (Nat.le_refl _) (fun K R hK hR => ?_)
              simp only [rw_s160, ↓rx_aload_n0, ↓rx_getfield, ↓rx_goto, ↓rx_iadd, ↓rx_iaload, ↓rx_iload, ↓rx_imul, ↓rx_nil, ↓rx_sipush, ↓ry_i2, ↓ry_iau, ↓ry_li0s, ↓ry_li0z, ↓ry_lr0s, ↓ry_lr0z, ↓ry_obu, ↓ry_r1, ↓ry_ri, true_and, re_a78, ↓re_F78, ↓re_i78, ↓re_ob, g77, g77c, e1, re_a78, ↓re_i78, rz_set, rz_nol, rz_clr, List.set_cons_zero, List.set_cons_succ, rz_tr, Nat.reduceAdd, Int.reduceAdd, Int.reduceToNat, Int.reduceSub, Int.reduceNeg, Int.cast_ofNat_Int]
              try simp (disch := omega) only [g77, g77c, e1, pk_us, pk_un, va_up_self, va_up_ne, nI_add, pk_mul, nI_clamp, vp_inT, nI_ltI, nI_leI, nI_eqI, pk_sub, true_and, and_true]
              refine hK _ _ _ _ ?_
              refine rz_blk' [(.iastore, 1, 0, 0)] (by decide +kernel) (Nat.le_refl _) (Nat.le_refl _) (fun K R hK hR => ?_)
              simp only [↓rx_iastore, ↓rx_nil, ↓ry_iau, ↓ry_rii, true_and, g77, g77c, e1, re_a78, ↓re_i78, rz_set, rz_nol, rz_clr, List.set_cons_zero, List.set_cons_succ, rz_tr, Nat.reduceAdd, Int.reduceAdd, Int.reduceToNat, Int.reduceSub, Int.reduceNeg, Int.cast_ofNat_Int]
              try simp (disch := omega) only [g77, g77c, e1, pk_us, pk_un, va_up_self, va_up_ne, nI_add, pk_mul, nI_clamp, vp_inT, nI_ltI, nI_leI, nI_eqI, pk_sub, true_and, and_true]
              refine hK _ _ _ _ ?_
              refine rz_blk' [(.iinc 7 1, 3, 0, 0)] (by decide +kernel) (Nat.le_refl _) (Nat.le_refl _) (fun K R hK hR => ?_)
              simp only [rw_c1, ↓rx_iinc, ↓rx_nil, ↓ry_li0s, ↓ry_li0z, g77, g77c, e1, re_a78, ↓re_i78, rz_set, rz_nol, rz_clr, List.set_cons_zero, List.set_cons_succ, rz_tr, Nat.reduceAdd, Int.reduceAdd, Int.reduceToNat, Int.reduceSub, Int.reduceNeg, Int.cast_ofNat_Int]
              try simp (disch := omega) only [g77, g77c, e1, pk_us, pk_un, va_up_self, va_up_ne, nI_add, pk_mul, nI_clamp, vp_inT, nI_ltI, nI_leI, nI_eqI, pk_sub, true_and, and_true]
              refine hK _ _ _ _ ?_
              refine rz_blk' [(.goto (-79), 3, 0, 0)] (by decide +kernel) (Nat.le_refl _) (Nat.le_refl _) (fun K R hK hR => ?_)
              simp only [↓rx_goto, ↓rx_nil, g77, g77c, e1, re_a78, ↓re_i78, rz_set, rz_nol, rz_clr, List.set_cons_zero, List.set_cons_succ, rz_tr, Nat.reduceAdd, Int.reduceAdd, Int.reduceToNat, Int.reduceSub, Int.reduceNeg, Int.cast_ofNat_Int]
              try simp (disch := omega) only [g77, g77c, e1, pk_us, pk_un, va_up_self, va_up_ne, nI_add, pk_mul, nI_clamp, vp_inT, nI_ltI, nI_leI, nI_eqI, pk_sub, true_and, and_true]
              refine hK _ _ _ _ ?_
              rw [re_vv]
              exact ihc
            · have hiv : i - u.length < v.length := by omega
              have e1 : A1 20 (32 * e + i - u.length) = nI (u ++ v)[i] := by
                rw [show 32 * e + i - u.length = 32 * e + (i - u.length) by omega, p5 _ hiv, List.getElem_append_right (by omega)]
              refine rz_blk' [(.iload 7, 2, 0, 0), (.aload_n 0, 1, 0, 0), (.getfield 190, 3, 10, 77), (.iload 6, 2, 0, 0), (.iaload, 1, 0, 0), (.if_icmp .ge 73, 3, 0, 0)] (by decide +kernel) (Nat.le_refl _) (Nat.le_refl _) (fun K R hK hR => ?_)
              simp only [↓rx_aload_n0, ↓rx_getfield, ↓rx_iaload, ↓rx_if_icmp_ge, ↓rx_iload, ↓rx_nil, ↓ry_i2, ↓ry_iau, ↓ry_li0s, ↓ry_li0z, ↓ry_lr0s, ↓ry_lr0z, ↓ry_obu, ↓ry_r1, ↓ry_ri, true_and, re_a77, ↓re_F77, ↓re_i77, ↓re_ob, g77, g77c, g20, e1, re_a78, ↓re_i78, rz_set, rz_nol, rz_clr, List.set_cons_zero, List.set_cons_succ, rz_tr, Nat.reduceAdd, Int.reduceAdd, Int.reduceToNat, Int.reduceSub, Int.reduceNeg, Int.cast_ofNat_Int]
              try simp (disch := omega) only [g77, g77c, g20, e1, pk_us, pk_un, va_up_self, va_up_ne, nI_add, pk_mul, nI_clamp, vp_inT, nI_ltI, nI_leI, nI_eqI, pk_sub, true_and, and_true]
              refine ⟨fun q5 => by omega, fun q5 => hK _ _ _ _ ?_⟩
              refine rz_blk' [(.aload_n 0, 1, 0, 0), (.getfield 194, 3, 10, 78), (.sipush 160, 3, 0, 0), (.iload 6, 2, 0, 0), (.imul, 1, 0, 0), (.iload 7, 2, 0, 0), (.iadd, 1, 0, 0), (.iload 7, 2, 0, 0), (.aload_n 0, 1, 0, 0), (.getfield 190, 3, 10, 77), (.iload 5, 2, 0, 0), (.iaload, 1, 0, 0), (.if_icmp .ge 20, 3, 0, 0)] (by decide +kernel) (Nat.le_refl _) (Nat.le_refl _) (fun K R hK hR => ?_)
              simp only [rw_s160, ↓rx_aload_n0, ↓rx_getfield, ↓rx_iadd, ↓rx_iaload, ↓rx_if_icmp_ge, ↓rx_iload, ↓rx_imul, ↓rx_nil, ↓rx_sipush, ↓ry_i2, ↓ry_iau, ↓ry_li0s, ↓ry_li0z, ↓ry_lr0s, ↓ry_lr0z, ↓ry_obu, ↓ry_r1, ↓ry_ri, true_and, re_a77, re_a78, ↓re_F77, ↓re_F78, ↓re_i77, ↓re_i78, ↓re_ob, g77, g77c, g20, e1, re_a78, ↓re_i78, rz_set, rz_nol, rz_clr, List.set_cons_zero, List.set_cons_succ, rz_tr, Nat.reduceAdd, Int.reduceAdd, Int.reduceToNat, Int.reduceSub, Int.reduceNeg, Int.cast_ofNat_Int]
              try simp (disch := omega) only [g77, g77c, g20, e1, pk_us, pk_un, va_up_self, va_up_ne, nI_add, pk_mul, nI_clamp, vp_inT, nI_ltI, nI_leI, nI_eqI, pk_sub, true_and, and_true]
              refine ⟨fun q6 => hK _ _ _ _ ?_, fun q6 => by omega⟩
              refine rz_blk' [(.aload_n 0, 1, 0, 0), (.getfield 65, 3, 10, 20), (.bipush 32, 2, 0, 0), (.iload 4, 2, 0, 0), (.imul, 1, 0, 0), (.iload 7, 2, 0, 0), (.iadd, 1, 0, 0), (.aload_n 0, 1, 0, 0), (.getfield 190, 3, 10, 77), (.iload 5, 2, 0, 0), (.iaload, 1, 0, 0), (.isub, 1, 0, 0), (.iaload, 1, 0, 0), (.iastore, 1, 0, 0)] (by decide +kernel) (Nat.le_refl _) (Nat.le_refl _) (fun K R hK hR => ?_)
              simp only [rw_b32, ↓rx_aload_n0, ↓rx_bipush, ↓rx_getfield, ↓rx_iadd, ↓rx_iaload, ↓rx_iastore, ↓rx_iload, ↓rx_imul, ↓rx_isub, ↓rx_nil, ↓ry_i2, ↓ry_iau, ↓ry_li0s, ↓ry_li0z, ↓ry_lr0s, ↓ry_lr0z, ↓ry_obu, ↓ry_r1, ↓ry_ri, ↓ry_rii, true_and, re_a20, re_a77, ↓re_F20, ↓re_F77, ↓re_i20, ↓re_i77, ↓re_ob, g77, g77c, g20, e1, re_a78, ↓re_i78, rz_set, rz_nol, rz_clr, List.set_cons_zero, List.set_cons_succ, rz_tr, Nat.reduceAdd, Int.reduceAdd, Int.reduceToNat, Int.reduceSub, Int.reduceNeg, Int.cast_ofNat_Int]
              try simp (disch := omega) only [g77, g77c, g20, e1, pk_us, pk_un, va_up_self, va_up_ne, nI_add, pk_mul, nI_clamp, vp_inT, nI_ltI, nI_leI, nI_eqI, pk_sub, true_and, and_true]
              refine hK _ _ _ _ ?_
              refine rz_blk' [(.iinc 7 1, 3, 0, 0)] (by decide +kernel) (Nat.le_refl _) (Nat.le_refl _) (fun K R hK hR => ?_)
              simp only [rw_c1, ↓rx_iinc, ↓rx_nil, ↓ry_li0s, ↓ry_li0z, g77, g77c, g20, e1, re_a78, ↓re_i78, rz_set, rz_nol, rz_clr, List.set_cons_zero, List.set_cons_succ, rz_tr, Nat.reduceAdd, Int.reduceAdd, Int.reduceToNat, Int.reduceSub, Int.reduceNeg, Int.cast_ofNat_Int]
              try simp (disch := omega) only [g77, g77c, g20, e1, pk_us, pk_un, va_up_self, va_up_ne, nI_add, pk_mul, nI_clamp, vp_inT, nI_ltI, nI_leI, nI_eqI, pk_sub, true_and, and_true]
              refine hK _ _ _ _ ?_
              refine rz_blk' [(.goto (-79), 3, 0, 0)] (by decide +kernel) (Nat.le_refl _) (Nat.le_refl _) (fun K R hK hR => ?_)
              simp only [↓rx_goto, ↓rx_nil, g77, g77c, g20, e1, re_a78, ↓re_i78, rz_set, rz_nol, rz_clr, List.set_cons_zero, List.set_cons_succ, rz_tr, Nat.reduceAdd, Int.reduceAdd, Int.reduceToNat, Int.reduceSub, Int.reduceNeg, Int.cast_ofNat_Int]
              try simp (disch := omega) only [g77, g77c, g20, e1, pk_us, pk_un, va_up_self, va_up_ne, nI_add, pk_mul, nI_clamp, vp_inT, nI_ltI, nI_leI, nI_eqI, pk_sub, true_and, and_true]
              refine hK _ _ _ _ ?_
              rw [re_vv]
              exact ihc
        refine rz_blk' [(.iconst 1, 1, 0, 0), (.istore_n 3, 1, 0, 0)] (by decide +kernel) (Nat.le_refl _) (Nat.le_refl _) (fun K R hK hR => ?_)
        simp only [rw_c1, ↓rx_iconst, ↓rx_istore_n3, ↓rx_nil, ↓ry_i1, x1, p4, re_a77, ↓re_i77, rz_set, rz_nol, rz_clr, List.set_cons_zero, List.set_cons_succ, rz_tr, Nat.reduceAdd, Int.reduceAdd, Int.reduceToNat, Int.reduceSub, Int.reduceNeg, Int.cast_ofNat_Int]
        try simp (disch := omega) only [x1, p4, pk_us, pk_un, va_up_self, va_up_ne, nI_add, pk_mul, nI_clamp, vp_inT, nI_ltI, nI_leI, nI_eqI, pk_sub, true_and, and_true]
        refine hK _ _ _ _ ?_
        refine rz_blk' [(.aload_n 0, 1, 0, 0), (.getfield 190, 3, 10, 77), (.iload 6, 2, 0, 0), (.aload_n 0, 1, 0, 0), (.getfield 190, 3, 10, 77), (.iload 5, 2, 0, 0), (.iaload, 1, 0, 0), (.aload_n 0, 1, 0, 0), (.getfield 62, 3, 10, 19), (.iload 4, 2, 0, 0), (.iaload, 1, 0, 0), (.iadd, 1, 0, 0), (.iastore, 1, 0, 0)] (by decide +kernel) (Nat.le_refl _) (Nat.le_refl _) (fun K R hK hR => ?_)
        simp only [↓rx_aload_n0, ↓rx_getfield, ↓rx_iadd, ↓rx_iaload, ↓rx_iastore, ↓rx_iload, ↓rx_nil, ↓ry_i2, ↓ry_iau, ↓ry_li0s, ↓ry_li0z, ↓ry_lr0s, ↓ry_lr0z, ↓ry_obu, ↓ry_r1, ↓ry_ri, ↓ry_rii, true_and, re_a19, re_a77, ↓re_F19, ↓re_F77, ↓re_i19, ↓re_i77, ↓re_ob, x1, p4, re_a77, ↓re_i77, rz_set, rz_nol, rz_clr, List.set_cons_zero, List.set_cons_succ, rz_tr, Nat.reduceAdd, Int.reduceAdd, Int.reduceToNat, Int.reduceSub, Int.reduceNeg, Int.cast_ofNat_Int]
        try simp (disch := omega) only [x1, p4, pk_us, pk_un, va_up_self, va_up_ne, nI_add, pk_mul, nI_clamp, vp_inT, nI_ltI, nI_leI, nI_eqI, pk_sub, true_and, and_true]
        refine hK _ _ _ _ ?_
        refine rz_blk' [(.iconst 0, 1, 0, 0), (.istore 7, 2, 0, 0)] (by decide +kernel) (Nat.le_refl _) (Nat.le_refl _) (fun K R hK hR => ?_)
        simp only [rw_c0, ↓rx_iconst, ↓rx_istore, ↓rx_nil, ↓ry_i1, x1, p4, re_a77, ↓re_i77, rz_set, rz_nol, rz_clr, List.set_cons_zero, List.set_cons_succ, rz_tr, Nat.reduceAdd, Int.reduceAdd, Int.reduceToNat, Int.reduceSub, Int.reduceNeg, Int.cast_ofNat_Int]
        try simp (disch := omega) only [x1, p4, pk_us, pk_un, va_up_self, va_up_ne, nI_add, pk_mul, nI_clamp, vp_inT, nI_ltI, nI_leI, nI_eqI, pk_sub, true_and, and_true]
        refine hK _ _ _ _ ?_
        have hz := cl (u.length + v.length) 0 _ (Nat.zero_add _) (va_up_self _ _ _) (fun f hf => va_up_ne _ _ hf)
        have e0 : cp (A1 78) (160 * (6 * n + to)) (wsg (u ++ v)) 0 0 = va_up A1 77 (upd (A1 77) (6 * n + to) (nI (u.length + v.length))) 78 := by rw [cp_0, va_up_ne _ _ (by decide)]
        rw [e0, re_ve] at hz
        exact hz
      refine rz_blk' [(.iload 4, 2, 0, 0), (.aload_n 0, 1, 0, 0), (.getfield 50, 3, 10, 15), (.iconst 0, 1, 0, 0), (.iaload, 1, 0, 0), (.if_icmp .ge 180, 3, 0, 0)] (by decide +kernel) (Nat.le_refl _) (Nat.le_refl _) (fun K R hK hR => ?_)
      simp only [rw_c0, ↓rx_aload_n0, ↓rx_getfield, ↓rx_iaload, ↓rx_iconst, ↓rx_if_icmp_ge, ↓rx_iload, ↓rx_nil, ↓ry_i2, ↓ry_iau, ↓ry_li0s, ↓ry_li0z, ↓ry_lr0s, ↓ry_lr0z, ↓ry_obu, ↓ry_r1, ↓ry_ri, true_and, re_a15, ↓re_F15, ↓re_i15, ↓re_ob, hn, f15, p1, p2, p3, x1, y1, rz_set, rz_nol, rz_clr, List.set_cons_zero, List.set_cons_succ, rz_tr, Nat.reduceAdd, Int.reduceAdd, Int.reduceToNat, Int.reduceSub, Int.reduceNeg, Int.cast_ofNat_Int]
      try simp (disch := omega) only [hn, f15, p1, p2, p3, x1, y1, s1, s2, s2b, Classical.not_not, pk_us, pk_un, va_up_self, va_up_ne, nI_add, pk_mul, nI_clamp, vp_inT, nI_ltI, nI_leI, nI_eqI, pk_sub, true_and, and_true]
      refine ⟨fun q7 => by omega, fun q7 => hK _ _ _ _ ?_⟩
      refine rz_blk' [(.bipush 6, 2, 0, 0), (.iload_n 1, 1, 0, 0), (.imul, 1, 0, 0), (.aload_n 0, 1, 0, 0), (.getfield 53, 3, 10, 16), (.iload 4, 2, 0, 0), (.iaload, 1, 0, 0), (.iadd, 1, 0, 0), (.istore 5, 2, 0, 0)] (by decide +kernel) (Nat.le_refl _) (Nat.le_refl _) (fun K R hK hR => ?_)
      simp only [rw_b6, ↓rx_aload_n0, ↓rx_bipush, ↓rx_getfield, ↓rx_iadd, ↓rx_iaload, ↓rx_iload, ↓rx_iload_n1, ↓rx_imul, ↓rx_istore, ↓rx_nil, ↓ry_i1, ↓ry_i2, ↓ry_iau, ↓ry_li0s, ↓ry_li0z, ↓ry_lr0s, ↓ry_lr0z, ↓ry_obu, ↓ry_r1, ↓ry_ri, true_and, re_a16, ↓re_F16, ↓re_i16, ↓re_ob, hn, f15, p1, p2, p3, x1, y1, rz_set, rz_nol, rz_clr, List.set_cons_zero, List.set_cons_succ, rz_tr, Nat.reduceAdd, Int.reduceAdd, Int.reduceToNat, Int.reduceSub, Int.reduceNeg, Int.cast_ofNat_Int]
      try simp (disch := omega) only [hn, f15, p1, p2, p3, x1, y1, s1, s2, s2b, Classical.not_not, pk_us, pk_un, va_up_self, va_up_ne, nI_add, pk_mul, nI_clamp, vp_inT, nI_ltI, nI_leI, nI_eqI, pk_sub, true_and, and_true]
      refine hK _ _ _ _ ?_
      refine rz_blk' [(.bipush 6, 2, 0, 0), (.aload_n 0, 1, 0, 0), (.getfield 376, 3, 10, 76), (.imul, 1, 0, 0), (.aload_n 0, 1, 0, 0), (.getfield 59, 3, 10, 18), (.iload 4, 2, 0, 0), (.iaload, 1, 0, 0), (.iadd, 1, 0, 0), (.istore 6, 2, 0, 0)] (by decide +kernel) (Nat.le_refl _) (Nat.le_refl _) (fun K R hK hR => ?_)
      simp only [rw_b6, ↓rx_aload_n0, ↓rx_bipush, ↓rx_getfield, ↓rx_iadd, ↓rx_iaload, ↓rx_iload, ↓rx_imul, ↓rx_istore, ↓rx_nil, ↓ry_i1, ↓ry_i2, ↓ry_iau, ↓ry_li0s, ↓ry_li0z, ↓ry_lr0s, ↓ry_lr0z, ↓ry_obu, ↓ry_r1, ↓ry_ri, true_and, re_a18, ↓re_F18, ↓re_F76, ↓re_i18, ↓re_ob, hn, f15, p1, p2, p3, x1, y1, rz_set, rz_nol, rz_clr, List.set_cons_zero, List.set_cons_succ, rz_tr, Nat.reduceAdd, Int.reduceAdd, Int.reduceToNat, Int.reduceSub, Int.reduceNeg, Int.cast_ofNat_Int]
      try simp (disch := omega) only [hn, f15, p1, p2, p3, x1, y1, s1, s2, s2b, Classical.not_not, pk_us, pk_un, va_up_self, va_up_ne, nI_add, pk_mul, nI_clamp, vp_inT, nI_ltI, nI_leI, nI_eqI, pk_sub, true_and, and_true]
      refine hK _ _ _ _ ?_
      refine rz_blk' [(.aload_n 0, 1, 0, 0), (.getfield 56, 3, 10, 17), (.iload 4, 2, 0, 0), (.iaload, 1, 0, 0), (.iload_n 2, 1, 0, 0), (.if_icmp .ne 132, 3, 0, 0)] (by decide +kernel) (Nat.le_refl _) (Nat.le_refl _) (fun K R hK hR => ?_)
      simp only [↓rx_aload_n0, ↓rx_getfield, ↓rx_iaload, ↓rx_if_icmp_ne, ↓rx_iload, ↓rx_iload_n2, ↓rx_nil, ↓ry_i2, ↓ry_iau, ↓ry_li0s, ↓ry_li0z, ↓ry_lr0s, ↓ry_lr0z, ↓ry_obu, ↓ry_r1, ↓ry_ri, true_and, re_a17, ↓re_F17, ↓re_i17, ↓re_ob, hn, f15, p1, p2, p3, x1, y1, rz_set, rz_nol, rz_clr, List.set_cons_zero, List.set_cons_succ, rz_tr, Nat.reduceAdd, Int.reduceAdd, Int.reduceToNat, Int.reduceSub, Int.reduceNeg, Int.cast_ofNat_Int]
      try simp (disch := omega) only [hn, f15, p1, p2, p3, x1, y1, s1, s2, s2b, Classical.not_not, pk_us, pk_un, va_up_self, va_up_ne, nI_add, pk_mul, nI_clamp, vp_inT, nI_ltI, nI_leI, nI_eqI, pk_sub, true_and, and_true]
      refine ⟨fun q8 => hK _ _ _ _ ?_, fun q8 => hK _ _ _ _ ?_⟩
      · -- 87 taken
        refine rz_blk' [(.iinc 4 1, 3, 0, 0)] (by decide +kernel) (Nat.le_refl _) (Nat.le_refl _) (fun K R hK hR => ?_)
        simp only [rw_c1, ↓rx_iinc, ↓rx_nil, ↓ry_li0s, ↓ry_li0z, hn, f15, p1, p2, p3, x1, y1, rz_set, rz_nol, rz_clr, List.set_cons_zero, List.set_cons_succ, rz_tr, Nat.reduceAdd, Int.reduceAdd, Int.reduceToNat, Int.reduceSub, Int.reduceNeg, Int.cast_ofNat_Int]
        try simp (disch := omega) only [hn, f15, p1, p2, p3, x1, y1, s1, s2, s2b, Classical.not_not, pk_us, pk_un, va_up_self, va_up_ne, nI_add, pk_mul, nI_clamp, vp_inT, nI_ltI, nI_leI, nI_eqI, pk_sub, true_and, and_true]
        refine hK _ _ _ _ ?_
        refine rz_blk' [(.goto (-185), 3, 0, 0)] (by decide +kernel) (Nat.le_refl _) (Nat.le_refl _) (fun K R hK hR => ?_)
        simp only [↓rx_goto, ↓rx_nil, hn, f15, p1, p2, p3, x1, y1, rz_set, rz_nol, rz_clr, List.set_cons_zero, List.set_cons_succ, rz_tr, Nat.reduceAdd, Int.reduceAdd, Int.reduceToNat, Int.reduceSub, Int.reduceNeg, Int.cast_ofNat_Int]
        try simp (disch := omega) only [hn, f15, p1, p2, p3, x1, y1, s1, s2, s2b, Classical.not_not, pk_us, pk_un, va_up_self, va_up_ne, nI_add, pk_mul, nI_clamp, vp_inT, nI_ltI, nI_leI, nI_eqI, pk_sub, true_and, and_true]
        refine hK _ _ _ _ ?_
        first
          | exact hskip (fun q => q8 q.1) _ _ _
          | exact hskip (fun q => q.2.1 q8) _ _ _
          | exact hskip (fun q => q8 q.2.2) _ _ _
      · -- 87 not taken
        refine rz_blk' [(.aload_n 0, 1, 0, 0), (.getfield 190, 3, 10, 77), (.iload 5, 2, 0, 0), (.iaload, 1, 0, 0), (.ifCond .lt 122, 3, 0, 0)] (by decide +kernel) (Nat.le_refl _) (Nat.le_refl _) (fun K R hK hR => ?_)
        simp only [↓rx_aload_n0, ↓rx_getfield, ↓rx_iaload, ↓rx_ifCond_lt, ↓rx_iload, ↓rx_nil, ↓ry_i1, ↓ry_iau, ↓ry_li0s, ↓ry_li0z, ↓ry_lr0s, ↓ry_lr0z, ↓ry_obu, ↓ry_r1, ↓ry_ri, true_and, re_a77, ↓re_F77, ↓re_i77, ↓re_ob, hn, f15, p1, p2, p3, x1, y1, rz_set, rz_nol, rz_clr, List.set_cons_zero, List.set_cons_succ, rz_tr, Nat.reduceAdd, Int.reduceAdd, Int.reduceToNat, Int.reduceSub, Int.reduceNeg, Int.cast_ofNat_Int]
        try simp (disch := omega) only [hn, f15, p1, p2, p3, x1, y1, s1, s2, s2b, Classical.not_not, pk_us, pk_un, va_up_self, va_up_ne, nI_add, pk_mul, nI_clamp, vp_inT, nI_ltI, nI_leI, nI_eqI, pk_sub, true_and, and_true]
        refine ⟨fun q9 => hK _ _ _ _ ?_, fun q9 => hK _ _ _ _ ?_⟩
        · -- 97 taken
          refine rz_blk' [(.iinc 4 1, 3, 0, 0)] (by decide +kernel) (Nat.le_refl _) (Nat.le_refl _) (fun K R hK hR => ?_)
          simp only [rw_c1, ↓rx_iinc, ↓rx_nil, ↓ry_li0s, ↓ry_li0z, hn, f15, p1, p2, p3, x1, y1, rz_set, rz_nol, rz_clr, List.set_cons_zero, List.set_cons_succ, rz_tr, Nat.reduceAdd, Int.reduceAdd, Int.reduceToNat, Int.reduceSub, Int.reduceNeg, Int.cast_ofNat_Int]
          try simp (disch := omega) only [hn, f15, p1, p2, p3, x1, y1, s1, s2, s2b, Classical.not_not, pk_us, pk_un, va_up_self, va_up_ne, nI_add, pk_mul, nI_clamp, vp_inT, nI_ltI, nI_leI, nI_eqI, pk_sub, true_and, and_true]
          refine hK _ _ _ _ ?_
          refine rz_blk' [(.goto (-185), 3, 0, 0)] (by decide +kernel) (Nat.le_refl _) (Nat.le_refl _) (fun K R hK hR => ?_)
          simp only [↓rx_goto, ↓rx_nil, hn, f15, p1, p2, p3, x1, y1, rz_set, rz_nol, rz_clr, List.set_cons_zero, List.set_cons_succ, rz_tr, Nat.reduceAdd, Int.reduceAdd, Int.reduceToNat, Int.reduceSub, Int.reduceNeg, Int.cast_ofNat_Int]
          try simp (disch := omega) only [hn, f15, p1, p2, p3, x1, y1, s1, s2, s2b, Classical.not_not, pk_us, pk_un, va_up_self, va_up_ne, nI_add, pk_mul, nI_clamp, vp_inT, nI_ltI, nI_leI, nI_eqI, pk_sub, true_and, and_true]
          refine hK _ _ _ _ ?_
          first
            | exact hskip (fun q => q9 q.1) _ _ _
            | exact hskip (fun q => q.2.1 q9) _ _ _
            | exact hskip (fun q => q9 q.2.2) _ _ _
        · -- 97 not taken
          refine rz_blk' [(.aload_n 0, 1, 0, 0), (.getfield 190, 3, 10, 77), (.iload 6, 2, 0, 0), (.iaload, 1, 0, 0), (.ifCond .ge 112, 3, 0, 0)] (by decide +kernel) (Nat.le_refl _) (Nat.le_refl _) (fun K R hK hR => ?_)
          simp only [↓rx_aload_n0, ↓rx_getfield, ↓rx_iaload, ↓rx_ifCond_ge, ↓rx_iload, ↓rx_nil, ↓ry_i1, ↓ry_iau, ↓ry_li0s, ↓ry_li0z, ↓ry_lr0s, ↓ry_lr0z, ↓ry_obu, ↓ry_r1, ↓ry_ri, true_and, re_a77, ↓re_F77, ↓re_i77, ↓re_ob, hn, f15, p1, p2, p3, x1, y1, rz_set, rz_nol, rz_clr, List.set_cons_zero, List.set_cons_succ, rz_tr, Nat.reduceAdd, Int.reduceAdd, Int.reduceToNat, Int.reduceSub, Int.reduceNeg, Int.cast_ofNat_Int]
          try simp (disch := omega) only [hn, f15, p1, p2, p3, x1, y1, s1, s2, s2b, Classical.not_not, pk_us, pk_un, va_up_self, va_up_ne, nI_add, pk_mul, nI_clamp, vp_inT, nI_ltI, nI_leI, nI_eqI, pk_sub, true_and, and_true]
          refine ⟨fun q10 => hK _ _ _ _ ?_, fun q10 => hK _ _ _ _ ?_⟩
          · -- 107 taken
            refine rz_blk' [(.iinc 4 1, 3, 0, 0)] (by decide +kernel) (Nat.le_refl _) (Nat.le_refl _) (fun K R hK hR => ?_)
            simp only [rw_c1, ↓rx_iinc, ↓rx_nil, ↓ry_li0s, ↓ry_li0z, hn, f15, p1, p2, p3, x1, y1, rz_set, rz_nol, rz_clr, List.set_cons_zero, List.set_cons_succ, rz_tr, Nat.reduceAdd, Int.reduceAdd, Int.reduceToNat, Int.reduceSub, Int.reduceNeg, Int.cast_ofNat_Int]
            try simp (disch := omega) only [hn, f15, p1, p2, p3, x1, y1, s1, s2, s2b, Classical.not_not, pk_us, pk_un, va_up_self, va_up_ne, nI_add, pk_mul, nI_clamp, vp_inT, nI_ltI, nI_leI, nI_eqI, pk_sub, true_and, and_true]
            refine hK _ _ _ _ ?_
            refine rz_blk' [(.goto (-185), 3, 0, 0)] (by decide +kernel) (Nat.le_refl _) (Nat.le_refl _) (fun K R hK hR => ?_)
            simp only [↓rx_goto, ↓rx_nil, hn, f15, p1, p2, p3, x1, y1, rz_set, rz_nol, rz_clr, List.set_cons_zero, List.set_cons_succ, rz_tr, Nat.reduceAdd, Int.reduceAdd, Int.reduceToNat, Int.reduceSub, Int.reduceNeg, Int.cast_ofNat_Int]
            try simp (disch := omega) only [hn, f15, p1, p2, p3, x1, y1, s1, s2, s2b, Classical.not_not, pk_us, pk_un, va_up_self, va_up_ne, nI_add, pk_mul, nI_clamp, vp_inT, nI_ltI, nI_leI, nI_eqI, pk_sub, true_and, and_true]
            refine hK _ _ _ _ ?_
            first
              | exact hskip (fun q => q10 q.1) _ _ _
              | exact hskip (fun q => q.2.1 q10) _ _ _
              | exact hskip (fun q => q10 q.2.2) _ _ _
          · -- 107 not taken
            obtain ⟨u, hu⟩ := Option.ne_none_iff_exists'.mp q9
            exact hadd (by simpa using q8) u hu (by first | exact q10 | simpa using q10)
  have sl : ∀ (j i : Nat) (A1 : Nat → Nat → Int32), i + j = 6 → fa [77, 78] A A1 → kt_fr n A A1 → (∀ s, s < i → A1 77 (6 * n + s) = -1) → rz_T w d 0 0 m_Mod_moves 0 0 5 [some (.ref a), some (.int (nI c)), some (.int (nI x)), some (.int (rz_b false)), some (.int (nI i)), none, none, none] [] (re_put G a I A1) Q := by
    intro j
    induction j with
    | zero =>
      intro i A1 hij a1 f1 hk
      have hi : i = 6 := by omega
      subst hi
      refine rz_blk' [(.iload 4, 2, 0, 0), (.bipush 6, 2, 0, 0), (.if_icmp .ge 25, 3, 0, 0)] (by decide +kernel) (Nat.le_refl _) (Nat.le_refl _) (fun K R hK hR => ?_)
      simp only [rw_b6, ↓rx_bipush, ↓rx_if_icmp_ge, ↓rx_iload, ↓rx_nil, ↓ry_i2, ↓ry_li0s, ↓ry_li0z, rz_set, rz_nol, rz_clr, List.set_cons_zero, List.set_cons_succ, rz_tr, Nat.reduceAdd, Int.reduceAdd, Int.reduceToNat, Int.reduceSub, Int.reduceNeg, Int.cast_ofNat_Int]
      try simp (disch := omega) only [pk_us, pk_un, va_up_self, va_up_ne, nI_add, pk_mul, nI_clamp, vp_inT, nI_ltI, nI_leI, nI_eqI, pk_sub, true_and, and_true]
      refine ⟨fun q11 => hK _ _ _ _ ?_, fun q11 => by omega⟩
      refine rz_blk' [(.iconst 0, 1, 0, 0), (.istore 4, 2, 0, 0)] (by decide +kernel) (Nat.le_refl _) (Nat.le_refl _) (fun K R hK hR => ?_)
      simp only [rw_c0, ↓rx_iconst, ↓rx_istore, ↓rx_nil, ↓ry_i1, rz_set, rz_nol, rz_clr, List.set_cons_zero, List.set_cons_succ, rz_tr, Nat.reduceAdd, Int.reduceAdd, Int.reduceToNat, Int.reduceSub, Int.reduceNeg, Int.cast_ofNat_Int]
      try simp (disch := omega) only [pk_us, pk_un, va_up_self, va_up_ne, nI_add, pk_mul, nI_clamp, vp_inT, nI_ltI, nI_leI, nI_eqI, pk_sub, true_and, and_true]
      refine hK _ _ _ _ ?_
      exact el T.2.1.length 0 (fun _ => none) false A1 _ _ _ (Nat.zero_add _) rfl a1 f1 (fun s hs => ⟨hk s hs, sg_nil, by simp, by simp⟩) ⟨fun q => (by cases q), fun ⟨s, _, q⟩ => absurd rfl q⟩
    | succ j ih =>
      intro i A1 hij a1 f1 hk
      refine rz_blk' [(.iload 4, 2, 0, 0), (.bipush 6, 2, 0, 0), (.if_icmp .ge 25, 3, 0, 0)] (by decide +kernel) (Nat.le_refl _) (Nat.le_refl _) (fun K R hK hR => ?_)
      simp only [rw_b6, ↓rx_bipush, ↓rx_if_icmp_ge, ↓rx_iload, ↓rx_nil, ↓ry_i2, ↓ry_li0s, ↓ry_li0z, hn, rz_set, rz_nol, rz_clr, List.set_cons_zero, List.set_cons_succ, rz_tr, Nat.reduceAdd, Int.reduceAdd, Int.reduceToNat, Int.reduceSub, Int.reduceNeg, Int.cast_ofNat_Int]
      try simp (disch := omega) only [hn, pk_us, pk_un, va_up_self, va_up_ne, nI_add, pk_mul, nI_clamp, vp_inT, nI_ltI, nI_leI, nI_eqI, pk_sub, true_and, and_true]
      refine ⟨fun q12 => by omega, fun q12 => hK _ _ _ _ ?_⟩
      refine rz_blk' [(.aload_n 0, 1, 0, 0), (.getfield 190, 3, 10, 77), (.bipush 6, 2, 0, 0), (.aload_n 0, 1, 0, 0), (.getfield 376, 3, 10, 76), (.imul, 1, 0, 0), (.iload 4, 2, 0, 0), (.iadd, 1, 0, 0), (.iconst (-1), 1, 0, 0), (.iastore, 1, 0, 0)] (by decide +kernel) (Nat.le_refl _) (Nat.le_refl _) (fun K R hK hR => ?_)
      simp only [rw_b6, rw_cm1, ↓rx_aload_n0, ↓rx_bipush, ↓rx_getfield, ↓rx_iadd, ↓rx_iastore, ↓rx_iconst, ↓rx_iload, ↓rx_imul, ↓rx_nil, ↓ry_i2, ↓ry_iau, ↓ry_li0s, ↓ry_li0z, ↓ry_lr0s, ↓ry_lr0z, ↓ry_obu, ↓ry_r1, ↓ry_rii, true_and, re_a77, ↓re_F76, ↓re_F77, ↓re_i77, ↓re_ob, hn, rz_set, rz_nol, rz_clr, List.set_cons_zero, List.set_cons_succ, rz_tr, Nat.reduceAdd, Int.reduceAdd, Int.reduceToNat, Int.reduceSub, Int.reduceNeg, Int.cast_ofNat_Int]
      try simp (disch := omega) only [hn, pk_us, pk_un, va_up_self, va_up_ne, nI_add, pk_mul, nI_clamp, vp_inT, nI_ltI, nI_leI, nI_eqI, pk_sub, true_and, and_true]
      refine hK _ _ _ _ ?_
      refine rz_blk' [(.iinc 4 1, 3, 0, 0)] (by decide +kernel) (Nat.le_refl _) (Nat.le_refl _) (fun K R hK hR => ?_)
      simp only [rw_c1, ↓rx_iinc, ↓rx_nil, ↓ry_li0s, ↓ry_li0z, hn, rz_set, rz_nol, rz_clr, List.set_cons_zero, List.set_cons_succ, rz_tr, Nat.reduceAdd, Int.reduceAdd, Int.reduceToNat, Int.reduceSub, Int.reduceNeg, Int.cast_ofNat_Int]
      try simp (disch := omega) only [hn, pk_us, pk_un, va_up_self, va_up_ne, nI_add, pk_mul, nI_clamp, vp_inT, nI_ltI, nI_leI, nI_eqI, pk_sub, true_and, and_true]
      refine hK _ _ _ _ ?_
      refine rz_blk' [(.goto (-26), 3, 0, 0)] (by decide +kernel) (Nat.le_refl _) (Nat.le_refl _) (fun K R hK hR => ?_)
      simp only [↓rx_goto, ↓rx_nil, hn, rz_set, rz_nol, rz_clr, List.set_cons_zero, List.set_cons_succ, rz_tr, Nat.reduceAdd, Int.reduceAdd, Int.reduceToNat, Int.reduceSub, Int.reduceNeg, Int.cast_ofNat_Int]
      try simp (disch := omega) only [hn, pk_us, pk_un, va_up_self, va_up_ne, nI_add, pk_mul, nI_clamp, vp_inT, nI_ltI, nI_leI, nI_eqI, pk_sub, true_and, and_true]
      refine hK _ _ _ _ ?_
      refine ih (i + 1) _ (by omega) (a1.u rfl) ⟨fun k hk2 => ?_, fun k hk2 => ?_⟩ (fun s hs => ?_)
      · rw [va_up_self, pk_un (by omega)]; exact f1.1 k hk2
      · rw [va_up_ne _ _ (by decide)]; exact f1.2 k hk2
      · rw [va_up_self]
        by_cases cs : s = i
        · subst cs; rw [pk_us]
        · rw [pk_un (by omega)]; exact hk s (by omega)
  refine rz_enter' [some (.ref a), some (.int (nI c)), some (.int (nI x)), none, none, none, none, none] (by decide +kernel) rfl rfl (Nat.le_of_ble_eq_true rfl) rfl ?_
  refine rz_blk' [(.iconst 0, 1, 0, 0), (.istore_n 3, 1, 0, 0)] (by decide +kernel) (Nat.le_refl _) (Nat.le_refl _) (fun K R hK hR => ?_)
  simp only [rw_c0, ↓rx_iconst, ↓rx_istore_n3, ↓rx_nil, ↓ry_i1, rz_set, rz_nol, rz_clr, List.set_cons_zero, List.set_cons_succ, rz_tr, Nat.reduceAdd, Int.reduceAdd, Int.reduceToNat, Int.reduceSub, Int.reduceNeg, Int.cast_ofNat_Int]
  try simp (disch := omega) only [pk_us, pk_un, va_up_self, va_up_ne, nI_add, pk_mul, nI_clamp, vp_inT, nI_ltI, nI_leI, nI_eqI, pk_sub, true_and, and_true]
  refine hK _ _ _ _ ?_
  refine rz_blk' [(.iconst 0, 1, 0, 0), (.istore 4, 2, 0, 0)] (by decide +kernel) (Nat.le_refl _) (Nat.le_refl _) (fun K R hK hR => ?_)
  simp only [rw_c0, ↓rx_iconst, ↓rx_istore, ↓rx_nil, ↓ry_i1, rz_set, rz_nol, rz_clr, List.set_cons_zero, List.set_cons_succ, rz_tr, Nat.reduceAdd, Int.reduceAdd, Int.reduceToNat, Int.reduceSub, Int.reduceNeg, Int.cast_ofNat_Int]
  try simp (disch := omega) only [pk_us, pk_un, va_up_self, va_up_ne, nI_add, pk_mul, nI_clamp, vp_inT, nI_ltI, nI_leI, nI_eqI, pk_sub, true_and, and_true]
  refine hK _ _ _ _ ?_
  exact sl 6 0 A rfl fa.rf kt_fr.rf (fun s hs => absurd hs (Nat.not_lt_zero _))
set_option maxRecDepth 100000 in
set_option maxHeartbeats 4000000 in
theorem c_Mod_writeNow {w : rz_w} {d : Nat} {G : rz_G} {a : Nat} {I : Nat → Int32} {A : Nat → Nat → Int32} {n sl : Nat} {M : kt_T} (hn : I 76 = nI n) (hn41 : n ≤ 41) (hsl : sl < 126) (h : kt_at A n M) (hex : ∃ s, s < 6 ∧ M s ≠ none) : rz_C w d 0 0 y_Mod_writeNow m_Mod_writeNow [.ref a, .int (nI sl)] (re_put G a I A) (fun (r : Option Value) (G' : rz_G) => r = none ∧ ∃ A' Lw, G' = re_put G a I A' ∧ fa [77, 78, 80, 81] A A' ∧ kt_fr n A A' ∧ kt_at A' n (fun s => (M s).map (fun w => w.drop Lw.length)) ∧ lc_is M Lw ∧ Lw.length ≤ 150 ∧ A' 80 = upd (A 80) sl (nI Lw.length) ∧ sg (A' 81) (160 * sl) Lw ∧ ∀ i, (i < 160 * sl ∨ 160 * sl + 160 ≤ i) → A' 81 i = A 81 i) := by
  generalize hQ : (fun (r : Option Value) (G' : rz_G) => r = none ∧ ∃ A' Lw, G' = re_put G a I A' ∧ fa [77, 78, 80, 81] A A' ∧ kt_fr n A A' ∧ kt_at A' n (fun s => (M s).map (fun w => w.drop Lw.length)) ∧ lc_is M Lw ∧ Lw.length ≤ 150 ∧ A' 80 = upd (A 80) sl (nI Lw.length) ∧ sg (A' 81) (160 * sl) Lw ∧ ∀ i, (i < 160 * sl ∨ 160 * sl + 160 ≤ i) → A' 81 i = A 81 i) = Q
  -- the last loop: what all begin with is cut
  have hcut : ∀ (Lw : List Nat) (ld : Nat) (A0 : Nat → Nat → Int32) (z3 : Int32) (z5 z6 : Option Value), lc_is M Lw → Lw.length ≤ 150 → fa [81] A A0 → sg (A0 81) (160 * sl) Lw → (∀ i, (i < 160 * sl ∨ 160 * sl + 160 ≤ i) → A0 81 i = A 81 i) → rz_T w d 0 0 m_Mod_writeNow 0 0 174 [some (.ref a), some (.int (nI sl)), some (.int (nI Lw.length)), some (.int z3), some (.int (nI ld)), z5, z6, none] [] (re_put G a I A0) Q := by
    intro Lw ld A0 z3 z5 z6 hlc hlen a0 h81 h81o
    have sl' : ∀ (j i : Nat) (A1 : Nat → Nat → Int32) (z6 z7 : Option Value), i + j = 6 → fa [77, 78, 80, 81] A A1 → kt_fr n A A1 → A1 80 = upd (A 80) sl (nI Lw.length) → A1 81 = A0 81 → (∀ s, s < 6 → A1 77 (6 * n + s) = os (if s < i then (M s).map (fun w => w.drop Lw.length) else M s) ∧ sg (A1 78) (160 * (6 * n + s)) ((if s < i then (M s).map (fun w => w.drop Lw.length) else M s).getD [])) → rz_T w d 0 0 m_Mod_writeNow 0 0 184 [some (.ref a), some (.int (nI sl)), some (.int (nI Lw.length)), some (.int z3), some (.int (nI ld)), some (.int (nI i)), z6, z7] [] (re_put G a I A1) Q := by
      intro j
      induction j with
      | zero =>
        intro i A1 z6 z7 hij a1 f1 e80 e81 hk
        have hi : i = 6 := by omega
        subst hi
        refine rz_blk' [(.iload 5, 2, 0, 0), (.bipush 6, 2, 0, 0), (.if_icmp .ge 93, 3, 0, 0)] (by decide +kernel) (Nat.le_refl _) (Nat.le_refl _) (fun K R hK hR => ?_)
        simp only [rw_b6, ↓rx_bipush, ↓rx_if_icmp_ge, ↓rx_iload, ↓rx_nil, ↓ry_i2, ↓ry_li0s, ↓ry_li0z, rz_set, rz_nol, rz_clr, List.set_cons_zero, List.set_cons_succ, rz_tr, Nat.reduceAdd, Int.reduceAdd, Int.reduceToNat, Int.reduceSub, Int.reduceNeg, Int.cast_ofNat_Int]
        try simp (disch := omega) only [pk_us, pk_un, va_up_self, va_up_ne, nI_add, pk_mul, nI_clamp, vp_inT, nI_ltI, nI_leI, nI_eqI, pk_sub, true_and, and_true]
        refine ⟨fun q1 => hK _ _ _ _ ?_, fun q1 => by omega⟩
        refine rz_blk' [(.return_, 1, 0, 0)] (by decide +kernel) (Nat.le_refl _) (Nat.le_refl _) (fun K R hK hR => ?_)
        simp only [↓rx_nil, ↓rx_return_, rz_set, rz_nol, rz_clr, List.set_cons_zero, List.set_cons_succ, rz_tr, Nat.reduceAdd, Int.reduceAdd, Int.reduceToNat, Int.reduceSub, Int.reduceNeg, Int.cast_ofNat_Int]
        try simp (disch := omega) only [pk_us, pk_un, va_up_self, va_up_ne, nI_add, pk_mul, nI_clamp, vp_inT, nI_ltI, nI_leI, nI_eqI, pk_sub, true_and, and_true]
        refine hR _ _ (rz_nb_i (by decide)) ?_
        rw [← hQ]
        refine ⟨rfl, A1, Lw, rfl, a1, f1, fun s hs => ?_, hlc, hlen, e80, by rw [e81]; exact h81, fun i hi => by rw [e81]; exact h81o i hi⟩
        have := hk s hs
        rw [if_pos hs] at this
        obtain ⟨-, -, m3, m4⟩ := h s hs
        refine ⟨this.1, this.2, ?_, ?_⟩
        · cases cM : M s with
          | none => simp [cM]
          | some u => rw [cM] at m3; simp [cM] at m3 ⊢; omega
        · intro y hy
          cases cM : M s with
          | none => simp [cM] at hy
          | some u =>
            rw [cM] at m4
            simp [cM] at hy
            exact m4 y (List.mem_of_mem_drop hy)
      | succ j ih =>
        intro i A1 z6 z7 hij a1 f1 e80 e81 hk
        have hi6 : i < 6 := by omega
        obtain ⟨g1, g2⟩ := hk i hi6
        rw [if_neg (Nat.lt_irrefl _)] at g1 g2
        obtain ⟨-, -, m3, m4⟩ := h i hi6
        have so : (os (M i) < 0) = (M i = none) := kt_os h hi6
        have hnx : ∀ (A2 : Nat → Nat → Int32) (z7 : Option Value), fa [77, 78] A1 A2 → (∀ k, k ≠ 6 * n + i → A2 77 k = A1 77 k) → (∀ k, (k < 160 * (6 * n + i) ∨ 160 * (6 * n + i) + 160 ≤ k) → A2 78 k = A1 78 k) → A2 77 (6 * n + i) = os ((M i).map (fun w => w.drop Lw.length)) → sg (A2 78) (160 * (6 * n + i)) (((M i).map (fun w => w.drop Lw.length)).getD []) → rz_T w d 0 0 m_Mod_writeNow 0 0 275 [some (.ref a), some (.int (nI sl)), some (.int (nI Lw.length)), some (.int z3), some (.int (nI ld)), some (.int (nI i)), some (.int (nI (6 * n + i))), z7] [] (re_put G a I A2) Q := by
          intro A2 z7 a2 x1 x2 x3 x4
          refine rz_blk' [(.iinc 5 1, 3, 0, 0)] (by decide +kernel) (Nat.le_refl _) (Nat.le_refl _) (fun K R hK hR => ?_)
          simp only [rw_c1, ↓rx_iinc, ↓rx_nil, ↓ry_li0s, ↓ry_li0z, rz_set, rz_nol, rz_clr, List.set_cons_zero, List.set_cons_succ, rz_tr, Nat.reduceAdd, Int.reduceAdd, Int.reduceToNat, Int.reduceSub, Int.reduceNeg, Int.cast_ofNat_Int]
          try simp (disch := omega) only [pk_us, pk_un, va_up_self, va_up_ne, nI_add, pk_mul, nI_clamp, vp_inT, nI_ltI, nI_leI, nI_eqI, pk_sub, true_and, and_true]
          refine hK _ _ _ _ ?_
          refine rz_blk' [(.goto (-94), 3, 0, 0)] (by decide +kernel) (Nat.le_refl _) (Nat.le_refl _) (fun K R hK hR => ?_)
          simp only [↓rx_goto, ↓rx_nil, rz_set, rz_nol, rz_clr, List.set_cons_zero, List.set_cons_succ, rz_tr, Nat.reduceAdd, Int.reduceAdd, Int.reduceToNat, Int.reduceSub, Int.reduceNeg, Int.cast_ofNat_Int]
          try simp (disch := omega) only [pk_us, pk_un, va_up_self, va_up_ne, nI_add, pk_mul, nI_clamp, vp_inT, nI_ltI, nI_leI, nI_eqI, pk_sub, true_and, and_true]
          refine hK _ _ _ _ ?_
          refine ih (i + 1) A2 _ _ (by omega) (a1.t a2 rfl) ⟨fun k hk2 => by rw [x1 k (by omega)]; exact f1.1 k hk2, fun k hk2 => by rw [x2 k (by omega)]; exact f1.2 k hk2⟩ ((a2 80 rfl).trans e80) ((a2 81 rfl).trans e81) (fun s hs => ?_)
          by_cases cs : s = i
          · subst cs
            rw [if_pos (Nat.lt_succ_self _)]; exact ⟨x3, x4⟩
          · have := hk s hs
            have e : (if s < i + 1 then (M s).map (fun w => w.drop Lw.length) else M s) = (if s < i then (M s).map (fun w => w.drop Lw.length) else M s) := by
              by_cases c2 : s < i
              · rw [if_pos c2, if_pos (by omega)]
              · rw [if_neg c2, if_neg (by omega)]
            rw [e, x1 _ (by omega)]
            refine ⟨this.1, this.2.k (fun y h1 h2 => x2 y ?_)⟩
            have ml := (h s hs).2.2.1
            have : ((if s < i then (M s).map (fun w => w.drop Lw.length) else M s).getD []).length ≤ 150 := by
              split
              · cases c3 : M s with
                | none => simp
                | some f => rw [c3] at ml; simp at ml ⊢; omega
              · exact ml
            omega
        cases hMi : M i with
        | none =>
          rw [hMi] at g1 so hnx
          have so : (os none < 0) = True := by rw [so]; simp
          refine rz_blk' [(.iload 5, 2, 0, 0), (.bipush 6, 2, 0, 0), (.if_icmp .ge 93, 3, 0, 0)] (by decide +kernel) (Nat.le_refl _) (Nat.le_refl _) (fun K R hK hR => ?_)
          simp only [rw_b6, ↓rx_bipush, ↓rx_if_icmp_ge, ↓rx_iload, ↓rx_nil, ↓ry_i2, ↓ry_li0s, ↓ry_li0z, hn, g1, rz_set, rz_nol, rz_clr, List.set_cons_zero, List.set_cons_succ, rz_tr, Nat.reduceAdd, Int.reduceAdd, Int.reduceToNat, Int.reduceSub, Int.reduceNeg, Int.cast_ofNat_Int]
          try simp (disch := omega) only [hn, g1, so, pk_us, pk_un, va_up_self, va_up_ne, nI_add, pk_mul, nI_clamp, vp_inT, nI_ltI, nI_leI, nI_eqI, pk_sub, true_and, and_true]
          refine ⟨fun q2 => by omega, fun q2 => hK _ _ _ _ ?_⟩
          refine rz_blk' [(.bipush 6, 2, 0, 0), (.aload_n 0, 1, 0, 0), (.getfield 376, 3, 10, 76), (.imul, 1, 0, 0), (.iload 5, 2, 0, 0), (.iadd, 1, 0, 0), (.istore 6, 2, 0, 0)] (by decide +kernel) (Nat.le_refl _) (Nat.le_refl _) (fun K R hK hR => ?_)
          simp only [rw_b6, ↓rx_aload_n0, ↓rx_bipush, ↓rx_getfield, ↓rx_iadd, ↓rx_iload, ↓rx_imul, ↓rx_istore, ↓rx_nil, ↓ry_i1, ↓ry_i2, ↓ry_li0s, ↓ry_li0z, ↓ry_lr0s, ↓ry_lr0z, ↓ry_obu, ↓ry_r1, ↓re_F76, ↓re_ob, hn, g1, rz_set, rz_nol, rz_clr, List.set_cons_zero, List.set_cons_succ, rz_tr, Nat.reduceAdd, Int.reduceAdd, Int.reduceToNat, Int.reduceSub, Int.reduceNeg, Int.cast_ofNat_Int]
          try simp (disch := omega) only [hn, g1, so, pk_us, pk_un, va_up_self, va_up_ne, nI_add, pk_mul, nI_clamp, vp_inT, nI_ltI, nI_leI, nI_eqI, pk_sub, true_and, and_true]
          refine hK _ _ _ _ ?_
          refine rz_blk' [(.aload_n 0, 1, 0, 0), (.getfield 190, 3, 10, 77), (.iload 6, 2, 0, 0), (.iaload, 1, 0, 0), (.ifCond .lt 65, 3, 0, 0)] (by decide +kernel) (Nat.le_refl _) (Nat.le_refl _) (fun K R hK hR => ?_)
          simp only [↓rx_aload_n0, ↓rx_getfield, ↓rx_iaload, ↓rx_ifCond_lt, ↓rx_iload, ↓rx_nil, ↓ry_i1, ↓ry_iau, ↓ry_li0s, ↓ry_li0z, ↓ry_lr0s, ↓ry_lr0z, ↓ry_obu, ↓ry_r1, ↓ry_ri, true_and, re_a77, ↓re_F77, ↓re_i77, ↓re_ob, hn, g1, rz_set, rz_nol, rz_clr, List.set_cons_zero, List.set_cons_succ, rz_tr, Nat.reduceAdd, Int.reduceAdd, Int.reduceToNat, Int.reduceSub, Int.reduceNeg, Int.cast_ofNat_Int]
          try simp (disch := omega) only [hn, g1, so, pk_us, pk_un, va_up_self, va_up_ne, nI_add, pk_mul, nI_clamp, vp_inT, nI_ltI, nI_leI, nI_eqI, pk_sub, true_and, and_true]
          refine ⟨fun q3 => hK _ _ _ _ ?_, fun q3 => by first | exact absurd trivial q3 | exact absurd (of_eq_true so) q3⟩
          exact hnx A1 _ fa.rf (fun _ _ => rfl) (fun _ _ => rfl) g1 sg_nil
        | some u =>
          rw [hMi] at g1 g2 m3 m4 so hnx
          have g1 : A1 77 (6 * n + i) = nI u.length := g1
          simp only [Option.getD_some] at g2 m3 m4
          have hpl := (hlc.1 i u hi6 hMi).length_le
          simp only [Option.map_some, Option.getD_some, os, List.length_drop] at hnx
          generalize hnn : u.length - Lw.length = nn at *
          have cl : ∀ (j k : Nat), k + j = nn → rz_T w d 0 0 m_Mod_writeNow 0 0 227 [some (.ref a), some (.int (nI sl)), some (.int (nI Lw.length)), some (.int z3), some (.int (nI ld)), some (.int (nI i)), some (.int (nI (6 * n + i))), some (.int (nI k))] [] (re_put G a I (va_up (va_up A1 77 (upd (A1 77) (6 * n + i) (nI nn))) 78 (cp (A1 78) (160 * (6 * n + i)) (wsg (u.drop Lw.length)) 0 k))) Q := by
            intro j
            induction j with
            | zero =>
              intro k hkj
              have hk2 : k = nn := by omega
              subst hk2
              refine rz_blk' [(.iload 7, 2, 0, 0), (.aload_n 0, 1, 0, 0), (.getfield 190, 3, 10, 77), (.iload 6, 2, 0, 0), (.iaload, 1, 0, 0), (.if_icmp .ge 39, 3, 0, 0)] (by decide +kernel) (Nat.le_refl _) (Nat.le_refl _) (fun K R hK hR => ?_)
              simp only [↓rx_aload_n0, ↓rx_getfield, ↓rx_iaload, ↓rx_if_icmp_ge, ↓rx_iload, ↓rx_nil, ↓ry_i2, ↓ry_iau, ↓ry_li0s, ↓ry_li0z, ↓ry_lr0s, ↓ry_lr0z, ↓ry_obu, ↓ry_r1, ↓ry_ri, true_and, re_a77, ↓re_F77, ↓re_i77, ↓re_ob, re_a77, ↓re_i77, rz_set, rz_nol, rz_clr, List.set_cons_zero, List.set_cons_succ, rz_tr, Nat.reduceAdd, Int.reduceAdd, Int.reduceToNat, Int.reduceSub, Int.reduceNeg, Int.cast_ofNat_Int]
              try simp (disch := omega) only [pk_us, pk_un, va_up_self, va_up_ne, nI_add, pk_mul, nI_clamp, vp_inT, nI_ltI, nI_leI, nI_eqI, pk_sub, true_and, and_true]
              refine ⟨fun q4 => hK _ _ _ _ ?_, fun q4 => by omega⟩
              refine hnx _ _ ((fa.rf.u rfl).u rfl) (fun q hne => ?_) (fun q hq => ?_) ?_ ?_
              · rw [va_up_ne _ _ (by decide), va_up_self, pk_un hne]
              · rw [va_up_self, cp_out (by omega)]
              · rw [va_up_ne _ _ (by decide), va_up_self, pk_us]
              · rw [va_up_self]; exact sg_cp sg_wsg (by rw [List.length_drop]; omega)
            | succ j ihk =>
              intro k hkj
              have hkd : k < (u.drop Lw.length).length := by rw [List.length_drop]; omega
              have ihk := ihk (k + 1) (by omega)
              rw [← cp_s, Nat.zero_add, wsg_at hkd] at ihk
              have e1 : cp (A1 78) (160 * (6 * n + i)) (wsg (u.drop Lw.length)) 0 k (160 * (6 * n + i) + Lw.length + k) = nI (u.drop Lw.length)[k] := by
                rw [cp_out (by omega), List.getElem_drop]
                have := g2 (Lw.length + k) (by omega)
                rw [← this]; congr 1; omega
              refine rz_blk' [(.iload 7, 2, 0, 0), (.aload_n 0, 1, 0, 0), (.getfield 190, 3, 10, 77), (.iload 6, 2, 0, 0), (.iaload, 1, 0, 0), (.if_icmp .ge 39, 3, 0, 0)] (by decide +kernel) (Nat.le_refl _) (Nat.le_refl _) (fun K R hK hR => ?_)
              simp only [↓rx_aload_n0, ↓rx_getfield, ↓rx_iaload, ↓rx_if_icmp_ge, ↓rx_iload, ↓rx_nil, ↓ry_i2, ↓ry_iau, ↓ry_li0s, ↓ry_li0z, ↓ry_lr0s, ↓ry_lr0z, ↓ry_obu, ↓ry_r1, ↓ry_ri, true_and, re_a77, ↓re_F77, ↓re_i77, ↓re_ob, e1, re_a77, re_a78, ↓re_i77, ↓re_i78, rz_set, rz_nol, rz_clr, List.set_cons_zero, List.set_cons_succ, rz_tr, Nat.reduceAdd, Int.reduceAdd, Int.reduceToNat, Int.reduceSub, Int.reduceNeg, Int.cast_ofNat_Int]
              try simp (disch := omega) only [e1, pk_us, pk_un, va_up_self, va_up_ne, nI_add, pk_mul, nI_clamp, vp_inT, nI_ltI, nI_leI, nI_eqI, pk_sub, true_and, and_true]
              refine ⟨fun q5 => by omega, fun q5 => hK _ _ _ _ ?_⟩
              refine rz_blk' [(.aload_n 0, 1, 0, 0), (.getfield 194, 3, 10, 78), (.sipush 160, 3, 0, 0), (.iload 6, 2, 0, 0), (.imul, 1, 0, 0), (.iload 7, 2, 0, 0), (.iadd, 1, 0, 0), (.aload_n 0, 1, 0, 0), (.getfield 194, 3, 10, 78), (.sipush 160, 3, 0, 0), (.iload 6, 2, 0, 0), (.imul, 1, 0, 0), (.iload_n 2, 1, 0, 0), (.iadd, 1, 0, 0), (.iload 7, 2, 0, 0), (.iadd, 1, 0, 0), (.iaload, 1, 0, 0), (.iastore, 1, 0, 0)] (by decide +kernel) (Nat.le_refl _) (Nat.le_refl _) (fun K R hK hR => ?_)
              simp only [rw_s160, ↓rx_aload_n0, ↓rx_getfield, ↓rx_iadd, ↓rx_iaload, ↓rx_iastore, ↓rx_iload, ↓rx_iload_n2, ↓rx_imul, ↓rx_nil, ↓rx_sipush, ↓ry_i2, ↓ry_iau, ↓ry_li0s, ↓ry_li0z, ↓ry_lr0s, ↓ry_lr0z, ↓ry_obu, ↓ry_r1, ↓ry_ri, ↓ry_rii, true_and, re_a78, ↓re_F78, ↓re_i78, ↓re_ob, e1, re_a77, re_a78, ↓re_i77, ↓re_i78, rz_set, rz_nol, rz_clr, List.set_cons_zero, List.set_cons_succ, rz_tr, Nat.reduceAdd, Int.reduceAdd, Int.reduceToNat, Int.reduceSub, Int.reduceNeg, Int.cast_ofNat_Int]
              try simp (disch := omega) only [e1, pk_us, pk_un, va_up_self, va_up_ne, nI_add, pk_mul, nI_clamp, vp_inT, nI_ltI, nI_leI, nI_eqI, pk_sub, true_and, and_true]
              refine hK _ _ _ _ ?_
              refine rz_blk' [(.iinc 7 1, 3, 0, 0)] (by decide +kernel) (Nat.le_refl _) (Nat.le_refl _) (fun K R hK hR => ?_)
              simp only [rw_c1, ↓rx_iinc, ↓rx_nil, ↓ry_li0s, ↓ry_li0z, e1, re_a77, re_a78, ↓re_i77, ↓re_i78, rz_set, rz_nol, rz_clr, List.set_cons_zero, List.set_cons_succ, rz_tr, Nat.reduceAdd, Int.reduceAdd, Int.reduceToNat, Int.reduceSub, Int.reduceNeg, Int.cast_ofNat_Int]
              try simp (disch := omega) only [e1, pk_us, pk_un, va_up_self, va_up_ne, nI_add, pk_mul, nI_clamp, vp_inT, nI_ltI, nI_leI, nI_eqI, pk_sub, true_and, and_true]
              refine hK _ _ _ _ ?_
              refine rz_blk' [(.goto (-45), 3, 0, 0)] (by decide +kernel) (Nat.le_refl _) (Nat.le_refl _) (fun K R hK hR => ?_)
              simp only [↓rx_goto, ↓rx_nil, e1, re_a77, re_a78, ↓re_i77, ↓re_i78, rz_set, rz_nol, rz_clr, List.set_cons_zero, List.set_cons_succ, rz_tr, Nat.reduceAdd, Int.reduceAdd, Int.reduceToNat, Int.reduceSub, Int.reduceNeg, Int.cast_ofNat_Int]
              try simp (disch := omega) only [e1, pk_us, pk_un, va_up_self, va_up_ne, nI_add, pk_mul, nI_clamp, vp_inT, nI_ltI, nI_leI, nI_eqI, pk_sub, true_and, and_true]
              refine hK _ _ _ _ ?_
              rw [re_vv]
              exact ihk
          refine rz_blk' [(.iload 5, 2, 0, 0), (.bipush 6, 2, 0, 0), (.if_icmp .ge 93, 3, 0, 0)] (by decide +kernel) (Nat.le_refl _) (Nat.le_refl _) (fun K R hK hR => ?_)
          simp only [rw_b6, ↓rx_bipush, ↓rx_if_icmp_ge, ↓rx_iload, ↓rx_nil, ↓ry_i2, ↓ry_li0s, ↓ry_li0z, hn, g1, re_a77, ↓re_i77, rz_set, rz_nol, rz_clr, List.set_cons_zero, List.set_cons_succ, rz_tr, Nat.reduceAdd, Int.reduceAdd, Int.reduceToNat, Int.reduceSub, Int.reduceNeg, Int.cast_ofNat_Int]
          try simp (disch := omega) only [hn, g1, hnn, pk_us, pk_un, va_up_self, va_up_ne, nI_add, pk_mul, nI_clamp, vp_inT, nI_ltI, nI_leI, nI_eqI, pk_sub, true_and, and_true]
          refine ⟨fun q6 => by omega, fun q6 => hK _ _ _ _ ?_⟩
          refine rz_blk' [(.bipush 6, 2, 0, 0), (.aload_n 0, 1, 0, 0), (.getfield 376, 3, 10, 76), (.imul, 1, 0, 0), (.iload 5, 2, 0, 0), (.iadd, 1, 0, 0), (.istore 6, 2, 0, 0)] (by decide +kernel) (Nat.le_refl _) (Nat.le_refl _) (fun K R hK hR => ?_)
          simp only [rw_b6, ↓rx_aload_n0, ↓rx_bipush, ↓rx_getfield, ↓rx_iadd, ↓rx_iload, ↓rx_imul, ↓rx_istore, ↓rx_nil, ↓ry_i1, ↓ry_i2, ↓ry_li0s, ↓ry_li0z, ↓ry_lr0s, ↓ry_lr0z, ↓ry_obu, ↓ry_r1, ↓re_F76, ↓re_ob, hn, g1, re_a77, ↓re_i77, rz_set, rz_nol, rz_clr, List.set_cons_zero, List.set_cons_succ, rz_tr, Nat.reduceAdd, Int.reduceAdd, Int.reduceToNat, Int.reduceSub, Int.reduceNeg, Int.cast_ofNat_Int]
          try simp (disch := omega) only [hn, g1, hnn, pk_us, pk_un, va_up_self, va_up_ne, nI_add, pk_mul, nI_clamp, vp_inT, nI_ltI, nI_leI, nI_eqI, pk_sub, true_and, and_true]
          refine hK _ _ _ _ ?_
          refine rz_blk' [(.aload_n 0, 1, 0, 0), (.getfield 190, 3, 10, 77), (.iload 6, 2, 0, 0), (.iaload, 1, 0, 0), (.ifCond .lt 65, 3, 0, 0)] (by decide +kernel) (Nat.le_refl _) (Nat.le_refl _) (fun K R hK hR => ?_)
          simp only [↓rx_aload_n0, ↓rx_getfield, ↓rx_iaload, ↓rx_ifCond_lt, ↓rx_iload, ↓rx_nil, ↓ry_i1, ↓ry_iau, ↓ry_li0s, ↓ry_li0z, ↓ry_lr0s, ↓ry_lr0z, ↓ry_obu, ↓ry_r1, ↓ry_ri, true_and, re_a77, ↓re_F77, ↓re_i77, ↓re_ob, hn, g1, re_a77, ↓re_i77, rz_set, rz_nol, rz_clr, List.set_cons_zero, List.set_cons_succ, rz_tr, Nat.reduceAdd, Int.reduceAdd, Int.reduceToNat, Int.reduceSub, Int.reduceNeg, Int.cast_ofNat_Int]
          try simp (disch := omega) only [hn, g1, hnn, pk_us, pk_un, va_up_self, va_up_ne, nI_add, pk_mul, nI_clamp, vp_inT, nI_ltI, nI_leI, nI_eqI, pk_sub, true_and, and_true]
          refine ⟨fun q7 => absurd q7 (nI_pos (by omega)), fun q7 => hK _ _ _ _ ?_⟩
          refine rz_blk' [(.aload_n 0, 1, 0, 0), (.getfield 190, 3, 10, 77), (.iload 6, 2, 0, 0), (.dup2, 1, 0, 0), (.iaload, 1, 0, 0), (.iload_n 2, 1, 0, 0), (.isub, 1, 0, 0), (.iastore, 1, 0, 0)] (by decide +kernel) (Nat.le_refl _) (Nat.le_refl _) (fun K R hK hR => ?_)
          simp only [↓rx_aload_n0, ↓rx_dup2, ↓rx_getfield, ↓rx_iaload, ↓rx_iastore, ↓rx_iload, ↓rx_iload_n2, ↓rx_isub, ↓rx_nil, ↓ry_i2, ↓ry_iau, ↓ry_li0s, ↓ry_li0z, ↓ry_lr0s, ↓ry_lr0z, ↓ry_obu, ↓ry_r1, ↓ry_ri, ↓ry_rii, ↓ry_v2, true_and, re_a77, ↓re_F77, ↓re_i77, ↓re_ob, hn, g1, re_a77, ↓re_i77, rz_set, rz_nol, rz_clr, List.set_cons_zero, List.set_cons_succ, rz_tr, Nat.reduceAdd, Int.reduceAdd, Int.reduceToNat, Int.reduceSub, Int.reduceNeg, Int.cast_ofNat_Int]
          try simp (disch := omega) only [hn, g1, hnn, pk_us, pk_un, va_up_self, va_up_ne, nI_add, pk_mul, nI_clamp, vp_inT, nI_ltI, nI_leI, nI_eqI, pk_sub, true_and, and_true]
          refine hK _ _ _ _ ?_
          refine rz_blk' [(.iconst 0, 1, 0, 0), (.istore 7, 2, 0, 0)] (by decide +kernel) (Nat.le_refl _) (Nat.le_refl _) (fun K R hK hR => ?_)
          simp only [rw_c0, ↓rx_iconst, ↓rx_istore, ↓rx_nil, ↓ry_i1, hn, g1, re_a77, ↓re_i77, rz_set, rz_nol, rz_clr, List.set_cons_zero, List.set_cons_succ, rz_tr, Nat.reduceAdd, Int.reduceAdd, Int.reduceToNat, Int.reduceSub, Int.reduceNeg, Int.cast_ofNat_Int]
          try simp (disch := omega) only [hn, g1, hnn, pk_us, pk_un, va_up_self, va_up_ne, nI_add, pk_mul, nI_clamp, vp_inT, nI_ltI, nI_leI, nI_eqI, pk_sub, true_and, and_true]
          refine hK _ _ _ _ ?_
          have hz := cl nn 0 (Nat.zero_add _)
          have e0 : cp (A1 78) (160 * (6 * n + i)) (wsg (u.drop Lw.length)) 0 0 = va_up A1 77 (upd (A1 77) (6 * n + i) (nI nn)) 78 := by rw [cp_0, va_up_ne _ _ (by decide)]
          rw [e0, re_ve] at hz
          exact hz
    refine rz_blk' [(.aload_n 0, 1, 0, 0), (.getfield 200, 3, 10, 80), (.iload_n 1, 1, 0, 0), (.iload_n 2, 1, 0, 0), (.iastore, 1, 0, 0)] (by decide +kernel) (Nat.le_refl _) (Nat.le_refl _) (fun K R hK hR => ?_)
    simp only [↓rx_aload_n0, ↓rx_getfield, ↓rx_iastore, ↓rx_iload_n1, ↓rx_iload_n2, ↓rx_nil, ↓ry_iau, ↓ry_li0s, ↓ry_li0z, ↓ry_lr0s, ↓ry_lr0z, ↓ry_obu, ↓ry_r1, ↓ry_rii, true_and, re_a80, ↓re_F80, ↓re_i80, ↓re_ob, rz_set, rz_nol, rz_clr, List.set_cons_zero, List.set_cons_succ, rz_tr, Nat.reduceAdd, Int.reduceAdd, Int.reduceToNat, Int.reduceSub, Int.reduceNeg, Int.cast_ofNat_Int]
    try simp (disch := omega) only [pk_us, pk_un, va_up_self, va_up_ne, nI_add, pk_mul, nI_clamp, vp_inT, nI_ltI, nI_leI, nI_eqI, pk_sub, true_and, and_true]
    refine hK _ _ _ _ ?_
    refine rz_blk' [(.iconst 0, 1, 0, 0), (.istore 5, 2, 0, 0)] (by decide +kernel) (Nat.le_refl _) (Nat.le_refl _) (fun K R hK hR => ?_)
    simp only [rw_c0, ↓rx_iconst, ↓rx_istore, ↓rx_nil, ↓ry_i1, rz_set, rz_nol, rz_clr, List.set_cons_zero, List.set_cons_succ, rz_tr, Nat.reduceAdd, Int.reduceAdd, Int.reduceToNat, Int.reduceSub, Int.reduceNeg, Int.cast_ofNat_Int]
    try simp (disch := omega) only [pk_us, pk_un, va_up_self, va_up_ne, nI_add, pk_mul, nI_clamp, vp_inT, nI_ltI, nI_leI, nI_eqI, pk_sub, true_and, and_true]
    refine hK _ _ _ _ ?_
    refine sl' 6 0 _ _ _ rfl ((a0.m rfl).u rfl) ⟨fun i hi => ?_, fun i hi => ?_⟩ ?_ (va_up_ne _ _ (by decide)) (fun s hs => ?_)
    · rw [va_up_ne _ _ (by decide), a0 77 rfl]
    · rw [va_up_ne _ _ (by decide), a0 78 rfl]
    · rw [va_up_self, a0 80 rfl]
    · rw [if_neg (Nat.not_lt_zero _), va_up_ne _ _ (by decide), va_up_ne _ _ (by decide), a0 77 rfl, a0 78 rfl]
      exact ⟨(h s hs).1, (h s hs).2.1⟩
  have wl : ∀ (ld : Nat) (w0 : List Nat), (∀ s, s < ld → M s = none) → ld < 6 → M ld = some w0 → ∀ (m k : Nat) (A0 : Nat → Nat → Int32) (z5 z6 : Option Value), w0.length - k < m → k ≤ w0.length → (∀ s w, s < 6 → M s = some w → w0.take k <+: w) → fa [81] A A0 → sg (A0 81) (160 * sl) (w0.take k) → (∀ i, (i < 160 * sl ∨ 160 * sl + 160 ≤ i) → A0 81 i = A 81 i) → rz_T w d 0 0 m_Mod_writeNow 0 0 31 [some (.ref a), some (.int (nI sl)), some (.int (nI k)), some (.int (rz_b true)), some (.int (nI ld)), z5, z6, none] [] (re_put G a I A0) Q := by
    intro ld w0 hfirst hld hw0 m
    obtain ⟨l1, l2, l3, l4⟩ := h ld hld
    rw [hw0] at l1 l2 l3 l4
    simp only [Option.getD_some] at l2 l3 l4
    induction m with
    | zero => intro k A0 z5 z6 hm; omega
    | succ m ih =>
      intro k A0 z5 z6 hm hk hpre a0 h81 h81o
      have il : ∀ (j i : Nat) (b : Bool) (z6 : Option Value), i + j = 6 → (b = true → ∀ s w, s < i → M s = some w → k < w.length ∧ w[k]? = w0[k]?) → (b = false → ∃ s w, s < 6 ∧ M s = some w ∧ ¬ (k < w.length ∧ w[k]? = w0[k]?)) → rz_T w d 0 0 m_Mod_writeNow 0 0 38 [some (.ref a), some (.int (nI sl)), some (.int (nI k)), some (.int (rz_b b)), some (.int (nI ld)), some (.int (nI i)), z6, none] [] (re_put G a I A0) Q := by
        intro j
        induction j with
        | zero =>
          intro i b z6 hij hb1 hb0
          have hi : i = 6 := by omega
          subst hi
          cases b with
          | true =>
            have hkw := hb1 rfl
            have hk0 := (hkw ld w0 hld hw0).1
            have e78 : A0 78 (160 * (6 * n + ld) + k) = nI w0[k] := by rw [a0 78 rfl]; exact l2 k hk0
            have htk : w0.take (k + 1) = w0.take k ++ [w0[k]] := List.take_succ_eq_append_getElem hk0
            refine rz_blk' [(.iload 5, 2, 0, 0), (.bipush 6, 2, 0, 0), (.if_icmp .ge 89, 3, 0, 0)] (by decide +kernel) (Nat.le_refl _) (Nat.le_refl _) (fun K R hK hR => ?_)
            simp only [rw_b6, ↓rx_bipush, ↓rx_if_icmp_ge, ↓rx_iload, ↓rx_nil, ↓ry_i2, ↓ry_li0s, ↓ry_li0z, hn, e78, re_a81, ↓re_i81, rz_set, rz_nol, rz_clr, List.set_cons_zero, List.set_cons_succ, rz_tr, Nat.reduceAdd, Int.reduceAdd, Int.reduceToNat, Int.reduceSub, Int.reduceNeg, Int.cast_ofNat_Int]
            try simp (disch := omega) only [hn, e78, pk_us, pk_un, va_up_self, va_up_ne, nI_add, pk_mul, nI_clamp, vp_inT, nI_ltI, nI_leI, nI_eqI, pk_sub, true_and, and_true]
            refine ⟨fun q8 => hK _ _ _ _ ?_, fun q8 => by omega⟩
            refine rz_blk' [(.iload_n 3, 1, 0, 0), (.ifCond .eq (-101), 3, 0, 0)] (by decide +kernel) (Nat.le_refl _) (Nat.le_refl _) (fun K R hK hR => ?_)
            simp only [↓rx_ifCond_eq, ↓rx_iload_n3, ↓rx_nil, ↓ry_i1, ↓ry_li0s, ↓ry_li0z, hn, e78, re_a81, ↓re_i81, rz_set, rz_nol, rz_clr, List.set_cons_zero, List.set_cons_succ, rz_tr, Nat.reduceAdd, Int.reduceAdd, Int.reduceToNat, Int.reduceSub, Int.reduceNeg, Int.cast_ofNat_Int]
            try simp (disch := omega) only [hn, e78, pk_us, pk_un, va_up_self, va_up_ne, nI_add, pk_mul, nI_clamp, vp_inT, nI_ltI, nI_leI, nI_eqI, pk_sub, true_and, and_true]
            refine ⟨fun q9 => absurd q9 (by decide), fun q9 => hK _ _ _ _ ?_⟩
            refine rz_blk' [(.aload_n 0, 1, 0, 0), (.getfield 203, 3, 10, 81), (.sipush 160, 3, 0, 0), (.iload_n 1, 1, 0, 0), (.imul, 1, 0, 0), (.iload_n 2, 1, 0, 0), (.iadd, 1, 0, 0), (.aload_n 0, 1, 0, 0), (.getfield 194, 3, 10, 78), (.sipush 160, 3, 0, 0), (.bipush 6, 2, 0, 0), (.aload_n 0, 1, 0, 0), (.getfield 376, 3, 10, 76), (.imul, 1, 0, 0), (.iload 4, 2, 0, 0), (.iadd, 1, 0, 0), (.imul, 1, 0, 0), (.iload_n 2, 1, 0, 0), (.iadd, 1, 0, 0), (.iaload, 1, 0, 0), (.iastore, 1, 0, 0)] (by decide +kernel) (Nat.le_refl _) (Nat.le_refl _) (fun K R hK hR => ?_)
            simp only [rw_b6, rw_s160, ↓rx_aload_n0, ↓rx_bipush, ↓rx_getfield, ↓rx_iadd, ↓rx_iaload, ↓rx_iastore, ↓rx_iload, ↓rx_iload_n1, ↓rx_iload_n2, ↓rx_imul, ↓rx_nil, ↓rx_sipush, ↓ry_i2, ↓ry_iau, ↓ry_li0s, ↓ry_li0z, ↓ry_lr0s, ↓ry_lr0z, ↓ry_obu, ↓ry_r1, ↓ry_ri, ↓ry_rii, true_and, re_a78, re_a81, ↓re_F76, ↓re_F78, ↓re_F81, ↓re_i78, ↓re_i81, ↓re_ob, hn, e78, re_a81, ↓re_i81, rz_set, rz_nol, rz_clr, List.set_cons_zero, List.set_cons_succ, rz_tr, Nat.reduceAdd, Int.reduceAdd, Int.reduceToNat, Int.reduceSub, Int.reduceNeg, Int.cast_ofNat_Int]
            try simp (disch := omega) only [hn, e78, pk_us, pk_un, va_up_self, va_up_ne, nI_add, pk_mul, nI_clamp, vp_inT, nI_ltI, nI_leI, nI_eqI, pk_sub, true_and, and_true]
            refine hK _ _ _ _ ?_
            refine rz_blk' [(.iinc 2 1, 3, 0, 0)] (by decide +kernel) (Nat.le_refl _) (Nat.le_refl _) (fun K R hK hR => ?_)
            simp only [rw_c1, ↓rx_iinc, ↓rx_nil, ↓ry_li0s, ↓ry_li0z, hn, e78, re_a81, ↓re_i81, rz_set, rz_nol, rz_clr, List.set_cons_zero, List.set_cons_succ, rz_tr, Nat.reduceAdd, Int.reduceAdd, Int.reduceToNat, Int.reduceSub, Int.reduceNeg, Int.cast_ofNat_Int]
            try simp (disch := omega) only [hn, e78, pk_us, pk_un, va_up_self, va_up_ne, nI_add, pk_mul, nI_clamp, vp_inT, nI_ltI, nI_leI, nI_eqI, pk_sub, true_and, and_true]
            refine hK _ _ _ _ ?_
            refine rz_blk' [(.goto (-140), 3, 0, 0)] (by decide +kernel) (Nat.le_refl _) (Nat.le_refl _) (fun K R hK hR => ?_)
            simp only [↓rx_goto, ↓rx_nil, hn, e78, re_a81, ↓re_i81, rz_set, rz_nol, rz_clr, List.set_cons_zero, List.set_cons_succ, rz_tr, Nat.reduceAdd, Int.reduceAdd, Int.reduceToNat, Int.reduceSub, Int.reduceNeg, Int.cast_ofNat_Int]
            try simp (disch := omega) only [hn, e78, pk_us, pk_un, va_up_self, va_up_ne, nI_add, pk_mul, nI_clamp, vp_inT, nI_ltI, nI_leI, nI_eqI, pk_sub, true_and, and_true]
            refine hK _ _ _ _ ?_
            refine ih (k + 1) _ _ _ (by omega) hk0 (fun s w hs hw => ?_) (a0.u rfl) ?_ (fun i hi => ?_)
            · obtain ⟨q1, q2⟩ := hkw s w hs hw
              have hp := hpre s w hs hw
              obtain ⟨t, ht⟩ := hp
              rw [htk]
              have e1 : w[k]? = some w0[k] := by rw [q2, List.getElem?_eq_getElem hk0]
              rw [← ht, List.getElem?_append_right (by rw [List.length_take]; omega), List.length_take, Nat.min_eq_left (by omega), Nat.sub_self] at e1
              cases t with
              | nil => simp at e1
              | cons y t =>
                simp at e1
                rw [← ht, e1]
                exact ⟨t, by rw [List.append_assoc]; rfl⟩
            · rw [va_up_self, htk]
              refine sg_app (h81.k (fun y q1 q2 => pk_un (by rw [List.length_take] at q2; omega))) ?_
              intro i hi
              have hi0 : i = 0 := by simpa using hi
              subst hi0
              rw [List.length_take, Nat.min_eq_left (by omega), Nat.add_zero, pk_us]; rfl
            · rw [va_up_self, pk_un (by omega)]; exact h81o i hi
          | false =>
            obtain ⟨s0, ws, hs0, hws, hno⟩ := hb0 rfl
            have hlen : (w0.take k).length = k := by rw [List.length_take]; omega
            have hlc : lc_is M (w0.take k) := ⟨hpre, fun L' hL' => by
              have p0 := hL' ld w0 hld hw0
              have p1 := hL' s0 ws hs0 hws
              have hle : L'.length ≤ k := by
                refine Nat.le_of_not_lt (fun q => hno ⟨?_, ?_⟩)
                · have := p1.length_le; omega
                · rw [pre_at p1 q, pre_at p0 q]
              refine List.prefix_of_prefix_length_le p0 (List.take_prefix _ _) ?_
              rw [hlen]; exact hle⟩
            have hgo := hcut (w0.take k) ld A0 (rz_b false)
            rw [hlen] at hgo
            refine rz_blk' [(.iload 5, 2, 0, 0), (.bipush 6, 2, 0, 0), (.if_icmp .ge 89, 3, 0, 0)] (by decide +kernel) (Nat.le_refl _) (Nat.le_refl _) (fun K R hK hR => ?_)
            simp only [rw_b6, ↓rx_bipush, ↓rx_if_icmp_ge, ↓rx_iload, ↓rx_nil, ↓ry_i2, ↓ry_li0s, ↓ry_li0z, rz_set, rz_nol, rz_clr, List.set_cons_zero, List.set_cons_succ, rz_tr, Nat.reduceAdd, Int.reduceAdd, Int.reduceToNat, Int.reduceSub, Int.reduceNeg, Int.cast_ofNat_Int]
            try simp (disch := omega) only [pk_us, pk_un, va_up_self, va_up_ne, nI_add, pk_mul, nI_clamp, vp_inT, nI_ltI, nI_leI, nI_eqI, pk_sub, true_and, and_true]
            refine ⟨fun q10 => hK _ _ _ _ ?_, fun q10 => by omega⟩
            refine rz_blk' [(.iload_n 3, 1, 0, 0), (.ifCond .eq (-101), 3, 0, 0)] (by decide +kernel) (Nat.le_refl _) (Nat.le_refl _) (fun K R hK hR => ?_)
            simp only [↓rx_ifCond_eq, ↓rx_iload_n3, ↓rx_nil, ↓ry_i1, ↓ry_li0s, ↓ry_li0z, rz_set, rz_nol, rz_clr, List.set_cons_zero, List.set_cons_succ, rz_tr, Nat.reduceAdd, Int.reduceAdd, Int.reduceToNat, Int.reduceSub, Int.reduceNeg, Int.cast_ofNat_Int]
            try simp (disch := omega) only [pk_us, pk_un, va_up_self, va_up_ne, nI_add, pk_mul, nI_clamp, vp_inT, nI_ltI, nI_leI, nI_eqI, pk_sub, true_and, and_true]
            refine ⟨fun q11 => hK _ _ _ _ ?_, fun q11 => by first | exact absurd rfl q11 | exact absurd trivial q11⟩
            refine rz_blk' [(.iload_n 3, 1, 0, 0), (.ifCond .eq 142, 3, 0, 0)] (by decide +kernel) (Nat.le_refl _) (Nat.le_refl _) (fun K R hK hR => ?_)
            simp only [↓rx_ifCond_eq, ↓rx_iload_n3, ↓rx_nil, ↓ry_i1, ↓ry_li0s, ↓ry_li0z, rz_set, rz_nol, rz_clr, List.set_cons_zero, List.set_cons_succ, rz_tr, Nat.reduceAdd, Int.reduceAdd, Int.reduceToNat, Int.reduceSub, Int.reduceNeg, Int.cast_ofNat_Int]
            try simp (disch := omega) only [pk_us, pk_un, va_up_self, va_up_ne, nI_add, pk_mul, nI_clamp, vp_inT, nI_ltI, nI_leI, nI_eqI, pk_sub, true_and, and_true]
            refine ⟨fun q12 => hK _ _ _ _ ?_, fun q12 => by first | exact absurd rfl q12 | exact absurd trivial q12⟩
            exact hgo _ _ hlc (by omega) a0 h81 h81o
        | succ j ihi =>
          intro i b z6 hij hb1 hb0
          have hi6 : i < 6 := by omega
          obtain ⟨g1, g2, g3, g4⟩ := h i hi6
          have f77 := a0 77 rfl
          have so : (os (M i) < 0) = (M i = none) := kt_os h hi6
          have hnx : ∀ (b' : Bool), (b' = true → ∀ s w, s < i + 1 → M s = some w → k < w.length ∧ w[k]? = w0[k]?) → (b' = false → ∃ s w, s < 6 ∧ M s = some w ∧ ¬ (k < w.length ∧ w[k]? = w0[k]?)) → ∀ z, z = rz_b b' → rz_T w d 0 0 m_Mod_writeNow 0 0 125 [some (.ref a), some (.int (nI sl)), some (.int (nI k)), some (.int z), some (.int (nI ld)), some (.int (nI i)), some (.int (nI (6 * n + i))), none] [] (re_put G a I A0) Q := by
            rintro b' x1 x2 z rfl
            refine rz_blk' [(.iinc 5 1, 3, 0, 0)] (by decide +kernel) (Nat.le_refl _) (Nat.le_refl _) (fun K R hK hR => ?_)
            simp only [rw_c1, ↓rx_iinc, ↓rx_nil, ↓ry_li0s, ↓ry_li0z, rz_set, rz_nol, rz_clr, List.set_cons_zero, List.set_cons_succ, rz_tr, Nat.reduceAdd, Int.reduceAdd, Int.reduceToNat, Int.reduceSub, Int.reduceNeg, Int.cast_ofNat_Int]
            try simp (disch := omega) only [pk_us, pk_un, va_up_self, va_up_ne, nI_add, pk_mul, nI_clamp, vp_inT, nI_ltI, nI_leI, nI_eqI, pk_sub, true_and, and_true]
            refine hK _ _ _ _ ?_
            refine rz_blk' [(.goto (-90), 3, 0, 0)] (by decide +kernel) (Nat.le_refl _) (Nat.le_refl _) (fun K R hK hR => ?_)
            simp only [↓rx_goto, ↓rx_nil, rz_set, rz_nol, rz_clr, List.set_cons_zero, List.set_cons_succ, rz_tr, Nat.reduceAdd, Int.reduceAdd, Int.reduceToNat, Int.reduceSub, Int.reduceNeg, Int.cast_ofNat_Int]
            try simp (disch := omega) only [pk_us, pk_un, va_up_self, va_up_ne, nI_add, pk_mul, nI_clamp, vp_inT, nI_ltI, nI_leI, nI_eqI, pk_sub, true_and, and_true]
            refine hK _ _ _ _ ?_
            exact ihi (i + 1) b' _ (by omega) x1 x2
          cases hMi : M i with
          | none =>
            rw [hMi] at g1 so
            have so : (os none < 0) = True := by rw [so]; simp
            have hgo := hnx b (fun hb s w hs hw => by
              by_cases cs : s = i
              · subst cs; rw [hMi] at hw; cases hw
              · exact hb1 hb s w (by omega) hw) hb0 _ rfl
            refine rz_blk' [(.iload 5, 2, 0, 0), (.bipush 6, 2, 0, 0), (.if_icmp .ge 89, 3, 0, 0)] (by decide +kernel) (Nat.le_refl _) (Nat.le_refl _) (fun K R hK hR => ?_)
            simp only [rw_b6, ↓rx_bipush, ↓rx_if_icmp_ge, ↓rx_iload, ↓rx_nil, ↓ry_i2, ↓ry_li0s, ↓ry_li0z, hn, f77, g1, rz_set, rz_nol, rz_clr, List.set_cons_zero, List.set_cons_succ, rz_tr, Nat.reduceAdd, Int.reduceAdd, Int.reduceToNat, Int.reduceSub, Int.reduceNeg, Int.cast_ofNat_Int]
            try simp (disch := omega) only [hn, f77, g1, so, pk_us, pk_un, va_up_self, va_up_ne, nI_add, pk_mul, nI_clamp, vp_inT, nI_ltI, nI_leI, nI_eqI, pk_sub, true_and, and_true]
            refine ⟨fun q13 => by omega, fun q13 => hK _ _ _ _ ?_⟩
            refine rz_blk' [(.bipush 6, 2, 0, 0), (.aload_n 0, 1, 0, 0), (.getfield 376, 3, 10, 76), (.imul, 1, 0, 0), (.iload 5, 2, 0, 0), (.iadd, 1, 0, 0), (.istore 6, 2, 0, 0)] (by decide +kernel) (Nat.le_refl _) (Nat.le_refl _) (fun K R hK hR => ?_)
            simp only [rw_b6, ↓rx_aload_n0, ↓rx_bipush, ↓rx_getfield, ↓rx_iadd, ↓rx_iload, ↓rx_imul, ↓rx_istore, ↓rx_nil, ↓ry_i1, ↓ry_i2, ↓ry_li0s, ↓ry_li0z, ↓ry_lr0s, ↓ry_lr0z, ↓ry_obu, ↓ry_r1, ↓re_F76, ↓re_ob, hn, f77, g1, rz_set, rz_nol, rz_clr, List.set_cons_zero, List.set_cons_succ, rz_tr, Nat.reduceAdd, Int.reduceAdd, Int.reduceToNat, Int.reduceSub, Int.reduceNeg, Int.cast_ofNat_Int]
            try simp (disch := omega) only [hn, f77, g1, so, pk_us, pk_un, va_up_self, va_up_ne, nI_add, pk_mul, nI_clamp, vp_inT, nI_ltI, nI_leI, nI_eqI, pk_sub, true_and, and_true]
            refine hK _ _ _ _ ?_
            refine rz_blk' [(.aload_n 0, 1, 0, 0), (.getfield 190, 3, 10, 77), (.iload 6, 2, 0, 0), (.iaload, 1, 0, 0), (.ifCond .lt 61, 3, 0, 0)] (by decide +kernel) (Nat.le_refl _) (Nat.le_refl _) (fun K R hK hR => ?_)
            simp only [↓rx_aload_n0, ↓rx_getfield, ↓rx_iaload, ↓rx_ifCond_lt, ↓rx_iload, ↓rx_nil, ↓ry_i1, ↓ry_iau, ↓ry_li0s, ↓ry_li0z, ↓ry_lr0s, ↓ry_lr0z, ↓ry_obu, ↓ry_r1, ↓ry_ri, true_and, re_a77, ↓re_F77, ↓re_i77, ↓re_ob, hn, f77, g1, rz_set, rz_nol, rz_clr, List.set_cons_zero, List.set_cons_succ, rz_tr, Nat.reduceAdd, Int.reduceAdd, Int.reduceToNat, Int.reduceSub, Int.reduceNeg, Int.cast_ofNat_Int]
            try simp (disch := omega) only [hn, f77, g1, so, pk_us, pk_un, va_up_self, va_up_ne, nI_add, pk_mul, nI_clamp, vp_inT, nI_ltI, nI_leI, nI_eqI, pk_sub, true_and, and_true]
            refine ⟨fun q14 => hK _ _ _ _ ?_, fun q14 => by first | exact absurd trivial q14 | exact absurd (of_eq_true so) q14⟩
            exact hgo
          | some u =>
            rw [hMi] at g1 g2 g3 g4 so
            have g1 : A 77 (6 * n + i) = nI u.length := g1
            simp only [Option.getD_some] at g2 g3 g4
            cases b with
            | false =>
              have hgo := hnx false (fun q => by cases q) (fun _ => hb0 rfl) _ rfl
              refine rz_blk' [(.iload 5, 2, 0, 0), (.bipush 6, 2, 0, 0), (.if_icmp .ge 89, 3, 0, 0)] (by decide +kernel) (Nat.le_refl _) (Nat.le_refl _) (fun K R hK hR => ?_)
              simp only [rw_b6, ↓rx_bipush, ↓rx_if_icmp_ge, ↓rx_iload, ↓rx_nil, ↓ry_i2, ↓ry_li0s, ↓ry_li0z, hn, f77, g1, rz_set, rz_nol, rz_clr, List.set_cons_zero, List.set_cons_succ, rz_tr, Nat.reduceAdd, Int.reduceAdd, Int.reduceToNat, Int.reduceSub, Int.reduceNeg, Int.cast_ofNat_Int]
              try simp (disch := omega) only [hn, f77, g1, pk_us, pk_un, va_up_self, va_up_ne, nI_add, pk_mul, nI_clamp, vp_inT, nI_ltI, nI_leI, nI_eqI, pk_sub, true_and, and_true]
              refine ⟨fun q15 => by omega, fun q15 => hK _ _ _ _ ?_⟩
              refine rz_blk' [(.bipush 6, 2, 0, 0), (.aload_n 0, 1, 0, 0), (.getfield 376, 3, 10, 76), (.imul, 1, 0, 0), (.iload 5, 2, 0, 0), (.iadd, 1, 0, 0), (.istore 6, 2, 0, 0)] (by decide +kernel) (Nat.le_refl _) (Nat.le_refl _) (fun K R hK hR => ?_)
              simp only [rw_b6, ↓rx_aload_n0, ↓rx_bipush, ↓rx_getfield, ↓rx_iadd, ↓rx_iload, ↓rx_imul, ↓rx_istore, ↓rx_nil, ↓ry_i1, ↓ry_i2, ↓ry_li0s, ↓ry_li0z, ↓ry_lr0s, ↓ry_lr0z, ↓ry_obu, ↓ry_r1, ↓re_F76, ↓re_ob, hn, f77, g1, rz_set, rz_nol, rz_clr, List.set_cons_zero, List.set_cons_succ, rz_tr, Nat.reduceAdd, Int.reduceAdd, Int.reduceToNat, Int.reduceSub, Int.reduceNeg, Int.cast_ofNat_Int]
              try simp (disch := omega) only [hn, f77, g1, pk_us, pk_un, va_up_self, va_up_ne, nI_add, pk_mul, nI_clamp, vp_inT, nI_ltI, nI_leI, nI_eqI, pk_sub, true_and, and_true]
              refine hK _ _ _ _ ?_
              refine rz_blk' [(.aload_n 0, 1, 0, 0), (.getfield 190, 3, 10, 77), (.iload 6, 2, 0, 0), (.iaload, 1, 0, 0), (.ifCond .lt 61, 3, 0, 0)] (by decide +kernel) (Nat.le_refl _) (Nat.le_refl _) (fun K R hK hR => ?_)
              simp only [↓rx_aload_n0, ↓rx_getfield, ↓rx_iaload, ↓rx_ifCond_lt, ↓rx_iload, ↓rx_nil, ↓ry_i1, ↓ry_iau, ↓ry_li0s, ↓ry_li0z, ↓ry_lr0s, ↓ry_lr0z, ↓ry_obu, ↓ry_r1, ↓ry_ri, true_and, re_a77, ↓re_F77, ↓re_i77, ↓re_ob, hn, f77, g1, rz_set, rz_nol, rz_clr, List.set_cons_zero, List.set_cons_succ, rz_tr, Nat.reduceAdd, Int.reduceAdd, Int.reduceToNat, Int.reduceSub, Int.reduceNeg, Int.cast_ofNat_Int]
              try simp (disch := omega) only [hn, f77, g1, pk_us, pk_un, va_up_self, va_up_ne, nI_add, pk_mul, nI_clamp, vp_inT, nI_ltI, nI_leI, nI_eqI, pk_sub, true_and, and_true]
              refine ⟨fun q16 => absurd q16 (nI_pos (by omega)), fun q16 => hK _ _ _ _ ?_⟩
              refine rz_blk' [(.iload_n 3, 1, 0, 0), (.ifCond .eq 55, 3, 0, 0)] (by decide +kernel) (Nat.le_refl _) (Nat.le_refl _) (fun K R hK hR => ?_)
              simp only [↓rx_ifCond_eq, ↓rx_iload_n3, ↓rx_nil, ↓ry_i1, ↓ry_li0s, ↓ry_li0z, hn, f77, g1, rz_set, rz_nol, rz_clr, List.set_cons_zero, List.set_cons_succ, rz_tr, Nat.reduceAdd, Int.reduceAdd, Int.reduceToNat, Int.reduceSub, Int.reduceNeg, Int.cast_ofNat_Int]
              try simp (disch := omega) only [hn, f77, g1, pk_us, pk_un, va_up_self, va_up_ne, nI_add, pk_mul, nI_clamp, vp_inT, nI_ltI, nI_leI, nI_eqI, pk_sub, true_and, and_true]
              refine ⟨fun q17 => hK _ _ _ _ ?_, fun q17 => by first | exact absurd rfl q17 | exact absurd trivial q17⟩
              refine rz_blk' [(.iconst 0, 1, 0, 0), (.istore_n 3, 1, 0, 0)] (by decide +kernel) (Nat.le_refl _) (Nat.le_refl _) (fun K R hK hR => ?_)
              simp only [rw_c0, ↓rx_iconst, ↓rx_istore_n3, ↓rx_nil, ↓ry_i1, hn, f77, g1, rz_set, rz_nol, rz_clr, List.set_cons_zero, List.set_cons_succ, rz_tr, Nat.reduceAdd, Int.reduceAdd, Int.reduceToNat, Int.reduceSub, Int.reduceNeg, Int.cast_ofNat_Int]
              try simp (disch := omega) only [hn, f77, g1, pk_us, pk_un, va_up_self, va_up_ne, nI_add, pk_mul, nI_clamp, vp_inT, nI_ltI, nI_leI, nI_eqI, pk_sub, true_and, and_true]
              refine hK _ _ _ _ ?_
              exact hgo
            | true =>
              by_cases cu : k < u.length
              · have e1 : A0 78 (160 * (6 * n + i) + k) = nI u[k] := by rw [a0 78 rfl]; exact g2 k cu
                by_cases cw : k < w0.length
                · have e2 : A0 78 (160 * (6 * n + ld) + k) = nI w0[k] := by rw [a0 78 rfl]; exact l2 k cw
                  have u8 := g4 _ (List.getElem_mem cu)
                  have w8 := l4 _ (List.getElem_mem cw)
                  have hT : u[k] = w0[k] → ∀ z, z = rz_b true → _ := fun q => hnx true (fun _ s w hs hw => by
                    by_cases cs : s = i
                    · subst cs
                      rw [hMi] at hw
                      cases hw
                      exact ⟨cu, by rw [List.getElem?_eq_getElem cu, List.getElem?_eq_getElem cw, q]⟩
                    · exact hb1 rfl s w (by omega) hw) (fun q => by cases q)
                  have hF : u[k] ≠ w0[k] → ∀ z, z = rz_b false → _ := fun q => hnx false (fun q => by cases q) (fun _ => ⟨i, u, hi6, hMi, fun ⟨_, q2⟩ => q (by rw [List.getElem?_eq_getElem cu, List.getElem?_eq_getElem cw] at q2; exact Option.some.inj q2)⟩)
                  refine rz_blk' [(.iload 5, 2, 0, 0), (.bipush 6, 2, 0, 0), (.if_icmp .ge 89, 3, 0, 0)] (by decide +kernel) (Nat.le_refl _) (Nat.le_refl _) (fun K R hK hR => ?_)
                  simp only [rw_b6, ↓rx_bipush, ↓rx_if_icmp_ge, ↓rx_iload, ↓rx_nil, ↓ry_i2, ↓ry_li0s, ↓ry_li0z, hn, f77, g1, e1, e2, rz_set, rz_nol, rz_clr, List.set_cons_zero, List.set_cons_succ, rz_tr, Nat.reduceAdd, Int.reduceAdd, Int.reduceToNat, Int.reduceSub, Int.reduceNeg, Int.cast_ofNat_Int]
                  try simp (disch := omega) only [hn, f77, g1, e1, e2, pk_us, pk_un, va_up_self, va_up_ne, nI_add, pk_mul, nI_clamp, vp_inT, nI_ltI, nI_leI, nI_eqI, pk_sub, true_and, and_true]
                  refine ⟨fun q18 => by omega, fun q18 => hK _ _ _ _ ?_⟩
                  refine rz_blk' [(.bipush 6, 2, 0, 0), (.aload_n 0, 1, 0, 0), (.getfield 376, 3, 10, 76), (.imul, 1, 0, 0), (.iload 5, 2, 0, 0), (.iadd, 1, 0, 0), (.istore 6, 2, 0, 0)] (by decide +kernel) (Nat.le_refl _) (Nat.le_refl _) (fun K R hK hR => ?_)
                  simp only [rw_b6, ↓rx_aload_n0, ↓rx_bipush, ↓rx_getfield, ↓rx_iadd, ↓rx_iload, ↓rx_imul, ↓rx_istore, ↓rx_nil, ↓ry_i1, ↓ry_i2, ↓ry_li0s, ↓ry_li0z, ↓ry_lr0s, ↓ry_lr0z, ↓ry_obu, ↓ry_r1, ↓re_F76, ↓re_ob, hn, f77, g1, e1, e2, rz_set, rz_nol, rz_clr, List.set_cons_zero, List.set_cons_succ, rz_tr, Nat.reduceAdd, Int.reduceAdd, Int.reduceToNat, Int.reduceSub, Int.reduceNeg, Int.cast_ofNat_Int]
                  try simp (disch := omega) only [hn, f77, g1, e1, e2, pk_us, pk_un, va_up_self, va_up_ne, nI_add, pk_mul, nI_clamp, vp_inT, nI_ltI, nI_leI, nI_eqI, pk_sub, true_and, and_true]
                  refine hK _ _ _ _ ?_
                  refine rz_blk' [(.aload_n 0, 1, 0, 0), (.getfield 190, 3, 10, 77), (.iload 6, 2, 0, 0), (.iaload, 1, 0, 0), (.ifCond .lt 61, 3, 0, 0)] (by decide +kernel) (Nat.le_refl _) (Nat.le_refl _) (fun K R hK hR => ?_)
                  simp only [↓rx_aload_n0, ↓rx_getfield, ↓rx_iaload, ↓rx_ifCond_lt, ↓rx_iload, ↓rx_nil, ↓ry_i1, ↓ry_iau, ↓ry_li0s, ↓ry_li0z, ↓ry_lr0s, ↓ry_lr0z, ↓ry_obu, ↓ry_r1, ↓ry_ri, true_and, re_a77, ↓re_F77, ↓re_i77, ↓re_ob, hn, f77, g1, e1, e2, rz_set, rz_nol, rz_clr, List.set_cons_zero, List.set_cons_succ, rz_tr, Nat.reduceAdd, Int.reduceAdd, Int.reduceToNat, Int.reduceSub, Int.reduceNeg, Int.cast_ofNat_Int]
                  try simp (disch := omega) only [hn, f77, g1, e1, e2, pk_us, pk_un, va_up_self, va_up_ne, nI_add, pk_mul, nI_clamp, vp_inT, nI_ltI, nI_leI, nI_eqI, pk_sub, true_and, and_true]
                  refine ⟨fun q19 => absurd q19 (nI_pos (by omega)), fun q19 => hK _ _ _ _ ?_⟩
                  refine rz_blk' [(.iload_n 3, 1, 0, 0), (.ifCond .eq 55, 3, 0, 0)] (by decide +kernel) (Nat.le_refl _) (Nat.le_refl _) (fun K R hK hR => ?_)
                  simp only [↓rx_ifCond_eq, ↓rx_iload_n3, ↓rx_nil, ↓ry_i1, ↓ry_li0s, ↓ry_li0z, hn, f77, g1, e1, e2, rz_set, rz_nol, rz_clr, List.set_cons_zero, List.set_cons_succ, rz_tr, Nat.reduceAdd, Int.reduceAdd, Int.reduceToNat, Int.reduceSub, Int.reduceNeg, Int.cast_ofNat_Int]
                  try simp (disch := omega) only [hn, f77, g1, e1, e2, pk_us, pk_un, va_up_self, va_up_ne, nI_add, pk_mul, nI_clamp, vp_inT, nI_ltI, nI_leI, nI_eqI, pk_sub, true_and, and_true]
                  refine ⟨fun q20 => absurd q20 (by decide), fun q20 => hK _ _ _ _ ?_⟩
                  refine rz_blk' [(.iload_n 2, 1, 0, 0), (.aload_n 0, 1, 0, 0), (.getfield 190, 3, 10, 77), (.iload 6, 2, 0, 0), (.iaload, 1, 0, 0), (.if_icmp .ge 44, 3, 0, 0)] (by decide +kernel) (Nat.le_refl _) (Nat.le_refl _) (fun K R hK hR => ?_)
                  simp only [↓rx_aload_n0, ↓rx_getfield, ↓rx_iaload, ↓rx_if_icmp_ge, ↓rx_iload, ↓rx_iload_n2, ↓rx_nil, ↓ry_i2, ↓ry_iau, ↓ry_li0s, ↓ry_li0z, ↓ry_lr0s, ↓ry_lr0z, ↓ry_obu, ↓ry_r1, ↓ry_ri, true_and, re_a77, ↓re_F77, ↓re_i77, ↓re_ob, hn, f77, g1, e1, e2, rz_set, rz_nol, rz_clr, List.set_cons_zero, List.set_cons_succ, rz_tr, Nat.reduceAdd, Int.reduceAdd, Int.reduceToNat, Int.reduceSub, Int.reduceNeg, Int.cast_ofNat_Int]
                  try simp (disch := omega) only [hn, f77, g1, e1, e2, pk_us, pk_un, va_up_self, va_up_ne, nI_add, pk_mul, nI_clamp, vp_inT, nI_ltI, nI_leI, nI_eqI, pk_sub, true_and, and_true]
                  refine ⟨fun q21 => by omega, fun q21 => hK _ _ _ _ ?_⟩
                  refine rz_blk' [(.aload_n 0, 1, 0, 0), (.getfield 194, 3, 10, 78), (.sipush 160, 3, 0, 0), (.iload 6, 2, 0, 0), (.imul, 1, 0, 0), (.iload_n 2, 1, 0, 0), (.iadd, 1, 0, 0), (.iaload, 1, 0, 0), (.aload_n 0, 1, 0, 0), (.getfield 194, 3, 10, 78), (.sipush 160, 3, 0, 0), (.bipush 6, 2, 0, 0), (.aload_n 0, 1, 0, 0), (.getfield 376, 3, 10, 76), (.imul, 1, 0, 0), (.iload 4, 2, 0, 0), (.iadd, 1, 0, 0), (.imul, 1, 0, 0), (.iload_n 2, 1, 0, 0), (.iadd, 1, 0, 0), (.iaload, 1, 0, 0), (.if_icmp .ne 7, 3, 0, 0)] (by decide +kernel) (Nat.le_refl _) (Nat.le_refl _) (fun K R hK hR => ?_)
                  simp only [rw_b6, rw_s160, ↓rx_aload_n0, ↓rx_bipush, ↓rx_getfield, ↓rx_iadd, ↓rx_iaload, ↓rx_if_icmp_ne, ↓rx_iload, ↓rx_iload_n2, ↓rx_imul, ↓rx_nil, ↓rx_sipush, ↓ry_i2, ↓ry_iau, ↓ry_li0s, ↓ry_li0z, ↓ry_lr0s, ↓ry_lr0z, ↓ry_obu, ↓ry_r1, ↓ry_ri, true_and, re_a78, ↓re_F76, ↓re_F78, ↓re_i78, ↓re_ob, hn, f77, g1, e1, e2, rz_set, rz_nol, rz_clr, List.set_cons_zero, List.set_cons_succ, rz_tr, Nat.reduceAdd, Int.reduceAdd, Int.reduceToNat, Int.reduceSub, Int.reduceNeg, Int.cast_ofNat_Int]
                  try simp (disch := omega) only [hn, f77, g1, e1, e2, pk_us, pk_un, va_up_self, va_up_ne, nI_add, pk_mul, nI_clamp, vp_inT, nI_ltI, nI_leI, nI_eqI, pk_sub, true_and, and_true]
                  refine ⟨fun q22 => hK _ _ _ _ ?_, fun q22 => hK _ _ _ _ ?_⟩
                  · -- 116 taken
                    refine rz_blk' [(.iconst 0, 1, 0, 0), (.istore_n 3, 1, 0, 0)] (by decide +kernel) (Nat.le_refl _) (Nat.le_refl _) (fun K R hK hR => ?_)
                    simp only [rw_c0, ↓rx_iconst, ↓rx_istore_n3, ↓rx_nil, ↓ry_i1, hn, f77, g1, e1, e2, rz_set, rz_nol, rz_clr, List.set_cons_zero, List.set_cons_succ, rz_tr, Nat.reduceAdd, Int.reduceAdd, Int.reduceToNat, Int.reduceSub, Int.reduceNeg, Int.cast_ofNat_Int]
                    try simp (disch := omega) only [hn, f77, g1, e1, e2, pk_us, pk_un, va_up_self, va_up_ne, nI_add, pk_mul, nI_clamp, vp_inT, nI_ltI, nI_leI, nI_eqI, pk_sub, true_and, and_true]
                    refine hK _ _ _ _ ?_
                    first
                      | exact hT (by simpa using q22) _ rfl
                      | exact hF (by simpa using q22) _ rfl
                  · -- 116 not taken
                    refine rz_blk' [(.iconst 1, 1, 0, 0), (.goto 4, 3, 0, 0)] (by decide +kernel) (Nat.le_refl _) (Nat.le_refl _) (fun K R hK hR => ?_)
                    simp only [rw_c1, ↓rx_goto, ↓rx_iconst, ↓rx_nil, hn, f77, g1, e1, e2, rz_set, rz_nol, rz_clr, List.set_cons_zero, List.set_cons_succ, rz_tr, Nat.reduceAdd, Int.reduceAdd, Int.reduceToNat, Int.reduceSub, Int.reduceNeg, Int.cast_ofNat_Int]
                    try simp (disch := omega) only [hn, f77, g1, e1, e2, pk_us, pk_un, va_up_self, va_up_ne, nI_add, pk_mul, nI_clamp, vp_inT, nI_ltI, nI_leI, nI_eqI, pk_sub, true_and, and_true]
                    refine hK _ _ _ _ ?_
                    refine rz_blk' [(.istore_n 3, 1, 0, 0)] (by decide +kernel) (Nat.le_refl _) (Nat.le_refl _) (fun K R hK hR => ?_)
                    simp only [↓rx_istore_n3, ↓rx_nil, ↓ry_i1, hn, f77, g1, e1, e2, rz_set, rz_nol, rz_clr, List.set_cons_zero, List.set_cons_succ, rz_tr, Nat.reduceAdd, Int.reduceAdd, Int.reduceToNat, Int.reduceSub, Int.reduceNeg, Int.cast_ofNat_Int]
                    try simp (disch := omega) only [hn, f77, g1, e1, e2, pk_us, pk_un, va_up_self, va_up_ne, nI_add, pk_mul, nI_clamp, vp_inT, nI_ltI, nI_leI, nI_eqI, pk_sub, true_and, and_true]
                    refine hK _ _ _ _ ?_
                    first
                      | exact hT (by simpa using q22) _ rfl
                      | exact hF (by simpa using q22) _ rfl
                · -- the lead is the first of all: it has been looked at, or it is this one
                  by_cases c3 : ld < i
                  · exact absurd (hb1 rfl ld w0 c3 hw0).1 cw
                  · by_cases c4 : i = ld
                    · subst c4
                      rw [hMi] at hw0
                      cases hw0
                      exact absurd cu cw
                    · exact absurd hMi (by rw [hfirst i (by omega)]; simp)
              · have hF := hnx false (fun q => by cases q) (fun _ => ⟨i, u, hi6, hMi, fun ⟨q, _⟩ => cu q⟩) _ rfl
                refine rz_blk' [(.iload 5, 2, 0, 0), (.bipush 6, 2, 0, 0), (.if_icmp .ge 89, 3, 0, 0)] (by decide +kernel) (Nat.le_refl _) (Nat.le_refl _) (fun K R hK hR => ?_)
                simp only [rw_b6, ↓rx_bipush, ↓rx_if_icmp_ge, ↓rx_iload, ↓rx_nil, ↓ry_i2, ↓ry_li0s, ↓ry_li0z, hn, f77, g1, rz_set, rz_nol, rz_clr, List.set_cons_zero, List.set_cons_succ, rz_tr, Nat.reduceAdd, Int.reduceAdd, Int.reduceToNat, Int.reduceSub, Int.reduceNeg, Int.cast_ofNat_Int]
                try simp (disch := omega) only [hn, f77, g1, pk_us, pk_un, va_up_self, va_up_ne, nI_add, pk_mul, nI_clamp, vp_inT, nI_ltI, nI_leI, nI_eqI, pk_sub, true_and, and_true]
                refine ⟨fun q23 => by omega, fun q23 => hK _ _ _ _ ?_⟩
                refine rz_blk' [(.bipush 6, 2, 0, 0), (.aload_n 0, 1, 0, 0), (.getfield 376, 3, 10, 76), (.imul, 1, 0, 0), (.iload 5, 2, 0, 0), (.iadd, 1, 0, 0), (.istore 6, 2, 0, 0)] (by decide +kernel) (Nat.le_refl _) (Nat.le_refl _) (fun K R hK hR => ?_)
                simp only [rw_b6, ↓rx_aload_n0, ↓rx_bipush, ↓rx_getfield, ↓rx_iadd, ↓rx_iload, ↓rx_imul, ↓rx_istore, ↓rx_nil, ↓ry_i1, ↓ry_i2, ↓ry_li0s, ↓ry_li0z, ↓ry_lr0s, ↓ry_lr0z, ↓ry_obu, ↓ry_r1, ↓re_F76, ↓re_ob, hn, f77, g1, rz_set, rz_nol, rz_clr, List.set_cons_zero, List.set_cons_succ, rz_tr, Nat.reduceAdd, Int.reduceAdd, Int.reduceToNat, Int.reduceSub, Int.reduceNeg, Int.cast_ofNat_Int]
                try simp (disch := omega) only [hn, f77, g1, pk_us, pk_un, va_up_self, va_up_ne, nI_add, pk_mul, nI_clamp, vp_inT, nI_ltI, nI_leI, nI_eqI, pk_sub, true_and, and_true]
                refine hK _ _ _ _ ?_
                refine rz_blk' [(.aload_n 0, 1, 0, 0), (.getfield 190, 3, 10, 77), (.iload 6, 2, 0, 0), (.iaload, 1, 0, 0), (.ifCond .lt 61, 3, 0, 0)] (by decide +kernel) (Nat.le_refl _) (Nat.le_refl _) (fun K R hK hR => ?_)
                simp only [↓rx_aload_n0, ↓rx_getfield, ↓rx_iaload, ↓rx_ifCond_lt, ↓rx_iload, ↓rx_nil, ↓ry_i1, ↓ry_iau, ↓ry_li0s, ↓ry_li0z, ↓ry_lr0s, ↓ry_lr0z, ↓ry_obu, ↓ry_r1, ↓ry_ri, true_and, re_a77, ↓re_F77, ↓re_i77, ↓re_ob, hn, f77, g1, rz_set, rz_nol, rz_clr, List.set_cons_zero, List.set_cons_succ, rz_tr, Nat.reduceAdd, Int.reduceAdd, Int.reduceToNat, Int.reduceSub, Int.reduceNeg, Int.cast_ofNat_Int]
                try simp (disch := omega) only [hn, f77, g1, pk_us, pk_un, va_up_self, va_up_ne, nI_add, pk_mul, nI_clamp, vp_inT, nI_ltI, nI_leI, nI_eqI, pk_sub, true_and, and_true]
                refine ⟨fun q24 => absurd q24 (nI_pos (by omega)), fun q24 => hK _ _ _ _ ?_⟩
                refine rz_blk' [(.iload_n 3, 1, 0, 0), (.ifCond .eq 55, 3, 0, 0)] (by decide +kernel) (Nat.le_refl _) (Nat.le_refl _) (fun K R hK hR => ?_)
                simp only [↓rx_ifCond_eq, ↓rx_iload_n3, ↓rx_nil, ↓ry_i1, ↓ry_li0s, ↓ry_li0z, hn, f77, g1, rz_set, rz_nol, rz_clr, List.set_cons_zero, List.set_cons_succ, rz_tr, Nat.reduceAdd, Int.reduceAdd, Int.reduceToNat, Int.reduceSub, Int.reduceNeg, Int.cast_ofNat_Int]
                try simp (disch := omega) only [hn, f77, g1, pk_us, pk_un, va_up_self, va_up_ne, nI_add, pk_mul, nI_clamp, vp_inT, nI_ltI, nI_leI, nI_eqI, pk_sub, true_and, and_true]
                refine ⟨fun q25 => absurd q25 (by decide), fun q25 => hK _ _ _ _ ?_⟩
                refine rz_blk' [(.iload_n 2, 1, 0, 0), (.aload_n 0, 1, 0, 0), (.getfield 190, 3, 10, 77), (.iload 6, 2, 0, 0), (.iaload, 1, 0, 0), (.if_icmp .ge 44, 3, 0, 0)] (by decide +kernel) (Nat.le_refl _) (Nat.le_refl _) (fun K R hK hR => ?_)
                simp only [↓rx_aload_n0, ↓rx_getfield, ↓rx_iaload, ↓rx_if_icmp_ge, ↓rx_iload, ↓rx_iload_n2, ↓rx_nil, ↓ry_i2, ↓ry_iau, ↓ry_li0s, ↓ry_li0z, ↓ry_lr0s, ↓ry_lr0z, ↓ry_obu, ↓ry_r1, ↓ry_ri, true_and, re_a77, ↓re_F77, ↓re_i77, ↓re_ob, hn, f77, g1, rz_set, rz_nol, rz_clr, List.set_cons_zero, List.set_cons_succ, rz_tr, Nat.reduceAdd, Int.reduceAdd, Int.reduceToNat, Int.reduceSub, Int.reduceNeg, Int.cast_ofNat_Int]
                try simp (disch := omega) only [hn, f77, g1, pk_us, pk_un, va_up_self, va_up_ne, nI_add, pk_mul, nI_clamp, vp_inT, nI_ltI, nI_leI, nI_eqI, pk_sub, true_and, and_true]
                refine ⟨fun q26 => hK _ _ _ _ ?_, fun q26 => by omega⟩
                refine rz_blk' [(.iconst 0, 1, 0, 0), (.istore_n 3, 1, 0, 0)] (by decide +kernel) (Nat.le_refl _) (Nat.le_refl _) (fun K R hK hR => ?_)
                simp only [rw_c0, ↓rx_iconst, ↓rx_istore_n3, ↓rx_nil, ↓ry_i1, hn, f77, g1, rz_set, rz_nol, rz_clr, List.set_cons_zero, List.set_cons_succ, rz_tr, Nat.reduceAdd, Int.reduceAdd, Int.reduceToNat, Int.reduceSub, Int.reduceNeg, Int.cast_ofNat_Int]
                try simp (disch := omega) only [hn, f77, g1, pk_us, pk_un, va_up_self, va_up_ne, nI_add, pk_mul, nI_clamp, vp_inT, nI_ltI, nI_leI, nI_eqI, pk_sub, true_and, and_true]
                refine hK _ _ _ _ ?_
                exact hF
      refine rz_blk' [(.iload_n 3, 1, 0, 0), (.ifCond .eq 142, 3, 0, 0)] (by decide +kernel) (Nat.le_refl _) (Nat.le_refl _) (fun K R hK hR => ?_)
      simp only [↓rx_ifCond_eq, ↓rx_iload_n3, ↓rx_nil, ↓ry_i1, ↓ry_li0s, ↓ry_li0z, rz_set, rz_nol, rz_clr, List.set_cons_zero, List.set_cons_succ, rz_tr, Nat.reduceAdd, Int.reduceAdd, Int.reduceToNat, Int.reduceSub, Int.reduceNeg, Int.cast_ofNat_Int]
      try simp (disch := omega) only [pk_us, pk_un, va_up_self, va_up_ne, nI_add, pk_mul, nI_clamp, vp_inT, nI_ltI, nI_leI, nI_eqI, pk_sub, true_and, and_true]
      refine ⟨fun q27 => absurd q27 (by decide), fun q27 => hK _ _ _ _ ?_⟩
      refine rz_blk' [(.iconst 0, 1, 0, 0), (.istore 5, 2, 0, 0)] (by decide +kernel) (Nat.le_refl _) (Nat.le_refl _) (fun K R hK hR => ?_)
      simp only [rw_c0, ↓rx_iconst, ↓rx_istore, ↓rx_nil, ↓ry_i1, rz_set, rz_nol, rz_clr, List.set_cons_zero, List.set_cons_succ, rz_tr, Nat.reduceAdd, Int.reduceAdd, Int.reduceToNat, Int.reduceSub, Int.reduceNeg, Int.cast_ofNat_Int]
      try simp (disch := omega) only [pk_us, pk_un, va_up_self, va_up_ne, nI_add, pk_mul, nI_clamp, vp_inT, nI_ltI, nI_leI, nI_eqI, pk_sub, true_and, and_true]
      refine hK _ _ _ _ ?_
      exact il 6 0 true _ rfl (fun _ s w hs => absurd hs (Nat.not_lt_zero _)) (fun q => by cases q)
  have ll : ∀ (j i : Nat), i + j = 6 → (∀ s, s < i → M s = none) → rz_T w d 0 0 m_Mod_writeNow 0 0 7 [some (.ref a), some (.int (nI sl)), some (.int (nI 0)), some (.int (rz_b true)), some (.int (nI i)), none, none, none] [] (re_put G a I A) Q := by
    intro j
    induction j with
    | zero =>
      intro i hij hno
      obtain ⟨s, hs, q⟩ := hex
      exact absurd (hno s (by omega)) q
    | succ j ih =>
      intro i hij hno
      have hi6 : i < 6 := by omega
      have g1 := (h i hi6).1
      have so : (os (M i) < 0) = (M i = none) := kt_os h hi6
      have sob := os_ge so
      refine rz_blk' [(.aload_n 0, 1, 0, 0), (.getfield 190, 3, 10, 77), (.bipush 6, 2, 0, 0), (.aload_n 0, 1, 0, 0), (.getfield 376, 3, 10, 76), (.imul, 1, 0, 0), (.iload 4, 2, 0, 0), (.iadd, 1, 0, 0), (.iaload, 1, 0, 0), (.ifCond .ge 9, 3, 0, 0)] (by decide +kernel) (Nat.le_refl _) (Nat.le_refl _) (fun K R hK hR => ?_)
      simp only [rw_b6, ↓rx_aload_n0, ↓rx_bipush, ↓rx_getfield, ↓rx_iadd, ↓rx_iaload, ↓rx_ifCond_ge, ↓rx_iload, ↓rx_imul, ↓rx_nil, ↓ry_i1, ↓ry_i2, ↓ry_iau, ↓ry_li0s, ↓ry_li0z, ↓ry_lr0s, ↓ry_lr0z, ↓ry_obu, ↓ry_r1, ↓ry_ri, true_and, re_a77, ↓re_F76, ↓re_F77, ↓re_i77, ↓re_ob, hn, g1, rz_set, rz_nol, rz_clr, List.set_cons_zero, List.set_cons_succ, rz_tr, Nat.reduceAdd, Int.reduceAdd, Int.reduceToNat, Int.reduceSub, Int.reduceNeg, Int.cast_ofNat_Int]
      try simp (disch := omega) only [hn, g1, sob, Classical.not_not, pk_us, pk_un, va_up_self, va_up_ne, nI_add, pk_mul, nI_clamp, vp_inT, nI_ltI, nI_leI, nI_eqI, pk_sub, true_and, and_true]
      refine ⟨fun q28 => hK _ _ _ _ ?_, fun q28 => hK _ _ _ _ ?_⟩
      · -- 22 taken
        obtain ⟨w0, hw0⟩ := Option.ne_none_iff_exists'.mp q28
        exact wl i w0 hno hi6 hw0 (w0.length + 1) 0 A _ _ (by omega) (Nat.zero_le _) (fun s w _ _ => by simp) fa.rf sg_nil (fun _ _ => rfl)
      · -- 22 not taken
        refine rz_blk' [(.iinc 4 1, 3, 0, 0)] (by decide +kernel) (Nat.le_refl _) (Nat.le_refl _) (fun K R hK hR => ?_)
        simp only [rw_c1, ↓rx_iinc, ↓rx_nil, ↓ry_li0s, ↓ry_li0z, hn, g1, rz_set, rz_nol, rz_clr, List.set_cons_zero, List.set_cons_succ, rz_tr, Nat.reduceAdd, Int.reduceAdd, Int.reduceToNat, Int.reduceSub, Int.reduceNeg, Int.cast_ofNat_Int]
        try simp (disch := omega) only [hn, g1, sob, Classical.not_not, pk_us, pk_un, va_up_self, va_up_ne, nI_add, pk_mul, nI_clamp, vp_inT, nI_ltI, nI_leI, nI_eqI, pk_sub, true_and, and_true]
        refine hK _ _ _ _ ?_
        refine rz_blk' [(.goto (-21), 3, 0, 0)] (by decide +kernel) (Nat.le_refl _) (Nat.le_refl _) (fun K R hK hR => ?_)
        simp only [↓rx_goto, ↓rx_nil, hn, g1, rz_set, rz_nol, rz_clr, List.set_cons_zero, List.set_cons_succ, rz_tr, Nat.reduceAdd, Int.reduceAdd, Int.reduceToNat, Int.reduceSub, Int.reduceNeg, Int.cast_ofNat_Int]
        try simp (disch := omega) only [hn, g1, sob, Classical.not_not, pk_us, pk_un, va_up_self, va_up_ne, nI_add, pk_mul, nI_clamp, vp_inT, nI_ltI, nI_leI, nI_eqI, pk_sub, true_and, and_true]
        refine hK _ _ _ _ ?_
        refine ih (i + 1) (by omega) (fun s hs => ?_)
        by_cases cs : s = i
        · subst cs; first | exact q28 | simpa using q28
        · exact hno s (by omega)
  refine rz_enter' [some (.ref a), some (.int (nI sl)), none, none, none, none, none, none] (by decide +kernel) rfl rfl (Nat.le_of_ble_eq_true rfl) rfl ?_
  refine rz_blk' [(.iconst 0, 1, 0, 0), (.istore_n 2, 1, 0, 0)] (by decide +kernel) (Nat.le_refl _) (Nat.le_refl _) (fun K R hK hR => ?_)
  simp only [rw_c0, ↓rx_iconst, ↓rx_istore_n2, ↓rx_nil, ↓ry_i1, rz_set, rz_nol, rz_clr, List.set_cons_zero, List.set_cons_succ, rz_tr, Nat.reduceAdd, Int.reduceAdd, Int.reduceToNat, Int.reduceSub, Int.reduceNeg, Int.cast_ofNat_Int]
  try simp (disch := omega) only [pk_us, pk_un, va_up_self, va_up_ne, nI_add, pk_mul, nI_clamp, vp_inT, nI_ltI, nI_leI, nI_eqI, pk_sub, true_and, and_true]
  refine hK _ _ _ _ ?_
  refine rz_blk' [(.iconst 1, 1, 0, 0), (.istore_n 3, 1, 0, 0)] (by decide +kernel) (Nat.le_refl _) (Nat.le_refl _) (fun K R hK hR => ?_)
  simp only [rw_c1, ↓rx_iconst, ↓rx_istore_n3, ↓rx_nil, ↓ry_i1, rz_set, rz_nol, rz_clr, List.set_cons_zero, List.set_cons_succ, rz_tr, Nat.reduceAdd, Int.reduceAdd, Int.reduceToNat, Int.reduceSub, Int.reduceNeg, Int.cast_ofNat_Int]
  try simp (disch := omega) only [pk_us, pk_un, va_up_self, va_up_ne, nI_add, pk_mul, nI_clamp, vp_inT, nI_ltI, nI_leI, nI_eqI, pk_sub, true_and, and_true]
  refine hK _ _ _ _ ?_
  refine rz_blk' [(.iconst 0, 1, 0, 0), (.istore 4, 2, 0, 0)] (by decide +kernel) (Nat.le_refl _) (Nat.le_refl _) (fun K R hK hR => ?_)
  simp only [rw_c0, ↓rx_iconst, ↓rx_istore, ↓rx_nil, ↓ry_i1, rz_set, rz_nol, rz_clr, List.set_cons_zero, List.set_cons_succ, rz_tr, Nat.reduceAdd, Int.reduceAdd, Int.reduceToNat, Int.reduceSub, Int.reduceNeg, Int.cast_ofNat_Int]
  try simp (disch := omega) only [pk_us, pk_un, va_up_self, va_up_ne, nI_add, pk_mul, nI_clamp, vp_inT, nI_ltI, nI_leI, nI_eqI, pk_sub, true_and, and_true]
  refine hK _ _ _ _ ?_
  exact ll 6 0 rfl (fun s hs => absurd hs (Nat.not_lt_zero _))
