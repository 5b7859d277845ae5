/-! the reference: nodes of the search; loadRest, moreOne, moreTwo, endsApart, newWord -/
def xn_sd (n : ps_nd) : Nat := if n.2.2.1 then 2 else if n.2.2.2.2.length < n.2.2.2.1.length then 0 else 1
def xn_rs (n : ps_nd) : List Nat := if n.2.2.1 then [] else if n.2.2.2.2.length < n.2.2.2.1.length then n.2.2.2.1 else n.2.2.2.2
/-- a node as the search makes it: one rest is empty, both behind a clash -/
def xn_ok (n : ps_nd) : Prop := n.1 < 6 ∧ n.2.1 < 6 ∧ (n.2.2.1 = true → n.2.2.2.1 = [] ∧ n.2.2.2.2 = []) ∧ (n.2.2.2.1 = [] ∨ n.2.2.2.2 = []) ∧ (∀ x ∈ n.2.2.2.1, x < 8) ∧ ∀ x ∈ n.2.2.2.2, x < 8
abbrev xn_T := ps_nd × Nat
def xn_ns (B b : Nat) (I : Nat → Int32) (A : Nat → Nat → Int32) (N : List xn_T) : Prop := I 30 = nI N.length ∧ N.length ≤ 72 ∧ ∀ i (h : i < N.length), A 31 i = nI N[i].1.1 ∧ A 32 i = nI N[i].1.2.1 ∧ A 33 i = nI (xn_sd N[i].1) ∧ A 34 i = nI (xn_rs N[i].1).length ∧ sg (A 35) (2100 * i) (xn_rs N[i].1) ∧ A 36 i = nI N[i].2 ∧ xn_ok N[i].1 ∧ (xn_rs N[i].1).length ≤ B + b * i ∧ N[i].2 < 4100
theorem xn_rs_le {n : ps_nd} (h : xn_ok n) : (n.2.2.2.1 = [] ∧ n.2.2.2.2 = [] ∧ n.2.2.1 = true ∧ xn_sd n = 2 ∧ xn_rs n = []) ∨ (n.2.2.1 = false ∧ xn_sd n = 0 ∧ xn_rs n = n.2.2.2.1 ∧ n.2.2.2.2 = []) ∨ (n.2.2.1 = false ∧ xn_sd n = 1 ∧ xn_rs n = n.2.2.2.2 ∧ n.2.2.2.1 = []) := by
  obtain ⟨-, -, hc, hs, -, -⟩ := h
  cases c : n.2.2.1 with
  | true => exact Or.inl ⟨(hc c).1, (hc c).2, rfl, by simp [xn_sd, c], by simp [xn_rs, c]⟩
  | false =>
    right
    by_cases q : n.2.2.2.2.length < n.2.2.2.1.length
    · left
      refine ⟨rfl, by simp [xn_sd, c, q], by simp [xn_rs, c, q], ?_⟩
      rcases hs with e | e
      · rw [e] at q; simp at q
      · exact e
    · right
      refine ⟨rfl, by simp [xn_sd, c, q], by simp [xn_rs, c, q], ?_⟩
      rcases hs with e | e
      · exact e
      · rw [e] at q; cases u : n.2.2.2.1 with
        | nil => rfl
        | cons x xs => rw [u] at q; simp at q
theorem os_ge {f : Option (List Nat)} (h : (os f < 0) = (f = none)) : (0 ≤ os f) = ¬ (f = none) := by rw [← h]; exact propext ⟨fun q => Int32.not_lt.mpr q, fun q => Int32.not_lt.mp q⟩
/-- both may end, and the outputs differ -/
def xn_ea (T1 T2 : mv_T) (n : ps_nd) : Bool := (T1.2.2.1 n.1).isSome && (T2.2.2.1 n.2.1).isSome && (n.2.2.1 || !decide (n.2.2.2.1 ++ ps_fin T1 n.1 = n.2.2.2.2 ++ ps_fin T2 n.2.1))
theorem lcpn_full : ∀ {u v : List Nat}, u.length = v.length → (lcpn u v < u.length ↔ u ≠ v)
  | [], [], _ => by simp [lcpn]
  | [], y :: v, h => by simp at h
  | x :: u, [], h => by simp at h
  | x :: u, y :: v, h => by
    have ih := lcpn_full (u := u) (v := v) (by simpa using h)
    simp only [lcpn, List.length_cons]
    by_cases e : x = y
    · subst e
      rw [if_pos rfl]
      constructor
      · intro q; have := ih.mp (by omega); simpa using this
      · intro q; have := ih.mpr (by simpa using q); omega
    · rw [if_neg e]
      simp [e]
theorem re12_app1 {I : Nat → Int32} {A : Nat → Nat → Int32} {u v x : List Nat} {g : Nat → Int32} (h : re_12 I A u v) (hg : sg g 0 (u ++ x)) (hl : u.length + x.length ≤ 4200) (h8 : ∀ y ∈ x, y < 8) : re_12 (upd I 26 (nI (u.length + x.length))) (va_up A 28 g) (u ++ x) v := by
  obtain ⟨h1, h2, h3, h4, h5, h6, h7, h8'⟩ := h
  refine ⟨by rw [pk_us, List.length_append], by rw [pk_un (by decide)]; exact h2, by rw [va_up_self]; exact hg, by rw [va_up_ne _ _ (by decide)]; exact h4, by rw [List.length_append]; exact hl, h6, fun y hy => ?_, h8'⟩
  rcases List.mem_append.mp hy with q | q
  · exact h7 y q
  · exact lt8 h8 y q
theorem re12_app2 {I : Nat → Int32} {A : Nat → Nat → Int32} {u v x : List Nat} {g : Nat → Int32} (h : re_12 I A u v) (hg : sg g 0 (v ++ x)) (hl : v.length + x.length ≤ 4200) (h8 : ∀ y ∈ x, y < 8) : re_12 (upd I 27 (nI (v.length + x.length))) (va_up A 29 g) u (v ++ x) := by
  obtain ⟨h1, h2, h3, h4, h5, h6, h7, h8'⟩ := h
  refine ⟨by rw [pk_un (by decide)]; exact h1, by rw [pk_us, List.length_append], by rw [va_up_ne _ _ (by decide)]; exact h3, by rw [va_up_self]; exact hg, h5, by rw [List.length_append]; exact hl, h7, fun y hy => ?_⟩
  rcases List.mem_append.mp hy with q | q
  · exact h8' y q
  · exact lt8 h8 y q
theorem sg_more {g h : Nat → Int32} {u x : List Nat} {o : Nat} (h1 : sg g 0 u) (h2 : sg h o x) : sg (cp g u.length h o x.length) 0 (u ++ x) := by
  refine sg_app (h1.k (fun y _ q => cp_out (by omega))) ?_
  rw [Nat.zero_add]
  exact sg_cp h2 (Nat.le_refl _)
set_option maxRecDepth 100000 in
set_option maxHeartbeats 400000 in
theorem c_Mod_loadRest {w : rz_w} {d : Nat} {G : rz_G} {a : Nat} {I : Nat → Int32} {A : Nat → Nat → Int32} {n : ps_nd} {c : Nat} (hc : c < 72) (h33 : A 33 c = nI (xn_sd n)) (h34 : A 34 c = nI (xn_rs n).length) (h35 : sg (A 35) (2100 * c) (xn_rs n)) (hok : xn_ok n) (hl : (xn_rs n).length ≤ 2100) : rz_C w d 0 0 y_Mod_loadRest m_Mod_loadRest [.ref a, .int (nI c)] (re_put G a I A) (fun (r : Option Value) (G' : rz_G) => r = none ∧ ∃ I' A', G' = re_put G a I' A' ∧ fi [26, 27] I I' ∧ fa [28, 29] A A' ∧ re_12 I' A' n.2.2.2.1 n.2.2.2.2) := by
  generalize hQ : (fun (r : Option Value) (G' : rz_G) => r = none ∧ ∃ I' A', G' = re_put G a I' A' ∧ fi [26, 27] I I' ∧ fa [28, 29] A A' ∧ re_12 I' A' n.2.2.2.1 n.2.2.2.2) = Q
  obtain ⟨-, -, -, -, h8u, h8v⟩ := id hok
  generalize hJ : upd (upd I 26 (nI 0)) 27 (nI 0) = J
  have hJ26 : J 26 = nI 0 := by rw [← hJ, pk_un (by decide), pk_us]
  have hJ27 : J 27 = nI 0 := by rw [← hJ, pk_us]
  have hJf : fi [26, 27] I J := by rw [← hJ]; exact (fi.rf.u rfl).u rfl
  have hgo : rz_T w d 0 0 m_Mod_loadRest 0 0 12 [some (.ref a), some (.int (nI c)), some (.int (nI 0))] [] (re_put G a J A) Q := by
    rcases xn_rs_le hok with ⟨e1, e2, e3, e4, e5⟩ | ⟨e3, e4, e5, e6⟩ | ⟨e3, e4, e5, e6⟩
    · rw [e4] at h33
      rw [e5] at h34
      refine rz_blk' [(.iload_n 2, 1, 0, 0), (.aload_n 0, 1, 0, 0), (.getfield 98, 3, 10, 34), (.iload_n 1, 1, 0, 0), (.iaload, 1, 0, 0), (.if_icmp .ge 57, 3, 0, 0)] (by decide +kernel) (Nat.le_refl _) (Nat.le_refl _) (fun K R hK hR => ?_)
      simp only [↓rx_aload_n0, ↓rx_getfield, ↓rx_iaload, ↓rx_if_icmp_ge, ↓rx_iload_n1, ↓rx_iload_n2, ↓rx_nil, ↓ry_i2, ↓ry_iau, ↓ry_li0s, ↓ry_li0z, ↓ry_lr0s, ↓ry_lr0z, ↓ry_obu, ↓ry_r1, ↓ry_ri, true_and, re_a34, ↓re_F34, ↓re_i34, ↓re_ob, h33, h34, rz_set, rz_nol, rz_clr, List.set_cons_zero, List.set_cons_succ, rz_tr, Nat.reduceAdd, Int.reduceAdd, Int.reduceToNat, Int.reduceSub, Int.reduceNeg, Int.cast_ofNat_Int]
      try simp (disch := omega) only [h33, h34, List.length_nil, pk_us, pk_un, va_up_self, va_up_ne, nI_add, pk_mul, nI_clamp, vp_inT, nI_ltI, nI_leI, nI_eqI, pk_sub, true_and, and_true]
      refine ⟨fun q1 => hK _ _ _ _ ?_, fun q1 => by omega⟩
      refine rz_blk' [(.aload_n 0, 1, 0, 0), (.getfield 95, 3, 10, 33), (.iload_n 1, 1, 0, 0), (.iaload, 1, 0, 0), (.ifCond .ne 13, 3, 0, 0)] (by decide +kernel) (Nat.le_refl _) (Nat.le_refl _) (fun K R hK hR => ?_)
      simp only [↓rx_aload_n0, ↓rx_getfield, ↓rx_iaload, ↓rx_ifCond_ne, ↓rx_iload_n1, ↓rx_nil, ↓ry_i1, ↓ry_iau, ↓ry_li0s, ↓ry_li0z, ↓ry_lr0s, ↓ry_lr0z, ↓ry_obu, ↓ry_r1, ↓ry_ri, true_and, re_a33, ↓re_F33, ↓re_i33, ↓re_ob, h33, h34, rz_set, rz_nol, rz_clr, List.set_cons_zero, List.set_cons_succ, rz_tr, Nat.reduceAdd, Int.reduceAdd, Int.reduceToNat, Int.reduceSub, Int.reduceNeg, Int.cast_ofNat_Int]
      try simp (disch := omega) only [h33, h34, List.length_nil, pk_us, pk_un, va_up_self, va_up_ne, nI_add, pk_mul, nI_clamp, vp_inT, nI_ltI, nI_leI, nI_eqI, pk_sub, true_and, and_true]
      refine ⟨fun q2 => hK _ _ _ _ ?_, fun q2 => absurd q2 (by decide)⟩
      refine rz_blk' [(.aload_n 0, 1, 0, 0), (.getfield 95, 3, 10, 33), (.iload_n 1, 1, 0, 0), (.iaload, 1, 0, 0), (.iconst 1, 1, 0, 0), (.if_icmp .ne 13, 3, 0, 0)] (by decide +kernel) (Nat.le_refl _) (Nat.le_refl _) (fun K R hK hR => ?_)
      simp only [rw_c1, ↓rx_aload_n0, ↓rx_getfield, ↓rx_iaload, ↓rx_iconst, ↓rx_if_icmp_ne, ↓rx_iload_n1, ↓rx_nil, ↓ry_i2, ↓ry_iau, ↓ry_li0s, ↓ry_li0z, ↓ry_lr0s, ↓ry_lr0z, ↓ry_obu, ↓ry_r1, ↓ry_ri, true_and, re_a33, ↓re_F33, ↓re_i33, ↓re_ob, h33, h34, rz_set, rz_nol, rz_clr, List.set_cons_zero, List.set_cons_succ, rz_tr, Nat.reduceAdd, Int.reduceAdd, Int.reduceToNat, Int.reduceSub, Int.reduceNeg, Int.cast_ofNat_Int]
      try simp (disch := omega) only [h33, h34, List.length_nil, pk_us, pk_un, va_up_self, va_up_ne, nI_add, pk_mul, nI_clamp, vp_inT, nI_ltI, nI_leI, nI_eqI, pk_sub, true_and, and_true]
      refine ⟨fun q3 => hK _ _ _ _ ?_, fun q3 => absurd q3 (by decide)⟩
      refine rz_blk' [(.return_, 1, 0, 0)] (by decide +kernel) (Nat.le_refl _) (Nat.le_refl _) (fun K R hK hR => ?_)
      simp only [↓rx_nil, ↓rx_return_, h33, h34, rz_set, rz_nol, rz_clr, List.set_cons_zero, List.set_cons_succ, rz_tr, Nat.reduceAdd, Int.reduceAdd, Int.reduceToNat, Int.reduceSub, Int.reduceNeg, Int.cast_ofNat_Int]
      try simp (disch := omega) only [h33, h34, List.length_nil, pk_us, pk_un, va_up_self, va_up_ne, nI_add, pk_mul, nI_clamp, vp_inT, nI_ltI, nI_leI, nI_eqI, pk_sub, true_and, and_true]
      refine hR _ _ (rz_nb_i (by decide)) ?_
      rw [← hQ, e1, e2]
      exact ⟨rfl, _, _, rfl, hJf, fa.rf, by rw [hJ26]; rfl, by rw [hJ27]; rfl, sg_nil, sg_nil, by simp, by simp, by simp, by simp⟩
    · rw [e4] at h33
      rw [e5] at h34 h35 hl
      have c1 : ∀ (B : Nat → Nat → Int32) , B 33 c = nI 0 → B 34 c = nI n.2.2.2.1.length → rz_T w d 0 0 m_Mod_loadRest 0 0 76 [some (.ref a), some (.int (nI c)), some (.int (nI (n.2.2.2.1.length)))] [] (re_put G a J (va_up B 28 (cp (B 28) (0) (B 35) (2100 * c) (n.2.2.2.1.length)))) Q → rz_T w d 0 0 m_Mod_loadRest 0 0 12 [some (.ref a), some (.int (nI c)), some (.int (nI 0))] [] (re_put G a J B) Q := by
        intro B  b33 b34 hx
        have lp : ∀ (cj cx : Nat), cx + cj = n.2.2.2.1.length → rz_T w d 0 0 m_Mod_loadRest 0 0 12 [some (.ref a), some (.int (nI c)), some (.int (nI cx))] [] (re_put G a J (va_up B 28 (cp (B 28) (0) (B 35) (2100 * c) cx))) Q := by
          intro cj
          induction cj with
          | zero =>
            intro cx hij
            have hi : cx = n.2.2.2.1.length := by omega
            subst hi
            refine rz_blk' [(.iload_n 2, 1, 0, 0), (.aload_n 0, 1, 0, 0), (.getfield 98, 3, 10, 34), (.iload_n 1, 1, 0, 0), (.iaload, 1, 0, 0), (.if_icmp .ge 57, 3, 0, 0)] (by decide +kernel) (Nat.le_refl _) (Nat.le_refl _) (fun K R hK hR => ?_)
            simp only [↓rx_aload_n0, ↓rx_getfield, ↓rx_iaload, ↓rx_if_icmp_ge, ↓rx_iload_n1, ↓rx_iload_n2, ↓rx_nil, ↓ry_i2, ↓ry_iau, ↓ry_li0s, ↓ry_li0z, ↓ry_lr0s, ↓ry_lr0z, ↓ry_obu, ↓ry_r1, ↓ry_ri, true_and, re_a34, ↓re_F34, ↓re_i34, ↓re_ob, b33, b34, rz_set, rz_nol, rz_clr, List.set_cons_zero, List.set_cons_succ, rz_tr, Nat.reduceAdd, Int.reduceAdd, Int.reduceToNat, Int.reduceSub, Int.reduceNeg, Int.cast_ofNat_Int]
            try simp (disch := omega) only [b33, b34, pk_us, pk_un, va_up_self, va_up_ne, nI_add, pk_mul, nI_clamp, vp_inT, nI_ltI, nI_leI, nI_eqI, pk_sub, true_and, and_true]
            refine ⟨fun q4 => hK _ _ _ _ ?_, fun q4 => by omega⟩
            exact hx
          | succ cj ih =>
            intro cx hij
            refine rz_blk' [(.iload_n 2, 1, 0, 0), (.aload_n 0, 1, 0, 0), (.getfield 98, 3, 10, 34), (.iload_n 1, 1, 0, 0), (.iaload, 1, 0, 0), (.if_icmp .ge 57, 3, 0, 0)] (by decide +kernel) (Nat.le_refl _) (Nat.le_refl _) (fun K R hK hR => ?_)
            simp only [↓rx_aload_n0, ↓rx_getfield, ↓rx_iaload, ↓rx_if_icmp_ge, ↓rx_iload_n1, ↓rx_iload_n2, ↓rx_nil, ↓ry_i2, ↓ry_iau, ↓ry_li0s, ↓ry_li0z, ↓ry_lr0s, ↓ry_lr0z, ↓ry_obu, ↓ry_r1, ↓ry_ri, true_and, re_a34, ↓re_F34, ↓re_i34, ↓re_ob, b33, b34, rz_set, rz_nol, rz_clr, List.set_cons_zero, List.set_cons_succ, rz_tr, Nat.reduceAdd, Int.reduceAdd, Int.reduceToNat, Int.reduceSub, Int.reduceNeg, Int.cast_ofNat_Int]
            try simp (disch := omega) only [b33, b34, pk_us, pk_un, va_up_self, va_up_ne, nI_add, pk_mul, nI_clamp, vp_inT, nI_ltI, nI_leI, nI_eqI, pk_sub, true_and, and_true]
            refine ⟨fun q5 => by omega, fun q5 => hK _ _ _ _ ?_⟩
            refine rz_blk' [(.aload_n 0, 1, 0, 0), (.getfield 95, 3, 10, 33), (.iload_n 1, 1, 0, 0), (.iaload, 1, 0, 0), (.ifCond .ne 24, 3, 0, 0)] (by decide +kernel) (Nat.le_refl _) (Nat.le_refl _) (fun K R hK hR => ?_)
            simp only [↓rx_aload_n0, ↓rx_getfield, ↓rx_iaload, ↓rx_ifCond_ne, ↓rx_iload_n1, ↓rx_nil, ↓ry_i1, ↓ry_iau, ↓ry_li0s, ↓ry_li0z, ↓ry_lr0s, ↓ry_lr0z, ↓ry_obu, ↓ry_r1, ↓ry_ri, true_and, re_a33, ↓re_F33, ↓re_i33, ↓re_ob, b33, b34, rz_set, rz_nol, rz_clr, List.set_cons_zero, List.set_cons_succ, rz_tr, Nat.reduceAdd, Int.reduceAdd, Int.reduceToNat, Int.reduceSub, Int.reduceNeg, Int.cast_ofNat_Int]
            try simp (disch := omega) only [b33, b34, pk_us, pk_un, va_up_self, va_up_ne, nI_add, pk_mul, nI_clamp, vp_inT, nI_ltI, nI_leI, nI_eqI, pk_sub, true_and, and_true]
            refine ⟨fun q6 => by first | exact absurd rfl q6 | exact absurd trivial q6, fun q6 => hK _ _ _ _ ?_⟩
            refine rz_blk' [(.aload_n 0, 1, 0, 0), (.getfield 83, 3, 10, 28), (.iload_n 2, 1, 0, 0), (.aload_n 0, 1, 0, 0), (.getfield 102, 3, 10, 35), (.sipush 2100, 3, 0, 0), (.iload_n 1, 1, 0, 0), (.imul, 1, 0, 0), (.iload_n 2, 1, 0, 0), (.iadd, 1, 0, 0), (.iaload, 1, 0, 0), (.iastore, 1, 0, 0)] (by decide +kernel) (Nat.le_refl _) (Nat.le_refl _) (fun K R hK hR => ?_)
            simp only [rw_s2100, ↓rx_aload_n0, ↓rx_getfield, ↓rx_iadd, ↓rx_iaload, ↓rx_iastore, ↓rx_iload_n1, ↓rx_iload_n2, ↓rx_imul, ↓rx_nil, ↓rx_sipush, ↓ry_i2, ↓ry_iau, ↓ry_li0s, ↓ry_li0z, ↓ry_lr0s, ↓ry_lr0z, ↓ry_obu, ↓ry_r1, ↓ry_ri, ↓ry_rii, true_and, re_a28, re_a35, ↓re_F28, ↓re_F35, ↓re_i28, ↓re_i35, ↓re_ob, b33, b34, rz_set, rz_nol, rz_clr, List.set_cons_zero, List.set_cons_succ, rz_tr, Nat.reduceAdd, Int.reduceAdd, Int.reduceToNat, Int.reduceSub, Int.reduceNeg, Int.cast_ofNat_Int]
            try simp (disch := omega) only [b33, b34, pk_us, pk_un, va_up_self, va_up_ne, nI_add, pk_mul, nI_clamp, vp_inT, nI_ltI, nI_leI, nI_eqI, pk_sub, true_and, and_true]
            refine hK _ _ _ _ ?_
            refine rz_blk' [(.goto 21, 3, 0, 0)] (by decide +kernel) (Nat.le_refl _) (Nat.le_refl _) (fun K R hK hR => ?_)
            simp only [↓rx_goto, ↓rx_nil, b33, b34, rz_set, rz_nol, rz_clr, List.set_cons_zero, List.set_cons_succ, rz_tr, Nat.reduceAdd, Int.reduceAdd, Int.reduceToNat, Int.reduceSub, Int.reduceNeg, Int.cast_ofNat_Int]
            try simp (disch := omega) only [b33, b34, pk_us, pk_un, va_up_self, va_up_ne, nI_add, pk_mul, nI_clamp, vp_inT, nI_ltI, nI_leI, nI_eqI, pk_sub, true_and, and_true]
            refine hK _ _ _ _ ?_
            refine rz_blk' [(.iinc 2 1, 3, 0, 0)] (by decide +kernel) (Nat.le_refl _) (Nat.le_refl _) (fun K R hK hR => ?_)
            simp only [rw_c1, ↓rx_iinc, ↓rx_nil, ↓ry_li0s, ↓ry_li0z, b33, b34, rz_set, rz_nol, rz_clr, List.set_cons_zero, List.set_cons_succ, rz_tr, Nat.reduceAdd, Int.reduceAdd, Int.reduceToNat, Int.reduceSub, Int.reduceNeg, Int.cast_ofNat_Int]
            try simp (disch := omega) only [b33, b34, pk_us, pk_un, va_up_self, va_up_ne, nI_add, pk_mul, nI_clamp, vp_inT, nI_ltI, nI_leI, nI_eqI, pk_sub, true_and, and_true]
            refine hK _ _ _ _ ?_
            refine rz_blk' [(.goto (-61), 3, 0, 0)] (by decide +kernel) (Nat.le_refl _) (Nat.le_refl _) (fun K R hK hR => ?_)
            simp only [↓rx_goto, ↓rx_nil, b33, b34, rz_set, rz_nol, rz_clr, List.set_cons_zero, List.set_cons_succ, rz_tr, Nat.reduceAdd, Int.reduceAdd, Int.reduceToNat, Int.reduceSub, Int.reduceNeg, Int.cast_ofNat_Int]
            try simp (disch := omega) only [b33, b34, pk_us, pk_un, va_up_self, va_up_ne, nI_add, pk_mul, nI_clamp, vp_inT, nI_ltI, nI_leI, nI_eqI, pk_sub, true_and, and_true]
            refine hK _ _ _ _ ?_
            have ih := ih (cx + 1) (by omega)
            rw [← cp_s] at ih
            simp only [Nat.zero_add] at ih
            rw [re_vv]
            exact ih
        have := lp (n.2.2.2.1.length) 0 (Nat.zero_add _)
        rw [cp_0, re_ve] at this
        exact this
      refine c1 A h33 h34 ?_
      generalize hC : va_up A 28 _ = C
      have hC33 : C 33 = A 33 := by rw [← hC, va_up_ne _ _ (by decide)]
      have hC34 : C 34 = A 34 := by rw [← hC, va_up_ne _ _ (by decide)]
      have hCd : C 28 = cp (A 28) 0 (A 35) (2100 * c) n.2.2.2.1.length := by rw [← hC, va_up_self]
      have hCf : fa [28, 29] A C := by rw [← hC]; exact fa.rf.u rfl
      clear hC
      refine rz_blk' [(.aload_n 0, 1, 0, 0), (.getfield 95, 3, 10, 33), (.iload_n 1, 1, 0, 0), (.iaload, 1, 0, 0), (.ifCond .ne 13, 3, 0, 0)] (by decide +kernel) (Nat.le_refl _) (Nat.le_refl _) (fun K R hK hR => ?_)
      simp only [↓rx_aload_n0, ↓rx_getfield, ↓rx_iaload, ↓rx_ifCond_ne, ↓rx_iload_n1, ↓rx_nil, ↓ry_i1, ↓ry_iau, ↓ry_li0s, ↓ry_li0z, ↓ry_lr0s, ↓ry_lr0z, ↓ry_obu, ↓ry_r1, ↓ry_ri, true_and, re_a33, ↓re_F33, ↓re_i33, ↓re_ob, hC33, hC34, h33, h34, rz_set, rz_nol, rz_clr, List.set_cons_zero, List.set_cons_succ, rz_tr, Nat.reduceAdd, Int.reduceAdd, Int.reduceToNat, Int.reduceSub, Int.reduceNeg, Int.cast_ofNat_Int]
      try simp (disch := omega) only [hC33, hC34, h33, h34, pk_us, pk_un, va_up_self, va_up_ne, nI_add, pk_mul, nI_clamp, vp_inT, nI_ltI, nI_leI, nI_eqI, pk_sub, true_and, and_true]
      refine ⟨fun q7 => by first | exact absurd rfl q7 | exact absurd trivial q7, fun q7 => hK _ _ _ _ ?_⟩
      refine rz_blk' [(.aload_n 0, 1, 0, 0), (.aload_n 0, 1, 0, 0), (.getfield 98, 3, 10, 34), (.iload_n 1, 1, 0, 0), (.iaload, 1, 0, 0), (.putfield 253, 3, 10, 26)] (by decide +kernel) (Nat.le_refl _) (Nat.le_refl _) (fun K R hK hR => ?_)
      simp only [List.length_cons, List.length_nil, Nat.reduceLT, rf_10_26, ↓rx_aload_n0, ↓rx_getfield, ↓rx_iaload, ↓rx_iload_n1, ↓rx_nil, ↓rx_putfield, ↓ry_iau, ↓ry_li0s, ↓ry_li0z, ↓ry_lr0s, ↓ry_lr0z, ↓ry_obu, ↓ry_r1, ↓ry_ri, ↓ry_vr, true_and, re_a34, re_len, re_u26, ↓re_F34, ↓re_i34, ↓re_ob, hC33, hC34, h33, h34, rz_set, rz_nol, rz_clr, List.set_cons_zero, List.set_cons_succ, rz_tr, Nat.reduceAdd, Int.reduceAdd, Int.reduceToNat, Int.reduceSub, Int.reduceNeg, Int.cast_ofNat_Int]
      try simp (disch := omega) only [hC33, hC34, h33, h34, pk_us, pk_un, va_up_self, va_up_ne, nI_add, pk_mul, nI_clamp, vp_inT, nI_ltI, nI_leI, nI_eqI, pk_sub, true_and, and_true]
      refine hK _ _ _ _ ?_
      refine rz_blk' [(.aload_n 0, 1, 0, 0), (.getfield 95, 3, 10, 33), (.iload_n 1, 1, 0, 0), (.iaload, 1, 0, 0), (.iconst 1, 1, 0, 0), (.if_icmp .ne 13, 3, 0, 0)] (by decide +kernel) (Nat.le_refl _) (Nat.le_refl _) (fun K R hK hR => ?_)
      simp only [rw_c1, ↓rx_aload_n0, ↓rx_getfield, ↓rx_iaload, ↓rx_iconst, ↓rx_if_icmp_ne, ↓rx_iload_n1, ↓rx_nil, ↓ry_i2, ↓ry_iau, ↓ry_li0s, ↓ry_li0z, ↓ry_lr0s, ↓ry_lr0z, ↓ry_obu, ↓ry_r1, ↓ry_ri, true_and, re_a33, ↓re_F33, ↓re_i33, ↓re_ob, hC33, hC34, h33, h34, rz_set, rz_nol, rz_clr, List.set_cons_zero, List.set_cons_succ, rz_tr, Nat.reduceAdd, Int.reduceAdd, Int.reduceToNat, Int.reduceSub, Int.reduceNeg, Int.cast_ofNat_Int]
      try simp (disch := omega) only [hC33, hC34, h33, h34, pk_us, pk_un, va_up_self, va_up_ne, nI_add, pk_mul, nI_clamp, vp_inT, nI_ltI, nI_leI, nI_eqI, pk_sub, true_and, and_true]
      refine ⟨fun q8 => hK _ _ _ _ ?_, fun q8 => absurd q8 (by decide)⟩
      refine rz_blk' [(.return_, 1, 0, 0)] (by decide +kernel) (Nat.le_refl _) (Nat.le_refl _) (fun K R hK hR => ?_)
      simp only [↓rx_nil, ↓rx_return_, hC33, hC34, h33, h34, rz_set, rz_nol, rz_clr, List.set_cons_zero, List.set_cons_succ, rz_tr, Nat.reduceAdd, Int.reduceAdd, Int.reduceToNat, Int.reduceSub, Int.reduceNeg, Int.cast_ofNat_Int]
      try simp (disch := omega) only [hC33, hC34, h33, h34, pk_us, pk_un, va_up_self, va_up_ne, nI_add, pk_mul, nI_clamp, vp_inT, nI_ltI, nI_leI, nI_eqI, pk_sub, true_and, and_true]
      refine hR _ _ (rz_nb_i (by decide)) ?_
      rw [← hQ]
      refine ⟨rfl, _, _, rfl, hJf.u rfl, hCf, ?_⟩
      rw [e6]
      exact ⟨pk_us, by rw [pk_un (by decide)]; exact hJ27, by rw [hCd]; exact sg_cp h35 (Nat.le_refl _), sg_nil, by omega, by simp, lt8 h8u, by simp⟩
    · rw [e4] at h33
      rw [e5] at h34 h35 hl
      have c1 : ∀ (B : Nat → Nat → Int32) , B 33 c = nI 1 → B 34 c = nI n.2.2.2.2.length → rz_T w d 0 0 m_Mod_loadRest 0 0 76 [some (.ref a), some (.int (nI c)), some (.int (nI (n.2.2.2.2.length)))] [] (re_put G a J (va_up B 29 (cp (B 29) (0) (B 35) (2100 * c) (n.2.2.2.2.length)))) Q → rz_T w d 0 0 m_Mod_loadRest 0 0 12 [some (.ref a), some (.int (nI c)), some (.int (nI 0))] [] (re_put G a J B) Q := by
        intro B  b33 b34 hx
        have lp : ∀ (cj cx : Nat), cx + cj = n.2.2.2.2.length → rz_T w d 0 0 m_Mod_loadRest 0 0 12 [some (.ref a), some (.int (nI c)), some (.int (nI cx))] [] (re_put G a J (va_up B 29 (cp (B 29) (0) (B 35) (2100 * c) cx))) Q := by
          intro cj
          induction cj with
          | zero =>
            intro cx hij
            have hi : cx = n.2.2.2.2.length := by omega
            subst hi
            refine rz_blk' [(.iload_n 2, 1, 0, 0), (.aload_n 0, 1, 0, 0), (.getfield 98, 3, 10, 34), (.iload_n 1, 1, 0, 0), (.iaload, 1, 0, 0), (.if_icmp .ge 57, 3, 0, 0)] (by decide +kernel) (Nat.le_refl _) (Nat.le_refl _) (fun K R hK hR => ?_)
            simp only [↓rx_aload_n0, ↓rx_getfield, ↓rx_iaload, ↓rx_if_icmp_ge, ↓rx_iload_n1, ↓rx_iload_n2, ↓rx_nil, ↓ry_i2, ↓ry_iau, ↓ry_li0s, ↓ry_li0z, ↓ry_lr0s, ↓ry_lr0z, ↓ry_obu, ↓ry_r1, ↓ry_ri, true_and, re_a34, ↓re_F34, ↓re_i34, ↓re_ob, b33, b34, rz_set, rz_nol, rz_clr, List.set_cons_zero, List.set_cons_succ, rz_tr, Nat.reduceAdd, Int.reduceAdd, Int.reduceToNat, Int.reduceSub, Int.reduceNeg, Int.cast_ofNat_Int]
            try simp (disch := omega) only [b33, b34, pk_us, pk_un, va_up_self, va_up_ne, nI_add, pk_mul, nI_clamp, vp_inT, nI_ltI, nI_leI, nI_eqI, pk_sub, true_and, and_true]
            refine ⟨fun q9 => hK _ _ _ _ ?_, fun q9 => by omega⟩
            exact hx
          | succ cj ih =>
            intro cx hij
            refine rz_blk' [(.iload_n 2, 1, 0, 0), (.aload_n 0, 1, 0, 0), (.getfield 98, 3, 10, 34), (.iload_n 1, 1, 0, 0), (.iaload, 1, 0, 0), (.if_icmp .ge 57, 3, 0, 0)] (by decide +kernel) (Nat.le_refl _) (Nat.le_refl _) (fun K R hK hR => ?_)
            simp only [↓rx_aload_n0, ↓rx_getfield, ↓rx_iaload, ↓rx_if_icmp_ge, ↓rx_iload_n1, ↓rx_iload_n2, ↓rx_nil, ↓ry_i2, ↓ry_iau, ↓ry_li0s, ↓ry_li0z, ↓ry_lr0s, ↓ry_lr0z, ↓ry_obu, ↓ry_r1, ↓ry_ri, true_and, re_a34, ↓re_F34, ↓re_i34, ↓re_ob, b33, b34, rz_set, rz_nol, rz_clr, List.set_cons_zero, List.set_cons_succ, rz_tr, Nat.reduceAdd, Int.reduceAdd, Int.reduceToNat, Int.reduceSub, Int.reduceNeg, Int.cast_ofNat_Int]
            try simp (disch := omega) only [b33, b34, pk_us, pk_un, va_up_self, va_up_ne, nI_add, pk_mul, nI_clamp, vp_inT, nI_ltI, nI_leI, nI_eqI, pk_sub, true_and, and_true]
            refine ⟨fun q10 => by omega, fun q10 => hK _ _ _ _ ?_⟩
            refine rz_blk' [(.aload_n 0, 1, 0, 0), (.getfield 95, 3, 10, 33), (.iload_n 1, 1, 0, 0), (.iaload, 1, 0, 0), (.ifCond .ne 24, 3, 0, 0)] (by decide +kernel) (Nat.le_refl _) (Nat.le_refl _) (fun K R hK hR => ?_)
            simp only [↓rx_aload_n0, ↓rx_getfield, ↓rx_iaload, ↓rx_ifCond_ne, ↓rx_iload_n1, ↓rx_nil, ↓ry_i1, ↓ry_iau, ↓ry_li0s, ↓ry_li0z, ↓ry_lr0s, ↓ry_lr0z, ↓ry_obu, ↓ry_r1, ↓ry_ri, true_and, re_a33, ↓re_F33, ↓re_i33, ↓re_ob, b33, b34, rz_set, rz_nol, rz_clr, List.set_cons_zero, List.set_cons_succ, rz_tr, Nat.reduceAdd, Int.reduceAdd, Int.reduceToNat, Int.reduceSub, Int.reduceNeg, Int.cast_ofNat_Int]
            try simp (disch := omega) only [b33, b34, pk_us, pk_un, va_up_self, va_up_ne, nI_add, pk_mul, nI_clamp, vp_inT, nI_ltI, nI_leI, nI_eqI, pk_sub, true_and, and_true]
            refine ⟨fun q11 => hK _ _ _ _ ?_, fun q11 => absurd q11 (by decide)⟩
            refine rz_blk' [(.aload_n 0, 1, 0, 0), (.getfield 86, 3, 10, 29), (.iload_n 2, 1, 0, 0), (.aload_n 0, 1, 0, 0), (.getfield 102, 3, 10, 35), (.sipush 2100, 3, 0, 0), (.iload_n 1, 1, 0, 0), (.imul, 1, 0, 0), (.iload_n 2, 1, 0, 0), (.iadd, 1, 0, 0), (.iaload, 1, 0, 0), (.iastore, 1, 0, 0)] (by decide +kernel) (Nat.le_refl _) (Nat.le_refl _) (fun K R hK hR => ?_)
            simp only [rw_s2100, ↓rx_aload_n0, ↓rx_getfield, ↓rx_iadd, ↓rx_iaload, ↓rx_iastore, ↓rx_iload_n1, ↓rx_iload_n2, ↓rx_imul, ↓rx_nil, ↓rx_sipush, ↓ry_i2, ↓ry_iau, ↓ry_li0s, ↓ry_li0z, ↓ry_lr0s, ↓ry_lr0z, ↓ry_obu, ↓ry_r1, ↓ry_ri, ↓ry_rii, true_and, re_a29, re_a35, ↓re_F29, ↓re_F35, ↓re_i29, ↓re_i35, ↓re_ob, b33, b34, rz_set, rz_nol, rz_clr, List.set_cons_zero, List.set_cons_succ, rz_tr, Nat.reduceAdd, Int.reduceAdd, Int.reduceToNat, Int.reduceSub, Int.reduceNeg, Int.cast_ofNat_Int]
            try simp (disch := omega) only [b33, b34, pk_us, pk_un, va_up_self, va_up_ne, nI_add, pk_mul, nI_clamp, vp_inT, nI_ltI, nI_leI, nI_eqI, pk_sub, true_and, and_true]
            refine hK _ _ _ _ ?_
            refine rz_blk' [(.iinc 2 1, 3, 0, 0)] (by decide +kernel) (Nat.le_refl _) (Nat.le_refl _) (fun K R hK hR => ?_)
            simp only [rw_c1, ↓rx_iinc, ↓rx_nil, ↓ry_li0s, ↓ry_li0z, b33, b34, rz_set, rz_nol, rz_clr, List.set_cons_zero, List.set_cons_succ, rz_tr, Nat.reduceAdd, Int.reduceAdd, Int.reduceToNat, Int.reduceSub, Int.reduceNeg, Int.cast_ofNat_Int]
            try simp (disch := omega) only [b33, b34, pk_us, pk_un, va_up_self, va_up_ne, nI_add, pk_mul, nI_clamp, vp_inT, nI_ltI, nI_leI, nI_eqI, pk_sub, true_and, and_true]
            refine hK _ _ _ _ ?_
            refine rz_blk' [(.goto (-61), 3, 0, 0)] (by decide +kernel) (Nat.le_refl _) (Nat.le_refl _) (fun K R hK hR => ?_)
            simp only [↓rx_goto, ↓rx_nil, b33, b34, rz_set, rz_nol, rz_clr, List.set_cons_zero, List.set_cons_succ, rz_tr, Nat.reduceAdd, Int.reduceAdd, Int.reduceToNat, Int.reduceSub, Int.reduceNeg, Int.cast_ofNat_Int]
            try simp (disch := omega) only [b33, b34, pk_us, pk_un, va_up_self, va_up_ne, nI_add, pk_mul, nI_clamp, vp_inT, nI_ltI, nI_leI, nI_eqI, pk_sub, true_and, and_true]
            refine hK _ _ _ _ ?_
            have ih := ih (cx + 1) (by omega)
            rw [← cp_s] at ih
            simp only [Nat.zero_add] at ih
            rw [re_vv]
            exact ih
        have := lp (n.2.2.2.2.length) 0 (Nat.zero_add _)
        rw [cp_0, re_ve] at this
        exact this
      refine c1 A h33 h34 ?_
      generalize hC : va_up A 29 _ = C
      have hC33 : C 33 = A 33 := by rw [← hC, va_up_ne _ _ (by decide)]
      have hC34 : C 34 = A 34 := by rw [← hC, va_up_ne _ _ (by decide)]
      have hCd : C 29 = cp (A 29) 0 (A 35) (2100 * c) n.2.2.2.2.length := by rw [← hC, va_up_self]
      have hCf : fa [28, 29] A C := by rw [← hC]; exact fa.rf.u rfl
      clear hC
      refine rz_blk' [(.aload_n 0, 1, 0, 0), (.getfield 95, 3, 10, 33), (.iload_n 1, 1, 0, 0), (.iaload, 1, 0, 0), (.ifCond .ne 13, 3, 0, 0)] (by decide +kernel) (Nat.le_refl _) (Nat.le_refl _) (fun K R hK hR => ?_)
      simp only [↓rx_aload_n0, ↓rx_getfield, ↓rx_iaload, ↓rx_ifCond_ne, ↓rx_iload_n1, ↓rx_nil, ↓ry_i1, ↓ry_iau, ↓ry_li0s, ↓ry_li0z, ↓ry_lr0s, ↓ry_lr0z, ↓ry_obu, ↓ry_r1, ↓ry_ri, true_and, re_a33, ↓re_F33, ↓re_i33, ↓re_ob, hC33, hC34, h33, h34, rz_set, rz_nol, rz_clr, List.set_cons_zero, List.set_cons_succ, rz_tr, Nat.reduceAdd, Int.reduceAdd, Int.reduceToNat, Int.reduceSub, Int.reduceNeg, Int.cast_ofNat_Int]
      try simp (disch := omega) only [hC33, hC34, h33, h34, pk_us, pk_un, va_up_self, va_up_ne, nI_add, pk_mul, nI_clamp, vp_inT, nI_ltI, nI_leI, nI_eqI, pk_sub, true_and, and_true]
      refine ⟨fun q12 => hK _ _ _ _ ?_, fun q12 => absurd q12 (by decide)⟩
      refine rz_blk' [(.aload_n 0, 1, 0, 0), (.getfield 95, 3, 10, 33), (.iload_n 1, 1, 0, 0), (.iaload, 1, 0, 0), (.iconst 1, 1, 0, 0), (.if_icmp .ne 13, 3, 0, 0)] (by decide +kernel) (Nat.le_refl _) (Nat.le_refl _) (fun K R hK hR => ?_)
      simp only [rw_c1, ↓rx_aload_n0, ↓rx_getfield, ↓rx_iaload, ↓rx_iconst, ↓rx_if_icmp_ne, ↓rx_iload_n1, ↓rx_nil, ↓ry_i2, ↓ry_iau, ↓ry_li0s, ↓ry_li0z, ↓ry_lr0s, ↓ry_lr0z, ↓ry_obu, ↓ry_r1, ↓ry_ri, true_and, re_a33, ↓re_F33, ↓re_i33, ↓re_ob, hC33, hC34, h33, h34, rz_set, rz_nol, rz_clr, List.set_cons_zero, List.set_cons_succ, rz_tr, Nat.reduceAdd, Int.reduceAdd, Int.reduceToNat, Int.reduceSub, Int.reduceNeg, Int.cast_ofNat_Int]
      try simp (disch := omega) only [hC33, hC34, h33, h34, pk_us, pk_un, va_up_self, va_up_ne, nI_add, pk_mul, nI_clamp, vp_inT, nI_ltI, nI_leI, nI_eqI, pk_sub, true_and, and_true]
      refine ⟨fun q13 => by first | exact absurd rfl q13 | exact absurd trivial q13, fun q13 => hK _ _ _ _ ?_⟩
      refine rz_blk' [(.aload_n 0, 1, 0, 0), (.aload_n 0, 1, 0, 0), (.getfield 98, 3, 10, 34), (.iload_n 1, 1, 0, 0), (.iaload, 1, 0, 0), (.putfield 256, 3, 10, 27)] (by decide +kernel) (Nat.le_refl _) (Nat.le_refl _) (fun K R hK hR => ?_)
      simp only [List.length_cons, List.length_nil, Nat.reduceLT, rf_10_27, ↓rx_aload_n0, ↓rx_getfield, ↓rx_iaload, ↓rx_iload_n1, ↓rx_nil, ↓rx_putfield, ↓ry_iau, ↓ry_li0s, ↓ry_li0z, ↓ry_lr0s, ↓ry_lr0z, ↓ry_obu, ↓ry_r1, ↓ry_ri, ↓ry_vr, true_and, re_a34, re_len, re_u27, ↓re_F34, ↓re_i34, ↓re_ob, hC33, hC34, h33, h34, rz_set, rz_nol, rz_clr, List.set_cons_zero, List.set_cons_succ, rz_tr, Nat.reduceAdd, Int.reduceAdd, Int.reduceToNat, Int.reduceSub, Int.reduceNeg, Int.cast_ofNat_Int]
      try simp (disch := omega) only [hC33, hC34, h33, h34, pk_us, pk_un, va_up_self, va_up_ne, nI_add, pk_mul, nI_clamp, vp_inT, nI_ltI, nI_leI, nI_eqI, pk_sub, true_and, and_true]
      refine hK _ _ _ _ ?_
      refine rz_blk' [(.return_, 1, 0, 0)] (by decide +kernel) (Nat.le_refl _) (Nat.le_refl _) (fun K R hK hR => ?_)
      simp only [↓rx_nil, ↓rx_return_, hC33, hC34, h33, h34, rz_set, rz_nol, rz_clr, List.set_cons_zero, List.set_cons_succ, rz_tr, Nat.reduceAdd, Int.reduceAdd, Int.reduceToNat, Int.reduceSub, Int.reduceNeg, Int.cast_ofNat_Int]
      try simp (disch := omega) only [hC33, hC34, h33, h34, pk_us, pk_un, va_up_self, va_up_ne, nI_add, pk_mul, nI_clamp, vp_inT, nI_ltI, nI_leI, nI_eqI, pk_sub, true_and, and_true]
      refine hR _ _ (rz_nb_i (by decide)) ?_
      rw [← hQ]
      refine ⟨rfl, _, _, rfl, hJf.u rfl, hCf, ?_⟩
      rw [e6]
      exact ⟨by rw [pk_un (by decide)]; exact hJ26, pk_us, sg_nil, by rw [hCd]; exact sg_cp h35 (Nat.le_refl _), by simp, by omega, by simp, lt8 h8v⟩
  refine rz_enter' [some (.ref a), some (.int (nI c)), none] (by decide +kernel) rfl rfl (Nat.le_of_ble_eq_true rfl) rfl ?_
  refine rz_blk' [(.aload_n 0, 1, 0, 0), (.iconst 0, 1, 0, 0), (.putfield 253, 3, 10, 26)] (by decide +kernel) (Nat.le_refl _) (Nat.le_refl _) (fun K R hK hR => ?_)
  simp only [List.length_cons, List.length_nil, Nat.reduceLT, rf_10_26, rw_c0, ↓rx_aload_n0, ↓rx_iconst, ↓rx_nil, ↓rx_putfield, ↓ry_lr0s, ↓ry_lr0z, ↓ry_obu, ↓ry_vr, true_and, re_len, re_u26, ↓re_ob, rz_set, rz_nol, rz_clr, List.set_cons_zero, List.set_cons_succ, rz_tr, Nat.reduceAdd, Int.reduceAdd, Int.reduceToNat, Int.reduceSub, Int.reduceNeg, Int.cast_ofNat_Int]
  try simp (disch := omega) only [pk_us, pk_un, va_up_self, va_up_ne, nI_add, pk_mul, nI_clamp, vp_inT, nI_ltI, nI_leI, nI_eqI, pk_sub, true_and, and_true]
  refine hK _ _ _ _ ?_
  refine rz_blk' [(.aload_n 0, 1, 0, 0), (.iconst 0, 1, 0, 0), (.putfield 256, 3, 10, 27)] (by decide +kernel) (Nat.le_refl _) (Nat.le_refl _) (fun K R hK hR => ?_)
  simp only [List.length_cons, List.length_nil, Nat.reduceLT, rf_10_27, rw_c0, ↓rx_aload_n0, ↓rx_iconst, ↓rx_nil, ↓rx_putfield, ↓ry_lr0s, ↓ry_lr0z, ↓ry_obu, ↓ry_vr, true_and, re_len, re_u27, ↓re_ob, rz_set, rz_nol, rz_clr, List.set_cons_zero, List.set_cons_succ, rz_tr, Nat.reduceAdd, Int.reduceAdd, Int.reduceToNat, Int.reduceSub, Int.reduceNeg, Int.cast_ofNat_Int]
  try simp (disch := omega) only [pk_us, pk_un, va_up_self, va_up_ne, nI_add, pk_mul, nI_clamp, vp_inT, nI_ltI, nI_leI, nI_eqI, pk_sub, true_and, and_true]
  refine hK _ _ _ _ ?_
  refine rz_blk' [(.iconst 0, 1, 0, 0), (.istore_n 2, 1, 0, 0)] (by decide +kernel) (Nat.le_refl _) (Nat.le_refl _) (fun K R hK hR => ?_)
  simp only [rw_c0, ↓rx_iconst, ↓rx_istore_n2, ↓rx_nil, ↓ry_i1, rz_set, rz_nol, rz_clr, List.set_cons_zero, List.set_cons_succ, rz_tr, Nat.reduceAdd, Int.reduceAdd, Int.reduceToNat, Int.reduceSub, Int.reduceNeg, Int.cast_ofNat_Int]
  try simp (disch := omega) only [pk_us, pk_un, va_up_self, va_up_ne, nI_add, pk_mul, nI_clamp, vp_inT, nI_ltI, nI_leI, nI_eqI, pk_sub, true_and, and_true]
  refine hK _ _ _ _ ?_
  rw [hJ]
  exact hgo
set_option maxRecDepth 100000 in
set_option maxHeartbeats 400000 in
theorem c_Mod_moreOne {w : rz_w} {d : Nat} {G : rz_G} {a : Nat} {I : Nat → Int32} {A : Nat → Nat → Int32} {u v x : List Nat} {o : Nat} (h : re_12 I A u v) (ho : o + x.length ≤ 1536) (hx : sg (A 20) o x) (h8 : ∀ y ∈ x, y < 8) (hl : u.length + x.length ≤ 4200) : rz_C w d 0 0 y_Mod_moreOne m_Mod_moreOne [.ref a, .int (nI o), .int (nI x.length)] (re_put G a I A) (fun (r : Option Value) (G' : rz_G) => r = none ∧ ∃ I' A', G' = re_put G a I' A' ∧ fi [26] I I' ∧ fa [28] A A' ∧ re_12 I' A' (u ++ x) v) := by
  generalize hQ : (fun (r : Option Value) (G' : rz_G) => r = none ∧ ∃ I' A', G' = re_put G a I' A' ∧ fi [26] I I' ∧ fa [28] A A' ∧ re_12 I' A' (u ++ x) v) = Q
  obtain ⟨h1, h2, h3, h4, -⟩ := id h
  have c1 : ∀ (B : Nat → Nat → Int32) , rz_T w d 0 0 m_Mod_moreOne 0 0 32 [some (.ref a), some (.int (nI o)), some (.int (nI x.length)), some (.int (nI (x.length)))] [] (re_put G a I (va_up B 28 (cp (B 28) (u.length) (B 20) (o) (x.length)))) Q → rz_T w d 0 0 m_Mod_moreOne 0 0 2 [some (.ref a), some (.int (nI o)), some (.int (nI x.length)), some (.int (nI 0))] [] (re_put G a I B) Q := by
    intro B   hx
    have lp : ∀ (cj cx : Nat), cx + cj = x.length → rz_T w d 0 0 m_Mod_moreOne 0 0 2 [some (.ref a), some (.int (nI o)), some (.int (nI x.length)), some (.int (nI cx))] [] (re_put G a I (va_up B 28 (cp (B 28) (u.length) (B 20) (o) cx))) Q := by
      intro cj
      induction cj with
      | zero =>
        intro cx hij
        have hi : cx = x.length := by omega
        subst hi
        refine rz_blk' [(.iload_n 3, 1, 0, 0), (.iload_n 2, 1, 0, 0), (.if_icmp .ge 28, 3, 0, 0)] (by decide +kernel) (Nat.le_refl _) (Nat.le_refl _) (fun K R hK hR => ?_)
        simp only [↓rx_if_icmp_ge, ↓rx_iload_n2, ↓rx_iload_n3, ↓rx_nil, ↓ry_i2, ↓ry_li0s, ↓ry_li0z, h1, rz_set, rz_nol, rz_clr, List.set_cons_zero, List.set_cons_succ, rz_tr, Nat.reduceAdd, Int.reduceAdd, Int.reduceToNat, Int.reduceSub, Int.reduceNeg, Int.cast_ofNat_Int]
        try simp (disch := omega) only [h1, pk_us, pk_un, va_up_self, va_up_ne, nI_add, pk_mul, nI_clamp, vp_inT, nI_ltI, nI_leI, nI_eqI, pk_sub, true_and, and_true]
        refine ⟨fun q1 => hK _ _ _ _ ?_, fun q1 => by omega⟩
        exact hx
      | succ cj ih =>
        intro cx hij
        refine rz_blk' [(.iload_n 3, 1, 0, 0), (.iload_n 2, 1, 0, 0), (.if_icmp .ge 28, 3, 0, 0)] (by decide +kernel) (Nat.le_refl _) (Nat.le_refl _) (fun K R hK hR => ?_)
        simp only [↓rx_if_icmp_ge, ↓rx_iload_n2, ↓rx_iload_n3, ↓rx_nil, ↓ry_i2, ↓ry_li0s, ↓ry_li0z, h1, rz_set, rz_nol, rz_clr, List.set_cons_zero, List.set_cons_succ, rz_tr, Nat.reduceAdd, Int.reduceAdd, Int.reduceToNat, Int.reduceSub, Int.reduceNeg, Int.cast_ofNat_Int]
        try simp (disch := omega) only [h1, pk_us, pk_un, va_up_self, va_up_ne, nI_add, pk_mul, nI_clamp, vp_inT, nI_ltI, nI_leI, nI_eqI, pk_sub, true_and, and_true]
        refine ⟨fun q2 => by omega, fun q2 => hK _ _ _ _ ?_⟩
        refine rz_blk' [(.aload_n 0, 1, 0, 0), (.getfield 83, 3, 10, 28), (.aload_n 0, 1, 0, 0), (.getfield 253, 3, 10, 26), (.iload_n 3, 1, 0, 0), (.iadd, 1, 0, 0), (.aload_n 0, 1, 0, 0), (.getfield 65, 3, 10, 20), (.iload_n 1, 1, 0, 0), (.iload_n 3, 1, 0, 0), (.iadd, 1, 0, 0), (.iaload, 1, 0, 0), (.iastore, 1, 0, 0)] (by decide +kernel) (Nat.le_refl _) (Nat.le_refl _) (fun K R hK hR => ?_)
        simp only [↓rx_aload_n0, ↓rx_getfield, ↓rx_iadd, ↓rx_iaload, ↓rx_iastore, ↓rx_iload_n1, ↓rx_iload_n3, ↓rx_nil, ↓ry_i2, ↓ry_iau, ↓ry_li0s, ↓ry_li0z, ↓ry_lr0s, ↓ry_lr0z, ↓ry_obu, ↓ry_r1, ↓ry_ri, ↓ry_rii, true_and, re_a20, re_a28, ↓re_F20, ↓re_F26, ↓re_F28, ↓re_i20, ↓re_i28, ↓re_ob, h1, rz_set, rz_nol, rz_clr, List.set_cons_zero, List.set_cons_succ, rz_tr, Nat.reduceAdd, Int.reduceAdd, Int.reduceToNat, Int.reduceSub, Int.reduceNeg, Int.cast_ofNat_Int]
        try simp (disch := omega) only [h1, pk_us, pk_un, va_up_self, va_up_ne, nI_add, pk_mul, nI_clamp, vp_inT, nI_ltI, nI_leI, nI_eqI, pk_sub, true_and, and_true]
        refine hK _ _ _ _ ?_
        refine rz_blk' [(.iinc 3 1, 3, 0, 0)] (by decide +kernel) (Nat.le_refl _) (Nat.le_refl _) (fun K R hK hR => ?_)
        simp only [rw_c1, ↓rx_iinc, ↓rx_nil, ↓ry_li0s, ↓ry_li0z, h1, rz_set, rz_nol, rz_clr, List.set_cons_zero, List.set_cons_succ, rz_tr, Nat.reduceAdd, Int.reduceAdd, Int.reduceToNat, Int.reduceSub, Int.reduceNeg, Int.cast_ofNat_Int]
        try simp (disch := omega) only [h1, pk_us, pk_un, va_up_self, va_up_ne, nI_add, pk_mul, nI_clamp, vp_inT, nI_ltI, nI_leI, nI_eqI, pk_sub, true_and, and_true]
        refine hK _ _ _ _ ?_
        refine rz_blk' [(.goto (-27), 3, 0, 0)] (by decide +kernel) (Nat.le_refl _) (Nat.le_refl _) (fun K R hK hR => ?_)
        simp only [↓rx_goto, ↓rx_nil, h1, rz_set, rz_nol, rz_clr, List.set_cons_zero, List.set_cons_succ, rz_tr, Nat.reduceAdd, Int.reduceAdd, Int.reduceToNat, Int.reduceSub, Int.reduceNeg, Int.cast_ofNat_Int]
        try simp (disch := omega) only [h1, pk_us, pk_un, va_up_self, va_up_ne, nI_add, pk_mul, nI_clamp, vp_inT, nI_ltI, nI_leI, nI_eqI, pk_sub, true_and, and_true]
        refine hK _ _ _ _ ?_
        have ih := ih (cx + 1) (by omega)
        rw [← cp_s] at ih
        rw [re_vv]
        exact ih
    have := lp (x.length) 0 (Nat.zero_add _)
    rw [cp_0, re_ve] at this
    exact this
  refine rz_enter' [some (.ref a), some (.int (nI o)), some (.int (nI x.length)), none] (by decide +kernel) rfl rfl (Nat.le_of_ble_eq_true rfl) rfl ?_
  refine rz_blk' [(.iconst 0, 1, 0, 0), (.istore_n 3, 1, 0, 0)] (by decide +kernel) (Nat.le_refl _) (Nat.le_refl _) (fun K R hK hR => ?_)
  simp only [rw_c0, ↓rx_iconst, ↓rx_istore_n3, ↓rx_nil, ↓ry_i1, h1, rz_set, rz_nol, rz_clr, List.set_cons_zero, List.set_cons_succ, rz_tr, Nat.reduceAdd, Int.reduceAdd, Int.reduceToNat, Int.reduceSub, Int.reduceNeg, Int.cast_ofNat_Int]
  try simp (disch := omega) only [h1, pk_us, pk_un, va_up_self, va_up_ne, nI_add, pk_mul, nI_clamp, vp_inT, nI_ltI, nI_leI, nI_eqI, pk_sub, true_and, and_true]
  refine hK _ _ _ _ ?_
  refine c1 A ?_
  refine rz_blk' [(.aload_n 0, 1, 0, 0), (.dup, 1, 0, 0), (.getfield 253, 3, 10, 26), (.iload_n 2, 1, 0, 0), (.iadd, 1, 0, 0), (.putfield 253, 3, 10, 26)] (by decide +kernel) (Nat.le_refl _) (Nat.le_refl _) (fun K R hK hR => ?_)
  simp only [List.length_cons, List.length_nil, Nat.reduceLT, rf_10_26, ↓rx_aload_n0, ↓rx_dup, ↓rx_getfield, ↓rx_iadd, ↓rx_iload_n2, ↓rx_nil, ↓rx_putfield, ↓ry_i2, ↓ry_li0s, ↓ry_li0z, ↓ry_lr0s, ↓ry_lr0z, ↓ry_obu, ↓ry_r1, ↓ry_v1i, ↓ry_v1r, ↓ry_vr, true_and, re_len, re_u26, ↓re_F26, ↓re_ob, h1, rz_set, rz_nol, rz_clr, List.set_cons_zero, List.set_cons_succ, rz_tr, Nat.reduceAdd, Int.reduceAdd, Int.reduceToNat, Int.reduceSub, Int.reduceNeg, Int.cast_ofNat_Int]
  try simp (disch := omega) only [h1, pk_us, pk_un, va_up_self, va_up_ne, nI_add, pk_mul, nI_clamp, vp_inT, nI_ltI, nI_leI, nI_eqI, pk_sub, true_and, and_true]
  refine hK _ _ _ _ ?_
  refine rz_blk' [(.return_, 1, 0, 0)] (by decide +kernel) (Nat.le_refl _) (Nat.le_refl _) (fun K R hK hR => ?_)
  simp only [↓rx_nil, ↓rx_return_, h1, rz_set, rz_nol, rz_clr, List.set_cons_zero, List.set_cons_succ, rz_tr, Nat.reduceAdd, Int.reduceAdd, Int.reduceToNat, Int.reduceSub, Int.reduceNeg, Int.cast_ofNat_Int]
  try simp (disch := omega) only [h1, pk_us, pk_un, va_up_self, va_up_ne, nI_add, pk_mul, nI_clamp, vp_inT, nI_ltI, nI_leI, nI_eqI, pk_sub, true_and, and_true]
  refine hR _ _ (rz_nb_i (by decide)) ?_
  rw [← hQ]
  exact ⟨rfl, _, _, rfl, fi.rf.u rfl, fa.rf.u rfl, re12_app1 h (sg_more h3 hx) hl h8⟩
set_option maxRecDepth 100000 in
set_option maxHeartbeats 400000 in
theorem c_Mod_moreTwo {w : rz_w} {d : Nat} {G : rz_G} {a : Nat} {I : Nat → Int32} {A : Nat → Nat → Int32} {u v x : List Nat} {o : Nat} (h : re_12 I A u v) (ho : o + x.length ≤ 1536) (hx : sg (A 20) o x) (h8 : ∀ y ∈ x, y < 8) (hl : v.length + x.length ≤ 4200) : rz_C w d 0 0 y_Mod_moreTwo m_Mod_moreTwo [.ref a, .int (nI o), .int (nI x.length)] (re_put G a I A) (fun (r : Option Value) (G' : rz_G) => r = none ∧ ∃ I' A', G' = re_put G a I' A' ∧ fi [27] I I' ∧ fa [29] A A' ∧ re_12 I' A' u (v ++ x)) := by
  generalize hQ : (fun (r : Option Value) (G' : rz_G) => r = none ∧ ∃ I' A', G' = re_put G a I' A' ∧ fi [27] I I' ∧ fa [29] A A' ∧ re_12 I' A' u (v ++ x)) = Q
  obtain ⟨h1, h2, h3, h4, -⟩ := id h
  have c1 : ∀ (B : Nat → Nat → Int32) , rz_T w d 0 0 m_Mod_moreTwo 0 0 32 [some (.ref a), some (.int (nI o)), some (.int (nI x.length)), some (.int (nI (x.length)))] [] (re_put G a I (va_up B 29 (cp (B 29) (v.length) (B 20) (o) (x.length)))) Q → rz_T w d 0 0 m_Mod_moreTwo 0 0 2 [some (.ref a), some (.int (nI o)), some (.int (nI x.length)), some (.int (nI 0))] [] (re_put G a I B) Q := by
    intro B   hx
    have lp : ∀ (cj cx : Nat), cx + cj = x.length → rz_T w d 0 0 m_Mod_moreTwo 0 0 2 [some (.ref a), some (.int (nI o)), some (.int (nI x.length)), some (.int (nI cx))] [] (re_put G a I (va_up B 29 (cp (B 29) (v.length) (B 20) (o) cx))) Q := by
      intro cj
      induction cj with
      | zero =>
        intro cx hij
        have hi : cx = x.length := by omega
        subst hi
        refine rz_blk' [(.iload_n 3, 1, 0, 0), (.iload_n 2, 1, 0, 0), (.if_icmp .ge 28, 3, 0, 0)] (by decide +kernel) (Nat.le_refl _) (Nat.le_refl _) (fun K R hK hR => ?_)
        simp only [↓rx_if_icmp_ge, ↓rx_iload_n2, ↓rx_iload_n3, ↓rx_nil, ↓ry_i2, ↓ry_li0s, ↓ry_li0z, h2, rz_set, rz_nol, rz_clr, List.set_cons_zero, List.set_cons_succ, rz_tr, Nat.reduceAdd, Int.reduceAdd, Int.reduceToNat, Int.reduceSub, Int.reduceNeg, Int.cast_ofNat_Int]
        try simp (disch := omega) only [h2, pk_us, pk_un, va_up_self, va_up_ne, nI_add, pk_mul, nI_clamp, vp_inT, nI_ltI, nI_leI, nI_eqI, pk_sub, true_and, and_true]
        refine ⟨fun q1 => hK _ _ _ _ ?_, fun q1 => by omega⟩
        exact hx
      | succ cj ih =>
        intro cx hij
        refine rz_blk' [(.iload_n 3, 1, 0, 0), (.iload_n 2, 1, 0, 0), (.if_icmp .ge 28, 3, 0, 0)] (by decide +kernel) (Nat.le_refl _) (Nat.le_refl _) (fun K R hK hR => ?_)
        simp only [↓rx_if_icmp_ge, ↓rx_iload_n2, ↓rx_iload_n3, ↓rx_nil, ↓ry_i2, ↓ry_li0s, ↓ry_li0z, h2, rz_set, rz_nol, rz_clr, List.set_cons_zero, List.set_cons_succ, rz_tr, Nat.reduceAdd, Int.reduceAdd, Int.reduceToNat, Int.reduceSub, Int.reduceNeg, Int.cast_ofNat_Int]
        try simp (disch := omega) only [h2, pk_us, pk_un, va_up_self, va_up_ne, nI_add, pk_mul, nI_clamp, vp_inT, nI_ltI, nI_leI, nI_eqI, pk_sub, true_and, and_true]
        refine ⟨fun q2 => by omega, fun q2 => hK _ _ _ _ ?_⟩
        refine rz_blk' [(.aload_n 0, 1, 0, 0), (.getfield 86, 3, 10, 29), (.aload_n 0, 1, 0, 0), (.getfield 256, 3, 10, 27), (.iload_n 3, 1, 0, 0), (.iadd, 1, 0, 0), (.aload_n 0, 1, 0, 0), (.getfield 65, 3, 10, 20), (.iload_n 1, 1, 0, 0), (.iload_n 3, 1, 0, 0), (.iadd, 1, 0, 0), (.iaload, 1, 0, 0), (.iastore, 1, 0, 0)] (by decide +kernel) (Nat.le_refl _) (Nat.le_refl _) (fun K R hK hR => ?_)
        simp only [↓rx_aload_n0, ↓rx_getfield, ↓rx_iadd, ↓rx_iaload, ↓rx_iastore, ↓rx_iload_n1, ↓rx_iload_n3, ↓rx_nil, ↓ry_i2, ↓ry_iau, ↓ry_li0s, ↓ry_li0z, ↓ry_lr0s, ↓ry_lr0z, ↓ry_obu, ↓ry_r1, ↓ry_ri, ↓ry_rii, true_and, re_a20, re_a29, ↓re_F20, ↓re_F27, ↓re_F29, ↓re_i20, ↓re_i29, ↓re_ob, h2, rz_set, rz_nol, rz_clr, List.set_cons_zero, List.set_cons_succ, rz_tr, Nat.reduceAdd, Int.reduceAdd, Int.reduceToNat, Int.reduceSub, Int.reduceNeg, Int.cast_ofNat_Int]
        try simp (disch := omega) only [h2, pk_us, pk_un, va_up_self, va_up_ne, nI_add, pk_mul, nI_clamp, vp_inT, nI_ltI, nI_leI, nI_eqI, pk_sub, true_and, and_true]
        refine hK _ _ _ _ ?_
        refine rz_blk' [(.iinc 3 1, 3, 0, 0)] (by decide +kernel) (Nat.le_refl _) (Nat.le_refl _) (fun K R hK hR => ?_)
        simp only [rw_c1, ↓rx_iinc, ↓rx_nil, ↓ry_li0s, ↓ry_li0z, h2, rz_set, rz_nol, rz_clr, List.set_cons_zero, List.set_cons_succ, rz_tr, Nat.reduceAdd, Int.reduceAdd, Int.reduceToNat, Int.reduceSub, Int.reduceNeg, Int.cast_ofNat_Int]
        try simp (disch := omega) only [h2, pk_us, pk_un, va_up_self, va_up_ne, nI_add, pk_mul, nI_clamp, vp_inT, nI_ltI, nI_leI, nI_eqI, pk_sub, true_and, and_true]
        refine hK _ _ _ _ ?_
        refine rz_blk' [(.goto (-27), 3, 0, 0)] (by decide +kernel) (Nat.le_refl _) (Nat.le_refl _) (fun K R hK hR => ?_)
        simp only [↓rx_goto, ↓rx_nil, h2, rz_set, rz_nol, rz_clr, List.set_cons_zero, List.set_cons_succ, rz_tr, Nat.reduceAdd, Int.reduceAdd, Int.reduceToNat, Int.reduceSub, Int.reduceNeg, Int.cast_ofNat_Int]
        try simp (disch := omega) only [h2, pk_us, pk_un, va_up_self, va_up_ne, nI_add, pk_mul, nI_clamp, vp_inT, nI_ltI, nI_leI, nI_eqI, pk_sub, true_and, and_true]
        refine hK _ _ _ _ ?_
        have ih := ih (cx + 1) (by omega)
        rw [← cp_s] at ih
        rw [re_vv]
        exact ih
    have := lp (x.length) 0 (Nat.zero_add _)
    rw [cp_0, re_ve] at this
    exact this
  refine rz_enter' [some (.ref a), some (.int (nI o)), some (.int (nI x.length)), none] (by decide +kernel) rfl rfl (Nat.le_of_ble_eq_true rfl) rfl ?_
  refine rz_blk' [(.iconst 0, 1, 0, 0), (.istore_n 3, 1, 0, 0)] (by decide +kernel) (Nat.le_refl _) (Nat.le_refl _) (fun K R hK hR => ?_)
  simp only [rw_c0, ↓rx_iconst, ↓rx_istore_n3, ↓rx_nil, ↓ry_i1, h2, rz_set, rz_nol, rz_clr, List.set_cons_zero, List.set_cons_succ, rz_tr, Nat.reduceAdd, Int.reduceAdd, Int.reduceToNat, Int.reduceSub, Int.reduceNeg, Int.cast_ofNat_Int]
  try simp (disch := omega) only [h2, pk_us, pk_un, va_up_self, va_up_ne, nI_add, pk_mul, nI_clamp, vp_inT, nI_ltI, nI_leI, nI_eqI, pk_sub, true_and, and_true]
  refine hK _ _ _ _ ?_
  refine c1 A ?_
  refine rz_blk' [(.aload_n 0, 1, 0, 0), (.dup, 1, 0, 0), (.getfield 256, 3, 10, 27), (.iload_n 2, 1, 0, 0), (.iadd, 1, 0, 0), (.putfield 256, 3, 10, 27)] (by decide +kernel) (Nat.le_refl _) (Nat.le_refl _) (fun K R hK hR => ?_)
  simp only [List.length_cons, List.length_nil, Nat.reduceLT, rf_10_27, ↓rx_aload_n0, ↓rx_dup, ↓rx_getfield, ↓rx_iadd, ↓rx_iload_n2, ↓rx_nil, ↓rx_putfield, ↓ry_i2, ↓ry_li0s, ↓ry_li0z, ↓ry_lr0s, ↓ry_lr0z, ↓ry_obu, ↓ry_r1, ↓ry_v1i, ↓ry_v1r, ↓ry_vr, true_and, re_len, re_u27, ↓re_F27, ↓re_ob, h2, rz_set, rz_nol, rz_clr, List.set_cons_zero, List.set_cons_succ, rz_tr, Nat.reduceAdd, Int.reduceAdd, Int.reduceToNat, Int.reduceSub, Int.reduceNeg, Int.cast_ofNat_Int]
  try simp (disch := omega) only [h2, pk_us, pk_un, va_up_self, va_up_ne, nI_add, pk_mul, nI_clamp, vp_inT, nI_ltI, nI_leI, nI_eqI, pk_sub, true_and, and_true]
  refine hK _ _ _ _ ?_
  refine rz_blk' [(.return_, 1, 0, 0)] (by decide +kernel) (Nat.le_refl _) (Nat.le_refl _) (fun K R hK hR => ?_)
  simp only [↓rx_nil, ↓rx_return_, h2, rz_set, rz_nol, rz_clr, List.set_cons_zero, List.set_cons_succ, rz_tr, Nat.reduceAdd, Int.reduceAdd, Int.reduceToNat, Int.reduceSub, Int.reduceNeg, Int.cast_ofNat_Int]
  try simp (disch := omega) only [h2, pk_us, pk_un, va_up_self, va_up_ne, nI_add, pk_mul, nI_clamp, vp_inT, nI_ltI, nI_leI, nI_eqI, pk_sub, true_and, and_true]
  refine hR _ _ (rz_nb_i (by decide)) ?_
  rw [← hQ]
  exact ⟨rfl, _, _, rfl, fi.rf.u rfl, fa.rf.u rfl, re12_app2 h (sg_more h4 hx) hl h8⟩
set_option maxRecDepth 100000 in
set_option maxHeartbeats 4000000 in
theorem c_Mod_endsApart {w : rz_w} {d : Nat} {G : rz_G} {a : Nat} {I : Nat → Int32} {A : Nat → Nat → Int32} {T1 T2 : mv_T} {g hh c : Nat} {n : ps_nd} (hg : g < 2) (hh2 : hh < 2) (t1 : re_t A g T1) (t2 : re_t A hh T2) (w1 : tw T1 32) (w2 : tw T2 32) (hc : c < 72) (h31 : A 31 c = nI n.1) (h32 : A 32 c = nI n.2.1) (h33 : A 33 c = nI (xn_sd n)) (h34 : A 34 c = nI (xn_rs n).length) (h35 : sg (A 35) (2100 * c) (xn_rs n)) (hok : xn_ok n) (hl : (xn_rs n).length ≤ 2100) : rz_C w (d + 1) 0 0 y_Mod_endsApart m_Mod_endsApart [.ref a, .int (nI c), .int (nI g), .int (nI hh)] (re_put G a I A) (fun (r : Option Value) (G' : rz_G) => r = some (.int (rz_b (xn_ea T1 T2 n))) ∧ ∃ I' A', G' = re_put G a I' A' ∧ fi [26, 27] I I' ∧ fa [28, 29] A A') := by
  generalize hQ : (fun (r : Option Value) (G' : rz_G) => r = some (.int (rz_b (xn_ea T1 T2 n))) ∧ ∃ I' A', G' = re_put G a I' A' ∧ fi [26, 27] I I' ∧ fa [28, 29] A A') = Q
  obtain ⟨u1, u2, u3, u4, u5, u6⟩ := id t1
  obtain ⟨v1, v2, v3, v4, v5, v6⟩ := id t2
  obtain ⟨o1, o2, o3, o4, o5, o6⟩ := id hok
  have hos : ∀ {T : mv_T} {q : Nat}, tw T 32 → (os (T.2.2.1 q) < 0) = (T.2.2.1 q = none) := fun hT => os_lt (fun xs hx => by have := (hT.2.2.2.2.1 _ xs hx).1; omega)
  have s1 := hos (q := n.1) w1
  have s2 := hos (q := n.2.1) w2
  have s2b := os_ge s2
  obtain ⟨p1, p2⟩ := u4 n.1 o1
  obtain ⟨r1, r2⟩ := v4 n.2.1 o2
  have hsd : (nI (xn_sd n) = nI 2) = (n.2.2.1 = true) := by
    rw [nI_eqI (by unfold xn_sd; split <;> (try split) <;> omega) (by decide)]
    unfold xn_sd
    cases n.2.2.1 with
    | true => simp
    | false => simp; split <;> omega
  have hul : n.2.2.2.1.length ≤ 2100 ∧ n.2.2.2.2.length ≤ 2100 := by
    rcases xn_rs_le hok with ⟨e1, e2, e3, e4, e5⟩ | ⟨e3, e4, e5, e6⟩ | ⟨e3, e4, e5, e6⟩
    · rw [e1, e2]; simp
    · rw [e6, ← e5]; exact ⟨hl, by simp⟩
    · rw [e6, ← e5]; exact ⟨by simp, hl⟩
  have hcl := c_Mod_loadRest (w := w) (d := d) (G := G) (a := a) (I := I) (A := A) hc h33 h34 h35 hok hl
  have hgo : ∀ (f1 f2 : List Nat), T1.2.2.1 n.1 = some f1 → T2.2.2.1 n.2.1 = some f2 → n.2.2.1 = false → ∀ (I1 : Nat → Int32) (A1 : Nat → Nat → Int32), fi [26, 27] I I1 → fa [28, 29] A A1 → re_12 I1 A1 n.2.2.2.1 n.2.2.2.2 → rz_T w (d + 1) 0 0 m_Mod_endsApart 0 0 65 [some (.ref a), some (.int (nI c)), some (.int (nI g)), some (.int (nI hh)), some (.int (nI (6 * g + n.1))), some (.int (nI (6 * hh + n.2.1))), none] [] (re_put G a I1 A1) Q := by
    intro f1 f2 hf1 hf2 hcl2 I1 A1 ki ka k12
    have e21 := ka 21 rfl
    have e22 := ka 22 rfl
    rw [hf1] at p1 p2
    rw [hf2] at r1 r2
    have p1 : A 21 (6 * g + n.1) = nI f1.length := p1
    have r1 : A 21 (6 * hh + n.2.1) = nI f2.length := r1
    have p2 : sg (A 22) (32 * (6 * g + n.1)) f1 := p2
    have r2 : sg (A 22) (32 * (6 * hh + n.2.1)) f2 := r2
    have y1 := w1.2.2.2.2.1 _ f1 hf1
    have y2 := w2.2.2.2.2.1 _ f2 hf2
    obtain ⟨k1, k2, k3, k4, k5, k6, k7, k8⟩ := id k12
    have hea : xn_ea T1 T2 n = !decide (n.2.2.2.1 ++ f1 = n.2.2.2.2 ++ f2) := by
      simp only [xn_ea, hf1, hf2, ps_fin, hcl2, Option.isSome_some, Bool.and_true, Bool.true_and, Bool.false_or, Option.getD_some]
    have c1 : ∀ (B : Nat → Nat → Int32) , B 21 = A 21 → rz_T w (d + 1) 0 0 m_Mod_endsApart 0 0 111 [some (.ref a), some (.int (nI c)), some (.int (nI g)), some (.int (nI hh)), some (.int (nI (6 * g + n.1))), some (.int (nI (6 * hh + n.2.1))), some (.int (nI (f1.length)))] [] (re_put G a I1 (va_up B 28 (cp (B 28) (n.2.2.2.1.length) (B 22) (32 * (6 * g + n.1)) (f1.length)))) Q → rz_T w (d + 1) 0 0 m_Mod_endsApart 0 0 68 [some (.ref a), some (.int (nI c)), some (.int (nI g)), some (.int (nI hh)), some (.int (nI (6 * g + n.1))), some (.int (nI (6 * hh + n.2.1))), some (.int (nI 0))] [] (re_put G a I1 B) Q := by
      intro B  b21 hx
      have lp : ∀ (cj cx : Nat), cx + cj = f1.length → rz_T w (d + 1) 0 0 m_Mod_endsApart 0 0 68 [some (.ref a), some (.int (nI c)), some (.int (nI g)), some (.int (nI hh)), some (.int (nI (6 * g + n.1))), some (.int (nI (6 * hh + n.2.1))), some (.int (nI cx))] [] (re_put G a I1 (va_up B 28 (cp (B 28) (n.2.2.2.1.length) (B 22) (32 * (6 * g + n.1)) cx))) Q := by
        intro cj
        induction cj with
        | zero =>
          intro cx hij
          have hi : cx = f1.length := by omega
          subst hi
          refine rz_blk' [(.iload 6, 2, 0, 0), (.aload_n 0, 1, 0, 0), (.getfield 68, 3, 10, 21), (.iload 4, 2, 0, 0), (.iaload, 1, 0, 0), (.if_icmp .ge 34, 3, 0, 0)] (by decide +kernel) (Nat.le_refl _) (Nat.le_refl _) (fun K R hK hR => ?_)
          simp only [↓rx_aload_n0, ↓rx_getfield, ↓rx_iaload, ↓rx_if_icmp_ge, ↓rx_iload, ↓rx_nil, ↓ry_i2, ↓ry_iau, ↓ry_li0s, ↓ry_li0z, ↓ry_lr0s, ↓ry_lr0z, ↓ry_obu, ↓ry_r1, ↓ry_ri, true_and, re_a21, ↓re_F21, ↓re_i21, ↓re_ob, b21, p1, k1, rz_set, rz_nol, rz_clr, List.set_cons_zero, List.set_cons_succ, rz_tr, Nat.reduceAdd, Int.reduceAdd, Int.reduceToNat, Int.reduceSub, Int.reduceNeg, Int.cast_ofNat_Int]
          try simp (disch := omega) only [b21, p1, k1, pk_us, pk_un, va_up_self, va_up_ne, nI_add, pk_mul, nI_clamp, vp_inT, nI_ltI, nI_leI, nI_eqI, pk_sub, true_and, and_true]
          refine ⟨fun q1 => hK _ _ _ _ ?_, fun q1 => by omega⟩
          exact hx
        | succ cj ih =>
          intro cx hij
          refine rz_blk' [(.iload 6, 2, 0, 0), (.aload_n 0, 1, 0, 0), (.getfield 68, 3, 10, 21), (.iload 4, 2, 0, 0), (.iaload, 1, 0, 0), (.if_icmp .ge 34, 3, 0, 0)] (by decide +kernel) (Nat.le_refl _) (Nat.le_refl _) (fun K R hK hR => ?_)
          simp only [↓rx_aload_n0, ↓rx_getfield, ↓rx_iaload, ↓rx_if_icmp_ge, ↓rx_iload, ↓rx_nil, ↓ry_i2, ↓ry_iau, ↓ry_li0s, ↓ry_li0z, ↓ry_lr0s, ↓ry_lr0z, ↓ry_obu, ↓ry_r1, ↓ry_ri, true_and, re_a21, ↓re_F21, ↓re_i21, ↓re_ob, b21, p1, k1, rz_set, rz_nol, rz_clr, List.set_cons_zero, List.set_cons_succ, rz_tr, Nat.reduceAdd, Int.reduceAdd, Int.reduceToNat, Int.reduceSub, Int.reduceNeg, Int.cast_ofNat_Int]
          try simp (disch := omega) only [b21, p1, k1, pk_us, pk_un, va_up_self, va_up_ne, nI_add, pk_mul, nI_clamp, vp_inT, nI_ltI, nI_leI, nI_eqI, pk_sub, true_and, and_true]
          refine ⟨fun q2 => by omega, fun q2 => hK _ _ _ _ ?_⟩
          refine rz_blk' [(.aload_n 0, 1, 0, 0), (.getfield 83, 3, 10, 28), (.aload_n 0, 1, 0, 0), (.getfield 253, 3, 10, 26), (.iload 6, 2, 0, 0), (.iadd, 1, 0, 0), (.aload_n 0, 1, 0, 0), (.getfield 71, 3, 10, 22), (.bipush 32, 2, 0, 0), (.iload 4, 2, 0, 0), (.imul, 1, 0, 0), (.iload 6, 2, 0, 0), (.iadd, 1, 0, 0), (.iaload, 1, 0, 0), (.iastore, 1, 0, 0)] (by decide +kernel) (Nat.le_refl _) (Nat.le_refl _) (fun K R hK hR => ?_)
          simp only [rw_b32, ↓rx_aload_n0, ↓rx_bipush, ↓rx_getfield, ↓rx_iadd, ↓rx_iaload, ↓rx_iastore, ↓rx_iload, ↓rx_imul, ↓rx_nil, ↓ry_i2, ↓ry_iau, ↓ry_li0s, ↓ry_li0z, ↓ry_lr0s, ↓ry_lr0z, ↓ry_obu, ↓ry_r1, ↓ry_ri, ↓ry_rii, true_and, re_a22, re_a28, ↓re_F22, ↓re_F26, ↓re_F28, ↓re_i22, ↓re_i28, ↓re_ob, b21, p1, k1, rz_set, rz_nol, rz_clr, List.set_cons_zero, List.set_cons_succ, rz_tr, Nat.reduceAdd, Int.reduceAdd, Int.reduceToNat, Int.reduceSub, Int.reduceNeg, Int.cast_ofNat_Int]
          try simp (disch := omega) only [b21, p1, k1, pk_us, pk_un, va_up_self, va_up_ne, nI_add, pk_mul, nI_clamp, vp_inT, nI_ltI, nI_leI, nI_eqI, pk_sub, true_and, and_true]
          refine hK _ _ _ _ ?_
          refine rz_blk' [(.iinc 6 1, 3, 0, 0)] (by decide +kernel) (Nat.le_refl _) (Nat.le_refl _) (fun K R hK hR => ?_)
          simp only [rw_c1, ↓rx_iinc, ↓rx_nil, ↓ry_li0s, ↓ry_li0z, b21, p1, k1, rz_set, rz_nol, rz_clr, List.set_cons_zero, List.set_cons_succ, rz_tr, Nat.reduceAdd, Int.reduceAdd, Int.reduceToNat, Int.reduceSub, Int.reduceNeg, Int.cast_ofNat_Int]
          try simp (disch := omega) only [b21, p1, k1, pk_us, pk_un, va_up_self, va_up_ne, nI_add, pk_mul, nI_clamp, vp_inT, nI_ltI, nI_leI, nI_eqI, pk_sub, true_and, and_true]
          refine hK _ _ _ _ ?_
          refine rz_blk' [(.goto (-40), 3, 0, 0)] (by decide +kernel) (Nat.le_refl _) (Nat.le_refl _) (fun K R hK hR => ?_)
          simp only [↓rx_goto, ↓rx_nil, b21, p1, k1, rz_set, rz_nol, rz_clr, List.set_cons_zero, List.set_cons_succ, rz_tr, Nat.reduceAdd, Int.reduceAdd, Int.reduceToNat, Int.reduceSub, Int.reduceNeg, Int.cast_ofNat_Int]
          try simp (disch := omega) only [b21, p1, k1, pk_us, pk_un, va_up_self, va_up_ne, nI_add, pk_mul, nI_clamp, vp_inT, nI_ltI, nI_leI, nI_eqI, pk_sub, true_and, and_true]
          refine hK _ _ _ _ ?_
          have ih := ih (cx + 1) (by omega)
          rw [← cp_s] at ih
          rw [re_vv]
          exact ih
      have := lp (f1.length) 0 (Nat.zero_add _)
      rw [cp_0, re_ve] at this
      exact this
    have c2 : ∀ (B : Nat → Nat → Int32) , B 21 = A 21 → rz_T w (d + 1) 0 0 m_Mod_endsApart 0 0 157 [some (.ref a), some (.int (nI c)), some (.int (nI g)), some (.int (nI hh)), some (.int (nI (6 * g + n.1))), some (.int (nI (6 * hh + n.2.1))), some (.int (nI (f2.length)))] [] (re_put G a I1 (va_up B 29 (cp (B 29) (n.2.2.2.2.length) (B 22) (32 * (6 * hh + n.2.1)) (f2.length)))) Q → rz_T w (d + 1) 0 0 m_Mod_endsApart 0 0 114 [some (.ref a), some (.int (nI c)), some (.int (nI g)), some (.int (nI hh)), some (.int (nI (6 * g + n.1))), some (.int (nI (6 * hh + n.2.1))), some (.int (nI 0))] [] (re_put G a I1 B) Q := by
      intro B  b21 hx
      have lp : ∀ (cj cx : Nat), cx + cj = f2.length → rz_T w (d + 1) 0 0 m_Mod_endsApart 0 0 114 [some (.ref a), some (.int (nI c)), some (.int (nI g)), some (.int (nI hh)), some (.int (nI (6 * g + n.1))), some (.int (nI (6 * hh + n.2.1))), some (.int (nI cx))] [] (re_put G a I1 (va_up B 29 (cp (B 29) (n.2.2.2.2.length) (B 22) (32 * (6 * hh + n.2.1)) cx))) Q := by
        intro cj
        induction cj with
        | zero =>
          intro cx hij
          have hi : cx = f2.length := by omega
          subst hi
          refine rz_blk' [(.iload 6, 2, 0, 0), (.aload_n 0, 1, 0, 0), (.getfield 68, 3, 10, 21), (.iload 5, 2, 0, 0), (.iaload, 1, 0, 0), (.if_icmp .ge 34, 3, 0, 0)] (by decide +kernel) (Nat.le_refl _) (Nat.le_refl _) (fun K R hK hR => ?_)
          simp only [↓rx_aload_n0, ↓rx_getfield, ↓rx_iaload, ↓rx_if_icmp_ge, ↓rx_iload, ↓rx_nil, ↓ry_i2, ↓ry_iau, ↓ry_li0s, ↓ry_li0z, ↓ry_lr0s, ↓ry_lr0z, ↓ry_obu, ↓ry_r1, ↓ry_ri, true_and, re_a21, ↓re_F21, ↓re_i21, ↓re_ob, b21, r1, k2, rz_set, rz_nol, rz_clr, List.set_cons_zero, List.set_cons_succ, rz_tr, Nat.reduceAdd, Int.reduceAdd, Int.reduceToNat, Int.reduceSub, Int.reduceNeg, Int.cast_ofNat_Int]
          try simp (disch := omega) only [b21, r1, k2, pk_us, pk_un, va_up_self, va_up_ne, nI_add, pk_mul, nI_clamp, vp_inT, nI_ltI, nI_leI, nI_eqI, pk_sub, true_and, and_true]
          refine ⟨fun q3 => hK _ _ _ _ ?_, fun q3 => by omega⟩
          exact hx
        | succ cj ih =>
          intro cx hij
          refine rz_blk' [(.iload 6, 2, 0, 0), (.aload_n 0, 1, 0, 0), (.getfield 68, 3, 10, 21), (.iload 5, 2, 0, 0), (.iaload, 1, 0, 0), (.if_icmp .ge 34, 3, 0, 0)] (by decide +kernel) (Nat.le_refl _) (Nat.le_refl _) (fun K R hK hR => ?_)
          simp only [↓rx_aload_n0, ↓rx_getfield, ↓rx_iaload, ↓rx_if_icmp_ge, ↓rx_iload, ↓rx_nil, ↓ry_i2, ↓ry_iau, ↓ry_li0s, ↓ry_li0z, ↓ry_lr0s, ↓ry_lr0z, ↓ry_obu, ↓ry_r1, ↓ry_ri, true_and, re_a21, ↓re_F21, ↓re_i21, ↓re_ob, b21, r1, k2, rz_set, rz_nol, rz_clr, List.set_cons_zero, List.set_cons_succ, rz_tr, Nat.reduceAdd, Int.reduceAdd, Int.reduceToNat, Int.reduceSub, Int.reduceNeg, Int.cast_ofNat_Int]
          try simp (disch := omega) only [b21, r1, k2, pk_us, pk_un, va_up_self, va_up_ne, nI_add, pk_mul, nI_clamp, vp_inT, nI_ltI, nI_leI, nI_eqI, pk_sub, true_and, and_true]
          refine ⟨fun q4 => by omega, fun q4 => hK _ _ _ _ ?_⟩
          refine rz_blk' [(.aload_n 0, 1, 0, 0), (.getfield 86, 3, 10, 29), (.aload_n 0, 1, 0, 0), (.getfield 256, 3, 10, 27), (.iload 6, 2, 0, 0), (.iadd, 1, 0, 0), (.aload_n 0, 1, 0, 0), (.getfield 71, 3, 10, 22), (.bipush 32, 2, 0, 0), (.iload 5, 2, 0, 0), (.imul, 1, 0, 0), (.iload 6, 2, 0, 0), (.iadd, 1, 0, 0), (.iaload, 1, 0, 0), (.iastore, 1, 0, 0)] (by decide +kernel) (Nat.le_refl _) (Nat.le_refl _) (fun K R hK hR => ?_)
          simp only [rw_b32, ↓rx_aload_n0, ↓rx_bipush, ↓rx_getfield, ↓rx_iadd, ↓rx_iaload, ↓rx_iastore, ↓rx_iload, ↓rx_imul, ↓rx_nil, ↓ry_i2, ↓ry_iau, ↓ry_li0s, ↓ry_li0z, ↓ry_lr0s, ↓ry_lr0z, ↓ry_obu, ↓ry_r1, ↓ry_ri, ↓ry_rii, true_and, re_a22, re_a29, ↓re_F22, ↓re_F27, ↓re_F29, ↓re_i22, ↓re_i29, ↓re_ob, b21, r1, k2, rz_set, rz_nol, rz_clr, List.set_cons_zero, List.set_cons_succ, rz_tr, Nat.reduceAdd, Int.reduceAdd, Int.reduceToNat, Int.reduceSub, Int.reduceNeg, Int.cast_ofNat_Int]
          try simp (disch := omega) only [b21, r1, k2, pk_us, pk_un, va_up_self, va_up_ne, nI_add, pk_mul, nI_clamp, vp_inT, nI_ltI, nI_leI, nI_eqI, pk_sub, true_and, and_true]
          refine hK _ _ _ _ ?_
          refine rz_blk' [(.iinc 6 1, 3, 0, 0)] (by decide +kernel) (Nat.le_refl _) (Nat.le_refl _) (fun K R hK hR => ?_)
          simp only [rw_c1, ↓rx_iinc, ↓rx_nil, ↓ry_li0s, ↓ry_li0z, b21, r1, k2, rz_set, rz_nol, rz_clr, List.set_cons_zero, List.set_cons_succ, rz_tr, Nat.reduceAdd, Int.reduceAdd, Int.reduceToNat, Int.reduceSub, Int.reduceNeg, Int.cast_ofNat_Int]
          try simp (disch := omega) only [b21, r1, k2, pk_us, pk_un, va_up_self, va_up_ne, nI_add, pk_mul, nI_clamp, vp_inT, nI_ltI, nI_leI, nI_eqI, pk_sub, true_and, and_true]
          refine hK _ _ _ _ ?_
          refine rz_blk' [(.goto (-40), 3, 0, 0)] (by decide +kernel) (Nat.le_refl _) (Nat.le_refl _) (fun K R hK hR => ?_)
          simp only [↓rx_goto, ↓rx_nil, b21, r1, k2, rz_set, rz_nol, rz_clr, List.set_cons_zero, List.set_cons_succ, rz_tr, Nat.reduceAdd, Int.reduceAdd, Int.reduceToNat, Int.reduceSub, Int.reduceNeg, Int.cast_ofNat_Int]
          try simp (disch := omega) only [b21, r1, k2, pk_us, pk_un, va_up_self, va_up_ne, nI_add, pk_mul, nI_clamp, vp_inT, nI_ltI, nI_leI, nI_eqI, pk_sub, true_and, and_true]
          refine hK _ _ _ _ ?_
          have ih := ih (cx + 1) (by omega)
          rw [← cp_s] at ih
          rw [re_vv]
          exact ih
      have := lp (f2.length) 0 (Nat.zero_add _)
      rw [cp_0, re_ve] at this
      exact this
    refine rz_blk' [(.iconst 0, 1, 0, 0), (.istore 6, 2, 0, 0)] (by decide +kernel) (Nat.le_refl _) (Nat.le_refl _) (fun K R hK hR => ?_)
    simp only [rw_c0, ↓rx_iconst, ↓rx_istore, ↓rx_nil, ↓ry_i1, rz_set, rz_nol, rz_clr, List.set_cons_zero, List.set_cons_succ, rz_tr, Nat.reduceAdd, Int.reduceAdd, Int.reduceToNat, Int.reduceSub, Int.reduceNeg, Int.cast_ofNat_Int]
    try simp (disch := omega) only [pk_us, pk_un, va_up_self, va_up_ne, nI_add, pk_mul, nI_clamp, vp_inT, nI_ltI, nI_leI, nI_eqI, pk_sub, true_and, and_true]
    refine hK _ _ _ _ ?_
    refine c1 A1 e21 ?_
    refine rz_blk' [(.iconst 0, 1, 0, 0), (.istore 6, 2, 0, 0)] (by decide +kernel) (Nat.le_refl _) (Nat.le_refl _) (fun K R hK hR => ?_)
    simp only [rw_c0, ↓rx_iconst, ↓rx_istore, ↓rx_nil, ↓ry_i1, rz_set, rz_nol, rz_clr, List.set_cons_zero, List.set_cons_succ, rz_tr, Nat.reduceAdd, Int.reduceAdd, Int.reduceToNat, Int.reduceSub, Int.reduceNeg, Int.cast_ofNat_Int]
    try simp (disch := omega) only [pk_us, pk_un, va_up_self, va_up_ne, nI_add, pk_mul, nI_clamp, vp_inT, nI_ltI, nI_leI, nI_eqI, pk_sub, true_and, and_true]
    refine hK _ _ _ _ ?_
    refine c2 _ (by rw [va_up_ne _ _ (by decide)]; exact e21) ?_
    generalize hC : va_up A1 28 _ = C
    generalize hD : va_up C 29 _ = D
    have hCf : fa [28, 29] A C := by rw [← hC]; exact ka.u rfl
    have hDf : fa [28, 29] A D := by rw [← hD]; exact hCf.u rfl
    have hD21 := hDf 21 rfl
    have h12 : re_12 (upd (upd I1 26 (nI (n.2.2.2.1.length + f1.length))) 27 (nI (n.2.2.2.2.length + f2.length))) D (n.2.2.2.1 ++ f1) (n.2.2.2.2 ++ f2) := by
      have z1 := re12_app1 (g := cp (A1 28) n.2.2.2.1.length (A1 22) (32 * (6 * g + n.1)) f1.length) k12 (sg_more k3 (by rw [e22]; exact p2)) (by omega) y1.2
      rw [hC] at z1
      have hC29 : C 29 = A1 29 := by rw [← hC, va_up_ne _ _ (by decide)]
      have hC22 : C 22 = A 22 := hCf 22 rfl
      have z2 := re12_app2 (g := cp (C 29) n.2.2.2.2.length (C 22) (32 * (6 * hh + n.2.1)) f2.length) z1 (sg_more (by rw [hC29]; exact k4) (by rw [hC22]; exact r2)) (by omega) y2.2
      rw [hD] at z2
      exact z2
    obtain ⟨j1, j2, j3, j4, j5, j6, j7, j8⟩ := id h12
    rw [List.length_append] at j1 j2
    have hal := c_Mod_alike (w := w) (d := d) (G := G) (a := a) h12
    refine rz_blk' [(.aload_n 0, 1, 0, 0), (.dup, 1, 0, 0), (.getfield 253, 3, 10, 26), (.aload_n 0, 1, 0, 0), (.getfield 68, 3, 10, 21), (.iload 4, 2, 0, 0), (.iaload, 1, 0, 0), (.iadd, 1, 0, 0), (.putfield 253, 3, 10, 26)] (by decide +kernel) (Nat.le_refl _) (Nat.le_refl _) (fun K R hK hR => ?_)
    simp only [List.length_cons, List.length_nil, Nat.reduceLT, rf_10_26, ↓rx_aload_n0, ↓rx_dup, ↓rx_getfield, ↓rx_iadd, ↓rx_iaload, ↓rx_iload, ↓rx_nil, ↓rx_putfield, ↓ry_i2, ↓ry_iau, ↓ry_li0s, ↓ry_li0z, ↓ry_lr0s, ↓ry_lr0z, ↓ry_obu, ↓ry_r1, ↓ry_ri, ↓ry_v1i, ↓ry_v1r, ↓ry_vr, true_and, re_a21, re_len, re_u26, ↓re_F21, ↓re_F26, ↓re_i21, ↓re_ob, hD21, p1, r1, k1, k2, rz_set, rz_nol, rz_clr, List.set_cons_zero, List.set_cons_succ, rz_tr, Nat.reduceAdd, Int.reduceAdd, Int.reduceToNat, Int.reduceSub, Int.reduceNeg, Int.cast_ofNat_Int]
    try simp (disch := omega) only [hD21, p1, r1, k1, k2, pk_us, pk_un, va_up_self, va_up_ne, nI_add, pk_mul, nI_clamp, vp_inT, nI_ltI, nI_leI, nI_eqI, pk_sub, true_and, and_true]
    refine hK _ _ _ _ ?_
    refine rz_blk' [(.aload_n 0, 1, 0, 0), (.dup, 1, 0, 0), (.getfield 256, 3, 10, 27), (.aload_n 0, 1, 0, 0), (.getfield 68, 3, 10, 21), (.iload 5, 2, 0, 0), (.iaload, 1, 0, 0), (.iadd, 1, 0, 0), (.putfield 256, 3, 10, 27)] (by decide +kernel) (Nat.le_refl _) (Nat.le_refl _) (fun K R hK hR => ?_)
    simp only [List.length_cons, List.length_nil, Nat.reduceLT, rf_10_27, ↓rx_aload_n0, ↓rx_dup, ↓rx_getfield, ↓rx_iadd, ↓rx_iaload, ↓rx_iload, ↓rx_nil, ↓rx_putfield, ↓ry_i2, ↓ry_iau, ↓ry_li0s, ↓ry_li0z, ↓ry_lr0s, ↓ry_lr0z, ↓ry_obu, ↓ry_r1, ↓ry_ri, ↓ry_v1i, ↓ry_v1r, ↓ry_vr, true_and, re_a21, re_len, re_u27, ↓re_F21, ↓re_F27, ↓re_i21, ↓re_ob, hD21, p1, r1, k1, k2, rz_set, rz_nol, rz_clr, List.set_cons_zero, List.set_cons_succ, rz_tr, Nat.reduceAdd, Int.reduceAdd, Int.reduceToNat, Int.reduceSub, Int.reduceNeg, Int.cast_ofNat_Int]
    try simp (disch := omega) only [hD21, p1, r1, k1, k2, pk_us, pk_un, va_up_self, va_up_ne, nI_add, pk_mul, nI_clamp, vp_inT, nI_ltI, nI_leI, nI_eqI, pk_sub, true_and, and_true]
    refine hK _ _ _ _ ?_
    refine rz_blk' [(.aload_n 0, 1, 0, 0), (.getfield 253, 3, 10, 26), (.aload_n 0, 1, 0, 0), (.getfield 256, 3, 10, 27), (.if_icmp .ne 14, 3, 0, 0)] (by decide +kernel) (Nat.le_refl _) (Nat.le_refl _) (fun K R hK hR => ?_)
    simp only [↓rx_aload_n0, ↓rx_getfield, ↓rx_if_icmp_ne, ↓rx_nil, ↓ry_i2, ↓ry_lr0s, ↓ry_lr0z, ↓ry_obu, ↓ry_r1, ↓re_F26, ↓re_F27, ↓re_ob, hD21, p1, r1, k1, k2, rz_set, rz_nol, rz_clr, List.set_cons_zero, List.set_cons_succ, rz_tr, Nat.reduceAdd, Int.reduceAdd, Int.reduceToNat, Int.reduceSub, Int.reduceNeg, Int.cast_ofNat_Int]
    try simp (disch := omega) only [hD21, p1, r1, k1, k2, pk_us, pk_un, va_up_self, va_up_ne, nI_add, pk_mul, nI_clamp, vp_inT, nI_ltI, nI_leI, nI_eqI, pk_sub, true_and, and_true]
    refine ⟨fun q5 => hK _ _ _ _ ?_, fun q5 => hK _ _ _ _ ?_⟩
    · -- 197 taken
      refine rz_blk' [(.iconst 1, 1, 0, 0), (.goto 4, 3, 0, 0)] (by decide +kernel) (Nat.le_refl _) (Nat.le_refl _) (fun K R hK hR => ?_)
      simp only [rw_c1, ↓rx_goto, ↓rx_iconst, ↓rx_nil, hD21, p1, r1, k1, k2, rz_set, rz_nol, rz_clr, List.set_cons_zero, List.set_cons_succ, rz_tr, Nat.reduceAdd, Int.reduceAdd, Int.reduceToNat, Int.reduceSub, Int.reduceNeg, Int.cast_ofNat_Int]
      try simp (disch := omega) only [hD21, p1, r1, k1, k2, pk_us, pk_un, va_up_self, va_up_ne, nI_add, pk_mul, nI_clamp, vp_inT, nI_ltI, nI_leI, nI_eqI, pk_sub, true_and, and_true]
      refine hK _ _ _ _ ?_
      refine rz_blk' [(.ireturn, 1, 0, 0)] (by decide +kernel) (Nat.le_refl _) (Nat.le_refl _) (fun K R hK hR => ?_)
      simp only [↓rx_ireturn, ↓rx_nil, hD21, p1, r1, k1, k2, rz_set, rz_nol, rz_clr, List.set_cons_zero, List.set_cons_succ, rz_tr, Nat.reduceAdd, Int.reduceAdd, Int.reduceToNat, Int.reduceSub, Int.reduceNeg, Int.cast_ofNat_Int]
      try simp (disch := omega) only [hD21, p1, r1, k1, k2, pk_us, pk_un, va_up_self, va_up_ne, nI_add, pk_mul, nI_clamp, vp_inT, nI_ltI, nI_leI, nI_eqI, pk_sub, true_and, and_true]
      first
        | (refine hR _ _ rz_nb_1 ?_
           rw [← hQ]
           refine ⟨?_, _, _, rfl, (ki.u rfl).u rfl, hDf⟩
           rw [hea, decide_eq_false (fun q => by
             have := congrArg List.length q
             rw [List.length_append, List.length_append] at this
             omega)]; rfl)
        | (refine hR _ _ rz_nb_1 ?_
           rw [← hQ]
           refine ⟨?_, _, _, rfl, (ki.u rfl).u rfl, hDf⟩
           have := (lcpn_full (u := n.2.2.2.1 ++ f1) (v := n.2.2.2.2 ++ f2) (by rw [List.length_append, List.length_append]; omega)).mp (by rw [List.length_append]; omega)
           rw [hea, decide_eq_false this]; rfl)
        | (refine hR _ _ rz_nb_0 ?_
           rw [← hQ]
           refine ⟨?_, _, _, rfl, (ki.u rfl).u rfl, hDf⟩
           have hlt : ¬ lcpn (n.2.2.2.1 ++ f1) (n.2.2.2.2 ++ f2) < (n.2.2.2.1 ++ f1).length := by rw [List.length_append]; omega
           have : n.2.2.2.1 ++ f1 = n.2.2.2.2 ++ f2 := Classical.byContradiction fun q => hlt ((lcpn_full (by rw [List.length_append, List.length_append]; omega)).mpr q)
           rw [hea, decide_eq_true this]; rfl)
    · -- 197 not taken
      refine rz_blk' [(.aload_n 0, 1, 0, 0)] (by decide +kernel) (Nat.le_refl _) (Nat.le_refl _) (fun K R hK hR => ?_)
      simp only [↓rx_aload_n0, ↓rx_nil, ↓ry_lr0s, ↓ry_lr0z, hD21, p1, r1, k1, k2, rz_set, rz_nol, rz_clr, List.set_cons_zero, List.set_cons_succ, rz_tr, Nat.reduceAdd, Int.reduceAdd, Int.reduceToNat, Int.reduceSub, Int.reduceNeg, Int.cast_ofNat_Int]
      try simp (disch := omega) only [hD21, p1, r1, k1, k2, pk_us, pk_un, va_up_self, va_up_ne, nI_add, pk_mul, nI_clamp, vp_inT, nI_ltI, nI_leI, nI_eqI, pk_sub, true_and, and_true]
      refine hK _ _ _ _ ?_
      refine rz_cV (As := []) (b := a) (S := []) l_Mod_259 (by decide +kernel) rfl re_at0 rfl (Nat.le_of_ble_eq_true rfl) (Nat.le_refl _) (Nat.le_refl _) (hal) (fun r G' hr => ?_)
      obtain ⟨rfl, rfl⟩ := hr
      have hle := (lcpn_le (n.2.2.2.1 ++ f1) (n.2.2.2.2 ++ f2)).1
      rw [List.length_append] at hle
      simp only [Option.toList, List.cons_append, List.nil_append]
      refine rz_blk' [(.aload_n 0, 1, 0, 0), (.getfield 253, 3, 10, 26), (.if_icmp .ge 7, 3, 0, 0)] (by decide +kernel) (Nat.le_refl _) (Nat.le_refl _) (fun K R hK hR => ?_)
      simp only [↓rx_aload_n0, ↓rx_getfield, ↓rx_if_icmp_ge, ↓rx_nil, ↓ry_i2, ↓ry_lr0s, ↓ry_lr0z, ↓ry_obu, ↓ry_r1, ↓re_F26, ↓re_ob, hD21, p1, r1, k1, k2, rz_set, rz_nol, rz_clr, List.set_cons_zero, List.set_cons_succ, rz_tr, Nat.reduceAdd, Int.reduceAdd, Int.reduceToNat, Int.reduceSub, Int.reduceNeg, Int.cast_ofNat_Int]
      try simp (disch := omega) only [hD21, p1, r1, k1, k2, pk_us, pk_un, va_up_self, va_up_ne, nI_add, pk_mul, nI_clamp, vp_inT, nI_ltI, nI_leI, nI_eqI, pk_sub, true_and, and_true]
      refine ⟨fun q6 => hK _ _ _ _ ?_, fun q6 => hK _ _ _ _ ?_⟩
      · -- 208 taken
        refine rz_blk' [(.iconst 0, 1, 0, 0), (.ireturn, 1, 0, 0)] (by decide +kernel) (Nat.le_refl _) (Nat.le_refl _) (fun K R hK hR => ?_)
        simp only [rw_c0, ↓rx_iconst, ↓rx_ireturn, ↓rx_nil, hD21, p1, r1, k1, k2, rz_set, rz_nol, rz_clr, List.set_cons_zero, List.set_cons_succ, rz_tr, Nat.reduceAdd, Int.reduceAdd, Int.reduceToNat, Int.reduceSub, Int.reduceNeg, Int.cast_ofNat_Int]
        try simp (disch := omega) only [hD21, p1, r1, k1, k2, pk_us, pk_un, va_up_self, va_up_ne, nI_add, pk_mul, nI_clamp, vp_inT, nI_ltI, nI_leI, nI_eqI, pk_sub, true_and, and_true]
        first
          | (refine hR _ _ rz_nb_1 ?_
             rw [← hQ]
             refine ⟨?_, _, _, rfl, (ki.u rfl).u rfl, hDf⟩
             rw [hea, decide_eq_false (fun q => by
               have := congrArg List.length q
               rw [List.length_append, List.length_append] at this
               omega)]; rfl)
          | (refine hR _ _ rz_nb_1 ?_
             rw [← hQ]
             refine ⟨?_, _, _, rfl, (ki.u rfl).u rfl, hDf⟩
             have := (lcpn_full (u := n.2.2.2.1 ++ f1) (v := n.2.2.2.2 ++ f2) (by rw [List.length_append, List.length_append]; omega)).mp (by rw [List.length_append]; omega)
             rw [hea, decide_eq_false this]; rfl)
          | (refine hR _ _ rz_nb_0 ?_
             rw [← hQ]
             refine ⟨?_, _, _, rfl, (ki.u rfl).u rfl, hDf⟩
             have hlt : ¬ lcpn (n.2.2.2.1 ++ f1) (n.2.2.2.2 ++ f2) < (n.2.2.2.1 ++ f1).length := by rw [List.length_append]; omega
             have : n.2.2.2.1 ++ f1 = n.2.2.2.2 ++ f2 := Classical.byContradiction fun q => hlt ((lcpn_full (by rw [List.length_append, List.length_append]; omega)).mpr q)
             rw [hea, decide_eq_true this]; rfl)
      · -- 208 not taken
        refine rz_blk' [(.iconst 1, 1, 0, 0), (.goto 4, 3, 0, 0)] (by decide +kernel) (Nat.le_refl _) (Nat.le_refl _) (fun K R hK hR => ?_)
        simp only [rw_c1, ↓rx_goto, ↓rx_iconst, ↓rx_nil, hD21, p1, r1, k1, k2, rz_set, rz_nol, rz_clr, List.set_cons_zero, List.set_cons_succ, rz_tr, Nat.reduceAdd, Int.reduceAdd, Int.reduceToNat, Int.reduceSub, Int.reduceNeg, Int.cast_ofNat_Int]
        try simp (disch := omega) only [hD21, p1, r1, k1, k2, pk_us, pk_un, va_up_self, va_up_ne, nI_add, pk_mul, nI_clamp, vp_inT, nI_ltI, nI_leI, nI_eqI, pk_sub, true_and, and_true]
        refine hK _ _ _ _ ?_
        refine rz_blk' [(.ireturn, 1, 0, 0)] (by decide +kernel) (Nat.le_refl _) (Nat.le_refl _) (fun K R hK hR => ?_)
        simp only [↓rx_ireturn, ↓rx_nil, hD21, p1, r1, k1, k2, rz_set, rz_nol, rz_clr, List.set_cons_zero, List.set_cons_succ, rz_tr, Nat.reduceAdd, Int.reduceAdd, Int.reduceToNat, Int.reduceSub, Int.reduceNeg, Int.cast_ofNat_Int]
        try simp (disch := omega) only [hD21, p1, r1, k1, k2, pk_us, pk_un, va_up_self, va_up_ne, nI_add, pk_mul, nI_clamp, vp_inT, nI_ltI, nI_leI, nI_eqI, pk_sub, true_and, and_true]
        first
          | (refine hR _ _ rz_nb_1 ?_
             rw [← hQ]
             refine ⟨?_, _, _, rfl, (ki.u rfl).u rfl, hDf⟩
             rw [hea, decide_eq_false (fun q => by
               have := congrArg List.length q
               rw [List.length_append, List.length_append] at this
               omega)]; rfl)
          | (refine hR _ _ rz_nb_1 ?_
             rw [← hQ]
             refine ⟨?_, _, _, rfl, (ki.u rfl).u rfl, hDf⟩
             have := (lcpn_full (u := n.2.2.2.1 ++ f1) (v := n.2.2.2.2 ++ f2) (by rw [List.length_append, List.length_append]; omega)).mp (by rw [List.length_append]; omega)
             rw [hea, decide_eq_false this]; rfl)
          | (refine hR _ _ rz_nb_0 ?_
             rw [← hQ]
             refine ⟨?_, _, _, rfl, (ki.u rfl).u rfl, hDf⟩
             have hlt : ¬ lcpn (n.2.2.2.1 ++ f1) (n.2.2.2.2 ++ f2) < (n.2.2.2.1 ++ f1).length := by rw [List.length_append]; omega
             have : n.2.2.2.1 ++ f1 = n.2.2.2.2 ++ f2 := Classical.byContradiction fun q => hlt ((lcpn_full (by rw [List.length_append, List.length_append]; omega)).mpr q)
             rw [hea, decide_eq_true this]; rfl)
  refine rz_enter' [some (.ref a), some (.int (nI c)), some (.int (nI g)), some (.int (nI hh)), none, none, none] (by decide +kernel) rfl rfl (Nat.le_of_ble_eq_true rfl) rfl ?_
  refine rz_blk' [(.bipush 6, 2, 0, 0), (.iload_n 2, 1, 0, 0), (.imul, 1, 0, 0), (.aload_n 0, 1, 0, 0), (.getfield 89, 3, 10, 31), (.iload_n 1, 1, 0, 0), (.iaload, 1, 0, 0), (.iadd, 1, 0, 0), (.istore 4, 2, 0, 0)] (by decide +kernel) (Nat.le_refl _) (Nat.le_refl _) (fun K R hK hR => ?_)
  simp only [rw_b6, ↓rx_aload_n0, ↓rx_bipush, ↓rx_getfield, ↓rx_iadd, ↓rx_iaload, ↓rx_iload_n1, ↓rx_iload_n2, ↓rx_imul, ↓rx_istore, ↓rx_nil, ↓ry_i1, ↓ry_i2, ↓ry_iau, ↓ry_li0s, ↓ry_li0z, ↓ry_lr0s, ↓ry_lr0z, ↓ry_obu, ↓ry_r1, ↓ry_ri, true_and, re_a31, ↓re_F31, ↓re_i31, ↓re_ob, h31, h32, h33, p1, r1, rz_set, rz_nol, rz_clr, List.set_cons_zero, List.set_cons_succ, rz_tr, Nat.reduceAdd, Int.reduceAdd, Int.reduceToNat, Int.reduceSub, Int.reduceNeg, Int.cast_ofNat_Int]
  try simp (disch := omega) only [h31, h32, h33, p1, r1, s1, s2, s2b, hsd, Classical.not_not, pk_us, pk_un, va_up_self, va_up_ne, nI_add, pk_mul, nI_clamp, vp_inT, nI_ltI, nI_leI, nI_eqI, pk_sub, true_and, and_true]
  refine hK _ _ _ _ ?_
  refine rz_blk' [(.bipush 6, 2, 0, 0), (.iload_n 3, 1, 0, 0), (.imul, 1, 0, 0), (.aload_n 0, 1, 0, 0), (.getfield 92, 3, 10, 32), (.iload_n 1, 1, 0, 0), (.iaload, 1, 0, 0), (.iadd, 1, 0, 0), (.istore 5, 2, 0, 0)] (by decide +kernel) (Nat.le_refl _) (Nat.le_refl _) (fun K R hK hR => ?_)
  simp only [rw_b6, ↓rx_aload_n0, ↓rx_bipush, ↓rx_getfield, ↓rx_iadd, ↓rx_iaload, ↓rx_iload_n1, ↓rx_iload_n3, ↓rx_imul, ↓rx_istore, ↓rx_nil, ↓ry_i1, ↓ry_i2, ↓ry_iau, ↓ry_li0s, ↓ry_li0z, ↓ry_lr0s, ↓ry_lr0z, ↓ry_obu, ↓ry_r1, ↓ry_ri, true_and, re_a32, ↓re_F32, ↓re_i32, ↓re_ob, h31, h32, h33, p1, r1, rz_set, rz_nol, rz_clr, List.set_cons_zero, List.set_cons_succ, rz_tr, Nat.reduceAdd, Int.reduceAdd, Int.reduceToNat, Int.reduceSub, Int.reduceNeg, Int.cast_ofNat_Int]
  try simp (disch := omega) only [h31, h32, h33, p1, r1, s1, s2, s2b, hsd, Classical.not_not, pk_us, pk_un, va_up_self, va_up_ne, nI_add, pk_mul, nI_clamp, vp_inT, nI_ltI, nI_leI, nI_eqI, pk_sub, true_and, and_true]
  refine hK _ _ _ _ ?_
  refine rz_blk' [(.aload_n 0, 1, 0, 0), (.getfield 68, 3, 10, 21), (.iload 4, 2, 0, 0), (.iaload, 1, 0, 0), (.ifCond .lt 13, 3, 0, 0)] (by decide +kernel) (Nat.le_refl _) (Nat.le_refl _) (fun K R hK hR => ?_)
  simp only [↓rx_aload_n0, ↓rx_getfield, ↓rx_iaload, ↓rx_ifCond_lt, ↓rx_iload, ↓rx_nil, ↓ry_i1, ↓ry_iau, ↓ry_li0s, ↓ry_li0z, ↓ry_lr0s, ↓ry_lr0z, ↓ry_obu, ↓ry_r1, ↓ry_ri, true_and, re_a21, ↓re_F21, ↓re_i21, ↓re_ob, h31, h32, h33, p1, r1, rz_set, rz_nol, rz_clr, List.set_cons_zero, List.set_cons_succ, rz_tr, Nat.reduceAdd, Int.reduceAdd, Int.reduceToNat, Int.reduceSub, Int.reduceNeg, Int.cast_ofNat_Int]
  try simp (disch := omega) only [h31, h32, h33, p1, r1, s1, s2, s2b, hsd, Classical.not_not, pk_us, pk_un, va_up_self, va_up_ne, nI_add, pk_mul, nI_clamp, vp_inT, nI_ltI, nI_leI, nI_eqI, pk_sub, true_and, and_true]
  refine ⟨fun q7 => hK _ _ _ _ ?_, fun q7 => hK _ _ _ _ ?_⟩
  · -- 33 taken
    refine rz_blk' [(.iconst 0, 1, 0, 0), (.ireturn, 1, 0, 0)] (by decide +kernel) (Nat.le_refl _) (Nat.le_refl _) (fun K R hK hR => ?_)
    simp only [rw_c0, ↓rx_iconst, ↓rx_ireturn, ↓rx_nil, h31, h32, h33, p1, r1, rz_set, rz_nol, rz_clr, List.set_cons_zero, List.set_cons_succ, rz_tr, Nat.reduceAdd, Int.reduceAdd, Int.reduceToNat, Int.reduceSub, Int.reduceNeg, Int.cast_ofNat_Int]
    try simp (disch := omega) only [h31, h32, h33, p1, r1, s1, s2, s2b, hsd, Classical.not_not, pk_us, pk_un, va_up_self, va_up_ne, nI_add, pk_mul, nI_clamp, vp_inT, nI_ltI, nI_leI, nI_eqI, pk_sub, true_and, and_true]
    first
      | (refine hR _ _ rz_nb_0 ?_
         rw [← hQ]
         refine ⟨?_, _, _, rfl, fi.rf, fa.rf⟩
         simp only [xn_ea]
         rw [(by assumption : T1.2.2.1 n.1 = none)]; rfl)
      | (refine hR _ _ rz_nb_0 ?_
         rw [← hQ]
         refine ⟨?_, _, _, rfl, fi.rf, fa.rf⟩
         simp only [xn_ea]
         rw [(by assumption : T2.2.2.1 n.2.1 = none)]; simp; rfl)
      | (refine hR _ _ rz_nb_1 ?_
         rw [← hQ]
         refine ⟨?_, _, _, rfl, fi.rf, fa.rf⟩
         obtain ⟨f1, hf1⟩ := Option.ne_none_iff_exists'.mp (by assumption : ¬ T1.2.2.1 n.1 = none)
         obtain ⟨f2, hf2⟩ := Option.ne_none_iff_exists'.mp (by assumption : ¬ T2.2.2.1 n.2.1 = none)
         simp only [xn_ea, hf1, hf2, q7]; rfl)
  · -- 33 not taken
    refine rz_blk' [(.aload_n 0, 1, 0, 0), (.getfield 68, 3, 10, 21), (.iload 5, 2, 0, 0), (.iaload, 1, 0, 0), (.ifCond .ge 5, 3, 0, 0)] (by decide +kernel) (Nat.le_refl _) (Nat.le_refl _) (fun K R hK hR => ?_)
    simp only [↓rx_aload_n0, ↓rx_getfield, ↓rx_iaload, ↓rx_ifCond_ge, ↓rx_iload, ↓rx_nil, ↓ry_i1, ↓ry_iau, ↓ry_li0s, ↓ry_li0z, ↓ry_lr0s, ↓ry_lr0z, ↓ry_obu, ↓ry_r1, ↓ry_ri, true_and, re_a21, ↓re_F21, ↓re_i21, ↓re_ob, h31, h32, h33, p1, r1, rz_set, rz_nol, rz_clr, List.set_cons_zero, List.set_cons_succ, rz_tr, Nat.reduceAdd, Int.reduceAdd, Int.reduceToNat, Int.reduceSub, Int.reduceNeg, Int.cast_ofNat_Int]
    try simp (disch := omega) only [h31, h32, h33, p1, r1, s1, s2, s2b, hsd, Classical.not_not, pk_us, pk_un, va_up_self, va_up_ne, nI_add, pk_mul, nI_clamp, vp_inT, nI_ltI, nI_leI, nI_eqI, pk_sub, true_and, and_true]
    refine ⟨fun q8 => hK _ _ _ _ ?_, fun q8 => hK _ _ _ _ ?_⟩
    · -- 43 taken
      refine rz_blk' [(.aload_n 0, 1, 0, 0), (.getfield 95, 3, 10, 33), (.iload_n 1, 1, 0, 0), (.iaload, 1, 0, 0), (.iconst 2, 1, 0, 0), (.if_icmp .ne 5, 3, 0, 0)] (by decide +kernel) (Nat.le_refl _) (Nat.le_refl _) (fun K R hK hR => ?_)
      simp only [rw_c2, ↓rx_aload_n0, ↓rx_getfield, ↓rx_iaload, ↓rx_iconst, ↓rx_if_icmp_ne, ↓rx_iload_n1, ↓rx_nil, ↓ry_i2, ↓ry_iau, ↓ry_li0s, ↓ry_li0z, ↓ry_lr0s, ↓ry_lr0z, ↓ry_obu, ↓ry_r1, ↓ry_ri, true_and, re_a33, ↓re_F33, ↓re_i33, ↓re_ob, h31, h32, h33, p1, r1, rz_set, rz_nol, rz_clr, List.set_cons_zero, List.set_cons_succ, rz_tr, Nat.reduceAdd, Int.reduceAdd, Int.reduceToNat, Int.reduceSub, Int.reduceNeg, Int.cast_ofNat_Int]
      try simp (disch := omega) only [h31, h32, h33, p1, r1, s1, s2, s2b, hsd, Classical.not_not, pk_us, pk_un, va_up_self, va_up_ne, nI_add, pk_mul, nI_clamp, vp_inT, nI_ltI, nI_leI, nI_eqI, pk_sub, true_and, and_true]
      refine ⟨fun q9 => hK _ _ _ _ ?_, fun q9 => hK _ _ _ _ ?_⟩
      · -- 55 taken
        refine rz_blk' [(.aload_n 0, 1, 0, 0), (.iload_n 1, 1, 0, 0)] (by decide +kernel) (Nat.le_refl _) (Nat.le_refl _) (fun K R hK hR => ?_)
        simp only [↓rx_aload_n0, ↓rx_iload_n1, ↓rx_nil, ↓ry_li0s, ↓ry_li0z, ↓ry_lr0s, ↓ry_lr0z, h31, h32, h33, p1, r1, rz_set, rz_nol, rz_clr, List.set_cons_zero, List.set_cons_succ, rz_tr, Nat.reduceAdd, Int.reduceAdd, Int.reduceToNat, Int.reduceSub, Int.reduceNeg, Int.cast_ofNat_Int]
        try simp (disch := omega) only [h31, h32, h33, p1, r1, s1, s2, s2b, hsd, Classical.not_not, pk_us, pk_un, va_up_self, va_up_ne, nI_add, pk_mul, nI_clamp, vp_inT, nI_ltI, nI_leI, nI_eqI, pk_sub, true_and, and_true]
        refine hK _ _ _ _ ?_
        refine rz_cV (As := [.int (nI c)]) (b := a) (S := []) l_Mod_266 (by decide +kernel) rfl re_at0 rfl (Nat.le_of_ble_eq_true rfl) (Nat.le_refl _) (Nat.le_refl _) (hcl) (fun r G' hr => ?_)
        obtain ⟨rfl, I1, A1, rfl, ki, ka, k12⟩ := hr
        simp only [Option.toList, List.nil_append]
        obtain ⟨f1, hf1⟩ := Option.ne_none_iff_exists'.mp (by assumption : ¬ T1.2.2.1 n.1 = none)
        obtain ⟨f2, hf2⟩ := Option.ne_none_iff_exists'.mp (by assumption : ¬ T2.2.2.1 n.2.1 = none)
        exact hgo f1 f2 hf1 hf2 (by simpa using q9) I1 A1 ki ka k12
      · -- 55 not taken
        refine rz_blk' [(.iconst 1, 1, 0, 0), (.ireturn, 1, 0, 0)] (by decide +kernel) (Nat.le_refl _) (Nat.le_refl _) (fun K R hK hR => ?_)
        simp only [rw_c1, ↓rx_iconst, ↓rx_ireturn, ↓rx_nil, h31, h32, h33, p1, r1, rz_set, rz_nol, rz_clr, List.set_cons_zero, List.set_cons_succ, rz_tr, Nat.reduceAdd, Int.reduceAdd, Int.reduceToNat, Int.reduceSub, Int.reduceNeg, Int.cast_ofNat_Int]
        try simp (disch := omega) only [h31, h32, h33, p1, r1, s1, s2, s2b, hsd, Classical.not_not, pk_us, pk_un, va_up_self, va_up_ne, nI_add, pk_mul, nI_clamp, vp_inT, nI_ltI, nI_leI, nI_eqI, pk_sub, true_and, and_true]
        first
          | (refine hR _ _ rz_nb_0 ?_
             rw [← hQ]
             refine ⟨?_, _, _, rfl, fi.rf, fa.rf⟩
             simp only [xn_ea]
             rw [(by assumption : T1.2.2.1 n.1 = none)]; rfl)
          | (refine hR _ _ rz_nb_0 ?_
             rw [← hQ]
             refine ⟨?_, _, _, rfl, fi.rf, fa.rf⟩
             simp only [xn_ea]
             rw [(by assumption : T2.2.2.1 n.2.1 = none)]; simp; rfl)
          | (refine hR _ _ rz_nb_1 ?_
             rw [← hQ]
             refine ⟨?_, _, _, rfl, fi.rf, fa.rf⟩
             obtain ⟨f1, hf1⟩ := Option.ne_none_iff_exists'.mp (by assumption : ¬ T1.2.2.1 n.1 = none)
             obtain ⟨f2, hf2⟩ := Option.ne_none_iff_exists'.mp (by assumption : ¬ T2.2.2.1 n.2.1 = none)
             simp only [xn_ea, hf1, hf2, q9]; rfl)
    · -- 43 not taken
      refine rz_blk' [(.iconst 0, 1, 0, 0), (.ireturn, 1, 0, 0)] (by decide +kernel) (Nat.le_refl _) (Nat.le_refl _) (fun K R hK hR => ?_)
      simp only [rw_c0, ↓rx_iconst, ↓rx_ireturn, ↓rx_nil, h31, h32, h33, p1, r1, rz_set, rz_nol, rz_clr, List.set_cons_zero, List.set_cons_succ, rz_tr, Nat.reduceAdd, Int.reduceAdd, Int.reduceToNat, Int.reduceSub, Int.reduceNeg, Int.cast_ofNat_Int]
      try simp (disch := omega) only [h31, h32, h33, p1, r1, s1, s2, s2b, hsd, Classical.not_not, pk_us, pk_un, va_up_self, va_up_ne, nI_add, pk_mul, nI_clamp, vp_inT, nI_ltI, nI_leI, nI_eqI, pk_sub, true_and, and_true]
      first
        | (refine hR _ _ rz_nb_0 ?_
           rw [← hQ]
           refine ⟨?_, _, _, rfl, fi.rf, fa.rf⟩
           simp only [xn_ea]
           rw [(by assumption : T1.2.2.1 n.1 = none)]; rfl)
        | (refine hR _ _ rz_nb_0 ?_
           rw [← hQ]
           refine ⟨?_, _, _, rfl, fi.rf, fa.rf⟩
           simp only [xn_ea]
           rw [(by assumption : T2.2.2.1 n.2.1 = none)]; simp; rfl)
        | (refine hR _ _ rz_nb_1 ?_
           rw [← hQ]
           refine ⟨?_, _, _, rfl, fi.rf, fa.rf⟩
           obtain ⟨f1, hf1⟩ := Option.ne_none_iff_exists'.mp (by assumption : ¬ T1.2.2.1 n.1 = none)
           obtain ⟨f2, hf2⟩ := Option.ne_none_iff_exists'.mp (by assumption : ¬ T2.2.2.1 n.2.1 = none)
           simp only [xn_ea, hf1, hf2, q8]; rfl)
