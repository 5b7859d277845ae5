/-! the reference: goOn, newWord, beginPairs -/
theorem tw_m {T : mv_T} {b b' : Nat} (h : tw T b) (hb : b ≤ b') : tw T b' :=
  ⟨h.1, h.2.1, fun e he => ⟨(h.2.2.1 e he).1, (h.2.2.1 e he).2.1, (h.2.2.1 e he).2.2.1, Nat.le_trans (h.2.2.1 e he).2.2.2.1 hb, (h.2.2.1 e he).2.2.2.2⟩, h.2.2.2.1, fun q xs hx => ⟨Nat.le_trans (h.2.2.2.2.1 q xs hx).1 hb, (h.2.2.2.2.1 q xs hx).2⟩, Nat.le_trans h.2.2.2.2.2.1 hb, h.2.2.2.2.2.2⟩
abbrev xe_T := Nat × Nat × Nat × List Nat
def xf_go (n : ps_nd) (e f : xe_T) : ps_nd := xf_mk e.2.2.1 f.2.2.1 n.2.2.1 (n.2.2.2.1 ++ e.2.2.2) (n.2.2.2.2 ++ f.2.2.2)
def xg_1 (c : Nat → Bool) (n : ps_nd) (x o : Nat) (e : xe_T) (N : List xn_T) (f : xe_T) : List xn_T := if e.1 = n.1 ∧ f.1 = n.2.1 ∧ e.2.1 = x ∧ f.2.1 = x then xf_add c N (xf_go n e f) o else N
def xg_2 (c : Nat → Bool) (n : ps_nd) (x o : Nat) (fs : List xe_T) (N : List xn_T) (e : xe_T) : List xn_T := fs.foldl (xg_1 c n x o e) N
def xg_3 (c : Nat → Bool) (n : ps_nd) (x o : Nat) (es fs : List xe_T) (N : List xn_T) : List xn_T := es.foldl (xg_2 c n x o fs) N
theorem xf_add_get {c : Nat → Bool} {N : List xn_T} {n : ps_nd} {o i : Nat} {y : xn_T} (h : N[i]? = some y) : (xf_add c N n o)[i]? = some y := by
  unfold xf_add; split
  · exact h
  · rw [List.getElem?_append_left (List.getElem?_eq_some_iff.mp h).1]; exact h
theorem xn_keep {B0 b0 : Nat} {I I' : Nat → Int32} {A A' : Nat → Nat → Int32} {N : List xn_T} {K : List Nat} (h : xn_ns B0 b0 I A N) (hI : I' 30 = I 30) (hA : fa K A A') (hK : ([31, 32, 33, 34, 35, 36].all (fun k => !K.contains k)) = true) : xn_ns B0 b0 I' A' N := by
  have h0 : ∀ k, k ∈ [31, 32, 33, 34, 35, 36] → A' k = A k := fun k hk => hA k (by simpa using (List.all_eq_true.mp hK) k hk)
  unfold xn_ns at *
  rw [hI, h0 31 (by decide), h0 32 (by decide), h0 33 (by decide), h0 34 (by decide), h0 35 (by decide), h0 36 (by decide)]
  exact h
theorem xk_keep {A A' : Nat → Nat → Int32} {N : List xn_T} {K : List Nat} (h : xk_is A N) (hA : fa K A A') (hK : K.contains 37 = false) : xk_is A' N := by
  unfold xk_is at *; rw [hA 37 hK]; exact h
/-- the words by their numbers -/
def xw_is (I : Nat → Int32) (A : Nat → Nat → Int32) (W : List (List Nat)) : Prop := I 38 = nI W.length ∧ W.length ≤ 4100 ∧ W[0]? = some [] ∧ ∀ k, 0 < k → k < W.length → ∃ b x u, b < k ∧ x < 3 ∧ A 39 k = nI b ∧ A 40 k = nI x ∧ W[b]? = some u ∧ W[k]? = some (u ++ [x])
theorem xw_keep {I I' : Nat → Int32} {A A' : Nat → Nat → Int32} {W : List (List Nat)} (h : xw_is I A W) (hI : I' 38 = I 38) (h1 : A' 39 = A 39) (h2 : A' 40 = A 40) : xw_is I' A' W := by
  unfold xw_is at *; rw [hI, h1, h2]; exact h
theorem xw_add {I I' : Nat → Int32} {A A' : Nat → Nat → Int32} {W : List (List Nat)} {b x : Nat} {u : List Nat} (h : xw_is I A W) (hl : W.length < 4100) (hb : W[b]? = some u) (hx : x < 3) (hI : I' 38 = nI (W.length + 1)) (h1 : A' 39 = upd (A 39) W.length (nI b)) (h2 : A' 40 = upd (A 40) W.length (nI x)) : xw_is I' A' (W ++ [u ++ [x]]) := by
  obtain ⟨a1, a2, a3, a4⟩ := h
  have hbl := (List.getElem?_eq_some_iff.mp hb).1
  refine ⟨by rw [hI]; simp, by simp; omega, by rw [List.getElem?_append_left (by omega)]; exact a3, fun k k0 kl => ?_⟩
  rw [h1, h2]
  by_cases c : k < W.length
  · obtain ⟨b', x', u', y1, y2, y3, y4, y5, y6⟩ := a4 k k0 c
    exact ⟨b', x', u', y1, y2, by rw [pk_un (by omega)]; exact y3, by rw [pk_un (by omega)]; exact y4, by rw [List.getElem?_append_left (by omega)]; exact y5, by rw [List.getElem?_append_left c]; exact y6⟩
  · have e : k = W.length := by simp at kl; omega
    subst e
    exact ⟨b, x, u, hbl, hx, by rw [pk_us], by rw [pk_us], by rw [List.getElem?_append_left hbl]; exact hb, by rw [List.getElem?_append_right (Nat.le_refl _)]; simp⟩
set_option maxRecDepth 100000 in
set_option maxHeartbeats 4000000 in
theorem c_Mod_goOn {w : rz_w} {d : Nat} {G : rz_G} {a : Nat} {I : Nat → Int32} {A : Nat → Nat → Int32} {T1 T2 : mv_T} {g hh k x o B0 b0 : Nat} {N : List xn_T} {c : Nat → Bool} {n : ps_nd} {o0 : Nat} (hg : g < 2) (hh2 : hh < 2) (t1 : re_t A g T1) (t2 : re_t A hh T2) (w1 : tw T1 b0) (w2 : tw T2 b0) (hb0 : b0 ≤ 32) (hN : xn_ns B0 b0 I A N) (hk : xk_is A N) (hc : ∀ i, i < 36 → A 25 i = rz_b (c i)) (hnk : N[k]? = some (n, o0)) (hx : x < 3) (ho : o < 4100) (hB : B0 + b0 * 72 ≤ 2000) : rz_C w (d + 2) 0 0 y_Mod_goOn m_Mod_goOn [.ref a, .int (nI k), .int (nI x), .int (nI g), .int (nI hh), .int (nI o)] (re_put G a I A) (fun (r : Option Value) (G' : rz_G) => r = none ∧ ∃ I' A', G' = re_put G a I' A' ∧ fi [26, 27, 30] I I' ∧ fa [28, 29, 31, 32, 33, 34, 35, 36, 37] A A' ∧ xn_ns B0 b0 I' A' (xg_3 c n x o T1.2.1 T2.2.1 N) ∧ xk_is A' (xg_3 c n x o T1.2.1 T2.2.1 N)) := by
  generalize hQ : (fun (r : Option Value) (G' : rz_G) => r = none ∧ ∃ I' A', G' = re_put G a I' A' ∧ fi [26, 27, 30] I I' ∧ fa [28, 29, 31, 32, 33, 34, 35, 36, 37] A A' ∧ xn_ns B0 b0 I' A' (xg_3 c n x o T1.2.1 T2.2.1 N) ∧ xk_is A' (xg_3 c n x o T1.2.1 T2.2.1 N)) = Q
  have w1' := tw_m w1 hb0
  have w2' := tw_m w2 hb0
  have el : ∀ (j e : Nat) (N1 : List xn_T) (I1 : Nat → Int32) (A1 : Nat → Nat → Int32) (z7 : Option Value), e + j = T1.2.1.length → N1 = (T1.2.1.take e).foldl (xg_2 c n x o T2.2.1) N → fi [26, 27, 30] I I1 → fa [28, 29, 31, 32, 33, 34, 35, 36, 37] A A1 → xn_ns B0 b0 I1 A1 N1 → xk_is A1 N1 → N1[k]? = some (n, o0) → rz_T w (d + 2) 0 0 m_Mod_goOn 0 0 6 [some (.ref a), some (.int (nI k)), some (.int (nI x)), some (.int (nI g)), some (.int (nI hh)), some (.int (nI o)), some (.int (nI (24 * g + e))), z7] [] (re_put G a I1 A1) Q := by
    intro j
    induction j with
    | zero =>
      intro e N1 I1 A1 z7 hej hNf ki ka kn kk kp
      obtain ⟨r1, r2, -⟩ := re_t_fa t1 ka rfl
      have hl := w1.2.1
      have he : e = T1.2.1.length := by omega
      rw [he, List.take_length] at hNf
      have hNf2 : (xg_3 c n x o T1.2.1 T2.2.1 N) = N1 := hNf.symm
      refine rz_blk' [(.iload 6, 2, 0, 0), (.bipush 24, 2, 0, 0), (.iload_n 3, 1, 0, 0), (.imul, 1, 0, 0), (.aload_n 0, 1, 0, 0), (.getfield 50, 3, 10, 15), (.iload_n 3, 1, 0, 0), (.iaload, 1, 0, 0), (.iadd, 1, 0, 0), (.if_icmp .ge 166, 3, 0, 0)] (by decide +kernel) (Nat.le_refl _) (Nat.le_refl _) (fun K R hK hR => ?_)
      simp only [rw_b24, ↓rx_aload_n0, ↓rx_bipush, ↓rx_getfield, ↓rx_iadd, ↓rx_iaload, ↓rx_if_icmp_ge, ↓rx_iload, ↓rx_iload_n3, ↓rx_imul, ↓rx_nil, ↓ry_i2, ↓ry_iau, ↓ry_li0s, ↓ry_li0z, ↓ry_lr0s, ↓ry_lr0z, ↓ry_obu, ↓ry_r1, ↓ry_ri, true_and, re_a15, ↓re_F15, ↓re_i15, ↓re_ob, r2, rz_set, rz_nol, rz_clr, List.set_cons_zero, List.set_cons_succ, rz_tr, Nat.reduceAdd, Int.reduceAdd, Int.reduceToNat, Int.reduceSub, Int.reduceNeg, Int.cast_ofNat_Int]
      try simp (disch := omega) only [r2, pk_us, pk_un, va_up_self, va_up_ne, nI_add, pk_mul, nI_clamp, vp_inT, nI_ltI, nI_leI, nI_eqI, pk_sub, true_and, and_true]
      refine ⟨fun q1 => hK _ _ _ _ ?_, fun q1 => by omega⟩
      refine rz_blk' [(.return_, 1, 0, 0)] (by decide +kernel) (Nat.le_refl _) (Nat.le_refl _) (fun K R hK hR => ?_)
      simp only [↓rx_nil, ↓rx_return_, r2, rz_set, rz_nol, rz_clr, List.set_cons_zero, List.set_cons_succ, rz_tr, Nat.reduceAdd, Int.reduceAdd, Int.reduceToNat, Int.reduceSub, Int.reduceNeg, Int.cast_ofNat_Int]
      try simp (disch := omega) only [r2, pk_us, pk_un, va_up_self, va_up_ne, nI_add, pk_mul, nI_clamp, vp_inT, nI_ltI, nI_leI, nI_eqI, pk_sub, true_and, and_true]
      refine hR _ _ (rz_nb_i (by decide)) ?_
      rw [← hQ, hNf2]
      exact ⟨rfl, _, _, rfl, ki, ka, kn, kk⟩
    | succ j ihe =>
      intro e N0 I0 A0 z7 hej hNf0 ki0 ka0 kn0 kk0 kp0
      have heT : e < T1.2.1.length := by omega
      have hl := w1.2.1
      have hl2 := w2.2.1
      have fl : ∀ (j f : Nat) (N1 : List xn_T) (I1 : Nat → Int32) (A1 : Nat → Nat → Int32), f + j = T2.2.1.length → N1 = (T2.2.1.take f).foldl (xg_1 c n x o T1.2.1[e]) N0 → fi [26, 27, 30] I I1 → fa [28, 29, 31, 32, 33, 34, 35, 36, 37] A A1 → xn_ns B0 b0 I1 A1 N1 → xk_is A1 N1 → N1[k]? = some (n, o0) → rz_T w (d + 2) 0 0 m_Mod_goOn 0 0 29 [some (.ref a), some (.int (nI k)), some (.int (nI x)), some (.int (nI g)), some (.int (nI hh)), some (.int (nI o)), some (.int (nI (24 * g + e))), some (.int (nI (24 * hh + f)))] [] (re_put G a I1 A1) Q := by
        intro j
        induction j with
        | zero =>
          intro f N1 I1 A1 hfj hNf ki ka kn kk kp
          obtain ⟨r1, r2, -⟩ := re_t_fa t2 ka rfl
          have he : f = T2.2.1.length := by omega
          rw [he, List.take_length] at hNf
          have hN2 : xg_2 c n x o T2.2.1 N0 T1.2.1[e] = N1 := hNf.symm
          refine rz_blk' [(.iload 7, 2, 0, 0), (.bipush 24, 2, 0, 0), (.iload 4, 2, 0, 0), (.imul, 1, 0, 0), (.aload_n 0, 1, 0, 0), (.getfield 50, 3, 10, 15), (.iload 4, 2, 0, 0), (.iaload, 1, 0, 0), (.iadd, 1, 0, 0), (.if_icmp .ge 135, 3, 0, 0)] (by decide +kernel) (Nat.le_refl _) (Nat.le_refl _) (fun K R hK hR => ?_)
          simp only [rw_b24, ↓rx_aload_n0, ↓rx_bipush, ↓rx_getfield, ↓rx_iadd, ↓rx_iaload, ↓rx_if_icmp_ge, ↓rx_iload, ↓rx_imul, ↓rx_nil, ↓ry_i2, ↓ry_iau, ↓ry_li0s, ↓ry_li0z, ↓ry_lr0s, ↓ry_lr0z, ↓ry_obu, ↓ry_r1, ↓ry_ri, true_and, re_a15, ↓re_F15, ↓re_i15, ↓re_ob, r2, rz_set, rz_nol, rz_clr, List.set_cons_zero, List.set_cons_succ, rz_tr, Nat.reduceAdd, Int.reduceAdd, Int.reduceToNat, Int.reduceSub, Int.reduceNeg, Int.cast_ofNat_Int]
          try simp (disch := omega) only [r2, pk_us, pk_un, va_up_self, va_up_ne, nI_add, pk_mul, nI_clamp, vp_inT, nI_ltI, nI_leI, nI_eqI, pk_sub, true_and, and_true]
          refine ⟨fun q2 => hK _ _ _ _ ?_, fun q2 => by omega⟩
          refine rz_blk' [(.iinc 6 1, 3, 0, 0)] (by decide +kernel) (Nat.le_refl _) (Nat.le_refl _) (fun K R hK hR => ?_)
          simp only [rw_c1, ↓rx_iinc, ↓rx_nil, ↓ry_li0s, ↓ry_li0z, r2, rz_set, rz_nol, rz_clr, List.set_cons_zero, List.set_cons_succ, rz_tr, Nat.reduceAdd, Int.reduceAdd, Int.reduceToNat, Int.reduceSub, Int.reduceNeg, Int.cast_ofNat_Int]
          try simp (disch := omega) only [r2, pk_us, pk_un, va_up_self, va_up_ne, nI_add, pk_mul, nI_clamp, vp_inT, nI_ltI, nI_leI, nI_eqI, pk_sub, true_and, and_true]
          refine hK _ _ _ _ ?_
          refine rz_blk' [(.goto (-176), 3, 0, 0)] (by decide +kernel) (Nat.le_refl _) (Nat.le_refl _) (fun K R hK hR => ?_)
          simp only [↓rx_goto, ↓rx_nil, r2, rz_set, rz_nol, rz_clr, List.set_cons_zero, List.set_cons_succ, rz_tr, Nat.reduceAdd, Int.reduceAdd, Int.reduceToNat, Int.reduceSub, Int.reduceNeg, Int.cast_ofNat_Int]
          try simp (disch := omega) only [r2, pk_us, pk_un, va_up_self, va_up_ne, nI_add, pk_mul, nI_clamp, vp_inT, nI_ltI, nI_leI, nI_eqI, pk_sub, true_and, and_true]
          refine hK _ _ _ _ ?_
          refine ihe (e + 1) N1 I1 A1 _ (by omega) ?_ ki ka kn kk kp
          rw [foldl_take _ _ _ heT, ← hNf0, hN2]
        | succ j ihf =>
          intro f N1 I1 A1 hfj hNf ki ka kn kk kp
          have t1' := re_t_fa t1 ka rfl
          have t2' := re_t_fa t2 ka rfl
          obtain ⟨-, -, u3, -⟩ := id t1'
          obtain ⟨-, v2, v3, -⟩ := id t2'
          have hfT : f < T2.2.1.length := by omega
          obtain ⟨a1, a2, a3, a4, a5⟩ := u3 e heT
          obtain ⟨b1, b2, b3, b4, b5⟩ := v3 f hfT
          obtain ⟨x1, x2, x3, x4, x5⟩ := tw_e w1 heT
          obtain ⟨y1, y2, y3, y4, y5⟩ := tw_e w2 hfT
          obtain ⟨m1, m2, m3⟩ := id kn
          obtain ⟨kl, ke⟩ := List.getElem?_eq_some_iff.mp kp
          obtain ⟨p1, p2, p3, p4, p5, p6, p7, p8, p9⟩ := m3 k kl
          rw [ke] at p1 p2 p3 p4 p5 p6 p7 p8 p9
          have q1 : n.1 < 6 := p7.1
          have q2 : n.2.1 < 6 := p7.2.1
          have hbk : b0 * (k + 1) ≤ b0 * N1.length := Nat.mul_le_mul_left _ kl
          have hbk2 : b0 * N1.length ≤ b0 * 72 := Nat.mul_le_mul_left _ m2
          have hbk3 : b0 * (k + 1) = b0 * k + b0 := by rw [Nat.mul_add, Nat.mul_one]
          have p8 : (xn_rs n).length ≤ B0 + b0 * k := p8
          have hul : n.2.2.2.1.length ≤ B0 + b0 * k ∧ n.2.2.2.2.length ≤ B0 + b0 * k := by
            rcases xn_rs_le p7 with ⟨e1, e2, e3, e4, e5⟩ | ⟨e3, e4, e5, e6⟩ | ⟨e3, e4, e5, e6⟩
            · rw [e1, e2]; simp
            · rw [e6, ← e5]; exact ⟨p8, by simp⟩
            · rw [e6, ← e5]; exact ⟨by simp, p8⟩
          have hstep : (T2.2.1.take (f + 1)).foldl (xg_1 c n x o T1.2.1[e]) N0 = xg_1 c n x o T1.2.1[e] N1 T2.2.1[f] := by rw [foldl_take _ _ _ hfT, hNf]
          have hsd : (nI (xn_sd n) = nI 2) = (n.2.2.1 = true) := by
            rw [nI_eqI (by unfold xn_sd; split <;> (try split) <;> omega) (by decide)]
            unfold xn_sd
            cases n.2.2.1 with
            | true => simp
            | false => simp; split <;> omega
          have hcl := c_Mod_loadRest (w := w) (d := d + 1) (G := G) (a := a) (I := I1) (A := A1) (n := n) (by omega) p3 p4 p5 p7 (by show (xn_rs n).length ≤ 2100; omega)
          have hfo : ∀ (I3 : Nat → Int32) (A3 : Nat → Nat → Int32) (z : Int32), T1.2.1[e].1 = n.1 → T2.2.1[f].1 = n.2.1 → T1.2.1[e].2.1 = x → T2.2.1[f].2.1 = x → fi [26, 27] I1 I3 → fa [28, 29] A1 A3 → re_12 I3 A3 (n.2.2.2.1 ++ T1.2.1[e].2.2.2) (n.2.2.2.2 ++ T2.2.1[f].2.2.2) → z = rz_b n.2.2.1 → rz_T w (d + 2) 0 0 m_Mod_goOn 0 0 170 [some (.ref a), some (.int (nI k)), some (.int (nI x)), some (.int (nI g)), some (.int (nI hh)), some (.int (nI o)), some (.int (nI (24 * g + e))), some (.int (nI (24 * hh + f)))] [.int (nI o), .int z, .int (nI T2.2.1[f].2.2.1), .int (nI T1.2.1[e].2.2.1), .ref a] (re_put G a I3 A3) Q := by
            rintro I3 A3 z s1 s2 s3 s4 i3 a3' h12 rfl
            have hfl := c_Mod_follow (w := w) (d := d) (G := G) (a := a) (N := N1) (c := c) (p := T1.2.1[e].2.2.1) (q := T2.2.1[f].2.2.1) (o := o) (b := n.2.2.1) (B0 := B0) (b0 := b0) h12 (xn_keep kn (i3 30 rfl) a3' rfl) (xk_keep kk a3' rfl) (fun i hi => by rw [a3' 25 rfl, ka 25 rfl]; exact hc i hi) x3 y3 ho (fun y hy => by
              rcases List.mem_append.mp hy with h | h
              · exact p7.2.2.2.2.1 y h
              · exact x5 y h) (fun y hy => by
              rcases List.mem_append.mp hy with h | h
              · exact p7.2.2.2.2.2 y h
              · exact y5 y h) (by rw [List.length_append]; omega) (by rw [List.length_append]; omega) hB
            refine rz_cV (As := [.int (nI T1.2.1[e].2.2.1), .int (nI T2.2.1[f].2.2.1), .int (rz_b n.2.2.1), .int (nI o)]) (b := a) (S := []) l_Mod_279 (by decide +kernel) rfl re_at0 rfl (Nat.le_of_ble_eq_true rfl) (Nat.le_refl _) (Nat.le_refl _) (hfl) (fun r G' hr => ?_)
            obtain ⟨rfl, I4, A4, rfl, f1, f2, f3, f4⟩ := hr
            simp only [Option.toList, List.nil_append]
            refine rz_blk' [(.iinc 7 1, 3, 0, 0)] (by decide +kernel) (Nat.le_refl _) (Nat.le_refl _) (fun K R hK hR => ?_)
            simp only [rw_c1, ↓rx_iinc, ↓rx_nil, ↓ry_li0s, ↓ry_li0z, rz_set, rz_nol, rz_clr, List.set_cons_zero, List.set_cons_succ, rz_tr, Nat.reduceAdd, Int.reduceAdd, Int.reduceToNat, Int.reduceSub, Int.reduceNeg, Int.cast_ofNat_Int]
            try simp (disch := omega) only [pk_us, pk_un, va_up_self, va_up_ne, nI_add, pk_mul, nI_clamp, vp_inT, nI_ltI, nI_leI, nI_eqI, pk_sub, true_and, and_true]
            refine hK _ _ _ _ ?_
            refine rz_blk' [(.goto (-147), 3, 0, 0)] (by decide +kernel) (Nat.le_refl _) (Nat.le_refl _) (fun K R hK hR => ?_)
            simp only [↓rx_goto, ↓rx_nil, rz_set, rz_nol, rz_clr, List.set_cons_zero, List.set_cons_succ, rz_tr, Nat.reduceAdd, Int.reduceAdd, Int.reduceToNat, Int.reduceSub, Int.reduceNeg, Int.cast_ofNat_Int]
            try simp (disch := omega) only [pk_us, pk_un, va_up_self, va_up_ne, nI_add, pk_mul, nI_clamp, vp_inT, nI_ltI, nI_leI, nI_eqI, pk_sub, true_and, and_true]
            refine hK _ _ _ _ ?_
            refine ihf (f + 1) _ I4 A4 (by omega) (by rw [hstep, xg_1, if_pos ⟨s1, s2, s3, s4⟩]; rfl) ((ki.t i3 rfl).t f1 rfl) ((ka.t a3' rfl).t f2 rfl) f3 f4 (xf_add_get kp)
          refine rz_blk' [(.iload 7, 2, 0, 0), (.bipush 24, 2, 0, 0), (.iload 4, 2, 0, 0), (.imul, 1, 0, 0), (.aload_n 0, 1, 0, 0), (.getfield 50, 3, 10, 15), (.iload 4, 2, 0, 0), (.iaload, 1, 0, 0), (.iadd, 1, 0, 0), (.if_icmp .ge 135, 3, 0, 0)] (by decide +kernel) (Nat.le_refl _) (Nat.le_refl _) (fun K R hK hR => ?_)
          simp only [rw_b24, ↓rx_aload_n0, ↓rx_bipush, ↓rx_getfield, ↓rx_iadd, ↓rx_iaload, ↓rx_if_icmp_ge, ↓rx_iload, ↓rx_imul, ↓rx_nil, ↓ry_i2, ↓ry_iau, ↓ry_li0s, ↓ry_li0z, ↓ry_lr0s, ↓ry_lr0z, ↓ry_obu, ↓ry_r1, ↓ry_ri, true_and, re_a15, ↓re_F15, ↓re_i15, ↓re_ob, v2, a1, a2, b1, b2, p1, p2, rz_set, rz_nol, rz_clr, List.set_cons_zero, List.set_cons_succ, rz_tr, Nat.reduceAdd, Int.reduceAdd, Int.reduceToNat, Int.reduceSub, Int.reduceNeg, Int.cast_ofNat_Int]
          try simp (disch := omega) only [v2, a1, a2, b1, b2, p1, p2, hsd, pk_us, pk_un, va_up_self, va_up_ne, nI_add, pk_mul, nI_clamp, vp_inT, nI_ltI, nI_leI, nI_eqI, pk_sub, true_and, and_true]
          refine ⟨fun q3 => by omega, fun q3 => hK _ _ _ _ ?_⟩
          refine rz_blk' [(.aload_n 0, 1, 0, 0), (.getfield 53, 3, 10, 16), (.iload 6, 2, 0, 0), (.iaload, 1, 0, 0), (.aload_n 0, 1, 0, 0), (.getfield 89, 3, 10, 31), (.iload_n 1, 1, 0, 0), (.iaload, 1, 0, 0), (.if_icmp .ne 113, 3, 0, 0)] (by decide +kernel) (Nat.le_refl _) (Nat.le_refl _) (fun K R hK hR => ?_)
          simp only [↓rx_aload_n0, ↓rx_getfield, ↓rx_iaload, ↓rx_if_icmp_ne, ↓rx_iload, ↓rx_iload_n1, ↓rx_nil, ↓ry_i2, ↓ry_iau, ↓ry_li0s, ↓ry_li0z, ↓ry_lr0s, ↓ry_lr0z, ↓ry_obu, ↓ry_r1, ↓ry_ri, true_and, re_a16, re_a31, ↓re_F16, ↓re_F31, ↓re_i16, ↓re_i31, ↓re_ob, v2, a1, a2, b1, b2, p1, p2, rz_set, rz_nol, rz_clr, List.set_cons_zero, List.set_cons_succ, rz_tr, Nat.reduceAdd, Int.reduceAdd, Int.reduceToNat, Int.reduceSub, Int.reduceNeg, Int.cast_ofNat_Int]
          try simp (disch := omega) only [v2, a1, a2, b1, b2, p1, p2, hsd, pk_us, pk_un, va_up_self, va_up_ne, nI_add, pk_mul, nI_clamp, vp_inT, nI_ltI, nI_leI, nI_eqI, pk_sub, true_and, and_true]
          refine ⟨fun q4 => hK _ _ _ _ ?_, fun q4 => hK _ _ _ _ ?_⟩
          · -- 60 taken
            refine rz_blk' [(.iinc 7 1, 3, 0, 0)] (by decide +kernel) (Nat.le_refl _) (Nat.le_refl _) (fun K R hK hR => ?_)
            simp only [rw_c1, ↓rx_iinc, ↓rx_nil, ↓ry_li0s, ↓ry_li0z, v2, a1, a2, b1, b2, p1, p2, rz_set, rz_nol, rz_clr, List.set_cons_zero, List.set_cons_succ, rz_tr, Nat.reduceAdd, Int.reduceAdd, Int.reduceToNat, Int.reduceSub, Int.reduceNeg, Int.cast_ofNat_Int]
            try simp (disch := omega) only [v2, a1, a2, b1, b2, p1, p2, hsd, pk_us, pk_un, va_up_self, va_up_ne, nI_add, pk_mul, nI_clamp, vp_inT, nI_ltI, nI_leI, nI_eqI, pk_sub, true_and, and_true]
            refine hK _ _ _ _ ?_
            refine rz_blk' [(.goto (-147), 3, 0, 0)] (by decide +kernel) (Nat.le_refl _) (Nat.le_refl _) (fun K R hK hR => ?_)
            simp only [↓rx_goto, ↓rx_nil, v2, a1, a2, b1, b2, p1, p2, rz_set, rz_nol, rz_clr, List.set_cons_zero, List.set_cons_succ, rz_tr, Nat.reduceAdd, Int.reduceAdd, Int.reduceToNat, Int.reduceSub, Int.reduceNeg, Int.cast_ofNat_Int]
            try simp (disch := omega) only [v2, a1, a2, b1, b2, p1, p2, hsd, pk_us, pk_un, va_up_self, va_up_ne, nI_add, pk_mul, nI_clamp, vp_inT, nI_ltI, nI_leI, nI_eqI, pk_sub, true_and, and_true]
            refine hK _ _ _ _ ?_
            refine ihf (f + 1) N1 I1 A1 (by omega) ?_ ki ka kn kk kp
            rw [hstep, xg_1, if_neg (by omega)]
          · -- 60 not taken
            refine rz_blk' [(.aload_n 0, 1, 0, 0), (.getfield 53, 3, 10, 16), (.iload 7, 2, 0, 0), (.iaload, 1, 0, 0), (.aload_n 0, 1, 0, 0), (.getfield 92, 3, 10, 32), (.iload_n 1, 1, 0, 0), (.iaload, 1, 0, 0), (.if_icmp .ne 97, 3, 0, 0)] (by decide +kernel) (Nat.le_refl _) (Nat.le_refl _) (fun K R hK hR => ?_)
            simp only [↓rx_aload_n0, ↓rx_getfield, ↓rx_iaload, ↓rx_if_icmp_ne, ↓rx_iload, ↓rx_iload_n1, ↓rx_nil, ↓ry_i2, ↓ry_iau, ↓ry_li0s, ↓ry_li0z, ↓ry_lr0s, ↓ry_lr0z, ↓ry_obu, ↓ry_r1, ↓ry_ri, true_and, re_a16, re_a32, ↓re_F16, ↓re_F32, ↓re_i16, ↓re_i32, ↓re_ob, v2, a1, a2, b1, b2, p1, p2, rz_set, rz_nol, rz_clr, List.set_cons_zero, List.set_cons_succ, rz_tr, Nat.reduceAdd, Int.reduceAdd, Int.reduceToNat, Int.reduceSub, Int.reduceNeg, Int.cast_ofNat_Int]
            try simp (disch := omega) only [v2, a1, a2, b1, b2, p1, p2, hsd, pk_us, pk_un, va_up_self, va_up_ne, nI_add, pk_mul, nI_clamp, vp_inT, nI_ltI, nI_leI, nI_eqI, pk_sub, true_and, and_true]
            refine ⟨fun q5 => hK _ _ _ _ ?_, fun q5 => hK _ _ _ _ ?_⟩
            · -- 76 taken
              refine rz_blk' [(.iinc 7 1, 3, 0, 0)] (by decide +kernel) (Nat.le_refl _) (Nat.le_refl _) (fun K R hK hR => ?_)
              simp only [rw_c1, ↓rx_iinc, ↓rx_nil, ↓ry_li0s, ↓ry_li0z, v2, a1, a2, b1, b2, p1, p2, rz_set, rz_nol, rz_clr, List.set_cons_zero, List.set_cons_succ, rz_tr, Nat.reduceAdd, Int.reduceAdd, Int.reduceToNat, Int.reduceSub, Int.reduceNeg, Int.cast_ofNat_Int]
              try simp (disch := omega) only [v2, a1, a2, b1, b2, p1, p2, hsd, pk_us, pk_un, va_up_self, va_up_ne, nI_add, pk_mul, nI_clamp, vp_inT, nI_ltI, nI_leI, nI_eqI, pk_sub, true_and, and_true]
              refine hK _ _ _ _ ?_
              refine rz_blk' [(.goto (-147), 3, 0, 0)] (by decide +kernel) (Nat.le_refl _) (Nat.le_refl _) (fun K R hK hR => ?_)
              simp only [↓rx_goto, ↓rx_nil, v2, a1, a2, b1, b2, p1, p2, rz_set, rz_nol, rz_clr, List.set_cons_zero, List.set_cons_succ, rz_tr, Nat.reduceAdd, Int.reduceAdd, Int.reduceToNat, Int.reduceSub, Int.reduceNeg, Int.cast_ofNat_Int]
              try simp (disch := omega) only [v2, a1, a2, b1, b2, p1, p2, hsd, pk_us, pk_un, va_up_self, va_up_ne, nI_add, pk_mul, nI_clamp, vp_inT, nI_ltI, nI_leI, nI_eqI, pk_sub, true_and, and_true]
              refine hK _ _ _ _ ?_
              refine ihf (f + 1) N1 I1 A1 (by omega) ?_ ki ka kn kk kp
              rw [hstep, xg_1, if_neg (by omega)]
            · -- 76 not taken
              refine rz_blk' [(.aload_n 0, 1, 0, 0), (.getfield 56, 3, 10, 17), (.iload 6, 2, 0, 0), (.iaload, 1, 0, 0), (.iload_n 2, 1, 0, 0), (.if_icmp .ne 86, 3, 0, 0)] (by decide +kernel) (Nat.le_refl _) (Nat.le_refl _) (fun K R hK hR => ?_)
              simp only [↓rx_aload_n0, ↓rx_getfield, ↓rx_iaload, ↓rx_if_icmp_ne, ↓rx_iload, ↓rx_iload_n2, ↓rx_nil, ↓ry_i2, ↓ry_iau, ↓ry_li0s, ↓ry_li0z, ↓ry_lr0s, ↓ry_lr0z, ↓ry_obu, ↓ry_r1, ↓ry_ri, true_and, re_a17, ↓re_F17, ↓re_i17, ↓re_ob, v2, a1, a2, b1, b2, p1, p2, rz_set, rz_nol, rz_clr, List.set_cons_zero, List.set_cons_succ, rz_tr, Nat.reduceAdd, Int.reduceAdd, Int.reduceToNat, Int.reduceSub, Int.reduceNeg, Int.cast_ofNat_Int]
              try simp (disch := omega) only [v2, a1, a2, b1, b2, p1, p2, hsd, pk_us, pk_un, va_up_self, va_up_ne, nI_add, pk_mul, nI_clamp, vp_inT, nI_ltI, nI_leI, nI_eqI, pk_sub, true_and, and_true]
              refine ⟨fun q6 => hK _ _ _ _ ?_, fun q6 => hK _ _ _ _ ?_⟩
              · -- 87 taken
                refine rz_blk' [(.iinc 7 1, 3, 0, 0)] (by decide +kernel) (Nat.le_refl _) (Nat.le_refl _) (fun K R hK hR => ?_)
                simp only [rw_c1, ↓rx_iinc, ↓rx_nil, ↓ry_li0s, ↓ry_li0z, v2, a1, a2, b1, b2, p1, p2, rz_set, rz_nol, rz_clr, List.set_cons_zero, List.set_cons_succ, rz_tr, Nat.reduceAdd, Int.reduceAdd, Int.reduceToNat, Int.reduceSub, Int.reduceNeg, Int.cast_ofNat_Int]
                try simp (disch := omega) only [v2, a1, a2, b1, b2, p1, p2, hsd, pk_us, pk_un, va_up_self, va_up_ne, nI_add, pk_mul, nI_clamp, vp_inT, nI_ltI, nI_leI, nI_eqI, pk_sub, true_and, and_true]
                refine hK _ _ _ _ ?_
                refine rz_blk' [(.goto (-147), 3, 0, 0)] (by decide +kernel) (Nat.le_refl _) (Nat.le_refl _) (fun K R hK hR => ?_)
                simp only [↓rx_goto, ↓rx_nil, v2, a1, a2, b1, b2, p1, p2, rz_set, rz_nol, rz_clr, List.set_cons_zero, List.set_cons_succ, rz_tr, Nat.reduceAdd, Int.reduceAdd, Int.reduceToNat, Int.reduceSub, Int.reduceNeg, Int.cast_ofNat_Int]
                try simp (disch := omega) only [v2, a1, a2, b1, b2, p1, p2, hsd, pk_us, pk_un, va_up_self, va_up_ne, nI_add, pk_mul, nI_clamp, vp_inT, nI_ltI, nI_leI, nI_eqI, pk_sub, true_and, and_true]
                refine hK _ _ _ _ ?_
                refine ihf (f + 1) N1 I1 A1 (by omega) ?_ ki ka kn kk kp
                rw [hstep, xg_1, if_neg (by omega)]
              · -- 87 not taken
                refine rz_blk' [(.aload_n 0, 1, 0, 0), (.getfield 56, 3, 10, 17), (.iload 7, 2, 0, 0), (.iaload, 1, 0, 0), (.iload_n 2, 1, 0, 0), (.if_icmp .ne 75, 3, 0, 0)] (by decide +kernel) (Nat.le_refl _) (Nat.le_refl _) (fun K R hK hR => ?_)
                simp only [↓rx_aload_n0, ↓rx_getfield, ↓rx_iaload, ↓rx_if_icmp_ne, ↓rx_iload, ↓rx_iload_n2, ↓rx_nil, ↓ry_i2, ↓ry_iau, ↓ry_li0s, ↓ry_li0z, ↓ry_lr0s, ↓ry_lr0z, ↓ry_obu, ↓ry_r1, ↓ry_ri, true_and, re_a17, ↓re_F17, ↓re_i17, ↓re_ob, v2, a1, a2, b1, b2, p1, p2, rz_set, rz_nol, rz_clr, List.set_cons_zero, List.set_cons_succ, rz_tr, Nat.reduceAdd, Int.reduceAdd, Int.reduceToNat, Int.reduceSub, Int.reduceNeg, Int.cast_ofNat_Int]
                try simp (disch := omega) only [v2, a1, a2, b1, b2, p1, p2, hsd, pk_us, pk_un, va_up_self, va_up_ne, nI_add, pk_mul, nI_clamp, vp_inT, nI_ltI, nI_leI, nI_eqI, pk_sub, true_and, and_true]
                refine ⟨fun q7 => hK _ _ _ _ ?_, fun q7 => hK _ _ _ _ ?_⟩
                · -- 98 taken
                  refine rz_blk' [(.iinc 7 1, 3, 0, 0)] (by decide +kernel) (Nat.le_refl _) (Nat.le_refl _) (fun K R hK hR => ?_)
                  simp only [rw_c1, ↓rx_iinc, ↓rx_nil, ↓ry_li0s, ↓ry_li0z, v2, a1, a2, b1, b2, p1, p2, rz_set, rz_nol, rz_clr, List.set_cons_zero, List.set_cons_succ, rz_tr, Nat.reduceAdd, Int.reduceAdd, Int.reduceToNat, Int.reduceSub, Int.reduceNeg, Int.cast_ofNat_Int]
                  try simp (disch := omega) only [v2, a1, a2, b1, b2, p1, p2, hsd, pk_us, pk_un, va_up_self, va_up_ne, nI_add, pk_mul, nI_clamp, vp_inT, nI_ltI, nI_leI, nI_eqI, pk_sub, true_and, and_true]
                  refine hK _ _ _ _ ?_
                  refine rz_blk' [(.goto (-147), 3, 0, 0)] (by decide +kernel) (Nat.le_refl _) (Nat.le_refl _) (fun K R hK hR => ?_)
                  simp only [↓rx_goto, ↓rx_nil, v2, a1, a2, b1, b2, p1, p2, rz_set, rz_nol, rz_clr, List.set_cons_zero, List.set_cons_succ, rz_tr, Nat.reduceAdd, Int.reduceAdd, Int.reduceToNat, Int.reduceSub, Int.reduceNeg, Int.cast_ofNat_Int]
                  try simp (disch := omega) only [v2, a1, a2, b1, b2, p1, p2, hsd, pk_us, pk_un, va_up_self, va_up_ne, nI_add, pk_mul, nI_clamp, vp_inT, nI_ltI, nI_leI, nI_eqI, pk_sub, true_and, and_true]
                  refine hK _ _ _ _ ?_
                  refine ihf (f + 1) N1 I1 A1 (by omega) ?_ ki ka kn kk kp
                  rw [hstep, xg_1, if_neg (by omega)]
                · -- 98 not taken
                  refine rz_blk' [(.aload_n 0, 1, 0, 0), (.iload_n 1, 1, 0, 0)] (by decide +kernel) (Nat.le_refl _) (Nat.le_refl _) (fun K R hK hR => ?_)
                  simp only [↓rx_aload_n0, ↓rx_iload_n1, ↓rx_nil, ↓ry_li0s, ↓ry_li0z, ↓ry_lr0s, ↓ry_lr0z, v2, a1, a2, b1, b2, p1, p2, rz_set, rz_nol, rz_clr, List.set_cons_zero, List.set_cons_succ, rz_tr, Nat.reduceAdd, Int.reduceAdd, Int.reduceToNat, Int.reduceSub, Int.reduceNeg, Int.cast_ofNat_Int]
                  try simp (disch := omega) only [v2, a1, a2, b1, b2, p1, p2, hsd, pk_us, pk_un, va_up_self, va_up_ne, nI_add, pk_mul, nI_clamp, vp_inT, nI_ltI, nI_leI, nI_eqI, pk_sub, true_and, and_true]
                  refine hK _ _ _ _ ?_
                  refine rz_cV (As := [.int (nI k)]) (b := a) (S := []) l_Mod_266 (by decide +kernel) rfl re_at0 rfl (Nat.le_of_ble_eq_true rfl) (Nat.le_refl _) (Nat.le_refl _) (hcl) (fun r G' hr => ?_)
                  obtain ⟨rfl, I2, A2, rfl, i2, a2', k12⟩ := hr
                  simp only [Option.toList, List.nil_append]
                  have e19 : A2 19 = A1 19 := a2' 19 rfl
                  have e20 : A2 20 = A1 20 := a2' 20 rfl
                  have hm1 := c_Mod_moreOne (w := w) (d := d + 1) (G := G) (a := a) (o := 32 * (24 * g + e)) k12 (by omega) (by rw [e20]; exact a5) x5 (by omega)
                  
                  refine rz_blk' [(.aload_n 0, 1, 0, 0), (.bipush 32, 2, 0, 0), (.iload 6, 2, 0, 0), (.imul, 1, 0, 0), (.aload_n 0, 1, 0, 0), (.getfield 62, 3, 10, 19), (.iload 6, 2, 0, 0), (.iaload, 1, 0, 0)] (by decide +kernel) (Nat.le_refl _) (Nat.le_refl _) (fun K R hK hR => ?_)
                  simp only [rw_b32, ↓rx_aload_n0, ↓rx_bipush, ↓rx_getfield, ↓rx_iaload, ↓rx_iload, ↓rx_imul, ↓rx_nil, ↓ry_i2, ↓ry_iau, ↓ry_li0s, ↓ry_li0z, ↓ry_lr0s, ↓ry_lr0z, ↓ry_obu, ↓ry_r1, ↓ry_ri, true_and, re_a19, ↓re_F19, ↓re_i19, ↓re_ob, v2, a1, a2, b1, b2, p1, p2, e19, a4, rz_set, rz_nol, rz_clr, List.set_cons_zero, List.set_cons_succ, rz_tr, Nat.reduceAdd, Int.reduceAdd, Int.reduceToNat, Int.reduceSub, Int.reduceNeg, Int.cast_ofNat_Int]
                  try simp (disch := omega) only [v2, a1, a2, b1, b2, p1, p2, e19, a4, hsd, pk_us, pk_un, va_up_self, va_up_ne, nI_add, pk_mul, nI_clamp, vp_inT, nI_ltI, nI_leI, nI_eqI, pk_sub, true_and, and_true]
                  refine hK _ _ _ _ ?_
                  refine rz_cV (As := [.int (nI (32 * (24 * g + e))), .int (nI T1.2.1[e].2.2.2.length)]) (b := a) (S := []) l_Mod_273 (by decide +kernel) rfl re_at0 rfl (Nat.le_of_ble_eq_true rfl) (Nat.le_refl _) (Nat.le_refl _) (hm1) (fun r G' hr => ?_)
                  obtain ⟨rfl, I2b, A2b, rfl, i2b, a2b, k12b⟩ := hr
                  simp only [Option.toList, List.nil_append]
                  have i3 : fi [26, 27] I1 I2b := i2.t i2b rfl
                  have a3' : fa [28, 29] A1 A2b := a2'.t a2b rfl
                  have e19b : A2b 19 = A1 19 := a3' 19 rfl
                  have e20b : A2b 20 = A1 20 := a3' 20 rfl
                  have hm2 := c_Mod_moreTwo (w := w) (d := d + 1) (G := G) (a := a) (o := 32 * (24 * hh + f)) k12b (by omega) (by rw [e20b]; exact b5) y5 (by omega)
                  refine rz_blk' [(.aload_n 0, 1, 0, 0), (.bipush 32, 2, 0, 0), (.iload 7, 2, 0, 0), (.imul, 1, 0, 0), (.aload_n 0, 1, 0, 0), (.getfield 62, 3, 10, 19), (.iload 7, 2, 0, 0), (.iaload, 1, 0, 0)] (by decide +kernel) (Nat.le_refl _) (Nat.le_refl _) (fun K R hK hR => ?_)
                  simp only [rw_b32, ↓rx_aload_n0, ↓rx_bipush, ↓rx_getfield, ↓rx_iaload, ↓rx_iload, ↓rx_imul, ↓rx_nil, ↓ry_i2, ↓ry_iau, ↓ry_li0s, ↓ry_li0z, ↓ry_lr0s, ↓ry_lr0z, ↓ry_obu, ↓ry_r1, ↓ry_ri, true_and, re_a19, ↓re_F19, ↓re_i19, ↓re_ob, e19b, b4, rz_set, rz_nol, rz_clr, List.set_cons_zero, List.set_cons_succ, rz_tr, Nat.reduceAdd, Int.reduceAdd, Int.reduceToNat, Int.reduceSub, Int.reduceNeg, Int.cast_ofNat_Int]
                  try simp (disch := omega) only [e19b, b4, hsd, pk_us, pk_un, va_up_self, va_up_ne, nI_add, pk_mul, nI_clamp, vp_inT, nI_ltI, nI_leI, nI_eqI, pk_sub, true_and, and_true]
                  refine hK _ _ _ _ ?_
                  refine rz_cV (As := [.int (nI (32 * (24 * hh + f))), .int (nI T2.2.1[f].2.2.2.length)]) (b := a) (S := []) l_Mod_276 (by decide +kernel) rfl re_at0 rfl (Nat.le_of_ble_eq_true rfl) (Nat.le_refl _) (Nat.le_refl _) (hm2) (fun r G' hr => ?_)
                  obtain ⟨rfl, I3, A3, rfl, i3b, a3b, k12c⟩ := hr
                  simp only [Option.toList, List.nil_append]
                  have i4 : fi [26, 27] I1 I3 := i3.t i3b rfl
                  have a4' : fa [28, 29] A1 A3 := a3'.t a3b rfl
                  have e18 : A3 18 = A1 18 := a4' 18 rfl
                  have e33 : A3 33 = A1 33 := a4' 33 rfl
                  refine rz_blk' [(.aload_n 0, 1, 0, 0), (.aload_n 0, 1, 0, 0), (.getfield 59, 3, 10, 18), (.iload 6, 2, 0, 0), (.iaload, 1, 0, 0), (.aload_n 0, 1, 0, 0), (.getfield 59, 3, 10, 18), (.iload 7, 2, 0, 0), (.iaload, 1, 0, 0), (.aload_n 0, 1, 0, 0), (.getfield 95, 3, 10, 33), (.iload_n 1, 1, 0, 0), (.iaload, 1, 0, 0), (.iconst 2, 1, 0, 0), (.if_icmp .ne 7, 3, 0, 0)] (by decide +kernel) (Nat.le_refl _) (Nat.le_refl _) (fun K R hK hR => ?_)
                  simp only [rw_c2, ↓rx_aload_n0, ↓rx_getfield, ↓rx_iaload, ↓rx_iconst, ↓rx_if_icmp_ne, ↓rx_iload, ↓rx_iload_n1, ↓rx_nil, ↓ry_i2, ↓ry_iau, ↓ry_li0s, ↓ry_li0z, ↓ry_lr0s, ↓ry_lr0z, ↓ry_obu, ↓ry_r1, ↓ry_ri, true_and, re_a18, re_a33, ↓re_F18, ↓re_F33, ↓re_i18, ↓re_i33, ↓re_ob, e18, e33, a3, b3, p3, rz_set, rz_nol, rz_clr, List.set_cons_zero, List.set_cons_succ, rz_tr, Nat.reduceAdd, Int.reduceAdd, Int.reduceToNat, Int.reduceSub, Int.reduceNeg, Int.cast_ofNat_Int]
                  try simp (disch := omega) only [e18, e33, a3, b3, p3, hsd, pk_us, pk_un, va_up_self, va_up_ne, nI_add, pk_mul, nI_clamp, vp_inT, nI_ltI, nI_leI, nI_eqI, pk_sub, true_and, and_true]
                  refine ⟨fun q8 => hK _ _ _ _ ?_, fun q8 => hK _ _ _ _ ?_⟩
                  · -- 160 taken
                    refine rz_blk' [(.iconst 0, 1, 0, 0), (.iload 5, 2, 0, 0)] (by decide +kernel) (Nat.le_refl _) (Nat.le_refl _) (fun K R hK hR => ?_)
                    simp only [rw_c0, ↓rx_iconst, ↓rx_iload, ↓rx_nil, ↓ry_li0s, ↓ry_li0z, e18, e33, a3, b3, p3, rz_set, rz_nol, rz_clr, List.set_cons_zero, List.set_cons_succ, rz_tr, Nat.reduceAdd, Int.reduceAdd, Int.reduceToNat, Int.reduceSub, Int.reduceNeg, Int.cast_ofNat_Int]
                    try simp (disch := omega) only [e18, e33, a3, b3, p3, hsd, pk_us, pk_un, va_up_self, va_up_ne, nI_add, pk_mul, nI_clamp, vp_inT, nI_ltI, nI_leI, nI_eqI, pk_sub, true_and, and_true]
                    refine hK _ _ _ _ ?_
                    first
                      | exact hfo _ _ _ (by omega) (by omega) (by omega) (by omega) i4 a4' k12c (by rw [show n.2.2.1 = true by simpa using q8]; rfl)
                      | exact hfo _ _ _ (by omega) (by omega) (by omega) (by omega) i4 a4' k12c (by rw [show n.2.2.1 = false by simpa using q8]; rfl)
                  · -- 160 not taken
                    refine rz_blk' [(.iconst 1, 1, 0, 0), (.goto 4, 3, 0, 0)] (by decide +kernel) (Nat.le_refl _) (Nat.le_refl _) (fun K R hK hR => ?_)
                    simp only [rw_c1, ↓rx_goto, ↓rx_iconst, ↓rx_nil, e18, e33, a3, b3, p3, rz_set, rz_nol, rz_clr, List.set_cons_zero, List.set_cons_succ, rz_tr, Nat.reduceAdd, Int.reduceAdd, Int.reduceToNat, Int.reduceSub, Int.reduceNeg, Int.cast_ofNat_Int]
                    try simp (disch := omega) only [e18, e33, a3, b3, p3, hsd, pk_us, pk_un, va_up_self, va_up_ne, nI_add, pk_mul, nI_clamp, vp_inT, nI_ltI, nI_leI, nI_eqI, pk_sub, true_and, and_true]
                    refine hK _ _ _ _ ?_
                    refine rz_blk' [(.iload 5, 2, 0, 0)] (by decide +kernel) (Nat.le_refl _) (Nat.le_refl _) (fun K R hK hR => ?_)
                    simp only [↓rx_iload, ↓rx_nil, ↓ry_li0s, ↓ry_li0z, e18, e33, a3, b3, p3, rz_set, rz_nol, rz_clr, List.set_cons_zero, List.set_cons_succ, rz_tr, Nat.reduceAdd, Int.reduceAdd, Int.reduceToNat, Int.reduceSub, Int.reduceNeg, Int.cast_ofNat_Int]
                    try simp (disch := omega) only [e18, e33, a3, b3, p3, hsd, pk_us, pk_un, va_up_self, va_up_ne, nI_add, pk_mul, nI_clamp, vp_inT, nI_ltI, nI_leI, nI_eqI, pk_sub, true_and, and_true]
                    refine hK _ _ _ _ ?_
                    first
                      | exact hfo _ _ _ (by omega) (by omega) (by omega) (by omega) i4 a4' k12c (by rw [show n.2.2.1 = true by simpa using q8]; rfl)
                      | exact hfo _ _ _ (by omega) (by omega) (by omega) (by omega) i4 a4' k12c (by rw [show n.2.2.1 = false by simpa using q8]; rfl)
      obtain ⟨-, r2, -⟩ := id (re_t_fa t1 ka0 rfl)
      refine rz_blk' [(.iload 6, 2, 0, 0), (.bipush 24, 2, 0, 0), (.iload_n 3, 1, 0, 0), (.imul, 1, 0, 0), (.aload_n 0, 1, 0, 0), (.getfield 50, 3, 10, 15), (.iload_n 3, 1, 0, 0), (.iaload, 1, 0, 0), (.iadd, 1, 0, 0), (.if_icmp .ge 166, 3, 0, 0)] (by decide +kernel) (Nat.le_refl _) (Nat.le_refl _) (fun K R hK hR => ?_)
      simp only [rw_b24, ↓rx_aload_n0, ↓rx_bipush, ↓rx_getfield, ↓rx_iadd, ↓rx_iaload, ↓rx_if_icmp_ge, ↓rx_iload, ↓rx_iload_n3, ↓rx_imul, ↓rx_nil, ↓ry_i2, ↓ry_iau, ↓ry_li0s, ↓ry_li0z, ↓ry_lr0s, ↓ry_lr0z, ↓ry_obu, ↓ry_r1, ↓ry_ri, true_and, re_a15, ↓re_F15, ↓re_i15, ↓re_ob, r2, rz_set, rz_nol, rz_clr, List.set_cons_zero, List.set_cons_succ, rz_tr, Nat.reduceAdd, Int.reduceAdd, Int.reduceToNat, Int.reduceSub, Int.reduceNeg, Int.cast_ofNat_Int]
      try simp (disch := omega) only [r2, pk_us, pk_un, va_up_self, va_up_ne, nI_add, pk_mul, nI_clamp, vp_inT, nI_ltI, nI_leI, nI_eqI, pk_sub, true_and, and_true]
      refine ⟨fun q9 => by omega, fun q9 => hK _ _ _ _ ?_⟩
      refine rz_blk' [(.bipush 24, 2, 0, 0), (.iload 4, 2, 0, 0), (.imul, 1, 0, 0), (.istore 7, 2, 0, 0)] (by decide +kernel) (Nat.le_refl _) (Nat.le_refl _) (fun K R hK hR => ?_)
      simp only [rw_b24, ↓rx_bipush, ↓rx_iload, ↓rx_imul, ↓rx_istore, ↓rx_nil, ↓ry_i1, ↓ry_i2, ↓ry_li0s, ↓ry_li0z, r2, rz_set, rz_nol, rz_clr, List.set_cons_zero, List.set_cons_succ, rz_tr, Nat.reduceAdd, Int.reduceAdd, Int.reduceToNat, Int.reduceSub, Int.reduceNeg, Int.cast_ofNat_Int]
      try simp (disch := omega) only [r2, pk_us, pk_un, va_up_self, va_up_ne, nI_add, pk_mul, nI_clamp, vp_inT, nI_ltI, nI_leI, nI_eqI, pk_sub, true_and, and_true]
      refine hK _ _ _ _ ?_
      exact fl T2.2.1.length 0 N0 I0 A0 (by omega) rfl ki0 ka0 kn0 kk0 kp0
  refine rz_enter' [some (.ref a), some (.int (nI k)), some (.int (nI x)), some (.int (nI g)), some (.int (nI hh)), some (.int (nI o)), none, none] (by decide +kernel) rfl rfl (Nat.le_of_ble_eq_true rfl) rfl ?_
  refine rz_blk' [(.bipush 24, 2, 0, 0), (.iload_n 3, 1, 0, 0), (.imul, 1, 0, 0), (.istore 6, 2, 0, 0)] (by decide +kernel) (Nat.le_refl _) (Nat.le_refl _) (fun K R hK hR => ?_)
  simp only [rw_b24, ↓rx_bipush, ↓rx_iload_n3, ↓rx_imul, ↓rx_istore, ↓rx_nil, ↓ry_i1, ↓ry_i2, ↓ry_li0s, ↓ry_li0z, rz_set, rz_nol, rz_clr, List.set_cons_zero, List.set_cons_succ, rz_tr, Nat.reduceAdd, Int.reduceAdd, Int.reduceToNat, Int.reduceSub, Int.reduceNeg, Int.cast_ofNat_Int]
  try simp (disch := omega) only [pk_us, pk_un, va_up_self, va_up_ne, nI_add, pk_mul, nI_clamp, vp_inT, nI_ltI, nI_leI, nI_eqI, pk_sub, true_and, and_true]
  refine hK _ _ _ _ ?_
  exact el T1.2.1.length 0 N I A _ (by omega) rfl fi.rf fa.rf hN hk hnk
set_option maxRecDepth 100000 in
set_option maxHeartbeats 400000 in
theorem c_Mod_newWord {w : rz_w} {d : Nat} {G : rz_G} {a : Nat} {I : Nat → Int32} {A : Nat → Nat → Int32} {n : Nat} (hn : n < 4100) (h38 : I 38 = nI n) (x y : Int32) : rz_C w d 0 0 y_Mod_newWord m_Mod_newWord [.ref a, .int x, .int y] (re_put G a I A) (fun (r : Option Value) (G' : rz_G) => r = some (.int (nI n)) ∧ G' = re_put G a (upd I 38 (nI (n + 1))) (va_up (va_up A 39 (upd (A 39) n x)) 40 (upd (A 40) n y))) := by
  refine rz_enter' [some (.ref a), some (.int x), some (.int y)] (by decide +kernel) rfl rfl (Nat.le_of_ble_eq_true rfl) rfl ?_
  refine rz_blk' [(.aload_n 0, 1, 0, 0), (.getfield 111, 3, 10, 39), (.aload_n 0, 1, 0, 0), (.getfield 270, 3, 10, 38), (.iload_n 1, 1, 0, 0), (.iastore, 1, 0, 0)] (by decide +kernel) (Nat.le_refl _) (Nat.le_refl _) (fun K R hK hR => ?_)
  simp only [↓rx_aload_n0, ↓rx_getfield, ↓rx_iastore, ↓rx_iload_n1, ↓rx_nil, ↓ry_iau, ↓ry_li0s, ↓ry_li0z, ↓ry_lr0s, ↓ry_lr0z, ↓ry_obu, ↓ry_r1, ↓ry_rii, true_and, re_a39, ↓re_F38, ↓re_F39, ↓re_i39, ↓re_ob, h38, rz_set, rz_nol, rz_clr, List.set_cons_zero, List.set_cons_succ, rz_tr, Nat.reduceAdd, Int.reduceAdd, Int.reduceToNat, Int.reduceSub, Int.reduceNeg, Int.cast_ofNat_Int]
  try simp (disch := omega) only [h38, Nat.add_sub_cancel, pk_us, pk_un, va_up_self, va_up_ne, nI_add, pk_mul, nI_clamp, vp_inT, nI_ltI, nI_leI, nI_eqI, pk_sub, true_and, and_true]
  refine hK _ _ _ _ ?_
  refine rz_blk' [(.aload_n 0, 1, 0, 0), (.getfield 114, 3, 10, 40), (.aload_n 0, 1, 0, 0), (.getfield 270, 3, 10, 38), (.iload_n 2, 1, 0, 0), (.iastore, 1, 0, 0)] (by decide +kernel) (Nat.le_refl _) (Nat.le_refl _) (fun K R hK hR => ?_)
  simp only [↓rx_aload_n0, ↓rx_getfield, ↓rx_iastore, ↓rx_iload_n2, ↓rx_nil, ↓ry_iau, ↓ry_li0s, ↓ry_li0z, ↓ry_lr0s, ↓ry_lr0z, ↓ry_obu, ↓ry_r1, ↓ry_rii, true_and, re_a40, ↓re_F38, ↓re_F40, ↓re_i40, ↓re_ob, h38, rz_set, rz_nol, rz_clr, List.set_cons_zero, List.set_cons_succ, rz_tr, Nat.reduceAdd, Int.reduceAdd, Int.reduceToNat, Int.reduceSub, Int.reduceNeg, Int.cast_ofNat_Int]
  try simp (disch := omega) only [h38, Nat.add_sub_cancel, pk_us, pk_un, va_up_self, va_up_ne, nI_add, pk_mul, nI_clamp, vp_inT, nI_ltI, nI_leI, nI_eqI, pk_sub, true_and, and_true]
  refine hK _ _ _ _ ?_
  refine rz_blk' [(.aload_n 0, 1, 0, 0), (.dup, 1, 0, 0), (.getfield 270, 3, 10, 38), (.iconst 1, 1, 0, 0), (.iadd, 1, 0, 0), (.putfield 270, 3, 10, 38)] (by decide +kernel) (Nat.le_refl _) (Nat.le_refl _) (fun K R hK hR => ?_)
  simp only [List.length_cons, List.length_nil, Nat.reduceLT, rf_10_38, rw_c1, ↓rx_aload_n0, ↓rx_dup, ↓rx_getfield, ↓rx_iadd, ↓rx_iconst, ↓rx_nil, ↓rx_putfield, ↓ry_i2, ↓ry_lr0s, ↓ry_lr0z, ↓ry_obu, ↓ry_r1, ↓ry_v1i, ↓ry_v1r, ↓ry_vr, true_and, re_len, re_u38, ↓re_F38, ↓re_ob, h38, rz_set, rz_nol, rz_clr, List.set_cons_zero, List.set_cons_succ, rz_tr, Nat.reduceAdd, Int.reduceAdd, Int.reduceToNat, Int.reduceSub, Int.reduceNeg, Int.cast_ofNat_Int]
  try simp (disch := omega) only [h38, Nat.add_sub_cancel, pk_us, pk_un, va_up_self, va_up_ne, nI_add, pk_mul, nI_clamp, vp_inT, nI_ltI, nI_leI, nI_eqI, pk_sub, true_and, and_true]
  refine hK _ _ _ _ ?_
  refine rz_blk' [(.aload_n 0, 1, 0, 0), (.getfield 270, 3, 10, 38), (.iconst 1, 1, 0, 0), (.isub, 1, 0, 0), (.ireturn, 1, 0, 0)] (by decide +kernel) (Nat.le_refl _) (Nat.le_refl _) (fun K R hK hR => ?_)
  simp only [rw_c1, ↓rx_aload_n0, ↓rx_getfield, ↓rx_iconst, ↓rx_ireturn, ↓rx_isub, ↓rx_nil, ↓ry_i2, ↓ry_lr0s, ↓ry_lr0z, ↓ry_obu, ↓ry_r1, ↓re_F38, ↓re_ob, h38, rz_set, rz_nol, rz_clr, List.set_cons_zero, List.set_cons_succ, rz_tr, Nat.reduceAdd, Int.reduceAdd, Int.reduceToNat, Int.reduceSub, Int.reduceNeg, Int.cast_ofNat_Int]
  try simp (disch := omega) only [h38, Nat.add_sub_cancel, pk_us, pk_un, va_up_self, va_up_ne, nI_add, pk_mul, nI_clamp, vp_inT, nI_ltI, nI_leI, nI_eqI, pk_sub, true_and, and_true]
  exact hR _ _ (rz_nb_i (by decide)) ⟨rfl, rfl⟩
set_option maxRecDepth 100000 in
set_option maxHeartbeats 400000 in
theorem c_Mod_beginPairs {w : rz_w} {d : Nat} {G : rz_G} {a : Nat} {I : Nat → Int32} {A : Nat → Nat → Int32} {T1 T2 : mv_T} {g hh : Nat} (B0 b0 : Nat) (hg : g < 2) (hh2 : hh < 2) (t1 : re_t A g T1) (t2 : re_t A hh T2) (w1 : tw T1 32) (w2 : tw T2 32) : rz_C w (d + 1) 0 0 y_Mod_beginPairs m_Mod_beginPairs [.ref a, .int (nI g), .int (nI hh)] (re_put G a I A) (fun (r : Option Value) (G' : rz_G) => r = none ∧ ∃ I' A' c, G' = re_put G a I' A' ∧ fi [30, 38] I I' ∧ fa [25, 37, 39, 40] A A' ∧ (∀ i, i < 36 → A' 25 i = rz_b (c i)) ∧ rk_is T1 T2 c ∧ xn_ns B0 b0 I' A' [] ∧ xk_is A' [] ∧ xw_is I' A' [[]]) := by
  generalize hQ : (fun (r : Option Value) (G' : rz_G) => r = none ∧ ∃ I' A' c, G' = re_put G a I' A' ∧ fi [30, 38] I I' ∧ fa [25, 37, 39, 40] A A' ∧ (∀ i, i < 36 → A' 25 i = rz_b (c i)) ∧ rk_is T1 T2 c ∧ xn_ns B0 b0 I' A' [] ∧ xk_is A' [] ∧ xw_is I' A' [[]]) = Q
  have hcl := c_Mod_findEnds (w := w) (d := d) (G := G) (a := a) (I := I) hg hh2 t1 t2 w1 w2
  have lp : ∀ (j i : Nat) (A1 : Nat → Nat → Int32) (c : Nat → Bool), i + j = 36 → fa [25, 37, 39, 40] A A1 → (∀ i, i < 36 → A1 25 i = rz_b (c i)) → rk_is T1 T2 c → (∀ k, k < i → A1 37 k = nI 0) → rz_T w (d + 1) 0 0 m_Mod_beginPairs 0 0 8 [some (.ref a), some (.int (nI g)), some (.int (nI hh)), some (.int (nI i))] [] (re_put G a I A1) Q := by
    intro j
    induction j with
    | zero =>
      intro i A1 c hij ka kc kr kk
      refine rz_blk' [(.iload_n 3, 1, 0, 0), (.bipush 36, 2, 0, 0), (.if_icmp .ge 16, 3, 0, 0)] (by decide +kernel) (Nat.le_refl _) (Nat.le_refl _) (fun K R hK hR => ?_)
      simp only [rw_b36, ↓rx_bipush, ↓rx_if_icmp_ge, ↓rx_iload_n3, ↓rx_nil, ↓ry_i2, ↓ry_li0s, ↓ry_li0z, rz_set, rz_nol, rz_clr, List.set_cons_zero, List.set_cons_succ, rz_tr, Nat.reduceAdd, Int.reduceAdd, Int.reduceToNat, Int.reduceSub, Int.reduceNeg, Int.cast_ofNat_Int]
      try simp (disch := omega) only [pk_us, pk_un, va_up_self, va_up_ne, nI_add, pk_mul, nI_clamp, vp_inT, nI_ltI, nI_leI, nI_eqI, pk_sub, true_and, and_true]
      refine ⟨fun q1 => hK _ _ _ _ ?_, fun q1 => by omega⟩
      refine rz_blk' [(.aload_n 0, 1, 0, 0), (.iconst 0, 1, 0, 0), (.putfield 263, 3, 10, 30)] (by decide +kernel) (Nat.le_refl _) (Nat.le_refl _) (fun K R hK hR => ?_)
      simp only [List.length_cons, List.length_nil, Nat.reduceLT, rf_10_30, rw_c0, ↓rx_aload_n0, ↓rx_iconst, ↓rx_nil, ↓rx_putfield, ↓ry_lr0s, ↓ry_lr0z, ↓ry_obu, ↓ry_vr, true_and, re_len, re_u30, ↓re_ob, rz_set, rz_nol, rz_clr, List.set_cons_zero, List.set_cons_succ, rz_tr, Nat.reduceAdd, Int.reduceAdd, Int.reduceToNat, Int.reduceSub, Int.reduceNeg, Int.cast_ofNat_Int]
      try simp (disch := omega) only [pk_us, pk_un, va_up_self, va_up_ne, nI_add, pk_mul, nI_clamp, vp_inT, nI_ltI, nI_leI, nI_eqI, pk_sub, true_and, and_true]
      refine hK _ _ _ _ ?_
      refine rz_blk' [(.aload_n 0, 1, 0, 0), (.iconst 0, 1, 0, 0), (.putfield 270, 3, 10, 38)] (by decide +kernel) (Nat.le_refl _) (Nat.le_refl _) (fun K R hK hR => ?_)
      simp only [List.length_cons, List.length_nil, Nat.reduceLT, rf_10_38, rw_c0, ↓rx_aload_n0, ↓rx_iconst, ↓rx_nil, ↓rx_putfield, ↓ry_lr0s, ↓ry_lr0z, ↓ry_obu, ↓ry_vr, true_and, re_len, re_u38, ↓re_ob, rz_set, rz_nol, rz_clr, List.set_cons_zero, List.set_cons_succ, rz_tr, Nat.reduceAdd, Int.reduceAdd, Int.reduceToNat, Int.reduceSub, Int.reduceNeg, Int.cast_ofNat_Int]
      try simp (disch := omega) only [pk_us, pk_un, va_up_self, va_up_ne, nI_add, pk_mul, nI_clamp, vp_inT, nI_ltI, nI_leI, nI_eqI, pk_sub, true_and, and_true]
      refine hK _ _ _ _ ?_
      refine rz_blk' [(.aload_n 0, 1, 0, 0), (.iconst (-1), 1, 0, 0), (.iconst (-1), 1, 0, 0)] (by decide +kernel) (Nat.le_refl _) (Nat.le_refl _) (fun K R hK hR => ?_)
      simp only [rw_cm1, ↓rx_aload_n0, ↓rx_iconst, ↓rx_nil, ↓ry_lr0s, ↓ry_lr0z, rz_set, rz_nol, rz_clr, List.set_cons_zero, List.set_cons_succ, rz_tr, Nat.reduceAdd, Int.reduceAdd, Int.reduceToNat, Int.reduceSub, Int.reduceNeg, Int.cast_ofNat_Int]
      try simp (disch := omega) only [pk_us, pk_un, va_up_self, va_up_ne, nI_add, pk_mul, nI_clamp, vp_inT, nI_ltI, nI_leI, nI_eqI, pk_sub, true_and, and_true]
      refine hK _ _ _ _ ?_
      refine rz_cV (As := [.int (-1), .int (-1)]) (b := a) (S := []) l_Mod_286 (by decide +kernel) rfl re_at0 rfl (Nat.le_of_ble_eq_true rfl) (Nat.le_refl _) (Nat.le_refl _) (c_Mod_newWord (n := 0) (by decide) pk_us _ _) (fun r G' hr => ?_)
      obtain ⟨rfl, rfl⟩ := hr
      simp only [Option.toList, List.cons_append, List.nil_append]
      refine rz_blk' [(.pop, 1, 0, 0), (.return_, 1, 0, 0)] (by decide +kernel) (Nat.le_refl _) (Nat.le_refl _) (fun K R hK hR => ?_)
      simp only [↓rx_nil, ↓rx_pop, ↓rx_return_, ↓ry_v1i, ↓ry_v1r, rz_set, rz_nol, rz_clr, List.set_cons_zero, List.set_cons_succ, rz_tr, Nat.reduceAdd, Int.reduceAdd, Int.reduceToNat, Int.reduceSub, Int.reduceNeg, Int.cast_ofNat_Int]
      try simp (disch := omega) only [pk_us, pk_un, va_up_self, va_up_ne, nI_add, pk_mul, nI_clamp, vp_inT, nI_ltI, nI_leI, nI_eqI, pk_sub, true_and, and_true]
      refine hR _ _ (rz_nb_i (by decide)) ?_
      rw [← hQ]
      refine ⟨rfl, _, _, c, rfl, ((fi.rf.u rfl).u rfl).u rfl, (ka.u rfl).u rfl, ?_, kr, ?_, ?_, ?_⟩
      · rw [va_up_ne _ _ (by decide), va_up_ne _ _ (by decide)]; exact kc
      · exact ⟨by rw [pk_un (by decide), pk_un (by decide), pk_us]; rfl, by simp, fun i h => absurd h (Nat.not_lt_zero _)⟩
      · intro p q hp hq
        rw [va_up_ne _ _ (by decide), va_up_ne _ _ (by decide)]
        exact ⟨kk _ (by omega), by simp [xk_c], by simp [xk_n], by simp [xk_c, xk_n]⟩
      · exact ⟨pk_us, by simp, rfl, fun k h0 h1 => (by simp at h1; omega)⟩
    | succ j ih =>
      intro i A1 c hij ka kc kr kk
      refine rz_blk' [(.iload_n 3, 1, 0, 0), (.bipush 36, 2, 0, 0), (.if_icmp .ge 16, 3, 0, 0)] (by decide +kernel) (Nat.le_refl _) (Nat.le_refl _) (fun K R hK hR => ?_)
      simp only [rw_b36, ↓rx_bipush, ↓rx_if_icmp_ge, ↓rx_iload_n3, ↓rx_nil, ↓ry_i2, ↓ry_li0s, ↓ry_li0z, rz_set, rz_nol, rz_clr, List.set_cons_zero, List.set_cons_succ, rz_tr, Nat.reduceAdd, Int.reduceAdd, Int.reduceToNat, Int.reduceSub, Int.reduceNeg, Int.cast_ofNat_Int]
      try simp (disch := omega) only [pk_us, pk_un, va_up_self, va_up_ne, nI_add, pk_mul, nI_clamp, vp_inT, nI_ltI, nI_leI, nI_eqI, pk_sub, true_and, and_true]
      refine ⟨fun q2 => by omega, fun q2 => hK _ _ _ _ ?_⟩
      refine rz_blk' [(.aload_n 0, 1, 0, 0), (.getfield 108, 3, 10, 37), (.iload_n 3, 1, 0, 0), (.iconst 0, 1, 0, 0), (.iastore, 1, 0, 0)] (by decide +kernel) (Nat.le_refl _) (Nat.le_refl _) (fun K R hK hR => ?_)
      simp only [rw_c0, ↓rx_aload_n0, ↓rx_getfield, ↓rx_iastore, ↓rx_iconst, ↓rx_iload_n3, ↓rx_nil, ↓ry_iau, ↓ry_li0s, ↓ry_li0z, ↓ry_lr0s, ↓ry_lr0z, ↓ry_obu, ↓ry_r1, ↓ry_rii, true_and, re_a37, ↓re_F37, ↓re_i37, ↓re_ob, rz_set, rz_nol, rz_clr, List.set_cons_zero, List.set_cons_succ, rz_tr, Nat.reduceAdd, Int.reduceAdd, Int.reduceToNat, Int.reduceSub, Int.reduceNeg, Int.cast_ofNat_Int]
      try simp (disch := omega) only [pk_us, pk_un, va_up_self, va_up_ne, nI_add, pk_mul, nI_clamp, vp_inT, nI_ltI, nI_leI, nI_eqI, pk_sub, true_and, and_true]
      refine hK _ _ _ _ ?_
      refine rz_blk' [(.iinc 3 1, 3, 0, 0)] (by decide +kernel) (Nat.le_refl _) (Nat.le_refl _) (fun K R hK hR => ?_)
      simp only [rw_c1, ↓rx_iinc, ↓rx_nil, ↓ry_li0s, ↓ry_li0z, rz_set, rz_nol, rz_clr, List.set_cons_zero, List.set_cons_succ, rz_tr, Nat.reduceAdd, Int.reduceAdd, Int.reduceToNat, Int.reduceSub, Int.reduceNeg, Int.cast_ofNat_Int]
      try simp (disch := omega) only [pk_us, pk_un, va_up_self, va_up_ne, nI_add, pk_mul, nI_clamp, vp_inT, nI_ltI, nI_leI, nI_eqI, pk_sub, true_and, and_true]
      refine hK _ _ _ _ ?_
      refine rz_blk' [(.goto (-16), 3, 0, 0)] (by decide +kernel) (Nat.le_refl _) (Nat.le_refl _) (fun K R hK hR => ?_)
      simp only [↓rx_goto, ↓rx_nil, rz_set, rz_nol, rz_clr, List.set_cons_zero, List.set_cons_succ, rz_tr, Nat.reduceAdd, Int.reduceAdd, Int.reduceToNat, Int.reduceSub, Int.reduceNeg, Int.cast_ofNat_Int]
      try simp (disch := omega) only [pk_us, pk_un, va_up_self, va_up_ne, nI_add, pk_mul, nI_clamp, vp_inT, nI_ltI, nI_leI, nI_eqI, pk_sub, true_and, and_true]
      refine hK _ _ _ _ ?_
      refine ih (i + 1) _ c (by omega) (ka.u rfl) (by rw [va_up_ne _ _ (by decide)]; exact kc) kr (fun k hk => ?_)
      rw [va_up_self]
      by_cases ck : k = i
      · subst ck; rw [pk_us]
      · rw [pk_un ck]; exact kk k (by omega)
  refine rz_enter' [some (.ref a), some (.int (nI g)), some (.int (nI hh)), none] (by decide +kernel) rfl rfl (Nat.le_of_ble_eq_true rfl) rfl ?_
  refine rz_blk' [(.aload_n 0, 1, 0, 0), (.iload_n 1, 1, 0, 0), (.iload_n 2, 1, 0, 0)] (by decide +kernel) (Nat.le_refl _) (Nat.le_refl _) (fun K R hK hR => ?_)
  simp only [↓rx_aload_n0, ↓rx_iload_n1, ↓rx_iload_n2, ↓rx_nil, ↓ry_li0s, ↓ry_li0z, ↓ry_lr0s, ↓ry_lr0z, rz_set, rz_nol, rz_clr, List.set_cons_zero, List.set_cons_succ, rz_tr, Nat.reduceAdd, Int.reduceAdd, Int.reduceToNat, Int.reduceSub, Int.reduceNeg, Int.cast_ofNat_Int]
  try simp (disch := omega) only [pk_us, pk_un, va_up_self, va_up_ne, nI_add, pk_mul, nI_clamp, vp_inT, nI_ltI, nI_leI, nI_eqI, pk_sub, true_and, and_true]
  refine hK _ _ _ _ ?_
  refine rz_cV (As := [.int (nI g), .int (nI hh)]) (b := a) (S := []) l_Mod_283 (by decide +kernel) rfl re_at0 rfl (Nat.le_of_ble_eq_true rfl) (Nat.le_refl _) (Nat.le_refl _) (hcl) (fun r G' hr => ?_)
  obtain ⟨rfl, A1, c, rfl, f1, f2, f3⟩ := hr
  simp only [Option.toList, List.nil_append]
  refine rz_blk' [(.iconst 0, 1, 0, 0), (.istore_n 3, 1, 0, 0)] (by decide +kernel) (Nat.le_refl _) (Nat.le_refl _) (fun K R hK hR => ?_)
  simp only [rw_c0, ↓rx_iconst, ↓rx_istore_n3, ↓rx_nil, ↓ry_i1, rz_set, rz_nol, rz_clr, List.set_cons_zero, List.set_cons_succ, rz_tr, Nat.reduceAdd, Int.reduceAdd, Int.reduceToNat, Int.reduceSub, Int.reduceNeg, Int.cast_ofNat_Int]
  try simp (disch := omega) only [pk_us, pk_un, va_up_self, va_up_ne, nI_add, pk_mul, nI_clamp, vp_inT, nI_ltI, nI_leI, nI_eqI, pk_sub, true_and, and_true]
  refine hK _ _ _ _ ?_
  exact lp 36 0 A1 c rfl (f1.m rfl) f2 f3 (fun k hk => absurd hk (Nat.not_lt_zero _))
