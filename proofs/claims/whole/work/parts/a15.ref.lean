/-! the reference: keepMade, smallest -/
def kc_1 (T : mv_T) (X : kt_T) (r : Option (List Nat)) (s : Nat) : Option (List Nat) := match X s, T.2.2.1 s with
  | some u, some f => some (u ++ f)
  | _, _ => r
/-- a class's final word -/
def kcl (T : mv_T) (X : kt_T) : Option (List Nat) := (List.range 6).foldl (kc_1 T X) none
def kfw (T : mv_T) : List Nat := if T.1.testBit 0 = true then T.2.2.2 else []
/-- states that may be come to, and from which an end may be come to, have an output -/
theorem al_xo {m : mv_T} (h : wf m) {s : Nat} (hs : (al m).testBit s = true) : ∃ o, xo (tk m) s o := by
  obtain ⟨hF, hB⟩ := al_rc h
  have hal : ∀ q, (al m).testBit q = ((mk_it m.1 (mv_ft m) 1).testBit q && (mk_it m.1 (mv_tf m) (mk_cl m)).testBit q) := fun q => Nat.testBit_and _ _ _
  generalize hFF : mk_it m.1 (mv_ft m) 1 = F at *
  generalize hBB : mk_it m.1 (mv_tf m) (mk_cl m) = B at *
  have key : ∀ q, B.testBit q = true → B.testBit q = true ∧ (F.testBit q = true → ∃ o, xo (tk m) q o) := by
    refine hB.2.2 _ ⟨fun q hq => ?_, fun e he hP => ?_⟩
    · have hb := hB.2.1.1 q hq
      refine ⟨hb, fun hf => ?_⟩
      obtain ⟨f, hfs⟩ := Option.isSome_iff_exists.mp (show (m.2.2.1 q).isSome = true from hq)
      refine ⟨f, xo_f ?_⟩
      show (if (al m).testBit q then m.2.2.1 q else none) = some f
      rw [hal, hf, hb]; exact hfs
    · have hP : B.testBit e.2.2.1 = true ∧ (F.testBit e.2.2.1 = true → ∃ o, xo (tk m) e.2.2.1 o) := hP
      have hb : B.testBit e.1 = true := hB.2.1.2 e he hP.1
      refine ⟨hb, fun hf => ?_⟩
      have hf2 : F.testBit e.2.2.1 = true := hF.2.1.2 e he hf
      obtain ⟨o, ho⟩ := hP.2 hf2
      refine ⟨_, xo_e (e := e) (List.mem_filter.mpr ⟨he, ?_⟩) ho⟩
      have hf : F.testBit e.1 = true := hf
      have hb : B.testBit e.1 = true := hb
      simp only [hal, hf, hb, hf2, hP.1]; rfl
  rw [hal, Bool.and_eq_true] at hs
  exact (key s hs.2).2 hs.1
set_option maxRecDepth 100000 in
set_option maxHeartbeats 4000000 in
theorem c_Mod_keepMade {w : rz_w} {d : Nat} {G : rz_G} {a : Nat} {I : Nat → Int32} {A : Nat → Nat → Int32} {T : mv_T} {Ks : List kt_T} {gs : List g_T} (t : re_t A 0 T) (w1 : tw T 21) (h46 : ∃ n, n ≤ 4100 ∧ I 46 = nI n) (h76 : I 76 = nI Ks.length) (k1 : 1 ≤ Ks.length) (k40 : Ks.length ≤ 40) (hk : ∀ (i : Nat) (X : kt_T), Ks[i]? = some X → kt_at A i X) (hg : ga_is A gs) (hgl : gs.length = 3 * Ks.length) : rz_C w d 0 0 y_Mod_keepMade m_Mod_keepMade [.ref a] (re_put G a I A) (fun (r : Option Value) (G' : rz_G) => r = none ∧ ∃ I' A', G' = re_put G a I' A' ∧ fi [67, 68, 69] I I' ∧ fa [70, 71, 72, 73, 74, 75] A A' ∧ re_w I' A' (kfw T, Ks.map (kcl T), gs)) := by
  generalize hQ : (fun (r : Option Value) (G' : rz_G) => r = none ∧ ∃ I' A', G' = re_put G a I' A' ∧ fi [67, 68, 69] I I' ∧ fa [70, 71, 72, 73, 74, 75] A A' ∧ re_w I' A' (kfw T, Ks.map (kcl T), gs)) = Q
  have hfl := w1.2.2.2.2.2
  have hkf : (kfw T).length ≤ 21 := by unfold kfw; split; exact hfl.1; simp
  generalize hJ : upd (upd (upd I 67 (nI Ks.length)) 68 (nI 1)) 69 (nI (kfw T).length) = J
  have hJf : fi [67, 68, 69] I J := by rw [← hJ]; exact ((fi.rf.u rfl).u rfl).u rfl
  have hJ67 : J 67 = nI Ks.length := by rw [← hJ, pk_un (by decide), pk_un (by decide), pk_us]
  have hJ68 : J 68 = nI 1 := by rw [← hJ, pk_un (by decide), pk_us]
  have hJ69 : J 69 = nI (kfw T).length := by rw [← hJ, pk_us]
  have hend : ∀ (A1 : Nat → Nat → Int32) (z1 z2 z3 z4 : Option Value), fa [70, 71, 72, 73, 74, 75] A A1 → sg (A1 70) 0 (kfw T) → (∀ i, i < gs.length → A1 71 i = bb_t gs[i]? ∧ A1 72 i = nI (bb_w gs[i]?).length ∧ sg (A1 73) (160 * i) (bb_w gs[i]?)) → (∀ (i : Nat) (X : kt_T), Ks[i]? = some X → A1 74 i = os (kcl T X) ∧ ((kcl T X).getD []).length ≤ 192 ∧ sg (A1 75) (192 * i) ((kcl T X).getD [])) → rz_T w d 0 0 m_Mod_keepMade 0 0 308 [some (.ref a), z1, z2, z3, z4] [] (re_put G a J A1) Q := by
    intro A1 z1 z2 z3 z4 a1 x1 x2 x3
    refine rz_blk' [(.return_, 1, 0, 0)] (by decide +kernel) (Nat.le_refl _) (Nat.le_refl _) (fun K R hK hR => ?_)
    simp only [↓rx_nil, ↓rx_return_, rz_set, rz_nol, rz_clr, List.set_cons_zero, List.set_cons_succ, rz_tr, Nat.reduceAdd, Int.reduceAdd, Int.reduceToNat, Int.reduceSub, Int.reduceNeg, Int.cast_ofNat_Int]
    try simp (disch := omega) only [pk_us, pk_un, va_up_self, va_up_ne, nI_add, pk_mul, nI_clamp, vp_inT, nI_ltI, nI_leI, nI_eqI, pk_sub, true_and, and_true]
    refine hR _ _ (rz_nb_i (by decide)) ?_
    rw [← hQ]
    refine ⟨rfl, J, A1, rfl, hJf, a1, ?_, ?_, ?_, ?_, hJ69, by show (kfw T).length ≤ 64; omega, x1, fun i hi => ?_, fun i f hf => ?_⟩
    · obtain ⟨n, hn, e⟩ := h46
      exact ⟨n, hn, by rw [hJf 46 rfl]; exact e⟩
    · rw [hJ67]; simp
    · simp; exact k40
    · rw [hJ68]
      simp only [List.length_map]
      rw [decide_eq_true (by omega)]; rfl
    · simp only [List.length_map] at hi
      obtain ⟨y1, y2, y3⟩ := x2 i (by omega)
      have := (hg i (by omega)).2.2.1
      exact ⟨y1, y2, by show (bb_w gs[i]?).length ≤ 160; omega, y3⟩
    · simp only [List.getElem?_map] at hf
      cases hc : Ks[i]? with
      | none => rw [hc] at hf; simp at hf
      | some X =>
        rw [hc] at hf
        simp at hf
        subst hf
        exact x3 i X hc
  have cl : ∀ (j i : Nat) (A1 : Nat → Nat → Int32) (z2 z3 z4 : Option Value), i + j = Ks.length → fa [70, 71, 72, 73, 74, 75] A A1 → sg (A1 70) 0 (kfw T) → (∀ i, i < gs.length → A1 71 i = bb_t gs[i]? ∧ A1 72 i = nI (bb_w gs[i]?).length ∧ sg (A1 73) (160 * i) (bb_w gs[i]?)) → (∀ (c : Nat) (X : kt_T), c < i → Ks[c]? = some X → A1 74 c = os (kcl T X) ∧ ((kcl T X).getD []).length ≤ 192 ∧ sg (A1 75) (192 * c) ((kcl T X).getD [])) → rz_T w d 0 0 m_Mod_keepMade 0 0 150 [some (.ref a), some (.int (nI i)), z2, z3, z4] [] (re_put G a J A1) Q := by
    intro j
    induction j with
    | zero =>
      intro i A1 z2 z3 z4 hij a1 x1 x2 x3
      refine rz_blk' [(.iload_n 1, 1, 0, 0), (.aload_n 0, 1, 0, 0), (.getfield 388, 3, 10, 67), (.if_icmp .ge 153, 3, 0, 0)] (by decide +kernel) (Nat.le_refl _) (Nat.le_refl _) (fun K R hK hR => ?_)
      simp only [↓rx_aload_n0, ↓rx_getfield, ↓rx_if_icmp_ge, ↓rx_iload_n1, ↓rx_nil, ↓ry_i2, ↓ry_li0s, ↓ry_li0z, ↓ry_lr0s, ↓ry_lr0z, ↓ry_obu, ↓ry_r1, ↓re_F67, ↓re_ob, hJ67, rz_set, rz_nol, rz_clr, List.set_cons_zero, List.set_cons_succ, rz_tr, Nat.reduceAdd, Int.reduceAdd, Int.reduceToNat, Int.reduceSub, Int.reduceNeg, Int.cast_ofNat_Int]
      try simp (disch := omega) only [hJ67, pk_us, pk_un, va_up_self, va_up_ne, nI_add, pk_mul, nI_clamp, vp_inT, nI_ltI, nI_leI, nI_eqI, pk_sub, true_and, and_true]
      refine ⟨fun q1 => hK _ _ _ _ ?_, fun q1 => by omega⟩
      exact hend A1 _ _ _ _ a1 x1 x2 (fun c X hX => x3 c X (by have := (List.getElem?_eq_some_iff.mp hX).1; omega) hX)
    | succ j ih =>
      intro i A1 z2 z3 z4 hij a1 x1 x2 x3
      have hiK : i < Ks.length := by omega
      obtain ⟨X, hX⟩ : ∃ X, Ks[i]? = some X := ⟨_, List.getElem?_eq_getElem hiK⟩
      have sl : ∀ (j s : Nat) (rr : Option (List Nat)) (A2 : Nat → Nat → Int32) (z3 z4 : Option Value), s + j = 6 → rr = (List.range s).foldl (kc_1 T X) none → fa [74, 75] A1 A2 → A2 74 i = os rr → (rr.getD []).length ≤ 192 → sg (A2 75) (192 * i) (rr.getD []) → (∀ c, c < i → A2 74 c = A1 74 c) → (∀ y, y < 192 * i → A2 75 y = A1 75 y) → rz_T w d 0 0 m_Mod_keepMade 0 0 167 [some (.ref a), some (.int (nI i)), some (.int (nI s)), z3, z4] [] (re_put G a J A2) Q := by
        intro j
        induction j with
        | zero =>
          intro s rr A2 z3 z4 hsj hrr a2 y1 y2 y3 y4 y5
          have hs : s = 6 := by omega
          subst hs
          have hrr : kcl T X = rr := hrr.symm
          refine rz_blk' [(.iload_n 2, 1, 0, 0), (.bipush 6, 2, 0, 0), (.if_icmp .ge 132, 3, 0, 0)] (by decide +kernel) (Nat.le_refl _) (Nat.le_refl _) (fun K R hK hR => ?_)
          simp only [rw_b6, ↓rx_bipush, ↓rx_if_icmp_ge, ↓rx_iload_n2, ↓rx_nil, ↓ry_i2, ↓ry_li0s, ↓ry_li0z, rz_set, rz_nol, rz_clr, List.set_cons_zero, List.set_cons_succ, rz_tr, Nat.reduceAdd, Int.reduceAdd, Int.reduceToNat, Int.reduceSub, Int.reduceNeg, Int.cast_ofNat_Int]
          try simp (disch := omega) only [pk_us, pk_un, va_up_self, va_up_ne, nI_add, pk_mul, nI_clamp, vp_inT, nI_ltI, nI_leI, nI_eqI, pk_sub, true_and, and_true]
          refine ⟨fun q2 => hK _ _ _ _ ?_, fun q2 => by omega⟩
          refine rz_blk' [(.iinc 1 1, 3, 0, 0)] (by decide +kernel) (Nat.le_refl _) (Nat.le_refl _) (fun K R hK hR => ?_)
          simp only [rw_c1, ↓rx_iinc, ↓rx_nil, ↓ry_li0s, ↓ry_li0z, rz_set, rz_nol, rz_clr, List.set_cons_zero, List.set_cons_succ, rz_tr, Nat.reduceAdd, Int.reduceAdd, Int.reduceToNat, Int.reduceSub, Int.reduceNeg, Int.cast_ofNat_Int]
          try simp (disch := omega) only [pk_us, pk_un, va_up_self, va_up_ne, nI_add, pk_mul, nI_clamp, vp_inT, nI_ltI, nI_leI, nI_eqI, pk_sub, true_and, and_true]
          refine hK _ _ _ _ ?_
          refine rz_blk' [(.goto (-155), 3, 0, 0)] (by decide +kernel) (Nat.le_refl _) (Nat.le_refl _) (fun K R hK hR => ?_)
          simp only [↓rx_goto, ↓rx_nil, rz_set, rz_nol, rz_clr, List.set_cons_zero, List.set_cons_succ, rz_tr, Nat.reduceAdd, Int.reduceAdd, Int.reduceToNat, Int.reduceSub, Int.reduceNeg, Int.cast_ofNat_Int]
          try simp (disch := omega) only [pk_us, pk_un, va_up_self, va_up_ne, nI_add, pk_mul, nI_clamp, vp_inT, nI_ltI, nI_leI, nI_eqI, pk_sub, true_and, and_true]
          refine hK _ _ _ _ ?_
          refine ih (i + 1) A2 _ _ _ (by omega) (a1.t a2 rfl) (by rw [a2 70 rfl]; exact x1) (fun i hi => by rw [a2 71 rfl, a2 72 rfl, a2 73 rfl]; exact x2 i hi) (fun c Y hc hY => ?_)
          by_cases ci : c = i
          · subst ci
            rw [hX] at hY
            cases hY
            rw [hrr]; exact ⟨y1, y2, y3⟩
          · obtain ⟨z1, z2, z3⟩ := x3 c Y (by omega) hY
            exact ⟨by rw [y4 c (by omega)]; exact z1, z2, z3.k (fun y q1 q2 => y5 y (by omega))⟩
        | succ j ihs =>
          intro s rr A2 z3 z4 hsj hrr a2 y1 y2 y3 y4 y5
          have hs6 : s < 6 := by omega
          have hkx := kt_keep (hk i X hX) ((a2 77 rfl).trans (a1 77 rfl)) ((a2 78 rfl).trans (a1 78 rfl))
          obtain ⟨p1, p2, p3, p4⟩ := hkx s hs6
          obtain ⟨q1, q2⟩ := t.2.2.2.1 s hs6
          rw [Nat.mul_zero, Nat.zero_add] at q1 q2
          have f21 : A2 21 = A 21 := (a2 21 rfl).trans (a1 21 rfl)
          have f22 : A2 22 = A 22 := (a2 22 rfl).trans (a1 22 rfl)
          have s1 := kt_os hkx hs6
          have s2 : (os (T.2.2.1 s) < 0) = (T.2.2.1 s = none) := os_lt (fun xs hx => by have := (w1.2.2.2.2.1 _ xs hx).1; omega)
          have hstep : (List.range (s + 1)).foldl (kc_1 T X) none = kc_1 T X rr s := by rw [List.range_succ, List.foldl_append, ← hrr]; rfl
          have hskip : (X s = none ∨ T.2.2.1 s = none) → ∀ z3 z4, rz_T w d 0 0 m_Mod_keepMade 0 0 167 [some (.ref a), some (.int (nI i)), some (.int (nI (s + 1))), z3, z4] [] (re_put G a J A2) Q := by
            intro hno z3 z4
            refine ihs (s + 1) rr A2 z3 z4 (by omega) ?_ a2 y1 y2 y3 y4 y5
            rw [hstep]
            unfold kc_1
            rcases hno with e | e
            · rw [e]
            · rw [e]; cases X s <;> rfl
          have hadd : ∀ u f, X s = some u → T.2.2.1 s = some f → rz_T w d 0 0 m_Mod_keepMade 0 0 198 [some (.ref a), some (.int (nI i)), some (.int (nI s)), some (.int (nI (6 * i + s))), z4] [] (re_put G a J A2) Q := by
            intro u f hu hf
            rw [hu] at p1 p2 p3 p4
            rw [hf] at q1 q2
            have p1 : A2 77 (6 * i + s) = nI u.length := p1
            have q1 : A 21 s = nI f.length := q1
            simp only [Option.getD_some] at p2 p3 p4 q2
            have hf21 := (w1.2.2.2.2.1 _ f hf).1
            have hstep2 : kc_1 T X rr s = some (u ++ f) := by unfold kc_1; rw [hu, hf]
            have wl : ∀ (j k : Nat), k + j = u.length + f.length → rz_T w d 0 0 m_Mod_keepMade 0 0 220 [some (.ref a), some (.int (nI i)), some (.int (nI s)), some (.int (nI (6 * i + s))), some (.int (nI k))] [] (re_put G a J (va_up (va_up A2 74 (upd (A2 74) i (nI (u.length + f.length)))) 75 (cp (A2 75) (192 * i) (wsg (u ++ f)) 0 k))) Q := by
              intro j
              induction j with
              | zero =>
                intro k hkj
                have hk2 : k = (u ++ f).length := by rw [List.length_append]; omega
                subst hk2
                refine rz_blk' [(.iload 4, 2, 0, 0), (.aload_n 0, 1, 0, 0), (.getfield 184, 3, 10, 74), (.iload_n 1, 1, 0, 0), (.iaload, 1, 0, 0), (.if_icmp .ge 68, 3, 0, 0)] (by decide +kernel) (Nat.le_refl _) (Nat.le_refl _) (fun K R hK hR => ?_)
                simp only [↓rx_aload_n0, ↓rx_getfield, ↓rx_iaload, ↓rx_if_icmp_ge, ↓rx_iload, ↓rx_iload_n1, ↓rx_nil, ↓ry_i2, ↓ry_iau, ↓ry_li0s, ↓ry_li0z, ↓ry_lr0s, ↓ry_lr0z, ↓ry_obu, ↓ry_r1, ↓ry_ri, true_and, re_a74, ↓re_F74, ↓re_i74, ↓re_ob, re_a74, ↓re_i74, rz_set, rz_nol, rz_clr, List.set_cons_zero, List.set_cons_succ, rz_tr, Nat.reduceAdd, Int.reduceAdd, Int.reduceToNat, Int.reduceSub, Int.reduceNeg, Int.cast_ofNat_Int]
                try simp (disch := omega) only [List.length_append, pk_us, pk_un, va_up_self, va_up_ne, nI_add, pk_mul, nI_clamp, vp_inT, nI_ltI, nI_leI, nI_eqI, pk_sub, true_and, and_true]
                refine ⟨fun q3 => hK _ _ _ _ ?_, fun q3 => by omega⟩
                refine rz_blk' [(.iinc 2 1, 3, 0, 0)] (by decide +kernel) (Nat.le_refl _) (Nat.le_refl _) (fun K R hK hR => ?_)
                simp only [rw_c1, ↓rx_iinc, ↓rx_nil, ↓ry_li0s, ↓ry_li0z, re_a74, ↓re_i74, rz_set, rz_nol, rz_clr, List.set_cons_zero, List.set_cons_succ, rz_tr, Nat.reduceAdd, Int.reduceAdd, Int.reduceToNat, Int.reduceSub, Int.reduceNeg, Int.cast_ofNat_Int]
                try simp (disch := omega) only [List.length_append, pk_us, pk_un, va_up_self, va_up_ne, nI_add, pk_mul, nI_clamp, vp_inT, nI_ltI, nI_leI, nI_eqI, pk_sub, true_and, and_true]
                refine hK _ _ _ _ ?_
                refine rz_blk' [(.goto (-132), 3, 0, 0)] (by decide +kernel) (Nat.le_refl _) (Nat.le_refl _) (fun K R hK hR => ?_)
                simp only [↓rx_goto, ↓rx_nil, re_a74, ↓re_i74, rz_set, rz_nol, rz_clr, List.set_cons_zero, List.set_cons_succ, rz_tr, Nat.reduceAdd, Int.reduceAdd, Int.reduceToNat, Int.reduceSub, Int.reduceNeg, Int.cast_ofNat_Int]
                try simp (disch := omega) only [List.length_append, pk_us, pk_un, va_up_self, va_up_ne, nI_add, pk_mul, nI_clamp, vp_inT, nI_ltI, nI_leI, nI_eqI, pk_sub, true_and, and_true]
                refine hK _ _ _ _ ?_
                refine ihs (s + 1) (some (u ++ f)) _ _ _ (by omega) (by rw [hstep, hstep2]) ((a2.u rfl).u rfl) ?_ ?_ ?_ (fun c hc => ?_) (fun y hy => ?_)
                · rw [va_up_ne _ _ (by decide), va_up_self, pk_us]; simp only [os, List.length_append]
                · simp; omega
                · rw [va_up_self]; exact sg_cp sg_wsg (by simp)
                · rw [va_up_ne _ _ (by decide), va_up_self, pk_un (by omega)]; exact y4 c hc
                · rw [va_up_self, cp_out (by omega)]; exact y5 y hy
              | succ j ihk =>
                intro k hkj
                have hkF : k < (u ++ f).length := by rw [List.length_append]; omega
                have ihk := ihk (k + 1) (by omega)
                rw [← cp_s, Nat.zero_add, wsg_at hkF] at ihk
                by_cases cu : k < u.length
                · have e1 : A2 78 (160 * (6 * i + s) + k) = nI (u ++ f)[k] := by rw [p2 k cu, List.getElem_append_left cu]
                  refine rz_blk' [(.iload 4, 2, 0, 0), (.aload_n 0, 1, 0, 0), (.getfield 184, 3, 10, 74), (.iload_n 1, 1, 0, 0), (.iaload, 1, 0, 0), (.if_icmp .ge 68, 3, 0, 0)] (by decide +kernel) (Nat.le_refl _) (Nat.le_refl _) (fun K R hK hR => ?_)
                  simp only [↓rx_aload_n0, ↓rx_getfield, ↓rx_iaload, ↓rx_if_icmp_ge, ↓rx_iload, ↓rx_iload_n1, ↓rx_nil, ↓ry_i2, ↓ry_iau, ↓ry_li0s, ↓ry_li0z, ↓ry_lr0s, ↓ry_lr0z, ↓ry_obu, ↓ry_r1, ↓ry_ri, true_and, re_a74, ↓re_F74, ↓re_i74, ↓re_ob, p1, e1, re_a74, re_a75, ↓re_i74, ↓re_i75, rz_set, rz_nol, rz_clr, List.set_cons_zero, List.set_cons_succ, rz_tr, Nat.reduceAdd, Int.reduceAdd, Int.reduceToNat, Int.reduceSub, Int.reduceNeg, Int.cast_ofNat_Int]
                  try simp (disch := omega) only [p1, e1, pk_us, pk_un, va_up_self, va_up_ne, nI_add, pk_mul, nI_clamp, vp_inT, nI_ltI, nI_leI, nI_eqI, pk_sub, true_and, and_true]
                  refine ⟨fun q4 => by omega, fun q4 => hK _ _ _ _ ?_⟩
                  refine rz_blk' [(.aload_n 0, 1, 0, 0), (.getfield 187, 3, 10, 75), (.sipush 192, 3, 0, 0), (.iload_n 1, 1, 0, 0), (.imul, 1, 0, 0), (.iload 4, 2, 0, 0), (.iadd, 1, 0, 0), (.iload 4, 2, 0, 0), (.aload_n 0, 1, 0, 0), (.getfield 190, 3, 10, 77), (.iload_n 3, 1, 0, 0), (.iaload, 1, 0, 0), (.if_icmp .ge 19, 3, 0, 0)] (by decide +kernel) (Nat.le_refl _) (Nat.le_refl _) (fun K R hK hR => ?_)
                  simp only [rw_s192, ↓rx_aload_n0, ↓rx_getfield, ↓rx_iadd, ↓rx_iaload, ↓rx_if_icmp_ge, ↓rx_iload, ↓rx_iload_n1, ↓rx_iload_n3, ↓rx_imul, ↓rx_nil, ↓rx_sipush, ↓ry_i2, ↓ry_iau, ↓ry_li0s, ↓ry_li0z, ↓ry_lr0s, ↓ry_lr0z, ↓ry_obu, ↓ry_r1, ↓ry_ri, true_and, re_a75, re_a77, ↓re_F75, ↓re_F77, ↓re_i75, ↓re_i77, ↓re_ob, p1, e1, re_a74, re_a75, ↓re_i74, ↓re_i75, rz_set, rz_nol, rz_clr, List.set_cons_zero, List.set_cons_succ, rz_tr, Nat.reduceAdd, Int.reduceAdd, Int.reduceToNat, Int.reduceSub, Int.reduceNeg, Int.cast_ofNat_Int]
                  try simp (disch := omega) only [p1, e1, pk_us, pk_un, va_up_self, va_up_ne, nI_add, pk_mul, nI_clamp, vp_inT, nI_ltI, nI_leI, nI_eqI, pk_sub, true_and, and_true]
                  refine ⟨fun q5 => by omega, fun q5 => hK _ _ _ _ ?_⟩
                  refine rz_blk' [(.aload_n 0, 1, 0, 0), (.getfield 194, 3, 10, 78), (.sipush 160, 3, 0, 0), (.iload_n 3, 1, 0, 0), (.imul, 1, 0, 0), (.iload 4, 2, 0, 0), (.iadd, 1, 0, 0), (.iaload, 1, 0, 0), (.goto 22, 3, 0, 0)] (by decide +kernel) (Nat.le_refl _) (Nat.le_refl _) (fun K R hK hR => ?_)
                  simp only [rw_s160, ↓rx_aload_n0, ↓rx_getfield, ↓rx_goto, ↓rx_iadd, ↓rx_iaload, ↓rx_iload, ↓rx_iload_n3, ↓rx_imul, ↓rx_nil, ↓rx_sipush, ↓ry_i2, ↓ry_iau, ↓ry_li0s, ↓ry_li0z, ↓ry_lr0s, ↓ry_lr0z, ↓ry_obu, ↓ry_r1, ↓ry_ri, true_and, re_a78, ↓re_F78, ↓re_i78, ↓re_ob, p1, e1, re_a74, re_a75, ↓re_i74, ↓re_i75, rz_set, rz_nol, rz_clr, List.set_cons_zero, List.set_cons_succ, rz_tr, Nat.reduceAdd, Int.reduceAdd, Int.reduceToNat, Int.reduceSub, Int.reduceNeg, Int.cast_ofNat_Int]
                  try simp (disch := omega) only [p1, e1, pk_us, pk_un, va_up_self, va_up_ne, nI_add, pk_mul, nI_clamp, vp_inT, nI_ltI, nI_leI, nI_eqI, pk_sub, true_and, and_true]
                  refine hK _ _ _ _ ?_
                  refine rz_blk' [(.iastore, 1, 0, 0)] (by decide +kernel) (Nat.le_refl _) (Nat.le_refl _) (fun K R hK hR => ?_)
                  simp only [↓rx_iastore, ↓rx_nil, ↓ry_iau, ↓ry_rii, true_and, p1, e1, re_a74, re_a75, ↓re_i74, ↓re_i75, rz_set, rz_nol, rz_clr, List.set_cons_zero, List.set_cons_succ, rz_tr, Nat.reduceAdd, Int.reduceAdd, Int.reduceToNat, Int.reduceSub, Int.reduceNeg, Int.cast_ofNat_Int]
                  try simp (disch := omega) only [p1, e1, pk_us, pk_un, va_up_self, va_up_ne, nI_add, pk_mul, nI_clamp, vp_inT, nI_ltI, nI_leI, nI_eqI, pk_sub, true_and, and_true]
                  refine hK _ _ _ _ ?_
                  refine rz_blk' [(.iinc 4 1, 3, 0, 0)] (by decide +kernel) (Nat.le_refl _) (Nat.le_refl _) (fun K R hK hR => ?_)
                  simp only [rw_c1, ↓rx_iinc, ↓rx_nil, ↓ry_li0s, ↓ry_li0z, p1, e1, re_a74, re_a75, ↓re_i74, ↓re_i75, rz_set, rz_nol, rz_clr, List.set_cons_zero, List.set_cons_succ, rz_tr, Nat.reduceAdd, Int.reduceAdd, Int.reduceToNat, Int.reduceSub, Int.reduceNeg, Int.cast_ofNat_Int]
                  try simp (disch := omega) only [p1, e1, pk_us, pk_un, va_up_self, va_up_ne, nI_add, pk_mul, nI_clamp, vp_inT, nI_ltI, nI_leI, nI_eqI, pk_sub, true_and, and_true]
                  refine hK _ _ _ _ ?_
                  refine rz_blk' [(.goto (-73), 3, 0, 0)] (by decide +kernel) (Nat.le_refl _) (Nat.le_refl _) (fun K R hK hR => ?_)
                  simp only [↓rx_goto, ↓rx_nil, p1, e1, re_a74, re_a75, ↓re_i74, ↓re_i75, rz_set, rz_nol, rz_clr, List.set_cons_zero, List.set_cons_succ, rz_tr, Nat.reduceAdd, Int.reduceAdd, Int.reduceToNat, Int.reduceSub, Int.reduceNeg, Int.cast_ofNat_Int]
                  try simp (disch := omega) only [p1, e1, pk_us, pk_un, va_up_self, va_up_ne, nI_add, pk_mul, nI_clamp, vp_inT, nI_ltI, nI_leI, nI_eqI, pk_sub, true_and, and_true]
                  refine hK _ _ _ _ ?_
                  rw [re_vv]
                  exact ihk
                · have hkv : k - u.length < f.length := by omega
                  have e1 : A 22 (32 * s + k - u.length) = nI (u ++ f)[k] := by
                    rw [show 32 * s + k - u.length = 32 * s + (k - u.length) by omega, q2 _ hkv, List.getElem_append_right (by omega)]
                  refine rz_blk' [(.iload 4, 2, 0, 0), (.aload_n 0, 1, 0, 0), (.getfield 184, 3, 10, 74), (.iload_n 1, 1, 0, 0), (.iaload, 1, 0, 0), (.if_icmp .ge 68, 3, 0, 0)] (by decide +kernel) (Nat.le_refl _) (Nat.le_refl _) (fun K R hK hR => ?_)
                  simp only [↓rx_aload_n0, ↓rx_getfield, ↓rx_iaload, ↓rx_if_icmp_ge, ↓rx_iload, ↓rx_iload_n1, ↓rx_nil, ↓ry_i2, ↓ry_iau, ↓ry_li0s, ↓ry_li0z, ↓ry_lr0s, ↓ry_lr0z, ↓ry_obu, ↓ry_r1, ↓ry_ri, true_and, re_a74, ↓re_F74, ↓re_i74, ↓re_ob, p1, f22, e1, re_a74, re_a75, ↓re_i74, ↓re_i75, rz_set, rz_nol, rz_clr, List.set_cons_zero, List.set_cons_succ, rz_tr, Nat.reduceAdd, Int.reduceAdd, Int.reduceToNat, Int.reduceSub, Int.reduceNeg, Int.cast_ofNat_Int]
                  try simp (disch := omega) only [p1, f22, e1, pk_us, pk_un, va_up_self, va_up_ne, nI_add, pk_mul, nI_clamp, vp_inT, nI_ltI, nI_leI, nI_eqI, pk_sub, true_and, and_true]
                  refine ⟨fun q6 => by omega, fun q6 => hK _ _ _ _ ?_⟩
                  refine rz_blk' [(.aload_n 0, 1, 0, 0), (.getfield 187, 3, 10, 75), (.sipush 192, 3, 0, 0), (.iload_n 1, 1, 0, 0), (.imul, 1, 0, 0), (.iload 4, 2, 0, 0), (.iadd, 1, 0, 0), (.iload 4, 2, 0, 0), (.aload_n 0, 1, 0, 0), (.getfield 190, 3, 10, 77), (.iload_n 3, 1, 0, 0), (.iaload, 1, 0, 0), (.if_icmp .ge 19, 3, 0, 0)] (by decide +kernel) (Nat.le_refl _) (Nat.le_refl _) (fun K R hK hR => ?_)
                  simp only [rw_s192, ↓rx_aload_n0, ↓rx_getfield, ↓rx_iadd, ↓rx_iaload, ↓rx_if_icmp_ge, ↓rx_iload, ↓rx_iload_n1, ↓rx_iload_n3, ↓rx_imul, ↓rx_nil, ↓rx_sipush, ↓ry_i2, ↓ry_iau, ↓ry_li0s, ↓ry_li0z, ↓ry_lr0s, ↓ry_lr0z, ↓ry_obu, ↓ry_r1, ↓ry_ri, true_and, re_a75, re_a77, ↓re_F75, ↓re_F77, ↓re_i75, ↓re_i77, ↓re_ob, p1, f22, e1, re_a74, re_a75, ↓re_i74, ↓re_i75, rz_set, rz_nol, rz_clr, List.set_cons_zero, List.set_cons_succ, rz_tr, Nat.reduceAdd, Int.reduceAdd, Int.reduceToNat, Int.reduceSub, Int.reduceNeg, Int.cast_ofNat_Int]
                  try simp (disch := omega) only [p1, f22, e1, pk_us, pk_un, va_up_self, va_up_ne, nI_add, pk_mul, nI_clamp, vp_inT, nI_ltI, nI_leI, nI_eqI, pk_sub, true_and, and_true]
                  refine ⟨fun q7 => hK _ _ _ _ ?_, fun q7 => by omega⟩
                  refine rz_blk' [(.aload_n 0, 1, 0, 0), (.getfield 71, 3, 10, 22), (.bipush 32, 2, 0, 0), (.iload_n 2, 1, 0, 0), (.imul, 1, 0, 0), (.iload 4, 2, 0, 0), (.iadd, 1, 0, 0), (.aload_n 0, 1, 0, 0), (.getfield 190, 3, 10, 77), (.iload_n 3, 1, 0, 0), (.iaload, 1, 0, 0), (.isub, 1, 0, 0), (.iaload, 1, 0, 0), (.iastore, 1, 0, 0)] (by decide +kernel) (Nat.le_refl _) (Nat.le_refl _) (fun K R hK hR => ?_)
                  simp only [rw_b32, ↓rx_aload_n0, ↓rx_bipush, ↓rx_getfield, ↓rx_iadd, ↓rx_iaload, ↓rx_iastore, ↓rx_iload, ↓rx_iload_n2, ↓rx_iload_n3, ↓rx_imul, ↓rx_isub, ↓rx_nil, ↓ry_i2, ↓ry_iau, ↓ry_li0s, ↓ry_li0z, ↓ry_lr0s, ↓ry_lr0z, ↓ry_obu, ↓ry_r1, ↓ry_ri, ↓ry_rii, true_and, re_a22, re_a77, ↓re_F22, ↓re_F77, ↓re_i22, ↓re_i77, ↓re_ob, p1, f22, e1, re_a74, re_a75, ↓re_i74, ↓re_i75, rz_set, rz_nol, rz_clr, List.set_cons_zero, List.set_cons_succ, rz_tr, Nat.reduceAdd, Int.reduceAdd, Int.reduceToNat, Int.reduceSub, Int.reduceNeg, Int.cast_ofNat_Int]
                  try simp (disch := omega) only [p1, f22, e1, pk_us, pk_un, va_up_self, va_up_ne, nI_add, pk_mul, nI_clamp, vp_inT, nI_ltI, nI_leI, nI_eqI, pk_sub, true_and, and_true]
                  refine hK _ _ _ _ ?_
                  refine rz_blk' [(.iinc 4 1, 3, 0, 0)] (by decide +kernel) (Nat.le_refl _) (Nat.le_refl _) (fun K R hK hR => ?_)
                  simp only [rw_c1, ↓rx_iinc, ↓rx_nil, ↓ry_li0s, ↓ry_li0z, p1, f22, e1, re_a74, re_a75, ↓re_i74, ↓re_i75, rz_set, rz_nol, rz_clr, List.set_cons_zero, List.set_cons_succ, rz_tr, Nat.reduceAdd, Int.reduceAdd, Int.reduceToNat, Int.reduceSub, Int.reduceNeg, Int.cast_ofNat_Int]
                  try simp (disch := omega) only [p1, f22, e1, pk_us, pk_un, va_up_self, va_up_ne, nI_add, pk_mul, nI_clamp, vp_inT, nI_ltI, nI_leI, nI_eqI, pk_sub, true_and, and_true]
                  refine hK _ _ _ _ ?_
                  refine rz_blk' [(.goto (-73), 3, 0, 0)] (by decide +kernel) (Nat.le_refl _) (Nat.le_refl _) (fun K R hK hR => ?_)
                  simp only [↓rx_goto, ↓rx_nil, p1, f22, e1, re_a74, re_a75, ↓re_i74, ↓re_i75, rz_set, rz_nol, rz_clr, List.set_cons_zero, List.set_cons_succ, rz_tr, Nat.reduceAdd, Int.reduceAdd, Int.reduceToNat, Int.reduceSub, Int.reduceNeg, Int.cast_ofNat_Int]
                  try simp (disch := omega) only [p1, f22, e1, pk_us, pk_un, va_up_self, va_up_ne, nI_add, pk_mul, nI_clamp, vp_inT, nI_ltI, nI_leI, nI_eqI, pk_sub, true_and, and_true]
                  refine hK _ _ _ _ ?_
                  rw [re_vv]
                  exact ihk
            refine rz_blk' [(.aload_n 0, 1, 0, 0), (.getfield 184, 3, 10, 74), (.iload_n 1, 1, 0, 0), (.aload_n 0, 1, 0, 0), (.getfield 190, 3, 10, 77), (.iload_n 3, 1, 0, 0), (.iaload, 1, 0, 0), (.aload_n 0, 1, 0, 0), (.getfield 68, 3, 10, 21), (.iload_n 2, 1, 0, 0), (.iaload, 1, 0, 0), (.iadd, 1, 0, 0), (.iastore, 1, 0, 0)] (by decide +kernel) (Nat.le_refl _) (Nat.le_refl _) (fun K R hK hR => ?_)
            simp only [↓rx_aload_n0, ↓rx_getfield, ↓rx_iadd, ↓rx_iaload, ↓rx_iastore, ↓rx_iload_n1, ↓rx_iload_n2, ↓rx_iload_n3, ↓rx_nil, ↓ry_i2, ↓ry_iau, ↓ry_li0s, ↓ry_li0z, ↓ry_lr0s, ↓ry_lr0z, ↓ry_obu, ↓ry_r1, ↓ry_ri, ↓ry_rii, true_and, re_a21, re_a74, re_a77, ↓re_F21, ↓re_F74, ↓re_F77, ↓re_i21, ↓re_i74, ↓re_i77, ↓re_ob, p1, f21, q1, re_a74, ↓re_i74, rz_set, rz_nol, rz_clr, List.set_cons_zero, List.set_cons_succ, rz_tr, Nat.reduceAdd, Int.reduceAdd, Int.reduceToNat, Int.reduceSub, Int.reduceNeg, Int.cast_ofNat_Int]
            try simp (disch := omega) only [p1, f21, q1, pk_us, pk_un, va_up_self, va_up_ne, nI_add, pk_mul, nI_clamp, vp_inT, nI_ltI, nI_leI, nI_eqI, pk_sub, true_and, and_true]
            refine hK _ _ _ _ ?_
            refine rz_blk' [(.iconst 0, 1, 0, 0), (.istore 4, 2, 0, 0)] (by decide +kernel) (Nat.le_refl _) (Nat.le_refl _) (fun K R hK hR => ?_)
            simp only [rw_c0, ↓rx_iconst, ↓rx_istore, ↓rx_nil, ↓ry_i1, p1, f21, q1, re_a74, ↓re_i74, rz_set, rz_nol, rz_clr, List.set_cons_zero, List.set_cons_succ, rz_tr, Nat.reduceAdd, Int.reduceAdd, Int.reduceToNat, Int.reduceSub, Int.reduceNeg, Int.cast_ofNat_Int]
            try simp (disch := omega) only [p1, f21, q1, pk_us, pk_un, va_up_self, va_up_ne, nI_add, pk_mul, nI_clamp, vp_inT, nI_ltI, nI_leI, nI_eqI, pk_sub, true_and, and_true]
            refine hK _ _ _ _ ?_
            have hz := wl (u.length + f.length) 0 (Nat.zero_add _)
            have e0 : cp (A2 75) (192 * i) (wsg (u ++ f)) 0 0 = va_up A2 74 (upd (A2 74) i (nI (u.length + f.length))) 75 := by rw [cp_0, va_up_ne _ _ (by decide)]
            rw [e0, re_ve] at hz
            exact hz
          refine rz_blk' [(.iload_n 2, 1, 0, 0), (.bipush 6, 2, 0, 0), (.if_icmp .ge 132, 3, 0, 0)] (by decide +kernel) (Nat.le_refl _) (Nat.le_refl _) (fun K R hK hR => ?_)
          simp only [rw_b6, ↓rx_bipush, ↓rx_if_icmp_ge, ↓rx_iload_n2, ↓rx_nil, ↓ry_i2, ↓ry_li0s, ↓ry_li0z, p1, f21, q1, rz_set, rz_nol, rz_clr, List.set_cons_zero, List.set_cons_succ, rz_tr, Nat.reduceAdd, Int.reduceAdd, Int.reduceToNat, Int.reduceSub, Int.reduceNeg, Int.cast_ofNat_Int]
          try simp (disch := omega) only [p1, f21, q1, s1, s2, pk_us, pk_un, va_up_self, va_up_ne, nI_add, pk_mul, nI_clamp, vp_inT, nI_ltI, nI_leI, nI_eqI, pk_sub, true_and, and_true]
          refine ⟨fun q8 => by omega, fun q8 => hK _ _ _ _ ?_⟩
          refine rz_blk' [(.bipush 6, 2, 0, 0), (.iload_n 1, 1, 0, 0), (.imul, 1, 0, 0), (.iload_n 2, 1, 0, 0), (.iadd, 1, 0, 0), (.istore_n 3, 1, 0, 0)] (by decide +kernel) (Nat.le_refl _) (Nat.le_refl _) (fun K R hK hR => ?_)
          simp only [rw_b6, ↓rx_bipush, ↓rx_iadd, ↓rx_iload_n1, ↓rx_iload_n2, ↓rx_imul, ↓rx_istore_n3, ↓rx_nil, ↓ry_i1, ↓ry_i2, ↓ry_li0s, ↓ry_li0z, p1, f21, q1, rz_set, rz_nol, rz_clr, List.set_cons_zero, List.set_cons_succ, rz_tr, Nat.reduceAdd, Int.reduceAdd, Int.reduceToNat, Int.reduceSub, Int.reduceNeg, Int.cast_ofNat_Int]
          try simp (disch := omega) only [p1, f21, q1, s1, s2, pk_us, pk_un, va_up_self, va_up_ne, nI_add, pk_mul, nI_clamp, vp_inT, nI_ltI, nI_leI, nI_eqI, pk_sub, true_and, and_true]
          refine hK _ _ _ _ ?_
          refine rz_blk' [(.aload_n 0, 1, 0, 0), (.getfield 190, 3, 10, 77), (.iload_n 3, 1, 0, 0), (.iaload, 1, 0, 0), (.ifCond .lt 110, 3, 0, 0)] (by decide +kernel) (Nat.le_refl _) (Nat.le_refl _) (fun K R hK hR => ?_)
          simp only [↓rx_aload_n0, ↓rx_getfield, ↓rx_iaload, ↓rx_ifCond_lt, ↓rx_iload_n3, ↓rx_nil, ↓ry_i1, ↓ry_iau, ↓ry_li0s, ↓ry_li0z, ↓ry_lr0s, ↓ry_lr0z, ↓ry_obu, ↓ry_r1, ↓ry_ri, true_and, re_a77, ↓re_F77, ↓re_i77, ↓re_ob, p1, f21, q1, rz_set, rz_nol, rz_clr, List.set_cons_zero, List.set_cons_succ, rz_tr, Nat.reduceAdd, Int.reduceAdd, Int.reduceToNat, Int.reduceSub, Int.reduceNeg, Int.cast_ofNat_Int]
          try simp (disch := omega) only [p1, f21, q1, s1, s2, pk_us, pk_un, va_up_self, va_up_ne, nI_add, pk_mul, nI_clamp, vp_inT, nI_ltI, nI_leI, nI_eqI, pk_sub, true_and, and_true]
          refine ⟨fun q9 => hK _ _ _ _ ?_, fun q9 => hK _ _ _ _ ?_⟩
          · -- 186 taken
            refine rz_blk' [(.iinc 2 1, 3, 0, 0)] (by decide +kernel) (Nat.le_refl _) (Nat.le_refl _) (fun K R hK hR => ?_)
            simp only [rw_c1, ↓rx_iinc, ↓rx_nil, ↓ry_li0s, ↓ry_li0z, p1, f21, q1, rz_set, rz_nol, rz_clr, List.set_cons_zero, List.set_cons_succ, rz_tr, Nat.reduceAdd, Int.reduceAdd, Int.reduceToNat, Int.reduceSub, Int.reduceNeg, Int.cast_ofNat_Int]
            try simp (disch := omega) only [p1, f21, q1, s1, s2, pk_us, pk_un, va_up_self, va_up_ne, nI_add, pk_mul, nI_clamp, vp_inT, nI_ltI, nI_leI, nI_eqI, pk_sub, true_and, and_true]
            refine hK _ _ _ _ ?_
            refine rz_blk' [(.goto (-132), 3, 0, 0)] (by decide +kernel) (Nat.le_refl _) (Nat.le_refl _) (fun K R hK hR => ?_)
            simp only [↓rx_goto, ↓rx_nil, p1, f21, q1, rz_set, rz_nol, rz_clr, List.set_cons_zero, List.set_cons_succ, rz_tr, Nat.reduceAdd, Int.reduceAdd, Int.reduceToNat, Int.reduceSub, Int.reduceNeg, Int.cast_ofNat_Int]
            try simp (disch := omega) only [p1, f21, q1, s1, s2, pk_us, pk_un, va_up_self, va_up_ne, nI_add, pk_mul, nI_clamp, vp_inT, nI_ltI, nI_leI, nI_eqI, pk_sub, true_and, and_true]
            refine hK _ _ _ _ ?_
            first
              | exact hskip (Or.inl q9) _ _
              | exact hskip (Or.inr q9) _ _
          · -- 186 not taken
            refine rz_blk' [(.aload_n 0, 1, 0, 0), (.getfield 68, 3, 10, 21), (.iload_n 2, 1, 0, 0), (.iaload, 1, 0, 0), (.ifCond .lt 101, 3, 0, 0)] (by decide +kernel) (Nat.le_refl _) (Nat.le_refl _) (fun K R hK hR => ?_)
            simp only [↓rx_aload_n0, ↓rx_getfield, ↓rx_iaload, ↓rx_ifCond_lt, ↓rx_iload_n2, ↓rx_nil, ↓ry_i1, ↓ry_iau, ↓ry_li0s, ↓ry_li0z, ↓ry_lr0s, ↓ry_lr0z, ↓ry_obu, ↓ry_r1, ↓ry_ri, true_and, re_a21, ↓re_F21, ↓re_i21, ↓re_ob, p1, f21, q1, rz_set, rz_nol, rz_clr, List.set_cons_zero, List.set_cons_succ, rz_tr, Nat.reduceAdd, Int.reduceAdd, Int.reduceToNat, Int.reduceSub, Int.reduceNeg, Int.cast_ofNat_Int]
            try simp (disch := omega) only [p1, f21, q1, s1, s2, pk_us, pk_un, va_up_self, va_up_ne, nI_add, pk_mul, nI_clamp, vp_inT, nI_ltI, nI_leI, nI_eqI, pk_sub, true_and, and_true]
            refine ⟨fun q10 => hK _ _ _ _ ?_, fun q10 => hK _ _ _ _ ?_⟩
            · -- 195 taken
              refine rz_blk' [(.iinc 2 1, 3, 0, 0)] (by decide +kernel) (Nat.le_refl _) (Nat.le_refl _) (fun K R hK hR => ?_)
              simp only [rw_c1, ↓rx_iinc, ↓rx_nil, ↓ry_li0s, ↓ry_li0z, p1, f21, q1, rz_set, rz_nol, rz_clr, List.set_cons_zero, List.set_cons_succ, rz_tr, Nat.reduceAdd, Int.reduceAdd, Int.reduceToNat, Int.reduceSub, Int.reduceNeg, Int.cast_ofNat_Int]
              try simp (disch := omega) only [p1, f21, q1, s1, s2, pk_us, pk_un, va_up_self, va_up_ne, nI_add, pk_mul, nI_clamp, vp_inT, nI_ltI, nI_leI, nI_eqI, pk_sub, true_and, and_true]
              refine hK _ _ _ _ ?_
              refine rz_blk' [(.goto (-132), 3, 0, 0)] (by decide +kernel) (Nat.le_refl _) (Nat.le_refl _) (fun K R hK hR => ?_)
              simp only [↓rx_goto, ↓rx_nil, p1, f21, q1, rz_set, rz_nol, rz_clr, List.set_cons_zero, List.set_cons_succ, rz_tr, Nat.reduceAdd, Int.reduceAdd, Int.reduceToNat, Int.reduceSub, Int.reduceNeg, Int.cast_ofNat_Int]
              try simp (disch := omega) only [p1, f21, q1, s1, s2, pk_us, pk_un, va_up_self, va_up_ne, nI_add, pk_mul, nI_clamp, vp_inT, nI_ltI, nI_leI, nI_eqI, pk_sub, true_and, and_true]
              refine hK _ _ _ _ ?_
              first
                | exact hskip (Or.inl q10) _ _
                | exact hskip (Or.inr q10) _ _
            · -- 195 not taken
              obtain ⟨u, hu⟩ := Option.ne_none_iff_exists'.mp q9
              obtain ⟨f, hf⟩ := Option.ne_none_iff_exists'.mp q10
              exact hadd u f hu hf
      refine rz_blk' [(.iload_n 1, 1, 0, 0), (.aload_n 0, 1, 0, 0), (.getfield 388, 3, 10, 67), (.if_icmp .ge 153, 3, 0, 0)] (by decide +kernel) (Nat.le_refl _) (Nat.le_refl _) (fun K R hK hR => ?_)
      simp only [↓rx_aload_n0, ↓rx_getfield, ↓rx_if_icmp_ge, ↓rx_iload_n1, ↓rx_nil, ↓ry_i2, ↓ry_li0s, ↓ry_li0z, ↓ry_lr0s, ↓ry_lr0z, ↓ry_obu, ↓ry_r1, ↓re_F67, ↓re_ob, hJ67, rz_set, rz_nol, rz_clr, List.set_cons_zero, List.set_cons_succ, rz_tr, Nat.reduceAdd, Int.reduceAdd, Int.reduceToNat, Int.reduceSub, Int.reduceNeg, Int.cast_ofNat_Int]
      try simp (disch := omega) only [hJ67, pk_us, pk_un, va_up_self, va_up_ne, nI_add, pk_mul, nI_clamp, vp_inT, nI_ltI, nI_leI, nI_eqI, pk_sub, true_and, and_true]
      refine ⟨fun q11 => by omega, fun q11 => hK _ _ _ _ ?_⟩
      refine rz_blk' [(.aload_n 0, 1, 0, 0), (.getfield 184, 3, 10, 74), (.iload_n 1, 1, 0, 0), (.iconst (-1), 1, 0, 0), (.iastore, 1, 0, 0)] (by decide +kernel) (Nat.le_refl _) (Nat.le_refl _) (fun K R hK hR => ?_)
      simp only [rw_cm1, ↓rx_aload_n0, ↓rx_getfield, ↓rx_iastore, ↓rx_iconst, ↓rx_iload_n1, ↓rx_nil, ↓ry_iau, ↓ry_li0s, ↓ry_li0z, ↓ry_lr0s, ↓ry_lr0z, ↓ry_obu, ↓ry_r1, ↓ry_rii, true_and, re_a74, ↓re_F74, ↓re_i74, ↓re_ob, hJ67, rz_set, rz_nol, rz_clr, List.set_cons_zero, List.set_cons_succ, rz_tr, Nat.reduceAdd, Int.reduceAdd, Int.reduceToNat, Int.reduceSub, Int.reduceNeg, Int.cast_ofNat_Int]
      try simp (disch := omega) only [hJ67, pk_us, pk_un, va_up_self, va_up_ne, nI_add, pk_mul, nI_clamp, vp_inT, nI_ltI, nI_leI, nI_eqI, pk_sub, true_and, and_true]
      refine hK _ _ _ _ ?_
      refine rz_blk' [(.iconst 0, 1, 0, 0), (.istore_n 2, 1, 0, 0)] (by decide +kernel) (Nat.le_refl _) (Nat.le_refl _) (fun K R hK hR => ?_)
      simp only [rw_c0, ↓rx_iconst, ↓rx_istore_n2, ↓rx_nil, ↓ry_i1, hJ67, rz_set, rz_nol, rz_clr, List.set_cons_zero, List.set_cons_succ, rz_tr, Nat.reduceAdd, Int.reduceAdd, Int.reduceToNat, Int.reduceSub, Int.reduceNeg, Int.cast_ofNat_Int]
      try simp (disch := omega) only [hJ67, pk_us, pk_un, va_up_self, va_up_ne, nI_add, pk_mul, nI_clamp, vp_inT, nI_ltI, nI_leI, nI_eqI, pk_sub, true_and, and_true]
      refine hK _ _ _ _ ?_
      refine sl 6 0 none _ _ _ rfl rfl (fa.rf.u rfl) (by rw [va_up_self, pk_us]; rfl) (by simp) sg_nil (fun c hc => ?_) (fun y hy => ?_)
      · rw [va_up_self, pk_un (by omega)]
      · rw [va_up_ne _ _ (by decide)]
  have c2 : ∀ (B : Nat → Nat → Int32) (i n : Nat) (z3 z4 : Option Value), i < 120 → n ≤ 150 → B 72 i = nI n → rz_T w d 0 0 m_Mod_keepMade 0 0 142 [some (.ref a), some (.int (nI i)), some (.int (nI (n))), z3, z4] [] (re_put G a J (va_up B 73 (cp (B 73) (160 * i) (B 81) (160 * i) (n)))) Q → rz_T w d 0 0 m_Mod_keepMade 0 0 102 [some (.ref a), some (.int (nI i)), some (.int (nI 0)), z3, z4] [] (re_put G a J B) Q := by
    intro B i n z3 z4 hi hn b72 hx
    have lp : ∀ (cj cx : Nat), cx + cj = n → rz_T w d 0 0 m_Mod_keepMade 0 0 102 [some (.ref a), some (.int (nI i)), some (.int (nI cx)), z3, z4] [] (re_put G a J (va_up B 73 (cp (B 73) (160 * i) (B 81) (160 * i) cx))) Q := by
      intro cj
      induction cj with
      | zero =>
        intro cx hij
        have hi : cx = n := by omega
        rw [hi]
        refine rz_blk' [(.iload_n 2, 1, 0, 0), (.aload_n 0, 1, 0, 0), (.getfield 178, 3, 10, 72), (.iload_n 1, 1, 0, 0), (.iaload, 1, 0, 0), (.if_icmp .ge 33, 3, 0, 0)] (by decide +kernel) (Nat.le_refl _) (Nat.le_refl _) (fun K R hK hR => ?_)
        simp only [↓rx_aload_n0, ↓rx_getfield, ↓rx_iaload, ↓rx_if_icmp_ge, ↓rx_iload_n1, ↓rx_iload_n2, ↓rx_nil, ↓ry_i2, ↓ry_iau, ↓ry_li0s, ↓ry_li0z, ↓ry_lr0s, ↓ry_lr0z, ↓ry_obu, ↓ry_r1, ↓ry_ri, true_and, re_a72, ↓re_F72, ↓re_i72, ↓re_ob, b72, rz_set, rz_nol, rz_clr, List.set_cons_zero, List.set_cons_succ, rz_tr, Nat.reduceAdd, Int.reduceAdd, Int.reduceToNat, Int.reduceSub, Int.reduceNeg, Int.cast_ofNat_Int]
        try simp (disch := omega) only [b72, pk_us, pk_un, va_up_self, va_up_ne, nI_add, pk_mul, nI_clamp, vp_inT, nI_ltI, nI_leI, nI_eqI, pk_sub, true_and, and_true]
        refine ⟨fun q12 => hK _ _ _ _ ?_, fun q12 => by omega⟩
        exact hx
      | succ cj ih =>
        intro cx hij
        refine rz_blk' [(.iload_n 2, 1, 0, 0), (.aload_n 0, 1, 0, 0), (.getfield 178, 3, 10, 72), (.iload_n 1, 1, 0, 0), (.iaload, 1, 0, 0), (.if_icmp .ge 33, 3, 0, 0)] (by decide +kernel) (Nat.le_refl _) (Nat.le_refl _) (fun K R hK hR => ?_)
        simp only [↓rx_aload_n0, ↓rx_getfield, ↓rx_iaload, ↓rx_if_icmp_ge, ↓rx_iload_n1, ↓rx_iload_n2, ↓rx_nil, ↓ry_i2, ↓ry_iau, ↓ry_li0s, ↓ry_li0z, ↓ry_lr0s, ↓ry_lr0z, ↓ry_obu, ↓ry_r1, ↓ry_ri, true_and, re_a72, ↓re_F72, ↓re_i72, ↓re_ob, b72, rz_set, rz_nol, rz_clr, List.set_cons_zero, List.set_cons_succ, rz_tr, Nat.reduceAdd, Int.reduceAdd, Int.reduceToNat, Int.reduceSub, Int.reduceNeg, Int.cast_ofNat_Int]
        try simp (disch := omega) only [b72, pk_us, pk_un, va_up_self, va_up_ne, nI_add, pk_mul, nI_clamp, vp_inT, nI_ltI, nI_leI, nI_eqI, pk_sub, true_and, and_true]
        refine ⟨fun q13 => by omega, fun q13 => hK _ _ _ _ ?_⟩
        refine rz_blk' [(.aload_n 0, 1, 0, 0), (.getfield 181, 3, 10, 73), (.sipush 160, 3, 0, 0), (.iload_n 1, 1, 0, 0), (.imul, 1, 0, 0), (.iload_n 2, 1, 0, 0), (.iadd, 1, 0, 0), (.aload_n 0, 1, 0, 0), (.getfield 203, 3, 10, 81), (.sipush 160, 3, 0, 0), (.iload_n 1, 1, 0, 0), (.imul, 1, 0, 0), (.iload_n 2, 1, 0, 0), (.iadd, 1, 0, 0), (.iaload, 1, 0, 0), (.iastore, 1, 0, 0)] (by decide +kernel) (Nat.le_refl _) (Nat.le_refl _) (fun K R hK hR => ?_)
        simp only [rw_s160, ↓rx_aload_n0, ↓rx_getfield, ↓rx_iadd, ↓rx_iaload, ↓rx_iastore, ↓rx_iload_n1, ↓rx_iload_n2, ↓rx_imul, ↓rx_nil, ↓rx_sipush, ↓ry_i2, ↓ry_iau, ↓ry_li0s, ↓ry_li0z, ↓ry_lr0s, ↓ry_lr0z, ↓ry_obu, ↓ry_r1, ↓ry_ri, ↓ry_rii, true_and, re_a73, re_a81, ↓re_F73, ↓re_F81, ↓re_i73, ↓re_i81, ↓re_ob, b72, rz_set, rz_nol, rz_clr, List.set_cons_zero, List.set_cons_succ, rz_tr, Nat.reduceAdd, Int.reduceAdd, Int.reduceToNat, Int.reduceSub, Int.reduceNeg, Int.cast_ofNat_Int]
        try simp (disch := omega) only [b72, pk_us, pk_un, va_up_self, va_up_ne, nI_add, pk_mul, nI_clamp, vp_inT, nI_ltI, nI_leI, nI_eqI, pk_sub, true_and, and_true]
        refine hK _ _ _ _ ?_
        refine rz_blk' [(.iinc 2 1, 3, 0, 0)] (by decide +kernel) (Nat.le_refl _) (Nat.le_refl _) (fun K R hK hR => ?_)
        simp only [rw_c1, ↓rx_iinc, ↓rx_nil, ↓ry_li0s, ↓ry_li0z, b72, rz_set, rz_nol, rz_clr, List.set_cons_zero, List.set_cons_succ, rz_tr, Nat.reduceAdd, Int.reduceAdd, Int.reduceToNat, Int.reduceSub, Int.reduceNeg, Int.cast_ofNat_Int]
        try simp (disch := omega) only [b72, pk_us, pk_un, va_up_self, va_up_ne, nI_add, pk_mul, nI_clamp, vp_inT, nI_ltI, nI_leI, nI_eqI, pk_sub, true_and, and_true]
        refine hK _ _ _ _ ?_
        refine rz_blk' [(.goto (-37), 3, 0, 0)] (by decide +kernel) (Nat.le_refl _) (Nat.le_refl _) (fun K R hK hR => ?_)
        simp only [↓rx_goto, ↓rx_nil, b72, rz_set, rz_nol, rz_clr, List.set_cons_zero, List.set_cons_succ, rz_tr, Nat.reduceAdd, Int.reduceAdd, Int.reduceToNat, Int.reduceSub, Int.reduceNeg, Int.cast_ofNat_Int]
        try simp (disch := omega) only [b72, pk_us, pk_un, va_up_self, va_up_ne, nI_add, pk_mul, nI_clamp, vp_inT, nI_ltI, nI_leI, nI_eqI, pk_sub, true_and, and_true]
        refine hK _ _ _ _ ?_
        have ih := ih (cx + 1) (by omega)
        rw [← cp_s] at ih
        rw [re_vv]
        exact ih
    have := lp (n) 0 (Nat.zero_add _)
    rw [cp_0, re_ve] at this
    exact this
  have gl : ∀ (j i : Nat) (A1 : Nat → Nat → Int32) (z2 z3 z4 : Option Value), i + j = 3 * Ks.length → fa [70, 71, 72, 73, 74, 75] A A1 → sg (A1 70) 0 (kfw T) → (∀ k, k < i → A1 71 k = bb_t gs[k]? ∧ A1 72 k = nI (bb_w gs[k]?).length ∧ sg (A1 73) (160 * k) (bb_w gs[k]?)) → rz_T w d 0 0 m_Mod_keepMade 0 0 66 [some (.ref a), some (.int (nI i)), z2, z3, z4] [] (re_put G a J A1) Q := by
    intro j
    induction j with
    | zero =>
      intro i A1 z2 z3 z4 hij a1 x1 x2
      refine rz_blk' [(.iload_n 1, 1, 0, 0), (.iconst 3, 1, 0, 0), (.aload_n 0, 1, 0, 0), (.getfield 388, 3, 10, 67), (.imul, 1, 0, 0), (.if_icmp .ge 75, 3, 0, 0)] (by decide +kernel) (Nat.le_refl _) (Nat.le_refl _) (fun K R hK hR => ?_)
      simp only [rw_c3, ↓rx_aload_n0, ↓rx_getfield, ↓rx_iconst, ↓rx_if_icmp_ge, ↓rx_iload_n1, ↓rx_imul, ↓rx_nil, ↓ry_i2, ↓ry_li0s, ↓ry_li0z, ↓ry_lr0s, ↓ry_lr0z, ↓ry_obu, ↓ry_r1, ↓re_F67, ↓re_ob, hJ67, rz_set, rz_nol, rz_clr, List.set_cons_zero, List.set_cons_succ, rz_tr, Nat.reduceAdd, Int.reduceAdd, Int.reduceToNat, Int.reduceSub, Int.reduceNeg, Int.cast_ofNat_Int]
      try simp (disch := omega) only [hJ67, pk_us, pk_un, va_up_self, va_up_ne, nI_add, pk_mul, nI_clamp, vp_inT, nI_ltI, nI_leI, nI_eqI, pk_sub, true_and, and_true]
      refine ⟨fun q14 => hK _ _ _ _ ?_, fun q14 => by omega⟩
      refine rz_blk' [(.iconst 0, 1, 0, 0), (.istore_n 1, 1, 0, 0)] (by decide +kernel) (Nat.le_refl _) (Nat.le_refl _) (fun K R hK hR => ?_)
      simp only [rw_c0, ↓rx_iconst, ↓rx_istore_n1, ↓rx_nil, ↓ry_i1, hJ67, rz_set, rz_nol, rz_clr, List.set_cons_zero, List.set_cons_succ, rz_tr, Nat.reduceAdd, Int.reduceAdd, Int.reduceToNat, Int.reduceSub, Int.reduceNeg, Int.cast_ofNat_Int]
      try simp (disch := omega) only [hJ67, pk_us, pk_un, va_up_self, va_up_ne, nI_add, pk_mul, nI_clamp, vp_inT, nI_ltI, nI_leI, nI_eqI, pk_sub, true_and, and_true]
      refine hK _ _ _ _ ?_
      exact cl Ks.length 0 A1 _ _ _ (Nat.zero_add _) a1 x1 (fun k hk => x2 k (by omega)) (fun c X hc => absurd hc (Nat.not_lt_zero _))
    | succ j ih =>
      intro i A1 z2 z3 z4 hij a1 x1 x2
      obtain ⟨y1, y2, y3, y4⟩ := hg i (by omega)
      have f79 := a1 79 rfl
      have f80 := a1 80 rfl
      refine rz_blk' [(.iload_n 1, 1, 0, 0), (.iconst 3, 1, 0, 0), (.aload_n 0, 1, 0, 0), (.getfield 388, 3, 10, 67), (.imul, 1, 0, 0), (.if_icmp .ge 75, 3, 0, 0)] (by decide +kernel) (Nat.le_refl _) (Nat.le_refl _) (fun K R hK hR => ?_)
      simp only [rw_c3, ↓rx_aload_n0, ↓rx_getfield, ↓rx_iconst, ↓rx_if_icmp_ge, ↓rx_iload_n1, ↓rx_imul, ↓rx_nil, ↓ry_i2, ↓ry_li0s, ↓ry_li0z, ↓ry_lr0s, ↓ry_lr0z, ↓ry_obu, ↓ry_r1, ↓re_F67, ↓re_ob, hJ67, f79, f80, y1, y2, rz_set, rz_nol, rz_clr, List.set_cons_zero, List.set_cons_succ, rz_tr, Nat.reduceAdd, Int.reduceAdd, Int.reduceToNat, Int.reduceSub, Int.reduceNeg, Int.cast_ofNat_Int]
      try simp (disch := omega) only [hJ67, f79, f80, y1, y2, pk_us, pk_un, va_up_self, va_up_ne, nI_add, pk_mul, nI_clamp, vp_inT, nI_ltI, nI_leI, nI_eqI, pk_sub, true_and, and_true]
      refine ⟨fun q15 => by omega, fun q15 => hK _ _ _ _ ?_⟩
      refine rz_blk' [(.aload_n 0, 1, 0, 0), (.getfield 175, 3, 10, 71), (.iload_n 1, 1, 0, 0), (.aload_n 0, 1, 0, 0), (.getfield 197, 3, 10, 79), (.iload_n 1, 1, 0, 0), (.iaload, 1, 0, 0), (.iastore, 1, 0, 0)] (by decide +kernel) (Nat.le_refl _) (Nat.le_refl _) (fun K R hK hR => ?_)
      simp only [↓rx_aload_n0, ↓rx_getfield, ↓rx_iaload, ↓rx_iastore, ↓rx_iload_n1, ↓rx_nil, ↓ry_iau, ↓ry_li0s, ↓ry_li0z, ↓ry_lr0s, ↓ry_lr0z, ↓ry_obu, ↓ry_r1, ↓ry_ri, ↓ry_rii, true_and, re_a71, re_a79, ↓re_F71, ↓re_F79, ↓re_i71, ↓re_i79, ↓re_ob, hJ67, f79, f80, y1, y2, rz_set, rz_nol, rz_clr, List.set_cons_zero, List.set_cons_succ, rz_tr, Nat.reduceAdd, Int.reduceAdd, Int.reduceToNat, Int.reduceSub, Int.reduceNeg, Int.cast_ofNat_Int]
      try simp (disch := omega) only [hJ67, f79, f80, y1, y2, pk_us, pk_un, va_up_self, va_up_ne, nI_add, pk_mul, nI_clamp, vp_inT, nI_ltI, nI_leI, nI_eqI, pk_sub, true_and, and_true]
      refine hK _ _ _ _ ?_
      refine rz_blk' [(.aload_n 0, 1, 0, 0), (.getfield 178, 3, 10, 72), (.iload_n 1, 1, 0, 0), (.aload_n 0, 1, 0, 0), (.getfield 200, 3, 10, 80), (.iload_n 1, 1, 0, 0), (.iaload, 1, 0, 0), (.iastore, 1, 0, 0)] (by decide +kernel) (Nat.le_refl _) (Nat.le_refl _) (fun K R hK hR => ?_)
      simp only [↓rx_aload_n0, ↓rx_getfield, ↓rx_iaload, ↓rx_iastore, ↓rx_iload_n1, ↓rx_nil, ↓ry_iau, ↓ry_li0s, ↓ry_li0z, ↓ry_lr0s, ↓ry_lr0z, ↓ry_obu, ↓ry_r1, ↓ry_ri, ↓ry_rii, true_and, re_a72, re_a80, ↓re_F72, ↓re_F80, ↓re_i72, ↓re_i80, ↓re_ob, hJ67, f79, f80, y1, y2, rz_set, rz_nol, rz_clr, List.set_cons_zero, List.set_cons_succ, rz_tr, Nat.reduceAdd, Int.reduceAdd, Int.reduceToNat, Int.reduceSub, Int.reduceNeg, Int.cast_ofNat_Int]
      try simp (disch := omega) only [hJ67, f79, f80, y1, y2, pk_us, pk_un, va_up_self, va_up_ne, nI_add, pk_mul, nI_clamp, vp_inT, nI_ltI, nI_leI, nI_eqI, pk_sub, true_and, and_true]
      refine hK _ _ _ _ ?_
      refine rz_blk' [(.iconst 0, 1, 0, 0), (.istore_n 2, 1, 0, 0)] (by decide +kernel) (Nat.le_refl _) (Nat.le_refl _) (fun K R hK hR => ?_)
      simp only [rw_c0, ↓rx_iconst, ↓rx_istore_n2, ↓rx_nil, ↓ry_i1, hJ67, f79, f80, y1, y2, rz_set, rz_nol, rz_clr, List.set_cons_zero, List.set_cons_succ, rz_tr, Nat.reduceAdd, Int.reduceAdd, Int.reduceToNat, Int.reduceSub, Int.reduceNeg, Int.cast_ofNat_Int]
      try simp (disch := omega) only [hJ67, f79, f80, y1, y2, pk_us, pk_un, va_up_self, va_up_ne, nI_add, pk_mul, nI_clamp, vp_inT, nI_ltI, nI_leI, nI_eqI, pk_sub, true_and, and_true]
      refine hK _ _ _ _ ?_
      refine c2 _ i (bb_w gs[i]?).length _ _ (by omega) y3 (by rw [va_up_self, pk_us]) ?_
      generalize hB : va_up (va_up A1 71 _) 72 _ = B
      generalize hD : va_up B 73 _ = D
      have hB71 : B 71 = upd (A1 71) i (bb_t gs[i]?) := by rw [← hB, va_up_ne _ _ (by decide), va_up_self]
      have hB72 : B 72 = upd (A1 72) i (nI (bb_w gs[i]?).length) := by rw [← hB, va_up_self]
      have hBo : ∀ f, f ≠ 71 → f ≠ 72 → B f = A1 f := fun f n1 n2 => by rw [← hB, va_up_ne _ _ n2, va_up_ne _ _ n1]
      have hDo : ∀ f, f ≠ 73 → D f = B f := fun f hf => by rw [← hD, va_up_ne _ _ hf]
      have hD73 : D 73 = cp (A1 73) (160 * i) (A 81) (160 * i) (bb_w gs[i]?).length := by rw [← hD, va_up_self, hBo 73 (by decide) (by decide), hBo 81 (by decide) (by decide), a1 81 rfl]
      clear hB hD
      refine rz_blk' [(.iinc 1 1, 3, 0, 0)] (by decide +kernel) (Nat.le_refl _) (Nat.le_refl _) (fun K R hK hR => ?_)
      simp only [rw_c1, ↓rx_iinc, ↓rx_nil, ↓ry_li0s, ↓ry_li0z, rz_set, rz_nol, rz_clr, List.set_cons_zero, List.set_cons_succ, rz_tr, Nat.reduceAdd, Int.reduceAdd, Int.reduceToNat, Int.reduceSub, Int.reduceNeg, Int.cast_ofNat_Int]
      try simp (disch := omega) only [pk_us, pk_un, va_up_self, va_up_ne, nI_add, pk_mul, nI_clamp, vp_inT, nI_ltI, nI_leI, nI_eqI, pk_sub, true_and, and_true]
      refine hK _ _ _ _ ?_
      refine rz_blk' [(.goto (-79), 3, 0, 0)] (by decide +kernel) (Nat.le_refl _) (Nat.le_refl _) (fun K R hK hR => ?_)
      simp only [↓rx_goto, ↓rx_nil, rz_set, rz_nol, rz_clr, List.set_cons_zero, List.set_cons_succ, rz_tr, Nat.reduceAdd, Int.reduceAdd, Int.reduceToNat, Int.reduceSub, Int.reduceNeg, Int.cast_ofNat_Int]
      try simp (disch := omega) only [pk_us, pk_un, va_up_self, va_up_ne, nI_add, pk_mul, nI_clamp, vp_inT, nI_ltI, nI_leI, nI_eqI, pk_sub, true_and, and_true]
      refine hK _ _ _ _ ?_
      refine ih (i + 1) D _ _ _ (by omega) (fun f hf => ?_) ?_ (fun k hk2 => ?_)
      · rw [hDo f (by intro q; subst q; revert hf; decide), hBo f (by intro q; subst q; revert hf; decide) (by intro q; subst q; revert hf; decide)]
        exact a1 f hf
      · rw [hDo 70 (by decide), hBo 70 (by decide) (by decide)]; exact x1
      · rw [hDo 71 (by decide), hDo 72 (by decide), hB71, hB72, hD73]
        by_cases ck : k = i
        · subst ck
          rw [pk_us, pk_us]
          exact ⟨rfl, rfl, sg_cp y4 (Nat.le_refl _)⟩
        · rw [pk_un ck, pk_un ck]
          obtain ⟨z1, z2, z3⟩ := x2 k (by omega)
          have := (hg k (by omega)).2.2.1
          exact ⟨z1, z2, z3.k (fun y q1 q2 => cp_out (by omega))⟩
  have c1 : ∀ (B : Nat → Nat → Int32) (z2 z3 z4 : Option Value), rz_T w d 0 0 m_Mod_keepMade 0 0 64 [some (.ref a), some (.int (nI ((kfw T).length))), z2, z3, z4] [] (re_put G a J (va_up B 70 (cp (B 70) (0) (B 24) (0) ((kfw T).length)))) Q → rz_T w d 0 0 m_Mod_keepMade 0 0 38 [some (.ref a), some (.int (nI 0)), z2, z3, z4] [] (re_put G a J B) Q := by
    intro B z2 z3 z4  hx
    have lp : ∀ (cj cx : Nat), cx + cj = (kfw T).length → rz_T w d 0 0 m_Mod_keepMade 0 0 38 [some (.ref a), some (.int (nI cx)), z2, z3, z4] [] (re_put G a J (va_up B 70 (cp (B 70) (0) (B 24) (0) cx))) Q := by
      intro cj
      induction cj with
      | zero =>
        intro cx hij
        have hi : cx = (kfw T).length := by omega
        subst hi
        refine rz_blk' [(.iload_n 1, 1, 0, 0), (.aload_n 0, 1, 0, 0), (.getfield 395, 3, 10, 69), (.if_icmp .ge 21, 3, 0, 0)] (by decide +kernel) (Nat.le_refl _) (Nat.le_refl _) (fun K R hK hR => ?_)
        simp only [↓rx_aload_n0, ↓rx_getfield, ↓rx_if_icmp_ge, ↓rx_iload_n1, ↓rx_nil, ↓ry_i2, ↓ry_li0s, ↓ry_li0z, ↓ry_lr0s, ↓ry_lr0z, ↓ry_obu, ↓ry_r1, ↓re_F69, ↓re_ob, hJ69, rz_set, rz_nol, rz_clr, List.set_cons_zero, List.set_cons_succ, rz_tr, Nat.reduceAdd, Int.reduceAdd, Int.reduceToNat, Int.reduceSub, Int.reduceNeg, Int.cast_ofNat_Int]
        try simp (disch := omega) only [hJ69, pk_us, pk_un, va_up_self, va_up_ne, nI_add, pk_mul, nI_clamp, vp_inT, nI_ltI, nI_leI, nI_eqI, pk_sub, true_and, and_true]
        refine ⟨fun q16 => hK _ _ _ _ ?_, fun q16 => by omega⟩
        exact hx
      | succ cj ih =>
        intro cx hij
        refine rz_blk' [(.iload_n 1, 1, 0, 0), (.aload_n 0, 1, 0, 0), (.getfield 395, 3, 10, 69), (.if_icmp .ge 21, 3, 0, 0)] (by decide +kernel) (Nat.le_refl _) (Nat.le_refl _) (fun K R hK hR => ?_)
        simp only [↓rx_aload_n0, ↓rx_getfield, ↓rx_if_icmp_ge, ↓rx_iload_n1, ↓rx_nil, ↓ry_i2, ↓ry_li0s, ↓ry_li0z, ↓ry_lr0s, ↓ry_lr0z, ↓ry_obu, ↓ry_r1, ↓re_F69, ↓re_ob, hJ69, rz_set, rz_nol, rz_clr, List.set_cons_zero, List.set_cons_succ, rz_tr, Nat.reduceAdd, Int.reduceAdd, Int.reduceToNat, Int.reduceSub, Int.reduceNeg, Int.cast_ofNat_Int]
        try simp (disch := omega) only [hJ69, pk_us, pk_un, va_up_self, va_up_ne, nI_add, pk_mul, nI_clamp, vp_inT, nI_ltI, nI_leI, nI_eqI, pk_sub, true_and, and_true]
        refine ⟨fun q17 => by omega, fun q17 => hK _ _ _ _ ?_⟩
        refine rz_blk' [(.aload_n 0, 1, 0, 0), (.getfield 172, 3, 10, 70), (.iload_n 1, 1, 0, 0), (.aload_n 0, 1, 0, 0), (.getfield 77, 3, 10, 24), (.iload_n 1, 1, 0, 0), (.iaload, 1, 0, 0), (.iastore, 1, 0, 0)] (by decide +kernel) (Nat.le_refl _) (Nat.le_refl _) (fun K R hK hR => ?_)
        simp only [↓rx_aload_n0, ↓rx_getfield, ↓rx_iaload, ↓rx_iastore, ↓rx_iload_n1, ↓rx_nil, ↓ry_iau, ↓ry_li0s, ↓ry_li0z, ↓ry_lr0s, ↓ry_lr0z, ↓ry_obu, ↓ry_r1, ↓ry_ri, ↓ry_rii, true_and, re_a24, re_a70, ↓re_F24, ↓re_F70, ↓re_i24, ↓re_i70, ↓re_ob, hJ69, rz_set, rz_nol, rz_clr, List.set_cons_zero, List.set_cons_succ, rz_tr, Nat.reduceAdd, Int.reduceAdd, Int.reduceToNat, Int.reduceSub, Int.reduceNeg, Int.cast_ofNat_Int]
        try simp (disch := omega) only [hJ69, pk_us, pk_un, va_up_self, va_up_ne, nI_add, pk_mul, nI_clamp, vp_inT, nI_ltI, nI_leI, nI_eqI, pk_sub, true_and, and_true]
        refine hK _ _ _ _ ?_
        refine rz_blk' [(.iinc 1 1, 3, 0, 0)] (by decide +kernel) (Nat.le_refl _) (Nat.le_refl _) (fun K R hK hR => ?_)
        simp only [rw_c1, ↓rx_iinc, ↓rx_nil, ↓ry_li0s, ↓ry_li0z, hJ69, rz_set, rz_nol, rz_clr, List.set_cons_zero, List.set_cons_succ, rz_tr, Nat.reduceAdd, Int.reduceAdd, Int.reduceToNat, Int.reduceSub, Int.reduceNeg, Int.cast_ofNat_Int]
        try simp (disch := omega) only [hJ69, pk_us, pk_un, va_up_self, va_up_ne, nI_add, pk_mul, nI_clamp, vp_inT, nI_ltI, nI_leI, nI_eqI, pk_sub, true_and, and_true]
        refine hK _ _ _ _ ?_
        refine rz_blk' [(.goto (-23), 3, 0, 0)] (by decide +kernel) (Nat.le_refl _) (Nat.le_refl _) (fun K R hK hR => ?_)
        simp only [↓rx_goto, ↓rx_nil, hJ69, rz_set, rz_nol, rz_clr, List.set_cons_zero, List.set_cons_succ, rz_tr, Nat.reduceAdd, Int.reduceAdd, Int.reduceToNat, Int.reduceSub, Int.reduceNeg, Int.cast_ofNat_Int]
        try simp (disch := omega) only [hJ69, pk_us, pk_un, va_up_self, va_up_ne, nI_add, pk_mul, nI_clamp, vp_inT, nI_ltI, nI_leI, nI_eqI, pk_sub, true_and, and_true]
        refine hK _ _ _ _ ?_
        have ih := ih (cx + 1) (by omega)
        rw [← cp_s] at ih
        simp only [Nat.zero_add] at ih
        rw [re_vv]
        exact ih
    have := lp ((kfw T).length) 0 (Nat.zero_add _)
    rw [cp_0, re_ve] at this
    exact this
  have u0 := t.1 0 (by decide)
  rw [Nat.mul_zero, Nat.add_zero] at u0
  have u23 := t.2.2.2.2.1
  have u24 := t.2.2.2.2.2
  rw [Nat.mul_zero] at u24
  have hk24 : sg (A 24) 0 (kfw T) := by unfold kfw; split; exact u24; exact sg_nil
  refine rz_enter' [some (.ref a), none, none, none, none] (by decide +kernel) rfl rfl (Nat.le_of_ble_eq_true rfl) rfl ?_
  refine rz_blk' [(.aload_n 0, 1, 0, 0), (.aload_n 0, 1, 0, 0), (.getfield 376, 3, 10, 76), (.putfield 388, 3, 10, 67)] (by decide +kernel) (Nat.le_refl _) (Nat.le_refl _) (fun K R hK hR => ?_)
  simp only [List.length_cons, List.length_nil, Nat.reduceLT, rf_10_67, ↓rx_aload_n0, ↓rx_getfield, ↓rx_nil, ↓rx_putfield, ↓ry_lr0s, ↓ry_lr0z, ↓ry_obu, ↓ry_r1, ↓ry_vr, true_and, re_len, re_u67, ↓re_F76, ↓re_ob, h76, u0, u23, rz_set, rz_nol, rz_clr, List.set_cons_zero, List.set_cons_succ, rz_tr, Nat.reduceAdd, Int.reduceAdd, Int.reduceToNat, Int.reduceSub, Int.reduceNeg, Int.cast_ofNat_Int]
  try simp (disch := omega) only [h76, u0, u23, rb_0, pk_us, pk_un, va_up_self, va_up_ne, nI_add, pk_mul, nI_clamp, vp_inT, nI_ltI, nI_leI, nI_eqI, pk_sub, true_and, and_true]
  refine hK _ _ _ _ ?_
  refine rz_blk' [(.aload_n 0, 1, 0, 0), (.iconst 1, 1, 0, 0), (.putfield 391, 3, 10, 68)] (by decide +kernel) (Nat.le_refl _) (Nat.le_refl _) (fun K R hK hR => ?_)
  simp only [List.length_cons, List.length_nil, Nat.reduceLT, rf_10_68, rf_10_68t, rw_c1, ↓rx_aload_n0, ↓rx_iconst, ↓rx_nil, ↓rx_putfield, ↓ry_lr0s, ↓ry_lr0z, ↓ry_obu, ↓ry_vr, true_and, re_len, re_u68, ↓re_ob, h76, u0, u23, rz_set, rz_nol, rz_clr, List.set_cons_zero, List.set_cons_succ, rz_tr, Nat.reduceAdd, Int.reduceAdd, Int.reduceToNat, Int.reduceSub, Int.reduceNeg, Int.cast_ofNat_Int]
  try simp (disch := omega) only [h76, u0, u23, rb_0, pk_us, pk_un, va_up_self, va_up_ne, nI_add, pk_mul, nI_clamp, vp_inT, nI_ltI, nI_leI, nI_eqI, pk_sub, true_and, and_true]
  refine hK _ _ _ _ ?_
  refine rz_blk' [(.aload_n 0, 1, 0, 0), (.aload_n 0, 1, 0, 0), (.getfield 46, 3, 10, 14), (.iconst 0, 1, 0, 0), (.baload, 1, 0, 0), (.ifCond .eq 12, 3, 0, 0)] (by decide +kernel) (Nat.le_refl _) (Nat.le_refl _) (fun K R hK hR => ?_)
  simp only [Nat.reduceEqDiff, false_or, or_false, or_true, reduceIte, rw_c0, ↓rx_aload_n0, ↓rx_baload, ↓rx_getfield, ↓rx_iconst, ↓rx_ifCond_eq, ↓rx_nil, ↓ry_i1, ↓ry_iau, ↓ry_lr0s, ↓ry_lr0z, ↓ry_obu, ↓ry_r1, ↓ry_ri, true_and, true_or, re_a14, ↓re_F14, ↓re_i14, ↓re_ob, h76, u0, u23, rz_set, rz_nol, rz_clr, List.set_cons_zero, List.set_cons_succ, rz_tr, Nat.reduceAdd, Int.reduceAdd, Int.reduceToNat, Int.reduceSub, Int.reduceNeg, Int.cast_ofNat_Int]
  try simp (disch := omega) only [h76, u0, u23, rb_0, pk_us, pk_un, va_up_self, va_up_ne, nI_add, pk_mul, nI_clamp, vp_inT, nI_ltI, nI_leI, nI_eqI, pk_sub, true_and, and_true]
  refine ⟨fun q18 => hK _ _ _ _ ?_, fun q18 => hK _ _ _ _ ?_⟩
  · -- 20 taken
    refine rz_blk' [(.iconst 0, 1, 0, 0), (.putfield 395, 3, 10, 69)] (by decide +kernel) (Nat.le_refl _) (Nat.le_refl _) (fun K R hK hR => ?_)
    simp only [List.length_cons, List.length_nil, Nat.reduceLT, rf_10_69, rw_c0, ↓rx_iconst, ↓rx_nil, ↓rx_putfield, ↓ry_obu, ↓ry_vr, true_and, re_len, re_u69, ↓re_ob, h76, u0, u23, rz_set, rz_nol, rz_clr, List.set_cons_zero, List.set_cons_succ, rz_tr, Nat.reduceAdd, Int.reduceAdd, Int.reduceToNat, Int.reduceSub, Int.reduceNeg, Int.cast_ofNat_Int]
    try simp (disch := omega) only [h76, u0, u23, rb_0, pk_us, pk_un, va_up_self, va_up_ne, nI_add, pk_mul, nI_clamp, vp_inT, nI_ltI, nI_leI, nI_eqI, pk_sub, true_and, and_true]
    refine hK _ _ _ _ ?_
    refine rz_blk' [(.iconst 0, 1, 0, 0), (.istore_n 1, 1, 0, 0)] (by decide +kernel) (Nat.le_refl _) (Nat.le_refl _) (fun K R hK hR => ?_)
    simp only [rw_c0, ↓rx_iconst, ↓rx_istore_n1, ↓rx_nil, ↓ry_i1, h76, u0, u23, rz_set, rz_nol, rz_clr, List.set_cons_zero, List.set_cons_succ, rz_tr, Nat.reduceAdd, Int.reduceAdd, Int.reduceToNat, Int.reduceSub, Int.reduceNeg, Int.cast_ofNat_Int]
    try simp (disch := omega) only [h76, u0, u23, rb_0, pk_us, pk_un, va_up_self, va_up_ne, nI_add, pk_mul, nI_clamp, vp_inT, nI_ltI, nI_leI, nI_eqI, pk_sub, true_and, and_true]
    refine hK _ _ _ _ ?_
    first
      | rw [show upd (upd (upd I 67 (nI Ks.length)) 68 (nI 1)) 69 (nI T.2.2.2.length) = J from by rw [← hJ]; unfold kfw; rw [if_pos (by simpa using q18)]]
      | rw [show upd (upd (upd I 67 (nI Ks.length)) 68 (nI 1)) 69 (nI 0) = J from by rw [← hJ]; unfold kfw; rw [if_neg (by rw [q18]; decide)]; rfl]
    refine c1 A _ _ _ ?_
    refine rz_blk' [(.iconst 0, 1, 0, 0), (.istore_n 1, 1, 0, 0)] (by decide +kernel) (Nat.le_refl _) (Nat.le_refl _) (fun K R hK hR => ?_)
    simp only [rw_c0, ↓rx_iconst, ↓rx_istore_n1, ↓rx_nil, ↓ry_i1, h76, u0, u23, rz_set, rz_nol, rz_clr, List.set_cons_zero, List.set_cons_succ, rz_tr, Nat.reduceAdd, Int.reduceAdd, Int.reduceToNat, Int.reduceSub, Int.reduceNeg, Int.cast_ofNat_Int]
    try simp (disch := omega) only [h76, u0, u23, rb_0, pk_us, pk_un, va_up_self, va_up_ne, nI_add, pk_mul, nI_clamp, vp_inT, nI_ltI, nI_leI, nI_eqI, pk_sub, true_and, and_true]
    refine hK _ _ _ _ ?_
    refine gl (3 * Ks.length) 0 _ _ _ _ (Nat.zero_add _) (fa.rf.u rfl) ?_ (fun k hk2 => absurd hk2 (Nat.not_lt_zero _))
    rw [va_up_self]; exact sg_cp hk24 (Nat.le_refl _)
  · -- 20 not taken
    refine rz_blk' [(.aload_n 0, 1, 0, 0), (.getfield 74, 3, 10, 23), (.iconst 0, 1, 0, 0), (.iaload, 1, 0, 0), (.goto 4, 3, 0, 0)] (by decide +kernel) (Nat.le_refl _) (Nat.le_refl _) (fun K R hK hR => ?_)
    simp only [rw_c0, ↓rx_aload_n0, ↓rx_getfield, ↓rx_goto, ↓rx_iaload, ↓rx_iconst, ↓rx_nil, ↓ry_iau, ↓ry_lr0s, ↓ry_lr0z, ↓ry_obu, ↓ry_r1, ↓ry_ri, true_and, re_a23, ↓re_F23, ↓re_i23, ↓re_ob, h76, u0, u23, rz_set, rz_nol, rz_clr, List.set_cons_zero, List.set_cons_succ, rz_tr, Nat.reduceAdd, Int.reduceAdd, Int.reduceToNat, Int.reduceSub, Int.reduceNeg, Int.cast_ofNat_Int]
    try simp (disch := omega) only [h76, u0, u23, rb_0, pk_us, pk_un, va_up_self, va_up_ne, nI_add, pk_mul, nI_clamp, vp_inT, nI_ltI, nI_leI, nI_eqI, pk_sub, true_and, and_true]
    refine hK _ _ _ _ ?_
    refine rz_blk' [(.putfield 395, 3, 10, 69)] (by decide +kernel) (Nat.le_refl _) (Nat.le_refl _) (fun K R hK hR => ?_)
    simp only [List.length_cons, List.length_nil, Nat.reduceLT, rf_10_69, ↓rx_nil, ↓rx_putfield, ↓ry_obu, ↓ry_vr, true_and, re_len, re_u69, ↓re_ob, h76, u0, u23, rz_set, rz_nol, rz_clr, List.set_cons_zero, List.set_cons_succ, rz_tr, Nat.reduceAdd, Int.reduceAdd, Int.reduceToNat, Int.reduceSub, Int.reduceNeg, Int.cast_ofNat_Int]
    try simp (disch := omega) only [h76, u0, u23, rb_0, pk_us, pk_un, va_up_self, va_up_ne, nI_add, pk_mul, nI_clamp, vp_inT, nI_ltI, nI_leI, nI_eqI, pk_sub, true_and, and_true]
    refine hK _ _ _ _ ?_
    refine rz_blk' [(.iconst 0, 1, 0, 0), (.istore_n 1, 1, 0, 0)] (by decide +kernel) (Nat.le_refl _) (Nat.le_refl _) (fun K R hK hR => ?_)
    simp only [rw_c0, ↓rx_iconst, ↓rx_istore_n1, ↓rx_nil, ↓ry_i1, h76, u0, u23, rz_set, rz_nol, rz_clr, List.set_cons_zero, List.set_cons_succ, rz_tr, Nat.reduceAdd, Int.reduceAdd, Int.reduceToNat, Int.reduceSub, Int.reduceNeg, Int.cast_ofNat_Int]
    try simp (disch := omega) only [h76, u0, u23, rb_0, pk_us, pk_un, va_up_self, va_up_ne, nI_add, pk_mul, nI_clamp, vp_inT, nI_ltI, nI_leI, nI_eqI, pk_sub, true_and, and_true]
    refine hK _ _ _ _ ?_
    first
      | rw [show upd (upd (upd I 67 (nI Ks.length)) 68 (nI 1)) 69 (nI T.2.2.2.length) = J from by rw [← hJ]; unfold kfw; rw [if_pos (by simpa using q18)]]
      | rw [show upd (upd (upd I 67 (nI Ks.length)) 68 (nI 1)) 69 (nI 0) = J from by rw [← hJ]; unfold kfw; rw [if_neg (by rw [q18]; decide)]; rfl]
    refine c1 A _ _ _ ?_
    refine rz_blk' [(.iconst 0, 1, 0, 0), (.istore_n 1, 1, 0, 0)] (by decide +kernel) (Nat.le_refl _) (Nat.le_refl _) (fun K R hK hR => ?_)
    simp only [rw_c0, ↓rx_iconst, ↓rx_istore_n1, ↓rx_nil, ↓ry_i1, h76, u0, u23, rz_set, rz_nol, rz_clr, List.set_cons_zero, List.set_cons_succ, rz_tr, Nat.reduceAdd, Int.reduceAdd, Int.reduceToNat, Int.reduceSub, Int.reduceNeg, Int.cast_ofNat_Int]
    try simp (disch := omega) only [h76, u0, u23, rb_0, pk_us, pk_un, va_up_self, va_up_ne, nI_add, pk_mul, nI_clamp, vp_inT, nI_ltI, nI_leI, nI_eqI, pk_sub, true_and, and_true]
    refine hK _ _ _ _ ?_
    refine gl (3 * Ks.length) 0 _ _ _ _ (Nat.zero_add _) (fa.rf.u rfl) ?_ (fun k hk2 => absurd hk2 (Nat.not_lt_zero _))
    rw [va_up_self]; exact sg_cp hk24 (Nat.le_refl _)
