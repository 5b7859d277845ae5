/-! the reference: classify -/
abbrev g_T := Option (Nat × List Nat)
def k0 (T : mv_T) : kt_T := fun s => if s = 0 ∧ T.1.testBit 0 = true then some [] else none
def cut (M : kt_T) (L : List Nat) : kt_T := fun s => (M s).map (fun w => w.drop L.length)
/-- one letter of one class -/
def cl_st (T : mv_T) (Ks : List kt_T) (n : Nat) (X : kt_T) (g : g_T) (Ks' : List kt_T) : Prop :=
  ((∀ s, s < 6 → mx T (n % 3) X s = none) ∧ g = none ∧ Ks' = Ks) ∨
  ((∃ s, s < 6 ∧ mx T (n % 3) X s ≠ none) ∧ ∃ L d, lc_is (mx T (n % 3) X) L ∧ (∀ (i : Nat) (Y : kt_T), i < d → Ks[i]? = some Y → ¬ ka T Y (cut (mx T (n % 3) X) L)) ∧ g = some (d, L) ∧ ((∃ Y, Ks[d]? = some Y ∧ ka T Y (cut (mx T (n % 3) X) L) ∧ Ks' = Ks) ∨ (d = Ks.length ∧ Ks.length ≠ 40 ∧ Ks' = Ks ++ [cut (mx T (n % 3) X) L])))
/-- the classes after n letters -/
def cls (T : mv_T) : Nat → List kt_T → List g_T → Prop
  | 0, Ks, gs => Ks = [k0 T] ∧ gs = []
  | n + 1, Ks', gs' => ∃ Ks gs X g, cls T n Ks gs ∧ Ks[n / 3]? = some X ∧ gs' = gs ++ [g] ∧ cl_st T Ks n X g Ks'
/-- one too many -/
def clf (T : mv_T) : Prop := ∃ n Ks gs X L, cls T n Ks gs ∧ Ks[n / 3]? = some X ∧ (∃ s, s < 6 ∧ mx T (n % 3) X s ≠ none) ∧ lc_is (mx T (n % 3) X) L ∧ Ks.length = 40 ∧ ∀ Y ∈ Ks, ¬ ka T Y (cut (mx T (n % 3) X) L)
theorem cls_len {T : mv_T} : ∀ {n : Nat} {Ks : List kt_T} {gs : List g_T}, cls T n Ks gs → gs.length = n
  | 0, Ks, gs, h => by rw [h.2]; rfl
  | n + 1, Ks, gs, h => by
    obtain ⟨Ks0, gs0, X, g, h1, h2, rfl, h4⟩ := h
    rw [List.length_append, cls_len h1]; rfl
def ga_is (A : Nat → Nat → Int32) (gs : List g_T) : Prop := ∀ (i : Nat), i < gs.length → A 79 i = bb_t gs[i]? ∧ A 80 i = nI (bb_w gs[i]?).length ∧ (bb_w gs[i]?).length ≤ 150 ∧ sg (A 81) (160 * i) (bb_w gs[i]?)
theorem ga_keep {A A' : Nat → Nat → Int32} {gs : List g_T} (h : ga_is A gs) (h1 : ∀ i, i < gs.length → A' 79 i = A 79 i ∧ A' 80 i = A 80 i) (h2 : ∀ i, i < 160 * gs.length → A' 81 i = A 81 i) : ga_is A' gs := by
  intro i hi
  obtain ⟨a1, a2, a3, a4⟩ := h i hi
  obtain ⟨b1, b2⟩ := h1 i hi
  exact ⟨by rw [b1]; exact a1, by rw [b2]; exact a2, a3, a4.k (fun x q1 q2 => h2 x (by omega))⟩
set_option maxRecDepth 100000 in
set_option maxHeartbeats 4000000 in
theorem c_Mod_classify {w : rz_w} {d : Nat} {G : rz_G} {a : Nat} {I : Nat → Int32} {A : Nat → Nat → Int32} {T : mv_T} (t : re_t A 0 T) (w1 : tw T 21) (hlen : ∀ n Ks gs, cls T n Ks gs → ∀ X ∈ Ks, ∀ s, s < 6 → ((X s).getD []).length ≤ 129) : rz_C w (d + 5) 0 0 y_Mod_classify m_Mod_classify [.ref a] (re_put G a I A) (fun (r : Option Value) (G' : rz_G) => ∃ I' A' b, r = some (.int (rz_b b)) ∧ G' = re_put G a I' A' ∧ fi [26, 27, 30, 38, 41, 42, 76] I I' ∧ fa [25, 28, 29, 31, 32, 33, 34, 35, 36, 37, 39, 40, 43, 44, 45, 77, 78, 79, 80, 81] A A' ∧ ((b = true ∧ ∃ Ks gs, cls T (3 * Ks.length) Ks gs ∧ 1 ≤ Ks.length ∧ Ks.length ≤ 40 ∧ I' 76 = nI Ks.length ∧ (∀ (i : Nat) (X : kt_T), Ks[i]? = some X → kt_at A' i X) ∧ ga_is A' gs) ∨ (b = false ∧ clf T))) := by
  generalize hQ : (fun (r : Option Value) (G' : rz_G) => ∃ I' A' b, r = some (.int (rz_b b)) ∧ G' = re_put G a I' A' ∧ fi [26, 27, 30, 38, 41, 42, 76] I I' ∧ fa [25, 28, 29, 31, 32, 33, 34, 35, 36, 37, 39, 40, 43, 44, 45, 77, 78, 79, 80, 81] A A' ∧ ((b = true ∧ ∃ Ks gs, cls T (3 * Ks.length) Ks gs ∧ 1 ≤ Ks.length ∧ Ks.length ≤ 40 ∧ I' 76 = nI Ks.length ∧ (∀ (i : Nat) (X : kt_T), Ks[i]? = some X → kt_at A' i X) ∧ ga_is A' gs) ∨ (b = false ∧ clf T))) = Q
  have wl : ∀ (m c : Nat) (Ks : List kt_T) (gs : List g_T) (I1 : Nat → Int32) (A1 : Nat → Nat → Int32) (z2 z3 z4 : Option Value), 41 - c ≤ m → c ≤ Ks.length → cls T (3 * c) Ks gs → fi [26, 27, 30, 38, 41, 42, 76] I I1 → fa [25, 28, 29, 31, 32, 33, 34, 35, 36, 37, 39, 40, 43, 44, 45, 77, 78, 79, 80, 81] A A1 → I1 76 = nI Ks.length → 1 ≤ Ks.length → Ks.length ≤ 40 → (∀ (i : Nat) (X : kt_T), Ks[i]? = some X → kt_at A1 i X) → ga_is A1 gs → rz_T w (d + 5) 0 0 m_Mod_classify 0 0 45 [some (.ref a), some (.int (nI c)), z2, z3, z4] [] (re_put G a I1 A1) Q := by
    intro m
    induction m with
    | zero =>
      intro c Ks gs I1 A1 z2 z3 z4 hm hc hcl i1 a1 h76 k1 k40 hk hg
      omega
    | succ m ih =>
      intro c Ks gs I1 A1 z2 z3 z4 hm hc hcl i1 a1 h76 k1 k40 hk hg
      by_cases hce : c = Ks.length
      · subst hce
        refine rz_blk' [(.iload_n 1, 1, 0, 0), (.aload_n 0, 1, 0, 0), (.getfield 376, 3, 10, 76), (.if_icmp .ge 125, 3, 0, 0)] (by decide +kernel) (Nat.le_refl _) (Nat.le_refl _) (fun K R hK hR => ?_)
        simp only [↓rx_aload_n0, ↓rx_getfield, ↓rx_if_icmp_ge, ↓rx_iload_n1, ↓rx_nil, ↓ry_i2, ↓ry_li0s, ↓ry_li0z, ↓ry_lr0s, ↓ry_lr0z, ↓ry_obu, ↓ry_r1, ↓re_F76, ↓re_ob, h76, rz_set, rz_nol, rz_clr, List.set_cons_zero, List.set_cons_succ, rz_tr, Nat.reduceAdd, Int.reduceAdd, Int.reduceToNat, Int.reduceSub, Int.reduceNeg, Int.cast_ofNat_Int]
        try simp (disch := omega) only [h76, pk_us, pk_un, va_up_self, va_up_ne, nI_add, pk_mul, nI_clamp, vp_inT, nI_ltI, nI_leI, nI_eqI, pk_sub, true_and, and_true]
        refine ⟨fun q1 => hK _ _ _ _ ?_, fun q1 => by omega⟩
        refine rz_blk' [(.iconst 1, 1, 0, 0), (.ireturn, 1, 0, 0)] (by decide +kernel) (Nat.le_refl _) (Nat.le_refl _) (fun K R hK hR => ?_)
        simp only [rw_c1, ↓rx_iconst, ↓rx_ireturn, ↓rx_nil, h76, rz_set, rz_nol, rz_clr, List.set_cons_zero, List.set_cons_succ, rz_tr, Nat.reduceAdd, Int.reduceAdd, Int.reduceToNat, Int.reduceSub, Int.reduceNeg, Int.cast_ofNat_Int]
        try simp (disch := omega) only [h76, pk_us, pk_un, va_up_self, va_up_ne, nI_add, pk_mul, nI_clamp, vp_inT, nI_ltI, nI_leI, nI_eqI, pk_sub, true_and, and_true]
        refine hR _ _ rz_nb_1 ?_
        rw [← hQ]
        exact ⟨I1, A1, true, rfl, rfl, i1, a1, Or.inl ⟨rfl, Ks, gs, hcl, k1, k40, h76, hk, hg⟩⟩
      have hclt : c < Ks.length := by omega
      have xl : ∀ (j x : Nat) (Ks : List kt_T) (gs : List g_T) (I1 : Nat → Int32) (A1 : Nat → Nat → Int32) (z3 z4 : Option Value), x + j = 3 → c < Ks.length → cls T (3 * c + x) Ks gs → fi [26, 27, 30, 38, 41, 42, 76] I I1 → fa [25, 28, 29, 31, 32, 33, 34, 35, 36, 37, 39, 40, 43, 44, 45, 77, 78, 79, 80, 81] A A1 → I1 76 = nI Ks.length → 1 ≤ Ks.length → Ks.length ≤ 40 → (∀ (i : Nat) (X : kt_T), Ks[i]? = some X → kt_at A1 i X) → ga_is A1 gs → rz_T w (d + 5) 0 0 m_Mod_classify 0 0 55 [some (.ref a), some (.int (nI c)), some (.int (nI x)), z3, z4] [] (re_put G a I1 A1) Q := by
        clear hcl i1 a1 h76 k1 k40 hk hg hc hce hclt
        clear Ks gs I1 A1 z2 z3 z4
        intro j
        induction j with
        | zero =>
          intro x Ks gs I1 A1 z3 z4 hxj hc hcl i1 a1 h76 k1 k40 hk hg
          have hx : x = 3 := by omega
          subst hx
          refine rz_blk' [(.iload_n 2, 1, 0, 0), (.iconst 3, 1, 0, 0), (.if_icmp .ge 112, 3, 0, 0)] (by decide +kernel) (Nat.le_refl _) (Nat.le_refl _) (fun K R hK hR => ?_)
          simp only [rw_c3, ↓rx_iconst, ↓rx_if_icmp_ge, ↓rx_iload_n2, ↓rx_nil, ↓ry_i2, ↓ry_li0s, ↓ry_li0z, rz_set, rz_nol, rz_clr, List.set_cons_zero, List.set_cons_succ, rz_tr, Nat.reduceAdd, Int.reduceAdd, Int.reduceToNat, Int.reduceSub, Int.reduceNeg, Int.cast_ofNat_Int]
          try simp (disch := omega) only [pk_us, pk_un, va_up_self, va_up_ne, nI_add, pk_mul, nI_clamp, vp_inT, nI_ltI, nI_leI, nI_eqI, pk_sub, true_and, and_true]
          refine ⟨fun q2 => hK _ _ _ _ ?_, fun q2 => by omega⟩
          refine rz_blk' [(.iinc 1 1, 3, 0, 0)] (by decide +kernel) (Nat.le_refl _) (Nat.le_refl _) (fun K R hK hR => ?_)
          simp only [rw_c1, ↓rx_iinc, ↓rx_nil, ↓ry_li0s, ↓ry_li0z, rz_set, rz_nol, rz_clr, List.set_cons_zero, List.set_cons_succ, rz_tr, Nat.reduceAdd, Int.reduceAdd, Int.reduceToNat, Int.reduceSub, Int.reduceNeg, Int.cast_ofNat_Int]
          try simp (disch := omega) only [pk_us, pk_un, va_up_self, va_up_ne, nI_add, pk_mul, nI_clamp, vp_inT, nI_ltI, nI_leI, nI_eqI, pk_sub, true_and, and_true]
          refine hK _ _ _ _ ?_
          refine rz_blk' [(.goto (-127), 3, 0, 0)] (by decide +kernel) (Nat.le_refl _) (Nat.le_refl _) (fun K R hK hR => ?_)
          simp only [↓rx_goto, ↓rx_nil, rz_set, rz_nol, rz_clr, List.set_cons_zero, List.set_cons_succ, rz_tr, Nat.reduceAdd, Int.reduceAdd, Int.reduceToNat, Int.reduceSub, Int.reduceNeg, Int.cast_ofNat_Int]
          try simp (disch := omega) only [pk_us, pk_un, va_up_self, va_up_ne, nI_add, pk_mul, nI_clamp, vp_inT, nI_ltI, nI_leI, nI_eqI, pk_sub, true_and, and_true]
          refine hK _ _ _ _ ?_
          exact ih (c + 1) Ks gs I1 A1 _ _ _ (by omega) (by omega) hcl i1 a1 h76 k1 k40 hk hg
        | succ j ihx =>
          intro x Ks gs I1 A1 z3 z4 hxj hc hcl i1 a1 h76 k1 k40 hk hg
          have hx3 : x < 3 := by omega
          have hgl := cls_len hcl
          obtain ⟨X, hX⟩ : ∃ X, Ks[c]? = some X := ⟨_, List.getElem?_eq_getElem hc⟩
          have hXn : Ks[(3 * c + x) / 3]? = some X := by rw [show (3 * c + x) / 3 = c by omega]; exact hX
          have hmod : (3 * c + x) % 3 = x := by omega
          generalize hB : va_up (va_up A1 79 (upd (A1 79) (3 * c + x) (-1))) 80 (upd (A1 80) (3 * c + x) (nI 0)) = B
          have hB79 : B 79 = upd (A1 79) (3 * c + x) (-1) := by rw [← hB, va_up_ne _ _ (by decide), va_up_self]
          have hB80 : B 80 = upd (A1 80) (3 * c + x) (nI 0) := by rw [← hB, va_up_self]
          have hBo : ∀ f, f ≠ 79 → f ≠ 80 → B f = A1 f := fun f n1 n2 => by rw [← hB, va_up_ne _ _ n2, va_up_ne _ _ n1]
          have aB : fa [25, 28, 29, 31, 32, 33, 34, 35, 36, 37, 39, 40, 43, 44, 45, 77, 78, 79, 80, 81] A B := by rw [← hB]; exact (a1.u rfl).u rfl
          have hkB : ∀ (i : Nat) (Y : kt_T), Ks[i]? = some Y → kt_at B i Y := fun i Y hY => kt_keep (hk i Y hY) (hBo 77 (by decide) (by decide)) (hBo 78 (by decide) (by decide))
          have hgB : ga_is B gs := ga_keep hg (fun i hi => by rw [hB79, hB80, pk_un (by omega), pk_un (by omega)]; exact ⟨rfl, rfl⟩) (fun i hi => by rw [hBo 81 (by decide) (by decide)])
          have hmv := c_Mod_moves (w := w) (d := d + 4) (G := G) (a := a) (I := I1) (A := B) (x := x) (re_t_fa t aB rfl) w1 h76 hc (by omega) hx3 (hkB c X hX) (fun s hs => hlen _ _ _ hcl X (List.mem_of_getElem? hX) s hs)
          have hnext : ∀ (Ks' : List kt_T) (g : g_T) (I2 : Nat → Int32) (A2 : Nat → Nat → Int32) (z3 z4 : Option Value), cl_st T Ks (3 * c + x) X g Ks' → c < Ks'.length → fi [26, 27, 30, 38, 41, 42, 76] I I2 → fa [25, 28, 29, 31, 32, 33, 34, 35, 36, 37, 39, 40, 43, 44, 45, 77, 78, 79, 80, 81] A A2 → I2 76 = nI Ks'.length → 1 ≤ Ks'.length → Ks'.length ≤ 40 → (∀ (i : Nat) (X : kt_T), Ks'[i]? = some X → kt_at A2 i X) → ga_is A2 (gs ++ [g]) → rz_T w (d + 5) 0 0 m_Mod_classify 0 0 163 [some (.ref a), some (.int (nI c)), some (.int (nI x)), z3, z4] [] (re_put G a I2 A2) Q := by
            intro Ks' g I2 A2 z3 z4 hst hc' i2 a2 h76' k1' k40' hk' hg'
            refine rz_blk' [(.iinc 2 1, 3, 0, 0)] (by decide +kernel) (Nat.le_refl _) (Nat.le_refl _) (fun K R hK hR => ?_)
            simp only [rw_c1, ↓rx_iinc, ↓rx_nil, ↓ry_li0s, ↓ry_li0z, rz_set, rz_nol, rz_clr, List.set_cons_zero, List.set_cons_succ, rz_tr, Nat.reduceAdd, Int.reduceAdd, Int.reduceToNat, Int.reduceSub, Int.reduceNeg, Int.cast_ofNat_Int]
            try simp (disch := omega) only [pk_us, pk_un, va_up_self, va_up_ne, nI_add, pk_mul, nI_clamp, vp_inT, nI_ltI, nI_leI, nI_eqI, pk_sub, true_and, and_true]
            refine hK _ _ _ _ ?_
            refine rz_blk' [(.goto (-111), 3, 0, 0)] (by decide +kernel) (Nat.le_refl _) (Nat.le_refl _) (fun K R hK hR => ?_)
            simp only [↓rx_goto, ↓rx_nil, rz_set, rz_nol, rz_clr, List.set_cons_zero, List.set_cons_succ, rz_tr, Nat.reduceAdd, Int.reduceAdd, Int.reduceToNat, Int.reduceSub, Int.reduceNeg, Int.cast_ofNat_Int]
            try simp (disch := omega) only [pk_us, pk_un, va_up_self, va_up_ne, nI_add, pk_mul, nI_clamp, vp_inT, nI_ltI, nI_leI, nI_eqI, pk_sub, true_and, and_true]
            refine hK _ _ _ _ ?_
            exact ihx (x + 1) Ks' (gs ++ [g]) I2 A2 _ _ (by omega) hc' ⟨Ks, gs, X, g, hcl, hXn, rfl, hst⟩ i2 a2 h76' k1' k40' hk' hg'
          -- behind moves: the new class is laid down
          have hmade : ∀ (A2 : Nat → Nat → Int32), fa [77, 78] B A2 → kt_fr Ks.length B A2 → kt_at A2 Ks.length (mx T x X) → (∃ s, s < 6 ∧ mx T x X s ≠ none) → rz_T w (d + 5) 0 0 m_Mod_classify 0 0 89 [some (.ref a), some (.int (nI c)), some (.int (nI x)), some (.int (nI (3 * c + x))), z4] [] (re_put G a I1 A2) Q := by
            intro A2 a2 f2 k2 hex
            have hwn := c_Mod_writeNow (w := w) (d := d + 4) (G := G) (a := a) (I := I1) (A := A2) (sl := 3 * c + x) h76 (by omega) (by omega) k2 hex
            refine rz_blk' [(.aload_n 0, 1, 0, 0), (.iload_n 3, 1, 0, 0)] (by decide +kernel) (Nat.le_refl _) (Nat.le_refl _) (fun K R hK hR => ?_)
            simp only [↓rx_aload_n0, ↓rx_iload_n3, ↓rx_nil, ↓ry_li0s, ↓ry_li0z, ↓ry_lr0s, ↓ry_lr0z, rz_set, rz_nol, rz_clr, List.set_cons_zero, List.set_cons_succ, rz_tr, Nat.reduceAdd, Int.reduceAdd, Int.reduceToNat, Int.reduceSub, Int.reduceNeg, Int.cast_ofNat_Int]
            try simp (disch := omega) only [pk_us, pk_un, va_up_self, va_up_ne, nI_add, pk_mul, nI_clamp, vp_inT, nI_ltI, nI_leI, nI_eqI, pk_sub, true_and, and_true]
            refine hK _ _ _ _ ?_
            refine rz_cV (As := [.int (nI (3 * c + x))]) (b := a) (S := []) l_Mod_382 (by decide +kernel) rfl re_at0 rfl (Nat.le_of_ble_eq_true rfl) (Nat.le_refl _) (Nat.le_refl _) (hwn) (fun r G' hr => ?_)
            obtain ⟨rfl, A3, Lw, rfl, a3, f3, k3, hlc, hl150, e80, e81, e81o⟩ := hr
            simp only [Option.toList, List.nil_append]
            have k3 : kt_at A3 Ks.length (cut (mx T x X) Lw) := k3
            have a23 : fa [25, 28, 29, 31, 32, 33, 34, 35, 36, 37, 39, 40, 43, 44, 45, 77, 78, 79, 80, 81] A A3 := (aB.t a2 rfl).t a3 rfl
            have hfr : kt_fr Ks.length B A3 := f2.t f3
            have hk3 : ∀ (i : Nat) (Y : kt_T), Ks[i]? = some Y → kt_at A3 i Y := fun i Y hY => kt_keep2 (hkB i Y hY) (List.getElem?_eq_some_iff.mp hY).1 hfr
            have e80' : A3 80 = upd (B 80) (3 * c + x) (nI Lw.length) := by rw [e80, a2 80 rfl]
            have e79' : A3 79 = B 79 := by rw [a3 79 rfl, a2 79 rfl]
            have e81' : ∀ i, i < 160 * (3 * c + x) → A3 81 i = B 81 i := fun i hi => by rw [e81o i (Or.inl hi), a2 81 rfl]
            have dl : ∀ (j dd : Nat) (I4 : Nat → Int32) (A4 : Nat → Nat → Int32), dd + j = Ks.length → (∀ (i : Nat) (Y : kt_T), i < dd → Ks[i]? = some Y → ¬ ka T Y (cut (mx T x X) Lw)) → fi [26, 27, 30, 38, 41, 42] I1 I4 → fa [25, 28, 29, 31, 32, 33, 34, 35, 36, 37, 39, 40, 43, 44, 45] A3 A4 → rz_T w (d + 5) 0 0 m_Mod_classify 0 0 97 [some (.ref a), some (.int (nI c)), some (.int (nI x)), some (.int (nI (3 * c + x))), some (.int (nI dd))] [] (re_put G a I4 A4) Q := by
              intro j
              have hset : ∀ (dd : Nat) (I4 : Nat → Int32) (A4 : Nat → Nat → Int32), dd ≤ Ks.length → (∀ (i : Nat) (Y : kt_T), i < dd → Ks[i]? = some Y → ¬ ka T Y (cut (mx T x X) Lw)) → (dd < Ks.length → ∃ Y, Ks[dd]? = some Y ∧ ka T Y (cut (mx T x X) Lw)) → fi [26, 27, 30, 38, 41, 42] I1 I4 → fa [25, 28, 29, 31, 32, 33, 34, 35, 36, 37, 39, 40, 43, 44, 45] A3 A4 → rz_T w (d + 5) 0 0 m_Mod_classify 0 0 125 [some (.ref a), some (.int (nI c)), some (.int (nI x)), some (.int (nI (3 * c + x))), some (.int (nI dd))] [] (re_put G a I4 A4) Q := by
                intro dd I4 A4 hdd hno hyes i4 a4
                have j76 : I4 76 = nI Ks.length := by rw [i4 76 rfl]; exact h76
                have hgC : ∀ {C : Nat → Nat → Int32}, C = va_up A4 79 (upd (A4 79) (3 * c + x) (nI dd)) → ga_is C (gs ++ [some (dd, Lw)]) := by
                  rintro C rfl i hi
                  simp only [List.length_append, List.length_cons, List.length_nil, Nat.zero_add] at hi
                  rw [va_up_self, va_up_ne _ _ (by decide), va_up_ne _ _ (by decide), a4 79 rfl, a4 80 rfl, a4 81 rfl, e79', e80']
                  by_cases ci : i < gs.length
                  · rw [List.getElem?_append_left ci, pk_un (by omega), pk_un (by omega)]
                    obtain ⟨y1, y2, y3, y4⟩ := hgB i ci
                    exact ⟨y1, y2, y3, y4.k (fun z q1 q2 => e81' z (by omega))⟩
                  · have e : i = gs.length := by omega
                    subst e
                    rw [List.getElem?_append_right (Nat.le_refl _), Nat.sub_self, hgl, pk_us, pk_us]
                    exact ⟨rfl, rfl, hl150, e81⟩
                have i14 : fi [26, 27, 30, 38, 41, 42, 76] I I4 := i1.t i4 rfl
                have a14 : ∀ {C : Nat → Nat → Int32}, C = va_up A4 79 (upd (A4 79) (3 * c + x) (nI dd)) → fa [25, 28, 29, 31, 32, 33, 34, 35, 36, 37, 39, 40, 43, 44, 45, 77, 78, 79, 80, 81] A C := by
                  rintro C rfl
                  exact (a23.t a4 rfl).u rfl
                have kC : ∀ {C : Nat → Nat → Int32}, C = va_up A4 79 (upd (A4 79) (3 * c + x) (nI dd)) → ∀ {i : Nat} {Y : kt_T}, kt_at A3 i Y → kt_at C i Y := by
                  rintro C rfl i Y hY
                  exact kt_keep hY (by rw [va_up_ne _ _ (by decide), a4 77 rfl]) (by rw [va_up_ne _ _ (by decide), a4 78 rfl])
                have hst1 : ∀ g, g = some (dd, Lw) → dd < Ks.length → cl_st T Ks (3 * c + x) X g Ks := by
                  rintro g rfl hlt
                  obtain ⟨Y, hY, hYa⟩ := hyes hlt
                  right
                  rw [hmod]
                  exact ⟨hex, Lw, dd, hlc, hno, rfl, Or.inl ⟨Y, hY, hYa, rfl⟩⟩
                have hst2 : ∀ g, g = some (dd, Lw) → dd = Ks.length → Ks.length ≠ 40 → cl_st T Ks (3 * c + x) X g (Ks ++ [cut (mx T x X) Lw]) := by
                  rintro g rfl hlt h40
                  right
                  rw [hmod]
                  exact ⟨hex, Lw, dd, hlc, hno, rfl, Or.inr ⟨hlt, h40, rfl⟩⟩
                refine rz_blk' [(.aload_n 0, 1, 0, 0), (.getfield 197, 3, 10, 79), (.iload_n 3, 1, 0, 0), (.iload 4, 2, 0, 0), (.iastore, 1, 0, 0)] (by decide +kernel) (Nat.le_refl _) (Nat.le_refl _) (fun K R hK hR => ?_)
                simp only [↓rx_aload_n0, ↓rx_getfield, ↓rx_iastore, ↓rx_iload, ↓rx_iload_n3, ↓rx_nil, ↓ry_iau, ↓ry_li0s, ↓ry_li0z, ↓ry_lr0s, ↓ry_lr0z, ↓ry_obu, ↓ry_r1, ↓ry_rii, true_and, re_a79, ↓re_F79, ↓re_i79, ↓re_ob, j76, rz_set, rz_nol, rz_clr, List.set_cons_zero, List.set_cons_succ, rz_tr, Nat.reduceAdd, Int.reduceAdd, Int.reduceToNat, Int.reduceSub, Int.reduceNeg, Int.cast_ofNat_Int]
                try simp (disch := omega) only [j76, pk_us, pk_un, va_up_self, va_up_ne, nI_add, pk_mul, nI_clamp, vp_inT, nI_ltI, nI_leI, nI_eqI, pk_sub, true_and, and_true]
                refine hK _ _ _ _ ?_
                refine rz_blk' [(.iload 4, 2, 0, 0), (.aload_n 0, 1, 0, 0), (.getfield 376, 3, 10, 76), (.if_icmp .ne 24, 3, 0, 0)] (by decide +kernel) (Nat.le_refl _) (Nat.le_refl _) (fun K R hK hR => ?_)
                simp only [↓rx_aload_n0, ↓rx_getfield, ↓rx_if_icmp_ne, ↓rx_iload, ↓rx_nil, ↓ry_i2, ↓ry_li0s, ↓ry_li0z, ↓ry_lr0s, ↓ry_lr0z, ↓ry_obu, ↓ry_r1, ↓re_F76, ↓re_ob, j76, rz_set, rz_nol, rz_clr, List.set_cons_zero, List.set_cons_succ, rz_tr, Nat.reduceAdd, Int.reduceAdd, Int.reduceToNat, Int.reduceSub, Int.reduceNeg, Int.cast_ofNat_Int]
                try simp (disch := omega) only [j76, pk_us, pk_un, va_up_self, va_up_ne, nI_add, pk_mul, nI_clamp, vp_inT, nI_ltI, nI_leI, nI_eqI, pk_sub, true_and, and_true]
                refine ⟨fun q101 => hK _ _ _ _ ?_, fun q101 => hK _ _ _ _ ?_⟩
                · -- 139 taken
                  first
                    | (refine hnext (Ks ++ [cut (mx T x X) Lw]) (some (dd, Lw)) _ _ _ _ (hst2 _ rfl (by omega) (by omega)) (by simp; omega) (i14.u rfl) (a14 rfl) (by rw [pk_us]; simp) (by simp) (by simp; omega) (fun i Y hY => ?_) (hgC rfl)
                       by_cases ci : i < Ks.length
                       · rw [List.getElem?_append_left ci] at hY
                         exact kC rfl (hk3 i Y hY)
                       · have hil := (List.getElem?_eq_some_iff.mp hY).1
                         simp only [List.length_append, List.length_cons, List.length_nil, Nat.zero_add] at hil
                         have e : i = Ks.length := by omega
                         subst e
                         rw [List.getElem?_append_right (Nat.le_refl _)] at hY
                         simp at hY
                         subst hY
                         exact kC rfl k3)
                    | exact hnext Ks (some (dd, Lw)) _ _ _ _ (hst1 _ rfl (by omega)) hc i14 (a14 rfl) j76 k1 k40 (fun i Y hY => kC rfl (hk3 i Y hY)) (hgC rfl)
                · -- 139 not taken
                  refine rz_blk' [(.aload_n 0, 1, 0, 0), (.getfield 376, 3, 10, 76), (.bipush 40, 2, 0, 0), (.if_icmp .ne 5, 3, 0, 0)] (by decide +kernel) (Nat.le_refl _) (Nat.le_refl _) (fun K R hK hR => ?_)
                  simp only [rw_b40, ↓rx_aload_n0, ↓rx_bipush, ↓rx_getfield, ↓rx_if_icmp_ne, ↓rx_nil, ↓ry_i2, ↓ry_lr0s, ↓ry_lr0z, ↓ry_obu, ↓ry_r1, ↓re_F76, ↓re_ob, j76, rz_set, rz_nol, rz_clr, List.set_cons_zero, List.set_cons_succ, rz_tr, Nat.reduceAdd, Int.reduceAdd, Int.reduceToNat, Int.reduceSub, Int.reduceNeg, Int.cast_ofNat_Int]
                  try simp (disch := omega) only [j76, pk_us, pk_un, va_up_self, va_up_ne, nI_add, pk_mul, nI_clamp, vp_inT, nI_ltI, nI_leI, nI_eqI, pk_sub, true_and, and_true]
                  refine ⟨fun q102 => hK _ _ _ _ ?_, fun q102 => hK _ _ _ _ ?_⟩
                  · -- 148 taken
                    refine rz_blk' [(.aload_n 0, 1, 0, 0), (.dup, 1, 0, 0), (.getfield 376, 3, 10, 76), (.iconst 1, 1, 0, 0), (.iadd, 1, 0, 0), (.putfield 376, 3, 10, 76)] (by decide +kernel) (Nat.le_refl _) (Nat.le_refl _) (fun K R hK hR => ?_)
                    simp only [List.length_cons, List.length_nil, Nat.reduceLT, rf_10_76, rw_c1, ↓rx_aload_n0, ↓rx_dup, ↓rx_getfield, ↓rx_iadd, ↓rx_iconst, ↓rx_nil, ↓rx_putfield, ↓ry_i2, ↓ry_lr0s, ↓ry_lr0z, ↓ry_obu, ↓ry_r1, ↓ry_v1i, ↓ry_v1r, ↓ry_vr, true_and, re_len, re_u76, ↓re_F76, ↓re_ob, j76, rz_set, rz_nol, rz_clr, List.set_cons_zero, List.set_cons_succ, rz_tr, Nat.reduceAdd, Int.reduceAdd, Int.reduceToNat, Int.reduceSub, Int.reduceNeg, Int.cast_ofNat_Int]
                    try simp (disch := omega) only [j76, pk_us, pk_un, va_up_self, va_up_ne, nI_add, pk_mul, nI_clamp, vp_inT, nI_ltI, nI_leI, nI_eqI, pk_sub, true_and, and_true]
                    refine hK _ _ _ _ ?_
                    first
                      | (refine hnext (Ks ++ [cut (mx T x X) Lw]) (some (dd, Lw)) _ _ _ _ (hst2 _ rfl (by omega) (by omega)) (by simp; omega) (i14.u rfl) (a14 rfl) (by rw [pk_us]; simp) (by simp) (by simp; omega) (fun i Y hY => ?_) (hgC rfl)
                         by_cases ci : i < Ks.length
                         · rw [List.getElem?_append_left ci] at hY
                           exact kC rfl (hk3 i Y hY)
                         · have hil := (List.getElem?_eq_some_iff.mp hY).1
                           simp only [List.length_append, List.length_cons, List.length_nil, Nat.zero_add] at hil
                           have e : i = Ks.length := by omega
                           subst e
                           rw [List.getElem?_append_right (Nat.le_refl _)] at hY
                           simp at hY
                           subst hY
                           exact kC rfl k3)
                      | exact hnext Ks (some (dd, Lw)) _ _ _ _ (hst1 _ rfl (by omega)) hc i14 (a14 rfl) j76 k1 k40 (fun i Y hY => kC rfl (hk3 i Y hY)) (hgC rfl)
                  · -- 148 not taken
                    refine rz_blk' [(.iconst 0, 1, 0, 0), (.ireturn, 1, 0, 0)] (by decide +kernel) (Nat.le_refl _) (Nat.le_refl _) (fun K R hK hR => ?_)
                    simp only [rw_c0, ↓rx_iconst, ↓rx_ireturn, ↓rx_nil, j76, rz_set, rz_nol, rz_clr, List.set_cons_zero, List.set_cons_succ, rz_tr, Nat.reduceAdd, Int.reduceAdd, Int.reduceToNat, Int.reduceSub, Int.reduceNeg, Int.cast_ofNat_Int]
                    try simp (disch := omega) only [j76, pk_us, pk_un, va_up_self, va_up_ne, nI_add, pk_mul, nI_clamp, vp_inT, nI_ltI, nI_leI, nI_eqI, pk_sub, true_and, and_true]
                    refine hR _ _ rz_nb_0 ?_
                    rw [← hQ]
                    refine ⟨_, _, false, rfl, rfl, i14, a14 rfl, Or.inr ⟨rfl, 3 * c + x, Ks, gs, X, Lw, hcl, hXn, by rw [hmod]; exact hex, by rw [hmod]; exact hlc, by omega, fun Y hY => ?_⟩⟩
                    obtain ⟨i, hi⟩ := List.mem_iff_getElem?.mp hY
                    rw [hmod]
                    exact hno i Y (by have := (List.getElem?_eq_some_iff.mp hi).1; omega) hi
              induction j with
              | zero =>
                intro dd I4 A4 hdj hno i4 a4
                have j76 : I4 76 = nI Ks.length := by rw [i4 76 rfl]; exact h76
                refine rz_blk' [(.iload 4, 2, 0, 0), (.aload_n 0, 1, 0, 0), (.getfield 376, 3, 10, 76), (.if_icmp .ge 22, 3, 0, 0)] (by decide +kernel) (Nat.le_refl _) (Nat.le_refl _) (fun K R hK hR => ?_)
                simp only [↓rx_aload_n0, ↓rx_getfield, ↓rx_if_icmp_ge, ↓rx_iload, ↓rx_nil, ↓ry_i2, ↓ry_li0s, ↓ry_li0z, ↓ry_lr0s, ↓ry_lr0z, ↓ry_obu, ↓ry_r1, ↓re_F76, ↓re_ob, j76, rz_set, rz_nol, rz_clr, List.set_cons_zero, List.set_cons_succ, rz_tr, Nat.reduceAdd, Int.reduceAdd, Int.reduceToNat, Int.reduceSub, Int.reduceNeg, Int.cast_ofNat_Int]
                try simp (disch := omega) only [j76, pk_us, pk_un, va_up_self, va_up_ne, nI_add, pk_mul, nI_clamp, vp_inT, nI_ltI, nI_leI, nI_eqI, pk_sub, true_and, and_true]
                refine ⟨fun q103 => hK _ _ _ _ ?_, fun q103 => by omega⟩
                exact hset dd I4 A4 (by omega) hno (fun q => absurd q (by omega)) i4 a4
              | succ j ihd =>
                intro dd I4 A4 hdj hno i4 a4
                have j76 : I4 76 = nI Ks.length := by rw [i4 76 rfl]; exact h76
                have hdl : dd < Ks.length := by omega
                obtain ⟨Y, hY⟩ : ∃ Y, Ks[dd]? = some Y := ⟨_, List.getElem?_eq_getElem hdl⟩
                have hga := c_Mod_goOnAlike (w := w) (d := d) (G := G) (a := a) (I := I4) (A := A4) (c := dd) (c2 := Ks.length) (re_t_fa (re_t_fa t a23 rfl) a4 rfl) w1 (by omega) (by omega) (kt_keep (hk3 dd Y hY) (a4 77 rfl) (a4 78 rfl)) (kt_keep k3 (a4 77 rfl) (a4 78 rfl))
                refine rz_blk' [(.iload 4, 2, 0, 0), (.aload_n 0, 1, 0, 0), (.getfield 376, 3, 10, 76), (.if_icmp .ge 22, 3, 0, 0)] (by decide +kernel) (Nat.le_refl _) (Nat.le_refl _) (fun K R hK hR => ?_)
                simp only [↓rx_aload_n0, ↓rx_getfield, ↓rx_if_icmp_ge, ↓rx_iload, ↓rx_nil, ↓ry_i2, ↓ry_li0s, ↓ry_li0z, ↓ry_lr0s, ↓ry_lr0z, ↓ry_obu, ↓ry_r1, ↓re_F76, ↓re_ob, j76, rz_set, rz_nol, rz_clr, List.set_cons_zero, List.set_cons_succ, rz_tr, Nat.reduceAdd, Int.reduceAdd, Int.reduceToNat, Int.reduceSub, Int.reduceNeg, Int.cast_ofNat_Int]
                try simp (disch := omega) only [j76, rb_0, pk_us, pk_un, va_up_self, va_up_ne, nI_add, pk_mul, nI_clamp, vp_inT, nI_ltI, nI_leI, nI_eqI, pk_sub, true_and, and_true]
                refine ⟨fun q104 => by omega, fun q104 => hK _ _ _ _ ?_⟩
                refine rz_blk' [(.aload_n 0, 1, 0, 0), (.iload 4, 2, 0, 0), (.aload_n 0, 1, 0, 0), (.getfield 376, 3, 10, 76)] (by decide +kernel) (Nat.le_refl _) (Nat.le_refl _) (fun K R hK hR => ?_)
                simp only [↓rx_aload_n0, ↓rx_getfield, ↓rx_iload, ↓rx_nil, ↓ry_li0s, ↓ry_li0z, ↓ry_lr0s, ↓ry_lr0z, ↓ry_obu, ↓ry_r1, ↓re_F76, ↓re_ob, j76, rz_set, rz_nol, rz_clr, List.set_cons_zero, List.set_cons_succ, rz_tr, Nat.reduceAdd, Int.reduceAdd, Int.reduceToNat, Int.reduceSub, Int.reduceNeg, Int.cast_ofNat_Int]
                try simp (disch := omega) only [j76, rb_0, pk_us, pk_un, va_up_self, va_up_ne, nI_add, pk_mul, nI_clamp, vp_inT, nI_ltI, nI_leI, nI_eqI, pk_sub, true_and, and_true]
                refine hK _ _ _ _ ?_
                refine rz_cV (As := [.int (nI dd), .int (nI Ks.length)]) (b := a) (S := []) l_Mod_385 (by decide +kernel) rfl re_at0 rfl (Nat.le_of_ble_eq_true rfl) (Nat.le_refl _) (Nat.le_refl _) (hga) (fun r G' hr => ?_)
                obtain ⟨I5, A5, b, rfl, rfl, i5, a5, hb⟩ := hr
                simp only [Option.toList, List.cons_append, List.nil_append]
                refine rz_blk' [(.ifCond .ne 9, 3, 0, 0)] (by decide +kernel) (Nat.le_refl _) (Nat.le_refl _) (fun K R hK hR => ?_)
                simp only [↓rx_ifCond_ne, ↓rx_nil, ↓ry_i1, j76, rz_set, rz_nol, rz_clr, List.set_cons_zero, List.set_cons_succ, rz_tr, Nat.reduceAdd, Int.reduceAdd, Int.reduceToNat, Int.reduceSub, Int.reduceNeg, Int.cast_ofNat_Int]
                try simp (disch := omega) only [j76, rb_0, pk_us, pk_un, va_up_self, va_up_ne, nI_add, pk_mul, nI_clamp, vp_inT, nI_ltI, nI_leI, nI_eqI, pk_sub, true_and, and_true]
                refine ⟨fun q105 => hK _ _ _ _ ?_, fun q105 => hK _ _ _ _ ?_⟩
                · -- 116 taken
                  exact hset dd I5 A5 (by omega) hno (fun _ => ⟨Y, hY, hb.mp (by simpa using q105)⟩) (i4.t i5 rfl) (a4.t a5 rfl)
                · -- 116 not taken
                  refine rz_blk' [(.iinc 4 1, 3, 0, 0)] (by decide +kernel) (Nat.le_refl _) (Nat.le_refl _) (fun K R hK hR => ?_)
                  simp only [rw_c1, ↓rx_iinc, ↓rx_nil, ↓ry_li0s, ↓ry_li0z, j76, rz_set, rz_nol, rz_clr, List.set_cons_zero, List.set_cons_succ, rz_tr, Nat.reduceAdd, Int.reduceAdd, Int.reduceToNat, Int.reduceSub, Int.reduceNeg, Int.cast_ofNat_Int]
                  try simp (disch := omega) only [j76, rb_0, pk_us, pk_un, va_up_self, va_up_ne, nI_add, pk_mul, nI_clamp, vp_inT, nI_ltI, nI_leI, nI_eqI, pk_sub, true_and, and_true]
                  refine hK _ _ _ _ ?_
                  refine rz_blk' [(.goto (-25), 3, 0, 0)] (by decide +kernel) (Nat.le_refl _) (Nat.le_refl _) (fun K R hK hR => ?_)
                  simp only [↓rx_goto, ↓rx_nil, j76, rz_set, rz_nol, rz_clr, List.set_cons_zero, List.set_cons_succ, rz_tr, Nat.reduceAdd, Int.reduceAdd, Int.reduceToNat, Int.reduceSub, Int.reduceNeg, Int.cast_ofNat_Int]
                  try simp (disch := omega) only [j76, rb_0, pk_us, pk_un, va_up_self, va_up_ne, nI_add, pk_mul, nI_clamp, vp_inT, nI_ltI, nI_leI, nI_eqI, pk_sub, true_and, and_true]
                  refine hK _ _ _ _ ?_
                  refine ihd (dd + 1) I5 A5 (by omega) (fun i Z hi hZ => ?_) (i4.t i5 rfl) (a4.t a5 rfl)
                  by_cases ci : i = dd
                  · subst ci
                    rw [hY] at hZ
                    cases hZ
                    intro q
                    have := hb.mpr q
                    rw [(by assumption : b = false)] at this
                    cases this
                  · exact hno i Z (by omega) hZ
            refine rz_blk' [(.iconst 0, 1, 0, 0), (.istore 4, 2, 0, 0)] (by decide +kernel) (Nat.le_refl _) (Nat.le_refl _) (fun K R hK hR => ?_)
            simp only [rw_c0, ↓rx_iconst, ↓rx_istore, ↓rx_nil, ↓ry_i1, rz_set, rz_nol, rz_clr, List.set_cons_zero, List.set_cons_succ, rz_tr, Nat.reduceAdd, Int.reduceAdd, Int.reduceToNat, Int.reduceSub, Int.reduceNeg, Int.cast_ofNat_Int]
            try simp (disch := omega) only [pk_us, pk_un, va_up_self, va_up_ne, nI_add, pk_mul, nI_clamp, vp_inT, nI_ltI, nI_leI, nI_eqI, pk_sub, true_and, and_true]
            refine hK _ _ _ _ ?_
            exact dl Ks.length 0 I1 A3 (Nat.zero_add _) (fun i Y hi => absurd hi (Nat.not_lt_zero _)) fi.rf fa.rf
          refine rz_blk' [(.iload_n 2, 1, 0, 0), (.iconst 3, 1, 0, 0), (.if_icmp .ge 112, 3, 0, 0)] (by decide +kernel) (Nat.le_refl _) (Nat.le_refl _) (fun K R hK hR => ?_)
          simp only [rw_c3, ↓rx_iconst, ↓rx_if_icmp_ge, ↓rx_iload_n2, ↓rx_nil, ↓ry_i2, ↓ry_li0s, ↓ry_li0z, h76, rz_set, rz_nol, rz_clr, List.set_cons_zero, List.set_cons_succ, rz_tr, Nat.reduceAdd, Int.reduceAdd, Int.reduceToNat, Int.reduceSub, Int.reduceNeg, Int.cast_ofNat_Int]
          try simp (disch := omega) only [h76, rb_0, pk_us, pk_un, va_up_self, va_up_ne, nI_add, pk_mul, nI_clamp, vp_inT, nI_ltI, nI_leI, nI_eqI, pk_sub, true_and, and_true]
          refine ⟨fun q3 => by omega, fun q3 => hK _ _ _ _ ?_⟩
          refine rz_blk' [(.iconst 3, 1, 0, 0), (.iload_n 1, 1, 0, 0), (.imul, 1, 0, 0), (.iload_n 2, 1, 0, 0), (.iadd, 1, 0, 0), (.istore_n 3, 1, 0, 0)] (by decide +kernel) (Nat.le_refl _) (Nat.le_refl _) (fun K R hK hR => ?_)
          simp only [rw_c3, ↓rx_iadd, ↓rx_iconst, ↓rx_iload_n1, ↓rx_iload_n2, ↓rx_imul, ↓rx_istore_n3, ↓rx_nil, ↓ry_i1, ↓ry_i2, ↓ry_li0s, ↓ry_li0z, h76, rz_set, rz_nol, rz_clr, List.set_cons_zero, List.set_cons_succ, rz_tr, Nat.reduceAdd, Int.reduceAdd, Int.reduceToNat, Int.reduceSub, Int.reduceNeg, Int.cast_ofNat_Int]
          try simp (disch := omega) only [h76, rb_0, pk_us, pk_un, va_up_self, va_up_ne, nI_add, pk_mul, nI_clamp, vp_inT, nI_ltI, nI_leI, nI_eqI, pk_sub, true_and, and_true]
          refine hK _ _ _ _ ?_
          refine rz_blk' [(.aload_n 0, 1, 0, 0), (.getfield 197, 3, 10, 79), (.iload_n 3, 1, 0, 0), (.iconst (-1), 1, 0, 0), (.iastore, 1, 0, 0)] (by decide +kernel) (Nat.le_refl _) (Nat.le_refl _) (fun K R hK hR => ?_)
          simp only [rw_cm1, ↓rx_aload_n0, ↓rx_getfield, ↓rx_iastore, ↓rx_iconst, ↓rx_iload_n3, ↓rx_nil, ↓ry_iau, ↓ry_li0s, ↓ry_li0z, ↓ry_lr0s, ↓ry_lr0z, ↓ry_obu, ↓ry_r1, ↓ry_rii, true_and, re_a79, ↓re_F79, ↓re_i79, ↓re_ob, h76, rz_set, rz_nol, rz_clr, List.set_cons_zero, List.set_cons_succ, rz_tr, Nat.reduceAdd, Int.reduceAdd, Int.reduceToNat, Int.reduceSub, Int.reduceNeg, Int.cast_ofNat_Int]
          try simp (disch := omega) only [h76, rb_0, pk_us, pk_un, va_up_self, va_up_ne, nI_add, pk_mul, nI_clamp, vp_inT, nI_ltI, nI_leI, nI_eqI, pk_sub, true_and, and_true]
          refine hK _ _ _ _ ?_
          refine rz_blk' [(.aload_n 0, 1, 0, 0), (.getfield 200, 3, 10, 80), (.iload_n 3, 1, 0, 0), (.iconst 0, 1, 0, 0), (.iastore, 1, 0, 0)] (by decide +kernel) (Nat.le_refl _) (Nat.le_refl _) (fun K R hK hR => ?_)
          simp only [rw_c0, ↓rx_aload_n0, ↓rx_getfield, ↓rx_iastore, ↓rx_iconst, ↓rx_iload_n3, ↓rx_nil, ↓ry_iau, ↓ry_li0s, ↓ry_li0z, ↓ry_lr0s, ↓ry_lr0z, ↓ry_obu, ↓ry_r1, ↓ry_rii, true_and, re_a80, ↓re_F80, ↓re_i80, ↓re_ob, h76, rz_set, rz_nol, rz_clr, List.set_cons_zero, List.set_cons_succ, rz_tr, Nat.reduceAdd, Int.reduceAdd, Int.reduceToNat, Int.reduceSub, Int.reduceNeg, Int.cast_ofNat_Int]
          try simp (disch := omega) only [h76, rb_0, pk_us, pk_un, va_up_self, va_up_ne, nI_add, pk_mul, nI_clamp, vp_inT, nI_ltI, nI_leI, nI_eqI, pk_sub, true_and, and_true]
          refine hK _ _ _ _ ?_
          refine rz_blk' [(.aload_n 0, 1, 0, 0), (.iload_n 1, 1, 0, 0), (.iload_n 2, 1, 0, 0)] (by decide +kernel) (Nat.le_refl _) (Nat.le_refl _) (fun K R hK hR => ?_)
          simp only [↓rx_aload_n0, ↓rx_iload_n1, ↓rx_iload_n2, ↓rx_nil, ↓ry_li0s, ↓ry_li0z, ↓ry_lr0s, ↓ry_lr0z, h76, rz_set, rz_nol, rz_clr, List.set_cons_zero, List.set_cons_succ, rz_tr, Nat.reduceAdd, Int.reduceAdd, Int.reduceToNat, Int.reduceSub, Int.reduceNeg, Int.cast_ofNat_Int]
          try simp (disch := omega) only [h76, rb_0, pk_us, pk_un, va_up_self, va_up_ne, nI_add, pk_mul, nI_clamp, vp_inT, nI_ltI, nI_leI, nI_eqI, pk_sub, true_and, and_true]
          refine hK _ _ _ _ ?_
          rw [hB]
          refine rz_cV (As := [.int (nI c), .int (nI x)]) (b := a) (S := []) l_Mod_379 (by decide +kernel) rfl re_at0 rfl (Nat.le_of_ble_eq_true rfl) (Nat.le_refl _) (Nat.le_refl _) (hmv) (fun r G' hr => ?_)
          obtain ⟨A2, b, rfl, rfl, a2, f2, k2, hb⟩ := hr
          simp only [Option.toList, List.cons_append, List.nil_append]
          refine rz_blk' [(.ifCond .eq 77, 3, 0, 0)] (by decide +kernel) (Nat.le_refl _) (Nat.le_refl _) (fun K R hK hR => ?_)
          simp only [↓rx_ifCond_eq, ↓rx_nil, ↓ry_i1, h76, rz_set, rz_nol, rz_clr, List.set_cons_zero, List.set_cons_succ, rz_tr, Nat.reduceAdd, Int.reduceAdd, Int.reduceToNat, Int.reduceSub, Int.reduceNeg, Int.cast_ofNat_Int]
          try simp (disch := omega) only [h76, rb_0, pk_us, pk_un, va_up_self, va_up_ne, nI_add, pk_mul, nI_clamp, vp_inT, nI_ltI, nI_leI, nI_eqI, pk_sub, true_and, and_true]
          refine ⟨fun q4 => hK _ _ _ _ ?_, fun q4 => hK _ _ _ _ ?_⟩
          · -- 86 taken
            have hbf : b = false := q4
            have hno : ∀ s, s < 6 → mx T x X s = none := fun s hs => by
              cases q : mx T x X s with
              | none => rfl
              | some u =>
                have := hb.mpr ⟨s, hs, by rw [q]; simp⟩
                rw [hbf] at this; cases this
            refine hnext Ks none I1 A2 _ _ (Or.inl ⟨by rw [hmod]; exact hno, rfl, rfl⟩) hc i1 (aB.t a2 rfl) h76 k1 k40 (fun i Y hY => kt_keep2 (hkB i Y hY) (List.getElem?_eq_some_iff.mp hY).1 f2) (fun i hi => ?_)
            simp only [List.length_append, List.length_cons, List.length_nil, Nat.zero_add] at hi
            rw [a2 79 rfl, a2 80 rfl, a2 81 rfl, hB79, hB80]
            by_cases ci : i < gs.length
            · rw [List.getElem?_append_left ci, pk_un (by omega), pk_un (by omega), hBo 81 (by decide) (by decide)]
              exact hg i ci
            · have e : i = gs.length := by omega
              subst e
              rw [List.getElem?_append_right (Nat.le_refl _), Nat.sub_self, hgl, pk_us, pk_us]
              exact ⟨rfl, rfl, by simp [bb_w], sg_nil⟩
          · -- 86 not taken
            exact hmade A2 a2 f2 k2 (hb.mp (by simpa using q4))
      refine rz_blk' [(.iload_n 1, 1, 0, 0), (.aload_n 0, 1, 0, 0), (.getfield 376, 3, 10, 76), (.if_icmp .ge 125, 3, 0, 0)] (by decide +kernel) (Nat.le_refl _) (Nat.le_refl _) (fun K R hK hR => ?_)
      simp only [↓rx_aload_n0, ↓rx_getfield, ↓rx_if_icmp_ge, ↓rx_iload_n1, ↓rx_nil, ↓ry_i2, ↓ry_li0s, ↓ry_li0z, ↓ry_lr0s, ↓ry_lr0z, ↓ry_obu, ↓ry_r1, ↓re_F76, ↓re_ob, h76, rz_set, rz_nol, rz_clr, List.set_cons_zero, List.set_cons_succ, rz_tr, Nat.reduceAdd, Int.reduceAdd, Int.reduceToNat, Int.reduceSub, Int.reduceNeg, Int.cast_ofNat_Int]
      try simp (disch := omega) only [h76, pk_us, pk_un, va_up_self, va_up_ne, nI_add, pk_mul, nI_clamp, vp_inT, nI_ltI, nI_leI, nI_eqI, pk_sub, true_and, and_true]
      refine ⟨fun q5 => by omega, fun q5 => hK _ _ _ _ ?_⟩
      refine rz_blk' [(.iconst 0, 1, 0, 0), (.istore_n 2, 1, 0, 0)] (by decide +kernel) (Nat.le_refl _) (Nat.le_refl _) (fun K R hK hR => ?_)
      simp only [rw_c0, ↓rx_iconst, ↓rx_istore_n2, ↓rx_nil, ↓ry_i1, h76, rz_set, rz_nol, rz_clr, List.set_cons_zero, List.set_cons_succ, rz_tr, Nat.reduceAdd, Int.reduceAdd, Int.reduceToNat, Int.reduceSub, Int.reduceNeg, Int.cast_ofNat_Int]
      try simp (disch := omega) only [h76, pk_us, pk_un, va_up_self, va_up_ne, nI_add, pk_mul, nI_clamp, vp_inT, nI_ltI, nI_leI, nI_eqI, pk_sub, true_and, and_true]
      refine hK _ _ _ _ ?_
      exact xl 3 0 Ks gs I1 A1 _ _ rfl hclt hcl i1 a1 h76 k1 k40 hk hg
  have u0 := t.1 0 (by decide)
  rw [Nat.mul_zero, Nat.add_zero] at u0
  have sl : ∀ (j i : Nat) (A1 : Nat → Nat → Int32), i + j = 6 → fa [25, 28, 29, 31, 32, 33, 34, 35, 36, 37, 39, 40, 43, 44, 45, 77, 78, 79, 80, 81] A A1 → (∀ s, s < i → A1 77 s = os (k0 T s)) → rz_T w (d + 5) 0 0 m_Mod_classify 0 0 2 [some (.ref a), some (.int (nI i)), none, none, none] [] (re_put G a I A1) Q := by
    intro j
    induction j with
    | zero =>
      intro i A1 hij a1 hk
      have hi : i = 6 := by omega
      subst hi
      refine rz_blk' [(.iload_n 1, 1, 0, 0), (.bipush 6, 2, 0, 0), (.if_icmp .ge 33, 3, 0, 0)] (by decide +kernel) (Nat.le_refl _) (Nat.le_refl _) (fun K R hK hR => ?_)
      simp only [rw_b6, ↓rx_bipush, ↓rx_if_icmp_ge, ↓rx_iload_n1, ↓rx_nil, ↓ry_i2, ↓ry_li0s, ↓ry_li0z, rz_set, rz_nol, rz_clr, List.set_cons_zero, List.set_cons_succ, rz_tr, Nat.reduceAdd, Int.reduceAdd, Int.reduceToNat, Int.reduceSub, Int.reduceNeg, Int.cast_ofNat_Int]
      try simp (disch := omega) only [pk_us, pk_un, va_up_self, va_up_ne, nI_add, pk_mul, nI_clamp, vp_inT, nI_ltI, nI_leI, nI_eqI, pk_sub, true_and, and_true]
      refine ⟨fun q6 => hK _ _ _ _ ?_, fun q6 => by omega⟩
      refine rz_blk' [(.aload_n 0, 1, 0, 0), (.iconst 1, 1, 0, 0), (.putfield 376, 3, 10, 76)] (by decide +kernel) (Nat.le_refl _) (Nat.le_refl _) (fun K R hK hR => ?_)
      simp only [List.length_cons, List.length_nil, Nat.reduceLT, rf_10_76, rw_c1, ↓rx_aload_n0, ↓rx_iconst, ↓rx_nil, ↓rx_putfield, ↓ry_lr0s, ↓ry_lr0z, ↓ry_obu, ↓ry_vr, true_and, re_len, re_u76, ↓re_ob, rz_set, rz_nol, rz_clr, List.set_cons_zero, List.set_cons_succ, rz_tr, Nat.reduceAdd, Int.reduceAdd, Int.reduceToNat, Int.reduceSub, Int.reduceNeg, Int.cast_ofNat_Int]
      try simp (disch := omega) only [pk_us, pk_un, va_up_self, va_up_ne, nI_add, pk_mul, nI_clamp, vp_inT, nI_ltI, nI_leI, nI_eqI, pk_sub, true_and, and_true]
      refine hK _ _ _ _ ?_
      refine rz_blk' [(.iconst 0, 1, 0, 0), (.istore_n 1, 1, 0, 0)] (by decide +kernel) (Nat.le_refl _) (Nat.le_refl _) (fun K R hK hR => ?_)
      simp only [rw_c0, ↓rx_iconst, ↓rx_istore_n1, ↓rx_nil, ↓ry_i1, rz_set, rz_nol, rz_clr, List.set_cons_zero, List.set_cons_succ, rz_tr, Nat.reduceAdd, Int.reduceAdd, Int.reduceToNat, Int.reduceSub, Int.reduceNeg, Int.cast_ofNat_Int]
      try simp (disch := omega) only [pk_us, pk_un, va_up_self, va_up_ne, nI_add, pk_mul, nI_clamp, vp_inT, nI_ltI, nI_leI, nI_eqI, pk_sub, true_and, and_true]
      refine hK _ _ _ _ ?_
      refine wl 41 0 [k0 T] [] _ A1 _ _ _ (by omega) (Nat.zero_le _) ⟨rfl, rfl⟩ (fi.rf.u rfl) a1 (by rw [pk_us]; rfl) (by simp) (by simp) (fun i X hX => ?_) (fun i hi => absurd hi (Nat.not_lt_zero _))
      have hil := (List.getElem?_eq_some_iff.mp hX).1
      have e : i = 0 := by simpa using hil
      subst e
      cases hX
      intro s hs
      rw [Nat.mul_zero, Nat.zero_add]
      have hnil : (k0 T s).getD [] = [] := by unfold k0; split <;> rfl
      rw [hnil]
      exact ⟨hk s hs, sg_nil, by simp, by simp⟩
    | succ j ih =>
      intro i A1 hij a1 hk
      have f14 : A1 14 0 = rz_b (T.1.testBit 0) := by rw [a1 14 rfl]; exact u0
      have hz : (nI i = 0) = (i = 0) := by rw [show (0 : Int32) = nI 0 from rfl, nI_eqI (by omega) (by decide)]
      have hgo : ∀ z, z = os (k0 T i) → rz_T w (d + 5) 0 0 m_Mod_classify 0 0 2 [some (.ref a), some (.int (nI (i + 1))), none, none, none] [] (re_put G a I (va_up A1 77 (upd (A1 77) i z))) Q := by
        rintro z rfl
        refine ih (i + 1) _ (by omega) (a1.u rfl) (fun s hs => ?_)
        rw [va_up_self]
        by_cases cs : s = i
        · subst cs; rw [pk_us]
        · rw [pk_un cs]; exact hk s (by omega)
      refine rz_blk' [(.iload_n 1, 1, 0, 0), (.bipush 6, 2, 0, 0), (.if_icmp .ge 33, 3, 0, 0)] (by decide +kernel) (Nat.le_refl _) (Nat.le_refl _) (fun K R hK hR => ?_)
      simp only [rw_b6, ↓rx_bipush, ↓rx_if_icmp_ge, ↓rx_iload_n1, ↓rx_nil, ↓ry_i2, ↓ry_li0s, ↓ry_li0z, f14, re_a77, ↓re_i77, rz_set, rz_nol, rz_clr, List.set_cons_zero, List.set_cons_succ, rz_tr, Nat.reduceAdd, Int.reduceAdd, Int.reduceToNat, Int.reduceSub, Int.reduceNeg, Int.cast_ofNat_Int]
      try simp (disch := omega) only [f14, hz, rb_0, pk_us, pk_un, va_up_self, va_up_ne, nI_add, pk_mul, nI_clamp, vp_inT, nI_ltI, nI_leI, nI_eqI, pk_sub, true_and, and_true]
      refine ⟨fun q7 => by omega, fun q7 => hK _ _ _ _ ?_⟩
      refine rz_blk' [(.aload_n 0, 1, 0, 0), (.getfield 190, 3, 10, 77), (.iload_n 1, 1, 0, 0), (.iload_n 1, 1, 0, 0), (.ifCond .ne 16, 3, 0, 0)] (by decide +kernel) (Nat.le_refl _) (Nat.le_refl _) (fun K R hK hR => ?_)
      simp only [↓rx_aload_n0, ↓rx_getfield, ↓rx_ifCond_ne, ↓rx_iload_n1, ↓rx_nil, ↓ry_i1, ↓ry_li0s, ↓ry_li0z, ↓ry_lr0s, ↓ry_lr0z, ↓ry_obu, ↓ry_r1, re_a77, ↓re_F77, ↓re_i77, ↓re_ob, f14, re_a77, ↓re_i77, rz_set, rz_nol, rz_clr, List.set_cons_zero, List.set_cons_succ, rz_tr, Nat.reduceAdd, Int.reduceAdd, Int.reduceToNat, Int.reduceSub, Int.reduceNeg, Int.cast_ofNat_Int]
      try simp (disch := omega) only [f14, hz, rb_0, pk_us, pk_un, va_up_self, va_up_ne, nI_add, pk_mul, nI_clamp, vp_inT, nI_ltI, nI_leI, nI_eqI, pk_sub, true_and, and_true]
      refine ⟨fun q8 => hK _ _ _ _ ?_, fun q8 => hK _ _ _ _ ?_⟩
      · -- 14 taken
        refine rz_blk' [(.iconst (-1), 1, 0, 0), (.iastore, 1, 0, 0)] (by decide +kernel) (Nat.le_refl _) (Nat.le_refl _) (fun K R hK hR => ?_)
        simp only [rw_cm1, ↓rx_iastore, ↓rx_iconst, ↓rx_nil, ↓ry_iau, ↓ry_rii, true_and, f14, re_a77, ↓re_i77, rz_set, rz_nol, rz_clr, List.set_cons_zero, List.set_cons_succ, rz_tr, Nat.reduceAdd, Int.reduceAdd, Int.reduceToNat, Int.reduceSub, Int.reduceNeg, Int.cast_ofNat_Int]
        try simp (disch := omega) only [f14, hz, rb_0, pk_us, pk_un, va_up_self, va_up_ne, nI_add, pk_mul, nI_clamp, vp_inT, nI_ltI, nI_leI, nI_eqI, pk_sub, true_and, and_true]
        refine hK _ _ _ _ ?_
        refine rz_blk' [(.iinc 1 1, 3, 0, 0)] (by decide +kernel) (Nat.le_refl _) (Nat.le_refl _) (fun K R hK hR => ?_)
        simp only [rw_c1, ↓rx_iinc, ↓rx_nil, ↓ry_li0s, ↓ry_li0z, f14, re_a77, ↓re_i77, rz_set, rz_nol, rz_clr, List.set_cons_zero, List.set_cons_succ, rz_tr, Nat.reduceAdd, Int.reduceAdd, Int.reduceToNat, Int.reduceSub, Int.reduceNeg, Int.cast_ofNat_Int]
        try simp (disch := omega) only [f14, hz, rb_0, pk_us, pk_un, va_up_self, va_up_ne, nI_add, pk_mul, nI_clamp, vp_inT, nI_ltI, nI_leI, nI_eqI, pk_sub, true_and, and_true]
        refine hK _ _ _ _ ?_
        refine rz_blk' [(.goto (-33), 3, 0, 0)] (by decide +kernel) (Nat.le_refl _) (Nat.le_refl _) (fun K R hK hR => ?_)
        simp only [↓rx_goto, ↓rx_nil, f14, re_a77, ↓re_i77, rz_set, rz_nol, rz_clr, List.set_cons_zero, List.set_cons_succ, rz_tr, Nat.reduceAdd, Int.reduceAdd, Int.reduceToNat, Int.reduceSub, Int.reduceNeg, Int.cast_ofNat_Int]
        try simp (disch := omega) only [f14, hz, rb_0, pk_us, pk_un, va_up_self, va_up_ne, nI_add, pk_mul, nI_clamp, vp_inT, nI_ltI, nI_leI, nI_eqI, pk_sub, true_and, and_true]
        refine hK _ _ _ _ ?_
        first
          | exact hgo _ (by unfold k0; rw [if_neg (fun q => q8 q.1)]; rfl)
          | exact hgo _ (by unfold k0; rw [if_neg (fun q => by have := q.2; rw [q8] at this; cases this)]; rfl)
          | exact hgo _ (by unfold k0; rw [if_pos ⟨by omega, by simpa using q8⟩]; rfl)
          | exact hgo _ (by unfold k0; rw [if_pos ⟨by simpa using q7, by simpa using q8⟩]; rfl)
      · -- 14 not taken
        refine rz_blk' [(.aload_n 0, 1, 0, 0), (.getfield 46, 3, 10, 14), (.iconst 0, 1, 0, 0), (.baload, 1, 0, 0), (.ifCond .eq 7, 3, 0, 0)] (by decide +kernel) (Nat.le_refl _) (Nat.le_refl _) (fun K R hK hR => ?_)
        simp only [Nat.reduceEqDiff, false_or, or_false, or_true, reduceIte, rw_c0, ↓rx_aload_n0, ↓rx_baload, ↓rx_getfield, ↓rx_iconst, ↓rx_ifCond_eq, ↓rx_nil, ↓ry_i1, ↓ry_iau, ↓ry_lr0s, ↓ry_lr0z, ↓ry_obu, ↓ry_r1, ↓ry_ri, true_and, true_or, re_a14, ↓re_F14, ↓re_i14, ↓re_ob, f14, re_a77, ↓re_i77, rz_set, rz_nol, rz_clr, List.set_cons_zero, List.set_cons_succ, rz_tr, Nat.reduceAdd, Int.reduceAdd, Int.reduceToNat, Int.reduceSub, Int.reduceNeg, Int.cast_ofNat_Int]
        try simp (disch := omega) only [f14, hz, rb_0, pk_us, pk_un, va_up_self, va_up_ne, nI_add, pk_mul, nI_clamp, vp_inT, nI_ltI, nI_leI, nI_eqI, pk_sub, true_and, and_true]
        refine ⟨fun q9 => hK _ _ _ _ ?_, fun q9 => hK _ _ _ _ ?_⟩
        · -- 23 taken
          refine rz_blk' [(.iconst (-1), 1, 0, 0), (.iastore, 1, 0, 0)] (by decide +kernel) (Nat.le_refl _) (Nat.le_refl _) (fun K R hK hR => ?_)
          simp only [rw_cm1, ↓rx_iastore, ↓rx_iconst, ↓rx_nil, ↓ry_iau, ↓ry_rii, true_and, f14, re_a77, ↓re_i77, rz_set, rz_nol, rz_clr, List.set_cons_zero, List.set_cons_succ, rz_tr, Nat.reduceAdd, Int.reduceAdd, Int.reduceToNat, Int.reduceSub, Int.reduceNeg, Int.cast_ofNat_Int]
          try simp (disch := omega) only [f14, hz, rb_0, pk_us, pk_un, va_up_self, va_up_ne, nI_add, pk_mul, nI_clamp, vp_inT, nI_ltI, nI_leI, nI_eqI, pk_sub, true_and, and_true]
          refine hK _ _ _ _ ?_
          refine rz_blk' [(.iinc 1 1, 3, 0, 0)] (by decide +kernel) (Nat.le_refl _) (Nat.le_refl _) (fun K R hK hR => ?_)
          simp only [rw_c1, ↓rx_iinc, ↓rx_nil, ↓ry_li0s, ↓ry_li0z, f14, re_a77, ↓re_i77, rz_set, rz_nol, rz_clr, List.set_cons_zero, List.set_cons_succ, rz_tr, Nat.reduceAdd, Int.reduceAdd, Int.reduceToNat, Int.reduceSub, Int.reduceNeg, Int.cast_ofNat_Int]
          try simp (disch := omega) only [f14, hz, rb_0, pk_us, pk_un, va_up_self, va_up_ne, nI_add, pk_mul, nI_clamp, vp_inT, nI_ltI, nI_leI, nI_eqI, pk_sub, true_and, and_true]
          refine hK _ _ _ _ ?_
          refine rz_blk' [(.goto (-33), 3, 0, 0)] (by decide +kernel) (Nat.le_refl _) (Nat.le_refl _) (fun K R hK hR => ?_)
          simp only [↓rx_goto, ↓rx_nil, f14, re_a77, ↓re_i77, rz_set, rz_nol, rz_clr, List.set_cons_zero, List.set_cons_succ, rz_tr, Nat.reduceAdd, Int.reduceAdd, Int.reduceToNat, Int.reduceSub, Int.reduceNeg, Int.cast_ofNat_Int]
          try simp (disch := omega) only [f14, hz, rb_0, pk_us, pk_un, va_up_self, va_up_ne, nI_add, pk_mul, nI_clamp, vp_inT, nI_ltI, nI_leI, nI_eqI, pk_sub, true_and, and_true]
          refine hK _ _ _ _ ?_
          first
            | exact hgo _ (by unfold k0; rw [if_neg (fun q => q9 q.1)]; rfl)
            | exact hgo _ (by unfold k0; rw [if_neg (fun q => by have := q.2; rw [q9] at this; cases this)]; rfl)
            | exact hgo _ (by unfold k0; rw [if_pos ⟨by omega, by simpa using q9⟩]; rfl)
            | exact hgo _ (by unfold k0; rw [if_pos ⟨by simpa using q8, by simpa using q9⟩]; rfl)
        · -- 23 not taken
          refine rz_blk' [(.iconst 0, 1, 0, 0), (.goto 4, 3, 0, 0)] (by decide +kernel) (Nat.le_refl _) (Nat.le_refl _) (fun K R hK hR => ?_)
          simp only [rw_c0, ↓rx_goto, ↓rx_iconst, ↓rx_nil, f14, re_a77, ↓re_i77, rz_set, rz_nol, rz_clr, List.set_cons_zero, List.set_cons_succ, rz_tr, Nat.reduceAdd, Int.reduceAdd, Int.reduceToNat, Int.reduceSub, Int.reduceNeg, Int.cast_ofNat_Int]
          try simp (disch := omega) only [f14, hz, rb_0, pk_us, pk_un, va_up_self, va_up_ne, nI_add, pk_mul, nI_clamp, vp_inT, nI_ltI, nI_leI, nI_eqI, pk_sub, true_and, and_true]
          refine hK _ _ _ _ ?_
          refine rz_blk' [(.iastore, 1, 0, 0)] (by decide +kernel) (Nat.le_refl _) (Nat.le_refl _) (fun K R hK hR => ?_)
          simp only [↓rx_iastore, ↓rx_nil, ↓ry_iau, ↓ry_rii, true_and, f14, re_a77, ↓re_i77, rz_set, rz_nol, rz_clr, List.set_cons_zero, List.set_cons_succ, rz_tr, Nat.reduceAdd, Int.reduceAdd, Int.reduceToNat, Int.reduceSub, Int.reduceNeg, Int.cast_ofNat_Int]
          try simp (disch := omega) only [f14, hz, rb_0, pk_us, pk_un, va_up_self, va_up_ne, nI_add, pk_mul, nI_clamp, vp_inT, nI_ltI, nI_leI, nI_eqI, pk_sub, true_and, and_true]
          refine hK _ _ _ _ ?_
          refine rz_blk' [(.iinc 1 1, 3, 0, 0)] (by decide +kernel) (Nat.le_refl _) (Nat.le_refl _) (fun K R hK hR => ?_)
          simp only [rw_c1, ↓rx_iinc, ↓rx_nil, ↓ry_li0s, ↓ry_li0z, f14, re_a77, ↓re_i77, rz_set, rz_nol, rz_clr, List.set_cons_zero, List.set_cons_succ, rz_tr, Nat.reduceAdd, Int.reduceAdd, Int.reduceToNat, Int.reduceSub, Int.reduceNeg, Int.cast_ofNat_Int]
          try simp (disch := omega) only [f14, hz, rb_0, pk_us, pk_un, va_up_self, va_up_ne, nI_add, pk_mul, nI_clamp, vp_inT, nI_ltI, nI_leI, nI_eqI, pk_sub, true_and, and_true]
          refine hK _ _ _ _ ?_
          refine rz_blk' [(.goto (-33), 3, 0, 0)] (by decide +kernel) (Nat.le_refl _) (Nat.le_refl _) (fun K R hK hR => ?_)
          simp only [↓rx_goto, ↓rx_nil, f14, re_a77, ↓re_i77, rz_set, rz_nol, rz_clr, List.set_cons_zero, List.set_cons_succ, rz_tr, Nat.reduceAdd, Int.reduceAdd, Int.reduceToNat, Int.reduceSub, Int.reduceNeg, Int.cast_ofNat_Int]
          try simp (disch := omega) only [f14, hz, rb_0, pk_us, pk_un, va_up_self, va_up_ne, nI_add, pk_mul, nI_clamp, vp_inT, nI_ltI, nI_leI, nI_eqI, pk_sub, true_and, and_true]
          refine hK _ _ _ _ ?_
          first
            | exact hgo _ (by unfold k0; rw [if_neg (fun q => q9 q.1)]; rfl)
            | exact hgo _ (by unfold k0; rw [if_neg (fun q => by have := q.2; rw [q9] at this; cases this)]; rfl)
            | exact hgo _ (by unfold k0; rw [if_pos ⟨by omega, by simpa using q9⟩]; rfl)
            | exact hgo _ (by unfold k0; rw [if_pos ⟨by simpa using q8, by simpa using q9⟩]; rfl)
  refine rz_enter' [some (.ref a), none, none, none, none] (by decide +kernel) rfl rfl (Nat.le_of_ble_eq_true rfl) rfl ?_
  refine rz_blk' [(.iconst 0, 1, 0, 0), (.istore_n 1, 1, 0, 0)] (by decide +kernel) (Nat.le_refl _) (Nat.le_refl _) (fun K R hK hR => ?_)
  simp only [rw_c0, ↓rx_iconst, ↓rx_istore_n1, ↓rx_nil, ↓ry_i1, rz_set, rz_nol, rz_clr, List.set_cons_zero, List.set_cons_succ, rz_tr, Nat.reduceAdd, Int.reduceAdd, Int.reduceToNat, Int.reduceSub, Int.reduceNeg, Int.cast_ofNat_Int]
  try simp (disch := omega) only [pk_us, pk_un, va_up_self, va_up_ne, nI_add, pk_mul, nI_clamp, vp_inT, nI_ltI, nI_leI, nI_eqI, pk_sub, true_and, and_true]
  refine hK _ _ _ _ ?_
  exact sl 6 0 A rfl fa.rf (fun s hs => absurd hs (Nat.not_lt_zero _))
