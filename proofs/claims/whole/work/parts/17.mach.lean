/-! WriterDesk$Machine: after, longestWord -/
theorem mv_so_pre {m : mv_T} {al p : Nat} : ∀ k, ∃ t, mv_so m al (p + k) = mv_so m al p ++ t
  | 0 => ⟨[], by simp⟩
  | k + 1 => by
    obtain ⟨t, ht⟩ := mv_so_pre (m := m) (al := al) (p := p) k
    exact ⟨t ++ mv_pl m al (p + k), by rw [← Nat.add_assoc]; simp only [mv_so]; rw [ht, List.append_assoc]⟩
/-- a place's edges, as they lie in the rows -/
theorem mv_row {I : Nat → Int32} {A : Nat → Nat → Int32} {m : mv_T} {cl p : Nat} (hs : mv_set I A m cl) (hp : p < 18) :
    A 4 p = nI (mv_so m (mv_al m cl) p).length ∧ A 4 (p + 1) = nI ((mv_so m (mv_al m cl) p).length + (mv_pl m (mv_al m cl) p).length) ∧ (mv_so m (mv_al m cl) p).length + (mv_pl m (mv_al m cl) p).length ≤ m.2.1.length ∧ ∀ i e, (mv_pl m (mv_al m cl) p)[i]? = some e → A 3 ((mv_so m (mv_al m cl) p).length + i) = nI e ∧ e < m.2.1.length := by
  generalize hal : mv_al m cl = al
  obtain ⟨h1, h2, h3, h4⟩ := hs
  rw [hal] at h3 h4
  have e1 : (mv_so m al (p + 1)).length = (mv_so m al p).length + (mv_pl m al p).length := by simp [mv_so]
  refine ⟨h4 p (by omega), by rw [h4 (p + 1) (by omega), e1], by rw [← e1]; exact mv_so_le _, fun i e hi => ⟨?_, (mv_pk_mem (List.mem_of_getElem? hi)).1⟩⟩
  obtain ⟨t, ht⟩ := mv_so_pre (m := m) (al := al) (p := p + 1) (17 - p)
  have e18 : p + 1 + (17 - p) = 18 := by omega
  rw [e18] at ht
  have hil : i < (mv_pl m al p).length := (List.getElem?_eq_some_iff.mp hi).1
  have hl : (mv_so m al p).length + i < (mv_so m al 18).length := by rw [ht, List.length_append, e1]; omega
  generalize mv_so m al 18 = s18 at h3 ht hl
  have hh : s18[(mv_so m al p).length + i]? = some e := by
    rw [ht, List.getElem?_append_left (by rw [e1]; omega)]
    simp only [mv_so]
    rw [List.getElem?_append_right (by omega), Nat.add_sub_cancel_left]
    exact hi
  rw [h3 _ hl]
  congr 1
  rw [List.getElem?_eq_getElem hl] at hh
  exact Option.some.inj hh
def mv_a1 (m : mv_T) (es : List Nat) (r : Nat) : Nat := es.foldl (fun r e => r ||| 2 ^ (mv_e m e).2.2.1) r
/-- the set behind a letter, out of the first k states -/
def mv_ak (m : mv_T) (al s l : Nat) : Nat → Nat
  | 0 => 0
  | q + 1 => if s.testBit q then mv_a1 m (mv_pl m al (q * 3 + l)) (mv_ak m al s l q) else mv_ak m al s l q
def mv_af (m : mv_T) (al s l : Nat) : Nat := mv_ak m al s l m.1
theorem mv_a164 {m : mv_T} {es : List Nat} {r : Nat} (hr : r < 64) (h : ∀ e ∈ es, (mv_e m e).2.2.1 < 6) : mv_a1 m es r < 64 := by
  induction es generalizing r with
  | nil => exact hr
  | cons e es ih => exact ih (hp_or64 r hr _ (h e List.mem_cons_self)) (fun x hx => h x (List.mem_cons_of_mem _ hx))
theorem mv_e6 {I : Nat → Int32} {A : Nat → Nat → Int32} {X : Nat → List Nat} {m : mv_T} {cl e : Nat} (hm : mv_is I A X m cl) (he : e < m.2.1.length) : (mv_e m e).1 < m.1 ∧ (mv_e m e).2.1 < 3 ∧ (mv_e m e).2.2.1 < m.1 := by
  have := hm.2.2.2.2.2.1 e he
  rw [mv_e_get he]
  exact ⟨this.2.2.2.2.1, this.2.2.2.2.2.1, this.2.2.2.2.2.2⟩
theorem mv_pl6 {I : Nat → Int32} {A : Nat → Nat → Int32} {X : Nat → List Nat} {m : mv_T} {cl al p : Nat} (hm : mv_is I A X m cl) : ∀ e ∈ mv_pl m al p, e < m.2.1.length ∧ (mv_e m e).2.2.1 < 6 := by
  intro e he
  have h1 := mv_pk_mem he
  have h2 := mv_e6 hm h1.1
  have h3 := hm.2.2.1
  exact ⟨h1.1, by omega⟩
theorem mv_ak64 {I : Nat → Int32} {A : Nat → Nat → Int32} {X : Nat → List Nat} {m : mv_T} {cl al s l : Nat} (hm : mv_is I A X m cl) : ∀ k, mv_ak m al s l k < 64
  | 0 => by simp [mv_ak]
  | k + 1 => by
    simp only [mv_ak]
    split
    · exact mv_a164 (mv_ak64 hm k) (fun e he => (mv_pl6 hm e he).2)
    · exact mv_ak64 hm k
set_option maxRecDepth 100000 in
set_option maxHeartbeats 4000000 in
theorem mc_after_i {w : rz_w} {d : Nat} {G : rz_G} {a : Nat} {I : Nat → Int32} {A : Nat → Nat → Int32} {J : Nat → Nat → Int64} {X : Nat → List Nat} {P : Nat → Nat} {m : mv_T} {cl s l q : Nat} (hm : mv_is I A X m cl) (hs : mv_set I A m cl) (hp : q * 3 + l < 18) {Q : Option Value → rz_G → Prop} :
    ∀ (n i r : Nat), (mv_pl m (mv_al m cl) (q * 3 + l)).length + 1 ≤ i + n → i ≤ (mv_pl m (mv_al m cl) (q * 3 + l)).length → r < 64 → (∀ z, rz_T w (d + 1) 0 0 m_Mach_after 0 0 77 [some (.ref a), some (.int (nI s)), some (.int (nI l)), some (.int (nI (mv_a1 m ((mv_pl m (mv_al m cl) (q * 3 + l)).drop i) r))), some (.int (nI q)), some (.int (nI (q * 3 + l))), z] [] (mc_put G a I A J X P) Q) →
      rz_T w (d + 1) 0 0 m_Mach_after 0 0 40 [some (.ref a), some (.int (nI s)), some (.int (nI l)), some (.int (nI r)), some (.int (nI q)), some (.int (nI (q * 3 + l))), some (.int (nI ((mv_so m (mv_al m cl) (q * 3 + l)).length + i)))] [] (mc_put G a I A J X P) Q := by
  intro n
  obtain ⟨r1, r2, r3, r4⟩ := mv_row hs hp
  have m4 := hm.2.2.2.2.1
  induction n with
  | zero => intro i r h1 h2; omega
  | succ n ih =>
    intro i r hn hi hr hk
    refine rz_blk' [(.iload 6, 2, 0, 0), (.aload_n 0, 1, 0, 0), (.getfield 57, 3, 2, 12), (.iload 5, 2, 0, 0), (.iconst 1, 1, 0, 0), (.iadd, 1, 0, 0), (.iaload, 1, 0, 0), (.if_icmp .ge 26, 3, 0, 0), (.iload_n 3, 1, 0, 0), (.iconst 1, 1, 0, 0), (.aload_n 0, 1, 0, 0), (.getfield 25, 3, 2, 4), (.aload_n 0, 1, 0, 0), (.getfield 54, 3, 2, 11), (.iload 6, 2, 0, 0), (.iaload, 1, 0, 0), (.iaload, 1, 0, 0), (.ishl, 1, 0, 0), (.ior, 1, 0, 0), (.istore_n 3, 1, 0, 0)] (by decide +kernel) (Nat.le_refl _) (Nat.le_refl _) (fun K R hK hR => ?_)
    simp only [rw_c1, ↓rx_aload_n0, ↓rx_getfield, ↓rx_iadd, ↓rx_iaload, ↓rx_iconst, ↓rx_if_icmp_ge, ↓rx_iload, ↓rx_iload_n3, ↓rx_ior, ↓rx_ishl, ↓rx_istore_n3, ↓rx_nil, ↓ry_fvs, ↓ry_fvz, ↓ry_i1, ↓ry_i2, ↓ry_iau, ↓ry_li0s, ↓ry_li0z, ↓ry_lr0s, ↓ry_lr0z, ↓ry_obu, ↓ry_r1, ↓ry_ri, true_and, ↓mc_ob, ↓mc_i1, ↓mc_n1, ↓mc_i2, ↓mc_n2, ↓mc_i3, ↓mc_n3, ↓mc_r4, ↓mc_r7, ↓mc_i8, ↓mc_n8, ↓mc_i9, ↓mc_n9, nI_add, rz_set, rz_nol, rz_clr, List.set_cons_zero, List.set_cons_succ, rz_tr, Nat.reduceAdd, Int.reduceAdd, Int.reduceToNat, Int.reduceSub, Int.reduceNeg, Int.cast_ofNat_Int]
    rw [nI_clamp (n := q * 3 + l + 1) (by omega), r2, nI_leI (by omega) (by omega)]
    refine ⟨vp_in_nI (by omega) (by decide), fun c1 => hK _ _ _ _ ?_, fun c1 => ?_⟩
    · have := hk (some (.int (nI ((mv_so m (mv_al m cl) (q * 3 + l)).length + i))))
      rw [List.drop_of_length_le (by omega)] at this
      exact this
    · have hil : i < (mv_pl m (mv_al m cl) (q * 3 + l)).length := by omega
      obtain ⟨e, hei⟩ : ∃ e, (mv_pl m (mv_al m cl) (q * 3 + l))[i]? = some e := ⟨_, List.getElem?_eq_getElem hil⟩
      obtain ⟨s1, s2⟩ := r4 i e hei
      obtain ⟨f0, f1, f2, f3, f4, f5, f6⟩ := hm.2.2.2.2.2.1 _ s2
      have m2 := hm.2.2.1
      rw [nI_clamp (by omega), s1, nI_clamp (by omega), f2, hp_bit _ (by omega), hp_ors r hr _ (by omega)]
      refine ⟨vp_in_nI (by omega) (by decide), vp_in_nI (by omega) (by decide), hK _ _ _ _ ?_⟩
      refine rz_blk' [(.iinc 6 1, 3, 0, 0), (.goto (-34), 3, 0, 0)] (by decide +kernel) (Nat.le_refl _) (Nat.le_refl _) (fun K R hK hR => ?_)
      simp only [rw_c1, ↓rx_goto, ↓rx_iinc, ↓rx_nil, ↓ry_li0s, ↓ry_li0z, ↓mc_ob, ↓mc_i1, ↓mc_n1, ↓mc_i2, ↓mc_n2, ↓mc_i3, ↓mc_n3, ↓mc_r4, ↓mc_r7, ↓mc_i8, ↓mc_n8, ↓mc_i9, ↓mc_n9, nI_add, rz_set, rz_nol, rz_clr, List.set_cons_zero, List.set_cons_succ, rz_tr, Nat.reduceAdd, Int.reduceAdd, Int.reduceToNat, Int.reduceSub, Int.reduceNeg, Int.cast_ofNat_Int]
      rw [Nat.add_assoc]
      refine hK _ _ _ _ (ih (i + 1) _ (by omega) (by omega) (hp_or64 r hr _ (by omega)) (fun z => ?_))
      have := hk z
      have hdr : (mv_pl m (mv_al m cl) (q * 3 + l)).drop i = e :: (mv_pl m (mv_al m cl) (q * 3 + l)).drop (i + 1) := by
        rw [List.drop_eq_getElem_cons hil]
        congr 1
        rw [List.getElem?_eq_getElem hil] at hei
        exact Option.some.inj hei
      rw [hdr] at this
      simp only [mv_a1, List.foldl_cons, mv_e_get s2] at this ⊢
      exact this
set_option maxRecDepth 100000 in
set_option maxHeartbeats 4000000 in
theorem mc_after_o {w : rz_w} {d : Nat} {G : rz_G} {a : Nat} {I : Nat → Int32} {A : Nat → Nat → Int32} {J : Nat → Nat → Int64} {X : Nat → List Nat} {P : Nat → Nat} {m : mv_T} {cl s l : Nat} (hm : mv_is I A X m cl) (hs : mv_set I A m cl) (hs64 : s < 64) (hl : l < 3) {Q : Option Value → rz_G → Prop} (hQ : Q (some (.int (nI (mv_af m (mv_al m cl) s l)))) (mc_put G a I A J X P)) :
    ∀ (n q : Nat) (z1 z2 : Option Value), m.1 + 1 ≤ q + n → q ≤ m.1 → rz_T w (d + 1) 0 0 m_Mach_after 0 0 5 [some (.ref a), some (.int (nI s)), some (.int (nI l)), some (.int (nI (mv_ak m (mv_al m cl) s l q))), some (.int (nI q)), z1, z2] [] (mc_put G a I A J X P) Q := by
  intro n
  have m2 := hm.2.2.1
  have m0 := hm.1
  induction n with
  | zero => intro q z1 z2 h1 h2; omega
  | succ n ih =>
    intro q z1 z2 hn hq
    have hskip : ∀ r z1 z2, r = mv_ak m (mv_al m cl) s l (q + 1) → q < m.1 → rz_T w (d + 1) 0 0 m_Mach_after 0 0 77 [some (.ref a), some (.int (nI s)), some (.int (nI l)), some (.int (nI r)), some (.int (nI q)), z1, z2] [] (mc_put G a I A J X P) Q := by
      intro r z1 z2 hr hqm
      refine rz_blk' [(.iinc 4 1, 3, 0, 0), (.goto (-75), 3, 0, 0)] (by decide +kernel) (Nat.le_refl _) (Nat.le_refl _) (fun K R hK hR => ?_)
      simp only [rw_c1, ↓rx_goto, ↓rx_iinc, ↓rx_nil, ↓ry_li0s, ↓ry_li0z, ↓mc_ob, ↓mc_i1, ↓mc_n1, ↓mc_i2, ↓mc_n2, ↓mc_i3, ↓mc_n3, ↓mc_r4, ↓mc_r7, ↓mc_i8, ↓mc_n8, ↓mc_i9, ↓mc_n9, nI_add, rz_set, rz_nol, rz_clr, List.set_cons_zero, List.set_cons_succ, rz_tr, Nat.reduceAdd, Int.reduceAdd, Int.reduceToNat, Int.reduceSub, Int.reduceNeg, Int.cast_ofNat_Int]
      rw [hr]
      exact hK _ _ _ _ (ih (q + 1) z1 z2 (by omega) (by omega))
    refine rz_blk' [(.iload 4, 2, 0, 0), (.aload_n 0, 1, 0, 0), (.getfield 9, 3, 2, 0), (.if_icmp .ge 72, 3, 0, 0), (.iload_n 1, 1, 0, 0), (.iload 4, 2, 0, 0)] (by decide +kernel) (Nat.le_refl _) (Nat.le_refl _) (fun K R hK hR => ?_)
    simp only [↓rx_aload_n0, ↓rx_getfield, ↓rx_if_icmp_ge, ↓rx_iload, ↓rx_iload_n1, ↓rx_nil, ↓ry_fvs, ↓ry_fvz, ↓ry_i2, ↓ry_li0s, ↓ry_li0z, ↓ry_lr0s, ↓ry_lr0z, ↓ry_obu, ↓ry_r1, ↓mc_ob, ↓mc_i1, ↓mc_n1, ↓mc_i2, ↓mc_n2, ↓mc_i3, ↓mc_n3, ↓mc_r4, ↓mc_r7, ↓mc_i8, ↓mc_n8, ↓mc_i9, ↓mc_n9, m0, rz_set, rz_nol, rz_clr, List.set_cons_zero, List.set_cons_succ, rz_tr, Nat.reduceAdd, Int.reduceAdd, Int.reduceToNat, Int.reduceSub, Int.reduceNeg, Int.cast_ofNat_Int]
    refine ⟨fun c1 => hK _ _ _ _ ?_, fun c1 => hK _ _ _ _ ?_⟩
    · rw [nI_leI (by omega) (by omega)] at c1
      refine rz_blk' [(.iload_n 3, 1, 0, 0), (.ireturn, 1, 0, 0)] (by decide +kernel) (Nat.le_refl _) (Nat.le_refl _) (fun K R hK hR => ?_)
      simp only [↓rx_iload_n3, ↓rx_ireturn, ↓rx_nil, ↓ry_li0s, ↓ry_li0z, ↓mc_ob, ↓mc_i1, ↓mc_n1, ↓mc_i2, ↓mc_n2, ↓mc_i3, ↓mc_n3, ↓mc_r4, ↓mc_r7, ↓mc_i8, ↓mc_n8, ↓mc_i9, ↓mc_n9, rz_set, rz_nol, rz_clr, List.set_cons_zero, List.set_cons_succ, rz_tr, Nat.reduceAdd, Int.reduceAdd, Int.reduceToNat, Int.reduceSub, Int.reduceNeg, Int.cast_ofNat_Int]
      rw [show q = m.1 by omega]
      exact hR _ _ (rz_nb_i (by decide)) hQ
    rw [nI_leI (by omega) (by omega)] at c1
    refine rz_cN (As := [.int (nI s), .int (nI q)]) (S := []) l_Mach_78 (by decide +kernel) rfl (Nat.le_of_ble_eq_true rfl) (Nat.le_refl _) (Nat.le_refl _) (c_Desk_has (by omega) (by omega)) (fun r G' hq => ?_)
    obtain ⟨rfl, rfl⟩ := hq
    simp only [Option.toList, List.cons_append, List.nil_append]
    by_cases hb : s.testBit q = true
    · rw [if_pos hb]
      refine rz_blk' [(.ifCond .eq 57, 3, 0, 0), (.iload 4, 2, 0, 0), (.iconst 3, 1, 0, 0), (.imul, 1, 0, 0), (.iload_n 2, 1, 0, 0), (.iadd, 1, 0, 0), (.istore 5, 2, 0, 0)] (by decide +kernel) (Nat.le_refl _) (Nat.le_refl _) (fun K R hK hR => ?_)
      simp only [rw_c3, ↓rx_iadd, ↓rx_iconst, ↓rx_ifCond_eq, ↓rx_iload, ↓rx_iload_n2, ↓rx_imul, ↓rx_istore, ↓rx_nil, ↓ry_i1, ↓ry_i2, ↓ry_li0s, ↓ry_li0z, ↓mc_ob, ↓mc_i1, ↓mc_n1, ↓mc_i2, ↓mc_n2, ↓mc_i3, ↓mc_n3, ↓mc_r4, ↓mc_r7, ↓mc_i8, ↓mc_n8, ↓mc_i9, ↓mc_n9, pk_mul, nI_add, rz_set, rz_nol, rz_clr, List.set_cons_zero, List.set_cons_succ, rz_tr, Nat.reduceAdd, Int.reduceAdd, Int.reduceToNat, Int.reduceSub, Int.reduceNeg, Int.cast_ofNat_Int]
      refine ⟨fun c2 => absurd c2 (by decide), fun c2 => hK _ _ _ _ ?_⟩
      have hp : q * 3 + l < 18 := by omega
      obtain ⟨r1, r2, r3, r4⟩ := mv_row hs hp
      refine rz_blk' [(.aload_n 0, 1, 0, 0), (.getfield 57, 3, 2, 12), (.iload 5, 2, 0, 0), (.iaload, 1, 0, 0), (.istore 6, 2, 0, 0)] (by decide +kernel) (Nat.le_refl _) (Nat.le_refl _) (fun K R hK hR => ?_)
      simp only [↓rx_aload_n0, ↓rx_getfield, ↓rx_iaload, ↓rx_iload, ↓rx_istore, ↓rx_nil, ↓ry_fvs, ↓ry_fvz, ↓ry_i1, ↓ry_iau, ↓ry_li0s, ↓ry_li0z, ↓ry_lr0s, ↓ry_lr0z, ↓ry_obu, ↓ry_r1, ↓ry_ri, true_and, ↓mc_ob, ↓mc_i1, ↓mc_n1, ↓mc_i2, ↓mc_n2, ↓mc_i3, ↓mc_n3, ↓mc_r4, ↓mc_r7, ↓mc_i8, ↓mc_n8, ↓mc_i9, ↓mc_n9, rz_set, rz_nol, rz_clr, List.set_cons_zero, List.set_cons_succ, rz_tr, Nat.reduceAdd, Int.reduceAdd, Int.reduceToNat, Int.reduceSub, Int.reduceNeg, Int.cast_ofNat_Int]
      rw [nI_clamp (by omega), r1]
      refine ⟨vp_in_nI (by omega) (by decide), hK _ _ _ _ ?_⟩
      have := mc_after_i (w := w) (d := d) (G := G) (a := a) (J := J) (P := P) (s := s) hm hs hp (Q := Q) ((mv_pl m (mv_al m cl) (q * 3 + l)).length + 1) 0 (mv_ak m (mv_al m cl) s l q) (by omega) (by omega) (mv_ak64 hm q) (fun z => hskip _ _ z (by rw [List.drop_zero]; simp only [mv_ak]; rw [if_pos hb]) (by omega))
      exact this
    · rw [if_neg hb]
      refine rz_blk' [(.ifCond .eq 57, 3, 0, 0), (.iload 4, 2, 0, 0), (.iconst 3, 1, 0, 0), (.imul, 1, 0, 0), (.iload_n 2, 1, 0, 0), (.iadd, 1, 0, 0), (.istore 5, 2, 0, 0)] (by decide +kernel) (Nat.le_refl _) (Nat.le_refl _) (fun K R hK hR => ?_)
      simp only [rw_c3, ↓rx_iadd, ↓rx_iconst, ↓rx_ifCond_eq, ↓rx_iload, ↓rx_iload_n2, ↓rx_imul, ↓rx_istore, ↓rx_nil, ↓ry_i1, ↓ry_i2, ↓ry_li0s, ↓ry_li0z, ↓mc_ob, ↓mc_i1, ↓mc_n1, ↓mc_i2, ↓mc_n2, ↓mc_i3, ↓mc_n3, ↓mc_r4, ↓mc_r7, ↓mc_i8, ↓mc_n8, ↓mc_i9, ↓mc_n9, pk_mul, nI_add, rz_set, rz_nol, rz_clr, List.set_cons_zero, List.set_cons_succ, rz_tr, Nat.reduceAdd, Int.reduceAdd, Int.reduceToNat, Int.reduceSub, Int.reduceNeg, Int.cast_ofNat_Int]
      exact ⟨fun c2 => hK _ _ _ _ (hskip _ _ _ (by simp only [mv_ak]; rw [if_neg hb]) (by omega)), fun c2 => absurd trivial c2⟩
set_option maxRecDepth 100000 in
set_option maxHeartbeats 4000000 in
/-- after(set, letter) -/
theorem c_Mach_after {w : rz_w} {d : Nat} {G : rz_G} {a : Nat} {I : Nat → Int32} {A : Nat → Nat → Int32} {J : Nat → Nat → Int64} {X : Nat → List Nat} {P : Nat → Nat} {m : mv_T} {cl s l : Nat} (hm : mv_is I A X m cl) (hs : mv_set I A m cl) (hs64 : s < 64) (hl : l < 3) : rz_C w (d + 1) 0 0 y_Mach_after m_Mach_after [.ref a, .int (nI s), .int (nI l)] (mc_put G a I A J X P) (fun r G' => r = some (.int (nI (mv_af m (mv_al m cl) s l))) ∧ G' = (mc_put G a I A J X P)) := by
  refine rz_enter' [some (.ref a), some (.int (nI s)), some (.int (nI l)), none, none, none, none] (by decide +kernel) rfl rfl (Nat.le_of_ble_eq_true rfl) rfl ?_
  refine rz_blk' [(.iconst 0, 1, 0, 0), (.istore_n 3, 1, 0, 0)] (by decide +kernel) (Nat.le_refl _) (Nat.le_refl _) (fun K R hK hR => ?_)
  simp only [rw_c0, ↓rx_iconst, ↓rx_istore_n3, ↓rx_nil, ↓ry_i1, ↓mc_ob, ↓mc_i1, ↓mc_n1, ↓mc_i2, ↓mc_n2, ↓mc_i3, ↓mc_n3, ↓mc_r4, ↓mc_r7, ↓mc_i8, ↓mc_n8, ↓mc_i9, ↓mc_n9, rz_set, rz_nol, rz_clr, List.set_cons_zero, List.set_cons_succ, rz_tr, Nat.reduceAdd, Int.reduceAdd, Int.reduceToNat, Int.reduceSub, Int.reduceNeg, Int.cast_ofNat_Int]
  refine hK _ _ _ _ ?_
  refine rz_blk' [(.iconst 0, 1, 0, 0), (.istore 4, 2, 0, 0)] (by decide +kernel) (Nat.le_refl _) (Nat.le_refl _) (fun K R hK hR => ?_)
  simp only [rw_c0, ↓rx_iconst, ↓rx_istore, ↓rx_nil, ↓ry_i1, ↓mc_ob, ↓mc_i1, ↓mc_n1, ↓mc_i2, ↓mc_n2, ↓mc_i3, ↓mc_n3, ↓mc_r4, ↓mc_r7, ↓mc_i8, ↓mc_n8, ↓mc_i9, ↓mc_n9, rz_set, rz_nol, rz_clr, List.set_cons_zero, List.set_cons_succ, rz_tr, Nat.reduceAdd, Int.reduceAdd, Int.reduceToNat, Int.reduceSub, Int.reduceNeg, Int.cast_ofNat_Int]
  exact hK _ _ _ _ (mc_after_o hm hs hs64 hl ⟨rfl, rfl⟩ (m.1 + 1) 0 none none (by omega) (by omega))
theorem nI_max {x y : Nat} (hx : x < 2 ^ 31) (hy : y < 2 ^ 31) : (if nI x < nI y then nI y else nI x) = nI (max x y) := by
  split
  · next q => rw [nI_ltI hx hy] at q; rw [Nat.max_eq_right (by omega)]
  · next q => rw [nI_ltI hx hy] at q; rw [Nat.max_eq_left (by omega)]
/-- the longest word that counts, 1 at least -/
def mv_l1 (m : mv_T) (al : Nat) : Nat → Nat
  | 0 => max 1 m.2.2.2.length
  | i + 1 => max (mv_l1 m al i) (mv_e m ((mv_so m al 18).getD i 0)).2.2.2.length
def mv_l2 (m : mv_T) (cl al : Nat) : Nat → Nat
  | 0 => mv_l1 m al (mv_so m al 18).length
  | q + 1 => if (cl &&& al).testBit q then max (mv_l2 m cl al q) ((m.2.2.1 q).getD []).length else mv_l2 m cl al q
def mv_lg (m : mv_T) (cl al : Nat) : Nat := mv_l2 m cl al m.1
theorem mv_l1b {I : Nat → Int32} {A : Nat → Nat → Int32} {X : Nat → List Nat} {m : mv_T} {cl al : Nat} (hm : mv_is I A X m cl) : ∀ i, i ≤ (mv_so m al 18).length → mv_l1 m al i ≤ 48
  | 0, _ => by
    have h1 := hm.2.2.2.2.2.2.2.2.2.2.2.1
    have h2 := (hm.2.2.2.2.2.2.2.2.2.2.2.2 30 (by decide)).1
    rw [h1] at h2
    simp only [mv_l1]; omega
  | i + 1, h => by
    have ih := mv_l1b (al := al) hm i (by omega)
    have hl : (mv_so m al 18).getD i 0 < m.2.1.length := by
      rw [List.getD_eq_getElem?_getD, List.getElem?_eq_getElem (by omega)]
      exact (mv_so_mem (List.getElem_mem _)).1
    have h4 := hm.2.2.2.2.1
    have h3 := hm.2.2.2.2.2.1 _ hl
    have h2 := (hm.2.2.2.2.2.2.2.2.2.2.2.2 _ (show (mv_so m al 18).getD i 0 < 31 by omega)).1
    rw [h3.2.2.2.1, ← mv_e_get hl] at h2
    simp only [mv_l1]; omega
theorem mv_l2b {I : Nat → Int32} {A : Nat → Nat → Int32} {X : Nat → List Nat} {m : mv_T} {cl al : Nat} (hm : mv_is I A X m cl) : ∀ q, q ≤ 6 → mv_l2 m cl al q ≤ 48
  | 0, _ => mv_l1b hm _ (Nat.le_refl _)
  | q + 1, h => by
    have ih := mv_l2b (al := al) hm q (by omega)
    simp only [mv_l2]
    split
    · cases hf : m.2.2.1 q with
      | none => simp; omega
      | some xs =>
        have h2 := (hm.2.2.2.2.2.2.2.2.2.2.2.2 (24 + q) (by omega)).1
        rw [hm.2.2.2.2.2.2.2.2.2.2.1 q (by omega) xs hf] at h2
        simp only [Option.getD_some]; omega
    · exact ih
set_option maxRecDepth 100000 in
set_option maxHeartbeats 4000000 in
theorem mc_longest_1 {w : rz_w} {d : Nat} {G : rz_G} {a : Nat} {I : Nat → Int32} {A : Nat → Nat → Int32} {J : Nat → Nat → Int64} {X : Nat → List Nat} {P : Nat → Nat} {m : mv_T} {cl : Nat} (hm : mv_is I A X m cl) (hs : mv_set I A m cl) {Q : Option Value → rz_G → Prop}
    (hk : ∀ z, rz_T w (d + 1) 0 0 m_Mach_longestWord 0 0 50 [some (.ref a), some (.int (nI (mv_l2 m cl (mv_al m cl) 0))), z] [] (mc_put G a I A J X P) Q) :
    ∀ (n i : Nat), (mv_so m (mv_al m cl) 18).length + 1 ≤ i + n → i ≤ (mv_so m (mv_al m cl) 18).length → rz_T w (d + 1) 0 0 m_Mach_longestWord 0 0 14 [some (.ref a), some (.int (nI (mv_l1 m (mv_al m cl) i))), some (.int (nI i))] [] (mc_put G a I A J X P) Q := by
  intro n
  obtain ⟨t1, t2, t3, t4⟩ := id hs
  have h18 := t4 18 (by decide)
  have hle := mv_so_le (m := m) (al := mv_al m cl) 18
  have m4 := hm.2.2.2.2.1
  have mX := hm.2.2.2.2.2.2.2.2.2.2.2.2
  have e18 : (nI 18).toNatClampNeg = 18 := nI_clamp (by decide)
  induction n with
  | zero => intro i h1 h2; omega
  | succ n ih =>
    intro i hn hi
    have hb := mv_l1b (al := mv_al m cl) hm i hi
    refine rz_blk' [(.iload_n 2, 1, 0, 0), (.aload_n 0, 1, 0, 0), (.getfield 57, 3, 2, 12), (.bipush 18, 2, 0, 0), (.iaload, 1, 0, 0), (.if_icmp .ge 28, 3, 0, 0), (.iload_n 1, 1, 0, 0), (.aload_n 0, 1, 0, 0), (.getfield 30, 3, 2, 5), (.aload_n 0, 1, 0, 0), (.getfield 54, 3, 2, 11), (.iload_n 2, 1, 0, 0), (.iaload, 1, 0, 0), (.aaload, 1, 0, 0)] (by decide +kernel) (Nat.le_refl _) (Nat.le_refl _) (fun K R hK hR => ?_)
    simp only [Nat.reduceEqDiff, false_or, or_false, or_true, reduceIte, rw_b18, ↓rx_aaload, ↓rx_aload_n0, ↓rx_bipush, ↓rx_getfield, ↓rx_iaload, ↓rx_if_icmp_ge, ↓rx_iload_n1, ↓rx_iload_n2, ↓rx_nil, ↓ry_fvs, ↓ry_fvz, ↓ry_i2, ↓ry_iau, ↓ry_li0s, ↓ry_li0z, ↓ry_lr0s, ↓ry_lr0z, ↓ry_obu, ↓ry_r1, ↓ry_ri, true_and, true_or, ↓mc_ob, ↓mc_i1, ↓mc_n1, ↓mc_i2, ↓mc_n2, ↓mc_i3, ↓mc_n3, ↓mc_r4, ↓mc_r7, ↓mc_i8, ↓mc_n8, ↓mc_i9, ↓mc_n9, va_rfs, e18, h18, rz_set, rz_nol, rz_clr, List.set_cons_zero, List.set_cons_succ, rz_tr, Nat.reduceAdd, Int.reduceAdd, Int.reduceToNat, Int.reduceSub, Int.reduceNeg, Int.cast_ofNat_Int]
    refine ⟨vp_in_nI (by decide) (by decide), fun c1 => hK _ _ _ _ ?_, fun c1 => ?_⟩
    · rw [nI_leI (by omega) (by omega)] at c1
      have : i = (mv_so m (mv_al m cl) 18).length := by omega
      subst this
      exact hk _
    · rw [nI_leI (by omega) (by omega)] at c1
      have hil : i < (mv_so m (mv_al m cl) 18).length := by omega
      have hg : (mv_so m (mv_al m cl) 18).getD i 0 = (mv_so m (mv_al m cl) 18)[i] := by simp [hil]
      have he := (mv_so_mem (List.getElem_mem hil)).1
      obtain ⟨f0, f1, f2, f3, f4, f5, f6⟩ := hm.2.2.2.2.2.1 _ he
      have wk := mX _ (show (mv_so m (mv_al m cl) 18)[i] < 31 by omega)
      rw [nI_clamp (by omega), t3 i hil, nI_clamp (by omega)]
      refine ⟨vp_in_nI (by omega) (by decide), vp_in_nI (by omega) (by decide), hK _ _ _ _ ?_⟩
      have w1 := (mc_wi (G := G) (a := a) (I := I) (A := A) (J := J) (P := P) mX (show (mv_so m (mv_al m cl) 18)[i] < 30 by omega)).1
      refine rz_blk' [(.getfield 86, 3, 0, 1)] (by decide +kernel) (Nat.le_refl _) (Nat.le_refl _) (fun K R hK hR => ?_)
      simp only [↓rx_getfield, ↓rx_nil, ↓ry_fvs, ↓ry_fvz, ↓ry_obu, ↓ry_r1, ↓rh_ob w1, rz_set, rz_nol, rz_clr, List.set_cons_zero, List.set_cons_succ, rz_tr, Nat.reduceAdd, Int.reduceAdd, Int.reduceToNat, Int.reduceSub, Int.reduceNeg, Int.cast_ofNat_Int]
      refine hK _ _ _ _ (rz_mmax (rz_j4 186 rfl rfl) (rz_j4 187 rfl rfl) (rz_j1 21 rfl rfl) (rz_j4 188 rfl rfl) (Nat.le_of_ble_eq_true rfl) (Nat.le_refl _) (Nat.le_refl _) (by decide +kernel) ?_)
      rw [nI_max (by omega) (by have := wk.1; omega)]
      refine rz_blk' [(.istore_n 1, 1, 0, 0)] (by decide +kernel) (Nat.le_refl _) (Nat.le_refl _) (fun K R hK hR => ?_)
      simp only [↓rx_istore_n1, ↓rx_nil, ↓ry_i1, ↓mc_ob, ↓mc_i1, ↓mc_n1, ↓mc_i2, ↓mc_n2, ↓mc_i3, ↓mc_n3, ↓mc_r4, ↓mc_r7, ↓mc_i8, ↓mc_n8, ↓mc_i9, ↓mc_n9, rz_set, rz_nol, rz_clr, List.set_cons_zero, List.set_cons_succ, rz_tr, Nat.reduceAdd, Int.reduceAdd, Int.reduceToNat, Int.reduceSub, Int.reduceNeg, Int.cast_ofNat_Int]
      refine hK _ _ _ _ ?_
      refine rz_blk' [(.iinc 2 1, 3, 0, 0), (.goto (-33), 3, 0, 0)] (by decide +kernel) (Nat.le_refl _) (Nat.le_refl _) (fun K R hK hR => ?_)
      simp only [rw_c1, ↓rx_goto, ↓rx_iinc, ↓rx_nil, ↓ry_li0s, ↓ry_li0z, ↓mc_ob, ↓mc_i1, ↓mc_n1, ↓mc_i2, ↓mc_n2, ↓mc_i3, ↓mc_n3, ↓mc_r4, ↓mc_r7, ↓mc_i8, ↓mc_n8, ↓mc_i9, ↓mc_n9, nI_add, rz_set, rz_nol, rz_clr, List.set_cons_zero, List.set_cons_succ, rz_tr, Nat.reduceAdd, Int.reduceAdd, Int.reduceToNat, Int.reduceSub, Int.reduceNeg, Int.cast_ofNat_Int]
      have := ih (i + 1) (by omega) (by omega)
      simp only [mv_l1, hg, mv_e_get he, ← f3] at this
      exact hK _ _ _ _ this
set_option maxRecDepth 100000 in
set_option maxHeartbeats 4000000 in
theorem mc_longest_2 {w : rz_w} {d : Nat} {G : rz_G} {a : Nat} {I : Nat → Int32} {A : Nat → Nat → Int32} {J : Nat → Nat → Int64} {X : Nat → List Nat} {P : Nat → Nat} {m : mv_T} {cl : Nat} (hm : mv_is I A X m cl) (hs : mv_set I A m cl) {Q : Option Value → rz_G → Prop} (hQ : Q (some (.int (nI (mv_lg m cl (mv_al m cl))))) (mc_put G a I A J X P)) :
    ∀ (n q : Nat), m.1 + 1 ≤ q + n → q ≤ m.1 → rz_T w (d + 1) 0 0 m_Mach_longestWord 0 0 52 [some (.ref a), some (.int (nI (mv_l2 m cl (mv_al m cl) q))), some (.int (nI q))] [] (mc_put G a I A J X P) Q := by
  intro n
  obtain ⟨t1, t2, t3, t4⟩ := id hs
  have m0 := hm.1
  have m2 := hm.2.2.1
  have mX := hm.2.2.2.2.2.2.2.2.2.2.2.2
  have hI2 := hm.2.2.2.2.2.2.1
  have hcl := hm.2.2.2.2.2.2.2.1
  have hal := mv_al64 hm
  induction n with
  | zero => intro q h1 h2; omega
  | succ n ih =>
    intro q hn hq
    have hb := mv_l2b (al := mv_al m cl) hm q (by omega)
    refine rz_blk' [(.iload_n 2, 1, 0, 0), (.aload_n 0, 1, 0, 0), (.getfield 9, 3, 2, 0), (.if_icmp .ge 31, 3, 0, 0), (.aload_n 0, 1, 0, 0), (.iload_n 2, 1, 0, 0)] (by decide +kernel) (Nat.le_refl _) (Nat.le_refl _) (fun K R hK hR => ?_)
    simp only [↓rx_aload_n0, ↓rx_getfield, ↓rx_if_icmp_ge, ↓rx_iload_n2, ↓rx_nil, ↓ry_fvs, ↓ry_fvz, ↓ry_i2, ↓ry_li0s, ↓ry_li0z, ↓ry_lr0s, ↓ry_lr0z, ↓ry_obu, ↓ry_r1, ↓mc_ob, ↓mc_i1, ↓mc_n1, ↓mc_i2, ↓mc_n2, ↓mc_i3, ↓mc_n3, ↓mc_r4, ↓mc_r7, ↓mc_i8, ↓mc_n8, ↓mc_i9, ↓mc_n9, m0, rz_set, rz_nol, rz_clr, List.set_cons_zero, List.set_cons_succ, rz_tr, Nat.reduceAdd, Int.reduceAdd, Int.reduceToNat, Int.reduceSub, Int.reduceNeg, Int.cast_ofNat_Int]
    refine ⟨fun c1 => hK _ _ _ _ ?_, fun c1 => hK _ _ _ _ ?_⟩
    · rw [nI_leI (by omega) (by omega)] at c1
      refine rz_blk' [(.iload_n 1, 1, 0, 0), (.ireturn, 1, 0, 0)] (by decide +kernel) (Nat.le_refl _) (Nat.le_refl _) (fun K R hK hR => ?_)
      simp only [↓rx_iload_n1, ↓rx_ireturn, ↓rx_nil, ↓ry_li0s, ↓ry_li0z, ↓mc_ob, ↓mc_i1, ↓mc_n1, ↓mc_i2, ↓mc_n2, ↓mc_i3, ↓mc_n3, ↓mc_r4, ↓mc_r7, ↓mc_i8, ↓mc_n8, ↓mc_i9, ↓mc_n9, rz_set, rz_nol, rz_clr, List.set_cons_zero, List.set_cons_succ, rz_tr, Nat.reduceAdd, Int.reduceAdd, Int.reduceToNat, Int.reduceSub, Int.reduceNeg, Int.cast_ofNat_Int]
      rw [show q = m.1 by omega]
      exact hR _ _ (rz_nb_i (by decide)) hQ
    rw [nI_leI (by omega) (by omega)] at c1
    refine rz_cV (As := [.int (nI q)]) (b := a) (S := []) l_Mach_95 (by decide +kernel) rfl mc_at0 rfl (Nat.le_of_ble_eq_true rfl) (Nat.le_refl _) (Nat.le_refl _) (c_Mach_isClosing hI2 hcl t2 hal (by omega)) (fun r G' hq => ?_)
    obtain ⟨rfl, rfl⟩ := hq
    simp only [Option.toList, List.cons_append, List.nil_append]
    by_cases hb2 : (cl &&& mv_al m cl).testBit q = true
    · rw [if_pos hb2]
      refine rz_blk' [(.ifCond .eq 17, 3, 0, 0), (.iload_n 1, 1, 0, 0), (.aload_n 0, 1, 0, 0), (.getfield 41, 3, 2, 7), (.iload_n 2, 1, 0, 0), (.aaload, 1, 0, 0)] (by decide +kernel) (Nat.le_refl _) (Nat.le_refl _) (fun K R hK hR => ?_)
      simp only [Nat.reduceEqDiff, false_or, or_false, or_true, reduceIte, ↓rx_aaload, ↓rx_aload_n0, ↓rx_getfield, ↓rx_ifCond_eq, ↓rx_iload_n1, ↓rx_iload_n2, ↓rx_nil, ↓ry_fvs, ↓ry_fvz, ↓ry_i1, ↓ry_li0s, ↓ry_li0z, ↓ry_lr0s, ↓ry_lr0z, ↓ry_obu, ↓ry_r1, ↓ry_ri, true_and, true_or, ↓mc_ob, ↓mc_i1, ↓mc_n1, ↓mc_i2, ↓mc_n2, ↓mc_i3, ↓mc_n3, ↓mc_r4, ↓mc_r7, ↓mc_i8, ↓mc_n8, ↓mc_i9, ↓mc_n9, va_rfs, rz_set, rz_nol, rz_clr, List.set_cons_zero, List.set_cons_succ, rz_tr, Nat.reduceAdd, Int.reduceAdd, Int.reduceToNat, Int.reduceSub, Int.reduceNeg, Int.cast_ofNat_Int]
      rw [nI_clamp (by omega), show a + 58 + 2 * q = a + 10 + 2 * (24 + q) by omega]
      refine ⟨fun c2 => absurd c2 (by decide), fun c2 => ⟨vp_in_nI (by omega) (by decide), hK _ _ _ _ ?_⟩⟩
      have w1 := (mc_wi (G := G) (a := a) (I := I) (A := A) (J := J) (P := P) mX (show 24 + q < 30 by omega)).1
      have wk := mX _ (show 24 + q < 31 by omega)
      have hcb : cl.testBit q = true := by
        rw [Nat.testBit_and, Bool.and_eq_true] at hb2; exact hb2.1
      obtain ⟨xs, hxs⟩ := Option.isSome_iff_exists.mp ((hm.2.2.2.2.2.2.2.2.1 q (by omega)).mp hcb)
      have hxq := hm.2.2.2.2.2.2.2.2.2.2.1 q (by omega) xs hxs
      refine rz_blk' [(.getfield 86, 3, 0, 1)] (by decide +kernel) (Nat.le_refl _) (Nat.le_refl _) (fun K R hK hR => ?_)
      simp only [↓rx_getfield, ↓rx_nil, ↓ry_fvs, ↓ry_fvz, ↓ry_obu, ↓ry_r1, ↓rh_ob w1, rz_set, rz_nol, rz_clr, List.set_cons_zero, List.set_cons_succ, rz_tr, Nat.reduceAdd, Int.reduceAdd, Int.reduceToNat, Int.reduceSub, Int.reduceNeg, Int.cast_ofNat_Int]
      refine hK _ _ _ _ (rz_mmax (rz_j4 186 rfl rfl) (rz_j4 187 rfl rfl) (rz_j1 21 rfl rfl) (rz_j4 188 rfl rfl) (Nat.le_of_ble_eq_true rfl) (Nat.le_refl _) (Nat.le_refl _) (by decide +kernel) ?_)
      rw [nI_max (by omega) (by have := wk.1; omega)]
      refine rz_blk' [(.istore_n 1, 1, 0, 0)] (by decide +kernel) (Nat.le_refl _) (Nat.le_refl _) (fun K R hK hR => ?_)
      simp only [↓rx_istore_n1, ↓rx_nil, ↓ry_i1, ↓mc_ob, ↓mc_i1, ↓mc_n1, ↓mc_i2, ↓mc_n2, ↓mc_i3, ↓mc_n3, ↓mc_r4, ↓mc_r7, ↓mc_i8, ↓mc_n8, ↓mc_i9, ↓mc_n9, rz_set, rz_nol, rz_clr, List.set_cons_zero, List.set_cons_succ, rz_tr, Nat.reduceAdd, Int.reduceAdd, Int.reduceToNat, Int.reduceSub, Int.reduceNeg, Int.cast_ofNat_Int]
      refine hK _ _ _ _ ?_
      refine rz_blk' [(.iinc 2 1, 3, 0, 0), (.goto (-33), 3, 0, 0)] (by decide +kernel) (Nat.le_refl _) (Nat.le_refl _) (fun K R hK hR => ?_)
      simp only [rw_c1, ↓rx_goto, ↓rx_iinc, ↓rx_nil, ↓ry_li0s, ↓ry_li0z, ↓mc_ob, ↓mc_i1, ↓mc_n1, ↓mc_i2, ↓mc_n2, ↓mc_i3, ↓mc_n3, ↓mc_r4, ↓mc_r7, ↓mc_i8, ↓mc_n8, ↓mc_i9, ↓mc_n9, nI_add, rz_set, rz_nol, rz_clr, List.set_cons_zero, List.set_cons_succ, rz_tr, Nat.reduceAdd, Int.reduceAdd, Int.reduceToNat, Int.reduceSub, Int.reduceNeg, Int.cast_ofNat_Int]
      have := ih (q + 1) (by omega) (by omega)
      simp only [mv_l2, hb2, if_true, hxs, Option.getD_some, ← hxq] at this
      exact hK _ _ _ _ this
    · rw [if_neg hb2]
      refine rz_blk' [(.ifCond .eq 17, 3, 0, 0), (.iload_n 1, 1, 0, 0), (.aload_n 0, 1, 0, 0), (.getfield 41, 3, 2, 7), (.iload_n 2, 1, 0, 0), (.aaload, 1, 0, 0)] (by decide +kernel) (Nat.le_refl _) (Nat.le_refl _) (fun K R hK hR => ?_)
      simp only [Nat.reduceEqDiff, false_or, or_false, or_true, reduceIte, ↓rx_aaload, ↓rx_aload_n0, ↓rx_getfield, ↓rx_ifCond_eq, ↓rx_iload_n1, ↓rx_iload_n2, ↓rx_nil, ↓ry_fvs, ↓ry_fvz, ↓ry_i1, ↓ry_li0s, ↓ry_li0z, ↓ry_lr0s, ↓ry_lr0z, ↓ry_obu, ↓ry_r1, ↓ry_ri, true_and, true_or, ↓mc_ob, ↓mc_i1, ↓mc_n1, ↓mc_i2, ↓mc_n2, ↓mc_i3, ↓mc_n3, ↓mc_r4, ↓mc_r7, ↓mc_i8, ↓mc_n8, ↓mc_i9, ↓mc_n9, va_rfs, rz_set, rz_nol, rz_clr, List.set_cons_zero, List.set_cons_succ, rz_tr, Nat.reduceAdd, Int.reduceAdd, Int.reduceToNat, Int.reduceSub, Int.reduceNeg, Int.cast_ofNat_Int]
      refine ⟨fun c2 => hK _ _ _ _ ?_, fun c2 => absurd trivial c2⟩
      refine rz_blk' [(.iinc 2 1, 3, 0, 0), (.goto (-33), 3, 0, 0)] (by decide +kernel) (Nat.le_refl _) (Nat.le_refl _) (fun K R hK hR => ?_)
      simp only [rw_c1, ↓rx_goto, ↓rx_iinc, ↓rx_nil, ↓ry_li0s, ↓ry_li0z, ↓mc_ob, ↓mc_i1, ↓mc_n1, ↓mc_i2, ↓mc_n2, ↓mc_i3, ↓mc_n3, ↓mc_r4, ↓mc_r7, ↓mc_i8, ↓mc_n8, ↓mc_i9, ↓mc_n9, nI_add, rz_set, rz_nol, rz_clr, List.set_cons_zero, List.set_cons_succ, rz_tr, Nat.reduceAdd, Int.reduceAdd, Int.reduceToNat, Int.reduceSub, Int.reduceNeg, Int.cast_ofNat_Int]
      have := ih (q + 1) (by omega) (by omega)
      simp only [mv_l2] at this
      rw [if_neg hb2] at this
      exact hK _ _ _ _ this
set_option maxRecDepth 100000 in
set_option maxHeartbeats 4000000 in
/-- longestWord() -/
theorem c_Mach_longestWord {w : rz_w} {d : Nat} {G : rz_G} {a : Nat} {I : Nat → Int32} {A : Nat → Nat → Int32} {J : Nat → Nat → Int64} {X : Nat → List Nat} {P : Nat → Nat} {m : mv_T} {cl : Nat} (hm : mv_is I A X m cl) (hs : mv_set I A m cl) : rz_C w (d + 1) 0 0 y_Mach_longestWord m_Mach_longestWord [.ref a] (mc_put G a I A J X P) (fun r G' => r = some (.int (nI (mv_lg m cl (mv_al m cl)))) ∧ G' = (mc_put G a I A J X P)) := by
  have mX := hm.2.2.2.2.2.2.2.2.2.2.2.2
  have w1 := (mc_wo (G := G) (a := a) (I := I) (A := A) (J := J) (P := P) mX).1
  have hop := hm.2.2.2.2.2.2.2.2.2.2.2.1
  have wk := mX 30 (by decide)
  refine rz_enter' [some (.ref a), none, none] (by decide +kernel) rfl rfl (Nat.le_of_ble_eq_true rfl) rfl ?_
  refine rz_blk' [(.iconst 1, 1, 0, 0), (.aload_n 0, 1, 0, 0), (.getfield 37, 3, 2, 6), (.getfield 86, 3, 0, 1)] (by decide +kernel) (Nat.le_refl _) (Nat.le_refl _) (fun K R hK hR => ?_)
  simp only [rw_c1, ↓rx_aload_n0, ↓rx_getfield, ↓rx_iconst, ↓rx_nil, ↓ry_fvs, ↓ry_fvz, ↓ry_lr0s, ↓ry_lr0z, ↓ry_obu, ↓ry_r1, ↓mc_ob, ↓mc_i1, ↓mc_n1, ↓mc_i2, ↓mc_n2, ↓mc_i3, ↓mc_n3, ↓mc_r4, ↓mc_r7, ↓mc_i8, ↓mc_n8, ↓mc_i9, ↓mc_n9, ↓rh_ob w1, rz_set, rz_nol, rz_clr, List.set_cons_zero, List.set_cons_succ, rz_tr, Nat.reduceAdd, Int.reduceAdd, Int.reduceToNat, Int.reduceSub, Int.reduceNeg, Int.cast_ofNat_Int]
  refine hK _ _ _ _ (rz_mmax (rz_j4 186 rfl rfl) (rz_j4 187 rfl rfl) (rz_j1 21 rfl rfl) (rz_j4 188 rfl rfl) (Nat.le_of_ble_eq_true rfl) (Nat.le_refl _) (Nat.le_refl _) (by decide +kernel) ?_)
  rw [nI_max (by omega) (by have := wk.1; omega)]
  refine rz_blk' [(.istore_n 1, 1, 0, 0)] (by decide +kernel) (Nat.le_refl _) (Nat.le_refl _) (fun K R hK hR => ?_)
  simp only [↓rx_istore_n1, ↓rx_nil, ↓ry_i1, ↓mc_ob, ↓mc_i1, ↓mc_n1, ↓mc_i2, ↓mc_n2, ↓mc_i3, ↓mc_n3, ↓mc_r4, ↓mc_r7, ↓mc_i8, ↓mc_n8, ↓mc_i9, ↓mc_n9, rz_set, rz_nol, rz_clr, List.set_cons_zero, List.set_cons_succ, rz_tr, Nat.reduceAdd, Int.reduceAdd, Int.reduceToNat, Int.reduceSub, Int.reduceNeg, Int.cast_ofNat_Int]
  refine hK _ _ _ _ ?_
  refine rz_blk' [(.iconst 0, 1, 0, 0), (.istore_n 2, 1, 0, 0)] (by decide +kernel) (Nat.le_refl _) (Nat.le_refl _) (fun K R hK hR => ?_)
  simp only [rw_c0, ↓rx_iconst, ↓rx_istore_n2, ↓rx_nil, ↓ry_i1, ↓mc_ob, ↓mc_i1, ↓mc_n1, ↓mc_i2, ↓mc_n2, ↓mc_i3, ↓mc_n3, ↓mc_r4, ↓mc_r7, ↓mc_i8, ↓mc_n8, ↓mc_i9, ↓mc_n9, rz_set, rz_nol, rz_clr, List.set_cons_zero, List.set_cons_succ, rz_tr, Nat.reduceAdd, Int.reduceAdd, Int.reduceToNat, Int.reduceSub, Int.reduceNeg, Int.cast_ofNat_Int]
  refine hK _ _ _ _ ?_
  have := mc_longest_1 (w := w) (d := d) (G := G) (a := a) (J := J) (P := P) hm hs (Q := fun r G' => r = some (.int (nI (mv_lg m cl (mv_al m cl)))) ∧ G' = (mc_put G a I A J X P)) (fun z => ?_) ((mv_so m (mv_al m cl) 18).length + 1) 0 (by omega) (by omega)
  · simp only [mv_l1, ← hop] at this
    exact this
  refine rz_blk' [(.iconst 0, 1, 0, 0), (.istore_n 2, 1, 0, 0)] (by decide +kernel) (Nat.le_refl _) (Nat.le_refl _) (fun K R hK hR => ?_)
  simp only [rw_c0, ↓rx_iconst, ↓rx_istore_n2, ↓rx_nil, ↓ry_i1, ↓mc_ob, ↓mc_i1, ↓mc_n1, ↓mc_i2, ↓mc_n2, ↓mc_i3, ↓mc_n3, ↓mc_r4, ↓mc_r7, ↓mc_i8, ↓mc_n8, ↓mc_i9, ↓mc_n9, rz_set, rz_nol, rz_clr, List.set_cons_zero, List.set_cons_succ, rz_tr, Nat.reduceAdd, Int.reduceAdd, Int.reduceToNat, Int.reduceSub, Int.reduceNeg, Int.cast_ofNat_Int]
  exact hK _ _ _ _ (mc_longest_2 hm hs ⟨rfl, rfl⟩ (m.1 + 1) 0 (by omega) (by omega))

