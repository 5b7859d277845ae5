/-! WriterDesk$Machine: settle() and what it asks -/
theorem va_rfs (x : Nat) : va_rf (some x) = .ref x := rfl
def mv_e (m : mv_T) (e : Nat) : Nat × Nat × Nat × List Nat := m.2.1.getD e (0, 0, 0, [])
theorem mv_e_get {m : mv_T} {e : Nat} (h : e < m.2.1.length) : mv_e m e = m.2.1[e] := by simp [mv_e, h]
def mv_ae (m : mv_T) (al e : Nat) : Bool := al.testBit (mv_e m e).1 && al.testBit (mv_e m e).2.2.1
def mv_li (m : mv_T) (acc : List Nat) (e : Nat) : Bool := acc.any (fun i => decide ((mv_e m i).2.2.1 = (mv_e m e).2.2.1) && decide ((mv_e m i).2.2.2 = (mv_e m e).2.2.2))
/-- the edges of a place, doubles left out, out of the first k edges -/
def mv_pk (m : mv_T) (al p : Nat) : Nat → List Nat
  | 0 => []
  | e + 1 => if (mv_e m e).1 * 3 + (mv_e m e).2.1 = p ∧ mv_ae m al e = true ∧ mv_li m (mv_pk m al p e) e = false then mv_pk m al p e ++ [e] else mv_pk m al p e
def mv_pl (m : mv_T) (al p : Nat) : List Nat := mv_pk m al p m.2.1.length
/-- the edges of the places below p -/
def mv_so (m : mv_T) (al : Nat) : Nat → List Nat
  | 0 => []
  | p + 1 => mv_so m al p ++ mv_pl m al p
theorem mv_pk_mem {m : mv_T} {al p : Nat} : ∀ {k i : Nat}, i ∈ mv_pk m al p k → i < k ∧ (mv_e m i).1 * 3 + (mv_e m i).2.1 = p ∧ mv_ae m al i = true
  | 0, i, h => by simp [mv_pk] at h
  | k + 1, i, h => by
    simp only [mv_pk] at h
    split at h
    · next q =>
      rcases List.mem_append.mp h with h | h
      · have := mv_pk_mem h; exact ⟨by omega, this.2⟩
      · simp at h; subst h; exact ⟨by omega, q.1, q.2.1⟩
    · have := mv_pk_mem h; exact ⟨by omega, this.2⟩
theorem mv_pk_nd {m : mv_T} {al p : Nat} : ∀ k, (mv_pk m al p k).Nodup
  | 0 => List.nodup_nil
  | k + 1 => by
    simp only [mv_pk]
    split
    · rw [List.nodup_append]
      refine ⟨mv_pk_nd k, by simp, fun x hx y hy => ?_⟩
      simp at hy
      have := mv_pk_mem hx
      omega
    · exact mv_pk_nd k
theorem mv_so_mem {m : mv_T} {al : Nat} : ∀ {p i : Nat}, i ∈ mv_so m al p → i < m.2.1.length ∧ (mv_e m i).1 * 3 + (mv_e m i).2.1 < p
  | 0, i, h => by simp [mv_so] at h
  | p + 1, i, h => by
    simp only [mv_so] at h
    rcases List.mem_append.mp h with h | h
    · have := mv_so_mem h; omega
    · have := mv_pk_mem h; omega
theorem mv_so_nd {m : mv_T} {al : Nat} : ∀ p, (mv_so m al p).Nodup
  | 0 => List.nodup_nil
  | p + 1 => by
    simp only [mv_so]
    rw [List.nodup_append]
    refine ⟨mv_so_nd p, mv_pk_nd _, fun x hx y hy q => ?_⟩
    subst q
    have h1 := mv_so_mem hx
    have h2 := mv_pk_mem hy
    omega
theorem nd_len : ∀ (n : Nat) (l : List Nat), l.Nodup → (∀ x ∈ l, x < n) → l.length ≤ n
  | 0, l, _, h => by
    cases l with
    | nil => simp
    | cons x l => exact absurd (h x List.mem_cons_self) (by omega)
  | n + 1, l, hn, h => by
    by_cases q : n ∈ l
    · have h1 := nd_len n (l.erase n) (hn.erase n) (fun x hx => by
        have := (List.Nodup.mem_erase_iff hn).mp hx
        have := h x this.2
        omega)
      rw [List.length_erase_of_mem q] at h1
      omega
    · have h1 := nd_len n l hn (fun x hx => by
        have := h x hx
        by_cases e : x = n
        · subst e; exact absurd hx q
        · omega)
      omega
/-- there is a place for one more -/
theorem mv_so_lt {m : mv_T} {al p e : Nat} (he : e < m.2.1.length) (hp : (mv_e m e).1 * 3 + (mv_e m e).2.1 = p) : (mv_so m al p ++ mv_pk m al p e).length < m.2.1.length := by
  have : (mv_so m al p ++ mv_pk m al p e ++ [e]).length ≤ m.2.1.length := by
    refine nd_len _ _ ?_ ?_
    · rw [List.nodup_append, List.nodup_append]
      refine ⟨⟨mv_so_nd p, mv_pk_nd e, fun x hx y hy q => ?_⟩, by simp, fun x hx y hy q => ?_⟩
      · subst q; have h1 := mv_so_mem hx; have h2 := mv_pk_mem hy; omega
      · simp at hy; subst hy; subst q
        rcases List.mem_append.mp hx with hx | hx
        · have := mv_so_mem hx; omega
        · have := mv_pk_mem hx; omega
    · intro x hx
      rcases List.mem_append.mp hx with hx | hx
      · rcases List.mem_append.mp hx with hx | hx
        · exact (mv_so_mem hx).1
        · have := mv_pk_mem hx; omega
      · simp at hx; omega
  simp at this
  simp
  omega
theorem mv_so_le {m : mv_T} {al : Nat} (p : Nat) : (mv_so m al p).length ≤ m.2.1.length := nd_len _ _ (mv_so_nd p) (fun x hx => (mv_so_mem hx).1)
set_option maxRecDepth 100000 in
set_option maxHeartbeats 4000000 in
/-- isAliveEdge(e) -/
theorem c_Mach_isAliveEdge {w : rz_w} {d : Nat} {G : rz_G} {a : Nat} {I : Nat → Int32} {A : Nat → Nat → Int32} {J : Nat → Nat → Int64} {X : Nat → List Nat} {P : Nat → Nat} {m : mv_T} {cl al e : Nat} (hm : mv_is I A X m cl) (hI4 : I 4 = nI al) (ha : al < 64) (he : e < m.2.1.length) : rz_C w (d + 1) 0 0 y_Mach_isAliveEdge m_Mach_isAliveEdge [.ref a, .int (nI e)] (mc_put G a I A J X P) (fun r G' => r = some (.int (if mv_ae m al e = true then 1 else 0)) ∧ G' = (mc_put G a I A J X P)) := by
  obtain ⟨m0, m1, m2, m3, m4, m5, -⟩ := id hm
  obtain ⟨e0, e1, e2, e3, e4, e5, e6⟩ := m5 e he
  refine rz_enter' [some (.ref a), some (.int (nI e))] (by decide +kernel) rfl rfl (Nat.le_of_ble_eq_true rfl) rfl ?_
  refine rz_blk' [(.aload_n 0, 1, 0, 0), (.getfield 51, 3, 2, 10), (.aload_n 0, 1, 0, 0), (.getfield 18, 3, 2, 2), (.iload_n 1, 1, 0, 0), (.iaload, 1, 0, 0)] (by decide +kernel) (Nat.le_refl _) (Nat.le_refl _) (fun K R hK hR => ?_)
  simp only [↓rx_aload_n0, ↓rx_getfield, ↓rx_iaload, ↓rx_iload_n1, ↓rx_nil, ↓ry_fvs, ↓ry_fvz, ↓ry_iau, ↓ry_li0s, ↓ry_li0z, ↓ry_lr0s, ↓ry_lr0z, ↓ry_obu, ↓ry_r1, ↓ry_ri, true_and, ↓mc_ob, ↓mc_i1, ↓mc_n1, ↓mc_i2, ↓mc_n2, ↓mc_i3, ↓mc_n3, ↓mc_r4, ↓mc_r7, ↓mc_i8, ↓mc_n8, ↓mc_i9, ↓mc_n9, hI4, rz_set, rz_nol, rz_clr, List.set_cons_zero, List.set_cons_succ, rz_tr, Nat.reduceAdd, Int.reduceAdd, Int.reduceToNat, Int.reduceSub, Int.reduceNeg, Int.cast_ofNat_Int]
  rw [nI_clamp (by omega), e0]
  refine ⟨vp_in_nI (by omega) (by decide), hK _ _ _ _ ?_⟩
  refine rz_cN (As := [.int (nI al), .int (nI m.2.1[e].1)]) (S := []) l_Mach_78 (by decide +kernel) rfl (Nat.le_of_ble_eq_true rfl) (Nat.le_refl _) (Nat.le_refl _) (c_Desk_has (by omega) (by omega)) (fun r G' hq => ?_)
  obtain ⟨rfl, rfl⟩ := hq
  simp only [Option.toList, List.cons_append, List.nil_append]
  by_cases hb : al.testBit m.2.1[e].1 = true
  · rw [if_pos hb]
    refine rz_blk' [(.ifCond .eq 23, 3, 0, 0), (.aload_n 0, 1, 0, 0), (.getfield 51, 3, 2, 10), (.aload_n 0, 1, 0, 0), (.getfield 25, 3, 2, 4), (.iload_n 1, 1, 0, 0), (.iaload, 1, 0, 0)] (by decide +kernel) (Nat.le_refl _) (Nat.le_refl _) (fun K R hK hR => ?_)
    simp only [↓rx_aload_n0, ↓rx_getfield, ↓rx_iaload, ↓rx_ifCond_eq, ↓rx_iload_n1, ↓rx_nil, ↓ry_fvs, ↓ry_fvz, ↓ry_i1, ↓ry_iau, ↓ry_li0s, ↓ry_li0z, ↓ry_lr0s, ↓ry_lr0z, ↓ry_obu, ↓ry_r1, ↓ry_ri, true_and, ↓mc_ob, ↓mc_i1, ↓mc_n1, ↓mc_i2, ↓mc_n2, ↓mc_i3, ↓mc_n3, ↓mc_r4, ↓mc_r7, ↓mc_i8, ↓mc_n8, ↓mc_i9, ↓mc_n9, hI4, rz_set, rz_nol, rz_clr, List.set_cons_zero, List.set_cons_succ, rz_tr, Nat.reduceAdd, Int.reduceAdd, Int.reduceToNat, Int.reduceSub, Int.reduceNeg, Int.cast_ofNat_Int]
    rw [nI_clamp (by omega), e2]
    refine ⟨fun c2 => absurd c2 (by decide), fun c2 => ⟨vp_in_nI (by omega) (by decide), hK _ _ _ _ ?_⟩⟩
    refine rz_cN (As := [.int (nI al), .int (nI m.2.1[e].2.2.1)]) (S := []) l_Mach_78 (by decide +kernel) rfl (Nat.le_of_ble_eq_true rfl) (Nat.le_refl _) (Nat.le_refl _) (c_Desk_has (by omega) (by omega)) (fun r G' hq => ?_)
    obtain ⟨rfl, rfl⟩ := hq
    simp only [Option.toList, List.cons_append, List.nil_append]
    by_cases hb2 : al.testBit m.2.1[e].2.2.1 = true
    · rw [if_pos hb2]
      refine rz_blk' [(.ifCond .eq 7, 3, 0, 0), (.iconst 1, 1, 0, 0), (.goto 4, 3, 0, 0)] (by decide +kernel) (Nat.le_refl _) (Nat.le_refl _) (fun K R hK hR => ?_)
      simp only [rw_c1, ↓rx_goto, ↓rx_iconst, ↓rx_ifCond_eq, ↓rx_nil, ↓ry_i1, ↓mc_ob, ↓mc_i1, ↓mc_n1, ↓mc_i2, ↓mc_n2, ↓mc_i3, ↓mc_n3, ↓mc_r4, ↓mc_r7, ↓mc_i8, ↓mc_n8, ↓mc_i9, ↓mc_n9, rz_set, rz_nol, rz_clr, List.set_cons_zero, List.set_cons_succ, rz_tr, Nat.reduceAdd, Int.reduceAdd, Int.reduceToNat, Int.reduceSub, Int.reduceNeg, Int.cast_ofNat_Int]
      refine ⟨fun c2 => absurd c2 (by decide), fun c2 => hK _ _ _ _ ?_⟩
      refine rz_blk' [(.ireturn, 1, 0, 0)] (by decide +kernel) (Nat.le_refl _) (Nat.le_refl _) (fun K R hK hR => ?_)
      simp only [↓rx_ireturn, ↓rx_nil, ↓mc_ob, ↓mc_i1, ↓mc_n1, ↓mc_i2, ↓mc_n2, ↓mc_i3, ↓mc_n3, ↓mc_r4, ↓mc_r7, ↓mc_i8, ↓mc_n8, ↓mc_i9, ↓mc_n9, rz_set, rz_nol, rz_clr, List.set_cons_zero, List.set_cons_succ, rz_tr, Nat.reduceAdd, Int.reduceAdd, Int.reduceToNat, Int.reduceSub, Int.reduceNeg, Int.cast_ofNat_Int]
      exact hR _ _ rz_nb_1 ⟨by rw [if_pos (by simp only [mv_ae, mv_e_get he, hb, hb2, Bool.and_self])]; rfl, rfl⟩
    · rw [if_neg hb2]
      refine rz_blk' [(.ifCond .eq 7, 3, 0, 0), (.iconst 1, 1, 0, 0), (.goto 4, 3, 0, 0)] (by decide +kernel) (Nat.le_refl _) (Nat.le_refl _) (fun K R hK hR => ?_)
      simp only [rw_c1, ↓rx_goto, ↓rx_iconst, ↓rx_ifCond_eq, ↓rx_nil, ↓ry_i1, ↓mc_ob, ↓mc_i1, ↓mc_n1, ↓mc_i2, ↓mc_n2, ↓mc_i3, ↓mc_n3, ↓mc_r4, ↓mc_r7, ↓mc_i8, ↓mc_n8, ↓mc_i9, ↓mc_n9, rz_set, rz_nol, rz_clr, List.set_cons_zero, List.set_cons_succ, rz_tr, Nat.reduceAdd, Int.reduceAdd, Int.reduceToNat, Int.reduceSub, Int.reduceNeg, Int.cast_ofNat_Int]
      refine ⟨fun c2 => hK _ _ _ _ ?_, fun c2 => absurd trivial c2⟩
      refine rz_blk' [(.iconst 0, 1, 0, 0), (.ireturn, 1, 0, 0)] (by decide +kernel) (Nat.le_refl _) (Nat.le_refl _) (fun K R hK hR => ?_)
      simp only [rw_c0, ↓rx_iconst, ↓rx_ireturn, ↓rx_nil, ↓mc_ob, ↓mc_i1, ↓mc_n1, ↓mc_i2, ↓mc_n2, ↓mc_i3, ↓mc_n3, ↓mc_r4, ↓mc_r7, ↓mc_i8, ↓mc_n8, ↓mc_i9, ↓mc_n9, rz_set, rz_nol, rz_clr, List.set_cons_zero, List.set_cons_succ, rz_tr, Nat.reduceAdd, Int.reduceAdd, Int.reduceToNat, Int.reduceSub, Int.reduceNeg, Int.cast_ofNat_Int]
      exact hR _ _ rz_nb_0 ⟨by rw [if_neg (by simp only [mv_ae, mv_e_get he, Bool.and_eq_true]; exact fun q => hb2 q.2)]; rfl, rfl⟩
  · rw [if_neg hb]
    refine rz_blk' [(.ifCond .eq 23, 3, 0, 0), (.aload_n 0, 1, 0, 0), (.getfield 51, 3, 2, 10), (.aload_n 0, 1, 0, 0), (.getfield 25, 3, 2, 4), (.iload_n 1, 1, 0, 0), (.iaload, 1, 0, 0)] (by decide +kernel) (Nat.le_refl _) (Nat.le_refl _) (fun K R hK hR => ?_)
    simp only [↓rx_aload_n0, ↓rx_getfield, ↓rx_iaload, ↓rx_ifCond_eq, ↓rx_iload_n1, ↓rx_nil, ↓ry_fvs, ↓ry_fvz, ↓ry_i1, ↓ry_iau, ↓ry_li0s, ↓ry_li0z, ↓ry_lr0s, ↓ry_lr0z, ↓ry_obu, ↓ry_r1, ↓ry_ri, true_and, ↓mc_ob, ↓mc_i1, ↓mc_n1, ↓mc_i2, ↓mc_n2, ↓mc_i3, ↓mc_n3, ↓mc_r4, ↓mc_r7, ↓mc_i8, ↓mc_n8, ↓mc_i9, ↓mc_n9, hI4, rz_set, rz_nol, rz_clr, List.set_cons_zero, List.set_cons_succ, rz_tr, Nat.reduceAdd, Int.reduceAdd, Int.reduceToNat, Int.reduceSub, Int.reduceNeg, Int.cast_ofNat_Int]
    refine ⟨fun c2 => hK _ _ _ _ ?_, fun c2 => absurd trivial c2⟩
    refine rz_blk' [(.iconst 0, 1, 0, 0), (.ireturn, 1, 0, 0)] (by decide +kernel) (Nat.le_refl _) (Nat.le_refl _) (fun K R hK hR => ?_)
    simp only [rw_c0, ↓rx_iconst, ↓rx_ireturn, ↓rx_nil, ↓mc_ob, ↓mc_i1, ↓mc_n1, ↓mc_i2, ↓mc_n2, ↓mc_i3, ↓mc_n3, ↓mc_r4, ↓mc_r7, ↓mc_i8, ↓mc_n8, ↓mc_i9, ↓mc_n9, rz_set, rz_nol, rz_clr, List.set_cons_zero, List.set_cons_succ, rz_tr, Nat.reduceAdd, Int.reduceAdd, Int.reduceToNat, Int.reduceSub, Int.reduceNeg, Int.cast_ofNat_Int]
    exact hR _ _ rz_nb_0 ⟨by rw [if_neg (by simp only [mv_ae, mv_e_get he, Bool.and_eq_true]; exact fun q => hb q.1)]; rfl, rfl⟩
set_option maxRecDepth 100000 in
set_option maxHeartbeats 4000000 in
theorem mc_isListed_l {w : rz_w} {d : Nat} {G : rz_G} {a : Nat} {I : Nat → Int32} {A : Nat → Nat → Int32} {J : Nat → Nat → Int64} {X : Nat → List Nat} {P : Nat → Nat} {m : mv_T} {cl e f : Nat} {acc : List Nat} (hm : mv_is I A X m cl) (he : e < m.2.1.length) (hf : f + acc.length ≤ 24) (hs : ∀ i (h : i < acc.length), A 3 (f + i) = nI acc[i] ∧ acc[i] < m.2.1.length) {Q : Option Value → rz_G → Prop} (hQ : Q (some (.int (if mv_li m acc e = true then 1 else 0))) (mc_put G a I A J X P)) :
    ∀ (n i : Nat), acc.length + 1 ≤ i + n → i ≤ acc.length → mv_li m (acc.take i) e = false → rz_T w (d + 1) 0 0 m_Mach_isListed 0 0 3 [some (.ref a), some (.int (nI e)), some (.int (nI f)), some (.int (nI (f + acc.length))), some (.int (nI (f + i)))] [] (mc_put G a I A J X P) Q := by
  intro n
  induction n with
  | zero => intro i h1 h2; omega
  | succ n ih =>
    intro i hn hi hl
    obtain ⟨m0, m1, m2, m3, m4, m5, -, -, -, -, -, -, mX⟩ := id hm
    obtain ⟨e0, e1, e2, e3, e4, e5, e6⟩ := m5 e he
    have hnext : i < acc.length → mv_li m (acc.take (i + 1)) e = false → rz_T w (d + 1) 0 0 m_Mach_isListed 0 0 56 [some (.ref a), some (.int (nI e)), some (.int (nI f)), some (.int (nI (f + acc.length))), some (.int (nI (f + i)))] [] (mc_put G a I A J X P) Q := by
      intro h1 h2
      refine rz_blk' [(.iinc 4 1, 3, 0, 0), (.goto (-56), 3, 0, 0)] (by decide +kernel) (Nat.le_refl _) (Nat.le_refl _) (fun K R hK hR => ?_)
      simp only [rw_c1, ↓rx_goto, ↓rx_iinc, ↓rx_nil, ↓ry_li0s, ↓ry_li0z, ↓mc_ob, ↓mc_i1, ↓mc_n1, ↓mc_i2, ↓mc_n2, ↓mc_i3, ↓mc_n3, ↓mc_r4, ↓mc_r7, ↓mc_i8, ↓mc_n8, ↓mc_i9, ↓mc_n9, nI_add, rz_set, rz_nol, rz_clr, List.set_cons_zero, List.set_cons_succ, rz_tr, Nat.reduceAdd, Int.reduceAdd, Int.reduceToNat, Int.reduceSub, Int.reduceNeg, Int.cast_ofNat_Int]
      rw [Nat.add_assoc]
      exact hK _ _ _ _ (ih (i + 1) (by omega) (by omega) h2)
    refine rz_blk' [(.iload 4, 2, 0, 0), (.iload_n 3, 1, 0, 0), (.if_icmp .ge 56, 3, 0, 0), (.aload_n 0, 1, 0, 0), (.getfield 25, 3, 2, 4), (.aload_n 0, 1, 0, 0), (.getfield 54, 3, 2, 11), (.iload 4, 2, 0, 0), (.iaload, 1, 0, 0), (.iaload, 1, 0, 0), (.aload_n 0, 1, 0, 0), (.getfield 25, 3, 2, 4), (.iload_n 1, 1, 0, 0), (.iaload, 1, 0, 0), (.if_icmp .ne 29, 3, 0, 0)] (by decide +kernel) (Nat.le_refl _) (Nat.le_refl _) (fun K R hK hR => ?_)
    simp only [↓rx_aload_n0, ↓rx_getfield, ↓rx_iaload, ↓rx_if_icmp_ge, ↓rx_if_icmp_ne, ↓rx_iload, ↓rx_iload_n1, ↓rx_iload_n3, ↓rx_nil, ↓ry_fvs, ↓ry_fvz, ↓ry_i2, ↓ry_iau, ↓ry_li0s, ↓ry_li0z, ↓ry_lr0s, ↓ry_lr0z, ↓ry_obu, ↓ry_r1, ↓ry_ri, true_and, ↓mc_ob, ↓mc_i1, ↓mc_n1, ↓mc_i2, ↓mc_n2, ↓mc_i3, ↓mc_n3, ↓mc_r4, ↓mc_r7, ↓mc_i8, ↓mc_n8, ↓mc_i9, ↓mc_n9, rz_set, rz_nol, rz_clr, List.set_cons_zero, List.set_cons_succ, rz_tr, Nat.reduceAdd, Int.reduceAdd, Int.reduceToNat, Int.reduceSub, Int.reduceNeg, Int.cast_ofNat_Int]
    refine ⟨fun c1 => hK _ _ _ _ ?_, fun c1 => ?_⟩
    · rw [nI_leI (by omega) (by omega)] at c1
      refine rz_blk' [(.iconst 0, 1, 0, 0), (.ireturn, 1, 0, 0)] (by decide +kernel) (Nat.le_refl _) (Nat.le_refl _) (fun K R hK hR => ?_)
      simp only [rw_c0, ↓rx_iconst, ↓rx_ireturn, ↓rx_nil, ↓mc_ob, ↓mc_i1, ↓mc_n1, ↓mc_i2, ↓mc_n2, ↓mc_i3, ↓mc_n3, ↓mc_r4, ↓mc_r7, ↓mc_i8, ↓mc_n8, ↓mc_i9, ↓mc_n9, rz_set, rz_nol, rz_clr, List.set_cons_zero, List.set_cons_succ, rz_tr, Nat.reduceAdd, Int.reduceAdd, Int.reduceToNat, Int.reduceSub, Int.reduceNeg, Int.cast_ofNat_Int]
      rw [List.take_of_length_le (by omega)] at hl
      rw [hl] at hQ
      exact hR _ _ rz_nb_0 hQ
    rw [nI_leI (by omega) (by omega)] at c1
    have hia : i < acc.length := by omega
    obtain ⟨s1, s2⟩ := hs i hia
    obtain ⟨f0, f1, f2, f3, f4, f5, f6⟩ := m5 acc[i] s2
    have htk : mv_li m (acc.take (i + 1)) e = (mv_li m (acc.take i) e || (decide ((mv_e m acc[i]).2.2.1 = (mv_e m e).2.2.1) && decide ((mv_e m acc[i]).2.2.2 = (mv_e m e).2.2.2))) := by
      rw [List.take_succ, List.getElem?_eq_getElem hia]
      simp only [mv_li, Option.toList, List.any_append, List.any_cons, List.any_nil, Bool.or_false]
    rw [mv_e_get s2, mv_e_get he, hl, Bool.false_or] at htk
    rw [nI_clamp (by omega), s1, nI_clamp (by omega), nI_clamp (by omega), f2, e2, nI_eq (by omega) (by omega)]
    refine ⟨vp_in_nI (by omega) (by decide), vp_in_nI (by omega) (by decide), vp_in_nI (by omega) (by decide), fun c2 => hK _ _ _ _ (hnext hia (by rw [htk]; simp [c2])), fun c2 => hK _ _ _ _ ?_⟩
    refine rz_blk' [(.aload_n 0, 1, 0, 0), (.getfield 30, 3, 2, 5), (.aload_n 0, 1, 0, 0), (.getfield 54, 3, 2, 11), (.iload 4, 2, 0, 0), (.iaload, 1, 0, 0), (.aaload, 1, 0, 0), (.aload_n 0, 1, 0, 0), (.getfield 30, 3, 2, 5), (.iload_n 1, 1, 0, 0), (.aaload, 1, 0, 0)] (by decide +kernel) (Nat.le_refl _) (Nat.le_refl _) (fun K R hK hR => ?_)
    simp only [Nat.reduceEqDiff, false_or, or_false, or_true, reduceIte, ↓rx_aaload, ↓rx_aload_n0, ↓rx_getfield, ↓rx_iaload, ↓rx_iload, ↓rx_iload_n1, ↓rx_nil, ↓ry_fvs, ↓ry_fvz, ↓ry_iau, ↓ry_li0s, ↓ry_li0z, ↓ry_lr0s, ↓ry_lr0z, ↓ry_obu, ↓ry_r1, ↓ry_ri, true_and, true_or, ↓mc_ob, ↓mc_i1, ↓mc_n1, ↓mc_i2, ↓mc_n2, ↓mc_i3, ↓mc_n3, ↓mc_r4, ↓mc_r7, ↓mc_i8, ↓mc_n8, ↓mc_i9, ↓mc_n9, va_rfs, rz_set, rz_nol, rz_clr, List.set_cons_zero, List.set_cons_succ, rz_tr, Nat.reduceAdd, Int.reduceAdd, Int.reduceToNat, Int.reduceSub, Int.reduceNeg, Int.cast_ofNat_Int]
    rw [nI_clamp (by omega), s1, nI_clamp (by omega), nI_clamp (by omega)]
    refine ⟨vp_in_nI (by omega) (by decide), vp_in_nI (by omega) (by decide), vp_in_nI (by omega) (by decide), hK _ _ _ _ ?_⟩
    have w1 := mc_wi (G := G) (a := a) (I := I) (A := A) (J := J) (P := P) mX (show acc[i] < 30 by omega)
    have w2 := mc_wi (G := G) (a := a) (I := I) (A := A) (J := J) (P := P) mX (show e < 30 by omega)
    refine rz_cV (As := [.ref (a + 10 + 2 * e)]) (b := a + 10 + 2 * acc[i]) (S := []) l_Mach_82 (by decide +kernel) rfl w1.1 rfl (Nat.le_of_ble_eq_true rfl) (Nat.le_refl _) (Nat.le_refl _) (c_Word_isLike w1 w2) (fun r G' hq => ?_)
    obtain ⟨rfl, rfl⟩ := hq
    simp only [Option.toList, List.cons_append, List.nil_append]
    rw [f3, e3]
    by_cases c3 : m.2.1[acc[i]].2.2.2 = m.2.1[e].2.2.2
    · rw [if_pos c3]
      refine rz_blk' [(.ifCond .eq 5, 3, 0, 0), (.iconst 1, 1, 0, 0), (.ireturn, 1, 0, 0)] (by decide +kernel) (Nat.le_refl _) (Nat.le_refl _) (fun K R hK hR => ?_)
      simp only [rw_c1, ↓rx_iconst, ↓rx_ifCond_eq, ↓rx_ireturn, ↓rx_nil, ↓ry_i1, ↓mc_ob, ↓mc_i1, ↓mc_n1, ↓mc_i2, ↓mc_n2, ↓mc_i3, ↓mc_n3, ↓mc_r4, ↓mc_r7, ↓mc_i8, ↓mc_n8, ↓mc_i9, ↓mc_n9, rz_set, rz_nol, rz_clr, List.set_cons_zero, List.set_cons_succ, rz_tr, Nat.reduceAdd, Int.reduceAdd, Int.reduceToNat, Int.reduceSub, Int.reduceNeg, Int.cast_ofNat_Int]
      refine ⟨fun c4 => absurd c4 (by decide), fun c4 => ?_⟩
      have : mv_li m acc e = true := by
        simp only [mv_li, List.any_eq_true]
        exact ⟨acc[i], List.getElem_mem hia, by rw [mv_e_get s2, mv_e_get he]; simp [c2, c3]⟩
      rw [if_pos this] at hQ
      exact hR _ _ rz_nb_1 hQ
    · rw [if_neg c3]
      refine rz_blk' [(.ifCond .eq 5, 3, 0, 0), (.iconst 1, 1, 0, 0), (.ireturn, 1, 0, 0)] (by decide +kernel) (Nat.le_refl _) (Nat.le_refl _) (fun K R hK hR => ?_)
      simp only [rw_c1, ↓rx_iconst, ↓rx_ifCond_eq, ↓rx_ireturn, ↓rx_nil, ↓ry_i1, ↓mc_ob, ↓mc_i1, ↓mc_n1, ↓mc_i2, ↓mc_n2, ↓mc_i3, ↓mc_n3, ↓mc_r4, ↓mc_r7, ↓mc_i8, ↓mc_n8, ↓mc_i9, ↓mc_n9, rz_set, rz_nol, rz_clr, List.set_cons_zero, List.set_cons_succ, rz_tr, Nat.reduceAdd, Int.reduceAdd, Int.reduceToNat, Int.reduceSub, Int.reduceNeg, Int.cast_ofNat_Int]
      exact ⟨fun c4 => hK _ _ _ _ (hnext hia (by rw [htk]; simp [c3])), fun c4 => absurd trivial c4⟩
set_option maxRecDepth 100000 in
set_option maxHeartbeats 4000000 in
/-- isListed(e, first, end) -/
theorem c_Mach_isListed {w : rz_w} {d : Nat} {G : rz_G} {a : Nat} {I : Nat → Int32} {A : Nat → Nat → Int32} {J : Nat → Nat → Int64} {X : Nat → List Nat} {P : Nat → Nat} {m : mv_T} {cl e f : Nat} {acc : List Nat} (hm : mv_is I A X m cl) (he : e < m.2.1.length) (hf : f + acc.length ≤ 24) (hs : ∀ i (h : i < acc.length), A 3 (f + i) = nI acc[i] ∧ acc[i] < m.2.1.length) : rz_C w (d + 1) 0 0 y_Mach_isListed m_Mach_isListed [.ref a, .int (nI e), .int (nI f), .int (nI (f + acc.length))] (mc_put G a I A J X P) (fun r G' => r = some (.int (if mv_li m acc e = true then 1 else 0)) ∧ G' = (mc_put G a I A J X P)) := by
  refine rz_enter' [some (.ref a), some (.int (nI e)), some (.int (nI f)), some (.int (nI (f + acc.length))), none] (by decide +kernel) rfl rfl (Nat.le_of_ble_eq_true rfl) rfl ?_
  refine rz_blk' [(.iload_n 2, 1, 0, 0), (.istore 4, 2, 0, 0)] (by decide +kernel) (Nat.le_refl _) (Nat.le_refl _) (fun K R hK hR => ?_)
  simp only [↓rx_iload_n2, ↓rx_istore, ↓rx_nil, ↓ry_i1, ↓ry_li0s, ↓ry_li0z, ↓mc_ob, ↓mc_i1, ↓mc_n1, ↓mc_i2, ↓mc_n2, ↓mc_i3, ↓mc_n3, ↓mc_r4, ↓mc_r7, ↓mc_i8, ↓mc_n8, ↓mc_i9, ↓mc_n9, rz_set, rz_nol, rz_clr, List.set_cons_zero, List.set_cons_succ, rz_tr, Nat.reduceAdd, Int.reduceAdd, Int.reduceToNat, Int.reduceSub, Int.reduceNeg, Int.cast_ofNat_Int]
  exact hK _ _ _ _ (mc_isListed_l hm he hf hs ⟨rfl, rfl⟩ (acc.length + 1) 0 (by omega) (by omega) rfl)

