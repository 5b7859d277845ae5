/-! WriterDesk$Word: contracts over lists of signs -/
abbrev wd_o (a : Nat) (xs : List Nat) : rz_E := .inr (0, [.ref (a + 1), .int (nI xs.length)])
abbrev wd_a (c : Nat) (xs : List Nat) : rz_E := .inl (1, c, .inr (.inl (wd_f xs)))
def wd_ok (c : Nat) (xs : List Nat) : Prop := xs.length ≤ 16 * c ∧ (∀ x ∈ xs, x < 16) ∧ c ≤ 300
def wd_is (G : rz_G) (a c : Nat) (xs : List Nat) : Prop := G a = some (wd_o a xs) ∧ G (a + 1) = some (wd_a c xs) ∧ wd_ok c xs
def wd_put (G : rz_G) (a c : Nat) (xs : List Nat) : rz_G := rz_up (rz_up G a (wd_o a xs)) (a + 1) (wd_a c xs)
theorem wd_put_is {G : rz_G} {a c : Nat} {xs : List Nat} (h : wd_ok c xs) : wd_is (wd_put G a c xs) a c xs := by
  refine ⟨?_, ?_, h⟩
  · simp only [wd_put]; rw [rz_up_n _ _ (by omega), rz_up_s]
  · simp only [wd_put]; rw [rz_up_s]
theorem wd_put_n {G : rz_G} {a c b : Nat} {xs : List Nat} (h : b ≠ a) (h2 : b ≠ a + 1) : wd_put G a c xs b = G b := by
  simp only [wd_put]; rw [rz_up_n _ _ h2, rz_up_n _ _ h]
theorem wd_put_id {G : rz_G} {a c : Nat} {xs : List Nat} (h : wd_is G a c xs) : wd_put G a c xs = G := by
  simp only [wd_put]; rw [rz_up_id G a _ h.1, rz_up_id G _ _ h.2.1]
theorem wd_put_put {G : rz_G} {a c : Nat} {xs ys : List Nat} : wd_put (wd_put G a c xs) a c ys = wd_put G a c ys := by
  simp only [wd_put]
  rw [rz_up_comm (rz_up G a _) _ _ (show a + 1 ≠ a by omega), rz_up_up, rz_up_up]
/-- two words, one not the other's cells -/
theorem wd_apart {G : rz_G} {a c b c' : Nat} {xs ys : List Nat} (h : wd_is G a c xs) (h' : wd_is G b c' ys) (hn : a ≠ b) : b ≠ a + 1 ∧ a ≠ b + 1 ∧ a + 1 ≠ b + 1 := by
  refine ⟨fun q => ?_, fun q => ?_, by omega⟩
  · have h1 := h.2.1; rw [← q, h'.1] at h1; cases h1
  · have h1 := h'.2.1; rw [← q, h.1] at h1; cases h1
theorem wd_is_put {G : rz_G} {a c b c' : Nat} {xs ys zs : List Nat} (h : wd_is G a c xs) (h' : wd_is G b c' ys) (hn : a ≠ b) : wd_is (wd_put G a c zs) b c' ys := by
  obtain ⟨e1, e2, e3⟩ := wd_apart h h' hn
  exact ⟨by rw [wd_put_n (Ne.symm hn) e1]; exact h'.1, by rw [wd_put_n (Ne.symm e2) (Ne.symm e3)]; exact h'.2.1, h'.2.2⟩
/-- the array as it stands between, then the length: the word -/
theorem wd_fin {G : rz_G} {a c : Nat} {xs : List Nat} {f : Nat → Int64} {e : rz_E} (hf : f = wd_f xs) (he : e = wd_o a xs) : rz_up (rz_up G (a + 1) (.inl (1, c, .inr (.inl f)))) a e = wd_put G a c xs := by
  subst hf; subst he
  simp only [wd_put]
  exact rz_up_comm _ _ _ (by omega)
theorem rz_eqQ {Q : Option Value → rz_G → Prop} {r : Option Value} {G G' : rz_G} (h : G = G') (q : Q r G') : Q r G := h ▸ q
theorem nI_and7 (n : Nat) : nI n &&& nI 7 = nI (n % 8) := by
  rw [pk_and (nI n) (m := nI 7) 3 (by decide)]
  congr 1
  show (BitVec.ofNat 32 n).toNat % 8 = n % 8
  rw [BitVec.toNat_ofNat]
  omega
theorem rz_l0 : lN 0 = (0 : Int64) := rfl
theorem rw_cmp0 (x y : Int64) : (lg_cmp x y = 0) = (x = y) := by
  apply propext
  unfold lg_cmp
  by_cases h1 : x > y
  · rw [if_pos h1]
    constructor
    · intro q; exact absurd q (by decide)
    · intro q; subst q; exact absurd h1 (Int64.lt_irrefl)
  · rw [if_neg h1]
    by_cases h2 : x = y
    · simp [h2]
    · rw [if_neg h2]
      constructor
      · intro q; exact absurd q (by decide)
      · intro q; exact absurd q h2
theorem wd_m16 (i : Nat) : nI i * nI 16 = nI (16 * i) := by rw [pk_mul, Nat.mul_comm]
theorem wd_le {a b : Nat} (ha : a < 2 ^ 31) (hb : b < 2 ^ 31) : nI a ≤ nI b ↔ a ≤ b := nI_leI ha hb
theorem wd_lt {a b : Nat} (ha : a < 2 ^ 31) (hb : b < 2 ^ 31) : nI a < nI b ↔ a < b := nI_ltI ha hb

set_option maxRecDepth 100000 in
set_option maxHeartbeats 4000000 in
theorem wd_clear_l {w : rz_w} {d : Nat} {G : rz_G} {a c : Nat} {xs : List Nat} (h1 : G a = some (wd_o a xs)) (hok : wd_ok c xs) {Q : Option Value → rz_G → Prop} (hQ : Q none (wd_put G a c [])) :
    ∀ (n i : Nat) (f : Nat → Int64), c + 1 ≤ i + n → i ≤ c → (∀ j, f j = if j < i then lN 0 else wd_f xs j) → rz_T w d 0 0 m_Word_clear 0 0 2 [some (.ref a), some (.int (nI i))] [] (rz_up G (a + 1) (.inl (1, c, .inr (.inl f)))) Q := by
  intro n
  induction n with
  | zero => intro i f h2 h3; omega
  | succ n ih =>
    intro i f hn hi hf
    obtain ⟨o1, o2, o3⟩ := hok
    have g1 : (rz_up G (a + 1) (.inl (1, c, .inr (.inl f)))) a = some (wd_o a xs) := by rw [rz_up_n _ _ (by omega)]; exact h1
    have g2 : (rz_up G (a + 1) (.inl (1, c, .inr (.inl f)))) (a + 1) = some (.inl (1, c, .inr (.inl f))) := rz_up_s _ _ _
    have hex : xs.length ≤ 16 * i → rz_T w d 0 0 m_Word_clear 0 0 35 [some (.ref a), some (.int (nI i))] [] (rz_up G (a + 1) (.inl (1, c, .inr (.inl f)))) Q := by
      intro hx
      refine rz_blk' [(.aload_n 0, 1, 0, 0), (.iconst 0, 1, 0, 0), (.putfield 15, 3, 0, 1), (.return_, 1, 0, 0)] (by decide +kernel) (Nat.le_refl _) (Nat.le_refl _) (fun K R hK hR => ?_)
      simp only [List.length_cons, List.length_nil, Nat.reduceLT, rf_0_1, rw_c0, ↓rx_aload_n0, ↓rx_iconst, ↓rx_nil, ↓rx_putfield, ↓rx_return_, ↓ry_lr0s, ↓ry_lr0z, ↓ry_obu, ↓ry_vr, true_and, ↓rh_ob g1, rz_set, rz_nol, rz_clr, List.set_cons_zero, List.set_cons_succ, rz_tr, Nat.reduceAdd, Int.reduceAdd, Int.reduceToNat, Int.reduceSub, Int.reduceNeg, Int.cast_ofNat_Int]
      refine hR _ _ (rz_nb_i (by decide)) (rz_eqQ (wd_fin (xs := []) ?_ rfl) hQ)
      rw [wd_f_nil]; funext j; rw [hf j]; split
      · rfl
      · exact wd_f_0 o2 (by omega)
    refine rz_blk' [(.iload_n 1, 1, 0, 0), (.bipush 16, 2, 0, 0), (.imul, 1, 0, 0), (.aload_n 0, 1, 0, 0), (.getfield 15, 3, 0, 1), (.if_icmp .ge 25, 3, 0, 0), (.iload_n 1, 1, 0, 0), (.aload_n 0, 1, 0, 0), (.getfield 9, 3, 0, 0), (.arraylength, 1, 0, 0), (.if_icmp .ge 16, 3, 0, 0), (.aload_n 0, 1, 0, 0), (.getfield 9, 3, 0, 0), (.iload_n 1, 1, 0, 0), (.lconst 0, 1, 0, 0), (.lastore, 1, 0, 0)] (by decide +kernel) (Nat.le_refl _) (Nat.le_refl _) (fun K R hK hR => ?_)
    simp only [Nat.reduceLT, rw_b16, ↓rx_aload_n0, ↓rx_arraylength, ↓rx_bipush, ↓rx_getfield, ↓rx_if_icmp_ge, ↓rx_iload_n1, ↓rx_imul, ↓rx_lastore, ↓rx_lconst0, ↓rx_nil, ↓ry_fvs, ↓ry_fvz, ↓ry_i2, ↓ry_lau, ↓ry_li0s, ↓ry_li0z, ↓ry_lr0s, ↓ry_lr0z, ↓ry_obu, ↓ry_r1, ↓ry_ril, true_and, ↓rh_ob g1, ↓rh_la g2, ↓rh_aa g2, wd_m16, rz_set, rz_nol, rz_clr, List.set_cons_zero, List.set_cons_succ, rz_tr, Nat.reduceAdd, Int.reduceAdd, Int.reduceToNat, Int.reduceSub, Int.reduceNeg, Int.cast_ofNat_Int]
    refine ⟨fun c1 => hK _ _ _ _ (hex ((wd_le (by omega) (by omega)).mp c1)), fun c1 => ⟨fun c2 => hK _ _ _ _ (hex ?_), fun c2 => ⟨?_, hK _ _ _ _ ?_⟩⟩⟩
    · have := (wd_le (by omega) (by omega)).mp c2; omega
    · exact vp_in_nI (by rw [wd_le (by omega) (by omega)] at c2; omega) (by omega)
    · have hic : i < c := by rw [wd_le (by omega) (by omega)] at c2; omega
      rw [rz_up_up]
      refine rz_blk' [(.iinc 1 1, 3, 0, 0), (.goto (-30), 3, 0, 0)] (by decide +kernel) (Nat.le_refl _) (Nat.le_refl _) (fun K R hK hR => ?_)
      simp only [rw_c1, ↓rx_goto, ↓rx_iinc, ↓rx_nil, ↓ry_li0s, ↓ry_li0z, rz_set, rz_nol, rz_clr, List.set_cons_zero, List.set_cons_succ, rz_tr, Nat.reduceAdd, Int.reduceAdd, Int.reduceToNat, Int.reduceSub, Int.reduceNeg, Int.cast_ofNat_Int]
      rw [nI_add]
      refine hK _ _ _ _ (ih (i + 1) _ (by omega) hic (fun j => ?_))
      rw [nI_clamp (by omega)]
      simp only [vp_updL]
      by_cases hj : j = i
      · subst hj; simp [show j < j + 1 by omega]
      · rw [if_neg hj, hf j]
        by_cases hj2 : j < i
        · rw [if_pos hj2, if_pos (by omega)]
        · rw [if_neg hj2, if_neg (by omega)]

set_option maxRecDepth 100000 in
set_option maxHeartbeats 4000000 in
/-- clear(): no signs -/
theorem c_Word_clear {w : rz_w} {d : Nat} {G : rz_G} {a c : Nat} {xs : List Nat} (h : wd_is G a c xs) : rz_C w d 0 0 y_Word_clear m_Word_clear [.ref a] G (fun r G' => r = none ∧ G' = wd_put G a c []) := by
  refine rz_enter' [some (.ref a), none] (by decide +kernel) rfl rfl (Nat.le_of_ble_eq_true rfl) rfl ?_
  refine rz_blk' [(.iconst 0, 1, 0, 0), (.istore_n 1, 1, 0, 0)] (by decide +kernel) (Nat.le_refl _) (Nat.le_refl _) (fun K R hK hR => ?_)
  simp only [rw_c0, ↓rx_iconst, ↓rx_istore_n1, ↓rx_nil, ↓ry_i1, rz_set, rz_nol, rz_clr, List.set_cons_zero, List.set_cons_succ, rz_tr, Nat.reduceAdd, Int.reduceAdd, Int.reduceToNat, Int.reduceSub, Int.reduceNeg, Int.cast_ofNat_Int]
  refine hK _ _ _ _ ?_
  have e := rz_up_id G (a + 1) _ h.2.1
  rw [← e]
  exact wd_clear_l h.1 h.2.2 (by rw [e]; exact ⟨rfl, rfl⟩) (c + 1) 0 _ (by omega) (by omega) (fun j => by simp)

set_option maxRecDepth 100000 in
set_option maxHeartbeats 4000000 in
/-- at(i): sign i, or -1 -/
theorem c_Word_at {w : rz_w} {d : Nat} {G : rz_G} {a c : Nat} {xs : List Nat} (h : wd_is G a c xs) (h8 : ∀ x ∈ xs, x < 8) (i : Int32) : rz_C w d 0 0 y_Word_at m_Word_at [.ref a, .int i] G (fun r G' => G' = G ∧ ((∃ (j : Nat) (hj : j < xs.length), i = nI j ∧ r = some (.int (nI xs[j]))) ∨ ((i < 0 ∨ nI xs.length ≤ i) ∧ r = some (.int (-1))))) := by
  obtain ⟨h1, h2, o1, o2, o3⟩ := h
  refine rz_enter' [some (.ref a), some (.int i)] (by decide +kernel) rfl rfl (Nat.le_of_ble_eq_true rfl) rfl ?_
  refine rz_blk' [(.iload_n 1, 1, 0, 0), (.ifCond .lt 11, 3, 0, 0), (.iload_n 1, 1, 0, 0), (.aload_n 0, 1, 0, 0), (.getfield 15, 3, 0, 1), (.if_icmp .lt 7, 3, 0, 0), (.iconst (-1), 1, 0, 0), (.goto 23, 3, 0, 0)] (by decide +kernel) (Nat.le_refl _) (Nat.le_refl _) (fun K R hK hR => ?_)
  simp only [rw_cm1, ↓rx_aload_n0, ↓rx_getfield, ↓rx_goto, ↓rx_iconst, ↓rx_ifCond_lt, ↓rx_if_icmp_lt, ↓rx_iload_n1, ↓rx_nil, ↓ry_fvs, ↓ry_fvz, ↓ry_i1, ↓ry_i2, ↓ry_li0s, ↓ry_li0z, ↓ry_lr0s, ↓ry_lr0z, ↓ry_obu, ↓ry_r1, ↓rh_ob h1, rz_set, rz_nol, rz_clr, List.set_cons_zero, List.set_cons_succ, rz_tr, Nat.reduceAdd, Int.reduceAdd, Int.reduceToNat, Int.reduceSub, Int.reduceNeg, Int.cast_ofNat_Int]
  refine ⟨fun c1 => hK _ _ _ _ ?_, fun c1 => ⟨fun c2 => hK _ _ _ _ ?_, fun c2 => hK _ _ _ _ ?_⟩⟩
  ·
    refine rz_blk' [(.iconst (-1), 1, 0, 0), (.goto 23, 3, 0, 0)] (by decide +kernel) (Nat.le_refl _) (Nat.le_refl _) (fun K R hK hR => ?_)
    simp only [rw_cm1, ↓rx_goto, ↓rx_iconst, ↓rx_nil, ↓rh_ob h1, rz_set, rz_nol, rz_clr, List.set_cons_zero, List.set_cons_succ, rz_tr, Nat.reduceAdd, Int.reduceAdd, Int.reduceToNat, Int.reduceSub, Int.reduceNeg, Int.cast_ofNat_Int]
    refine hK _ _ _ _ ?_
    refine rz_blk' [(.ireturn, 1, 0, 0)] (by decide +kernel) (Nat.le_refl _) (Nat.le_refl _) (fun K R hK hR => ?_)
    simp only [↓rx_ireturn, ↓rx_nil, rz_set, rz_nol, rz_clr, List.set_cons_zero, List.set_cons_succ, rz_tr, Nat.reduceAdd, Int.reduceAdd, Int.reduceToNat, Int.reduceSub, Int.reduceNeg, Int.cast_ofNat_Int]
    exact hR _ _ (rz_nb_i (by decide)) ⟨rfl, Or.inr ⟨Or.inl c1, rfl⟩⟩
  ·
    refine rz_blk' [(.aload_n 0, 1, 0, 0), (.getfield 9, 3, 0, 0), (.iload_n 1, 1, 0, 0), (.bipush 16, 2, 0, 0), (.idiv, 1, 0, 0), (.laload, 1, 0, 0), (.iconst 4, 1, 0, 0), (.iload_n 1, 1, 0, 0), (.bipush 16, 2, 0, 0), (.irem, 1, 0, 0), (.imul, 1, 0, 0), (.lushr, 1, 0, 0), (.l2i, 1, 0, 0), (.bipush 7, 2, 0, 0), (.iand, 1, 0, 0), (.ireturn, 1, 0, 0)] (by decide +kernel) (Nat.le_refl _) (Nat.le_refl _) (fun K R hK hR => ?_)
    simp only [rw_b16, rw_b7, rw_c4, ↓rx_aload_n0, ↓rx_bipush, ↓rx_getfield, ↓rx_iand, ↓rx_iconst, ↓rx_idiv, ↓rx_iload_n1, ↓rx_imul, ↓rx_irem, ↓rx_ireturn, ↓rx_l2i, ↓rx_laload, ↓rx_lushr, ↓rx_nil, ↓ry_fvs, ↓ry_fvz, ↓ry_i2, ↓ry_l1, ↓ry_lau, ↓ry_li, ↓ry_li0s, ↓ry_li0z, ↓ry_lr0s, ↓ry_lr0z, ↓ry_obu, ↓ry_r1, ↓ry_ri, ↓rh_ob h1, ↓rh_la h2, rz_set, rz_nol, rz_clr, List.set_cons_zero, List.set_cons_succ, rz_tr, Nat.reduceAdd, Int.reduceAdd, Int.reduceToNat, Int.reduceSub, Int.reduceNeg, Int.cast_ofNat_Int]
    obtain ⟨j, hj, rfl⟩ : ∃ j : Nat, j < xs.length ∧ i = nI j := by
      rcases pk_ix i (n := xs.length) (by omega) with q | q | q
      · exact absurd q c1
      · exact absurd c2 (by rw [Int32.not_lt]; exact q)
      · exact q
    have hd : nI j / nI 16 = nI (j / 16) := pk_div (by omega) (by omega) (by omega)
    have hm : nI j - nI j / nI 16 * nI 16 = nI (j % 16) := pk_rem (by omega) (by omega) (by omega)
    rw [hm, hd, pk_mul, nI_clamp (by omega)]
    refine ⟨by decide, vp_in_nI (by omega) (by omega), by decide, hR _ _ (rz_nb_i (by decide)) ⟨rfl, Or.inl ⟨j, hj, rfl, ?_⟩⟩⟩
    congr 2
    simp only [wd_f]
    rw [wb_shr (wd_k_lt _ _) (by omega), lN_i, nI_and7]
    have hg := wd_k_get o2 hj
    have h8j := h8 xs[j] (List.getElem_mem hj)
    congr 1
    omega
  ·
    refine rz_blk' [(.ireturn, 1, 0, 0)] (by decide +kernel) (Nat.le_refl _) (Nat.le_refl _) (fun K R hK hR => ?_)
    simp only [↓rx_ireturn, ↓rx_nil, rz_set, rz_nol, rz_clr, List.set_cons_zero, List.set_cons_succ, rz_tr, Nat.reduceAdd, Int.reduceAdd, Int.reduceToNat, Int.reduceSub, Int.reduceNeg, Int.cast_ofNat_Int]
    exact hR _ _ (rz_nb_i (by decide)) ⟨rfl, Or.inr ⟨Or.inr (by rw [Int32.not_lt] at c2; exact c2), rfl⟩⟩

theorem wd_f_eq {xs ys : List Nat} (h1 : ∀ x ∈ xs, x < 16) (h2 : ∀ x ∈ ys, x < 16) (hl : xs.length = ys.length) (h : ∀ j, 16 * j < xs.length → wd_f xs j = wd_f ys j) : xs = ys := by
  refine wd_p_inj h1 h2 hl ?_
  apply Nat.eq_of_testBit_eq
  intro t
  by_cases ht : 16 * (t / 64) < xs.length
  · have := lN_inj (wd_k_lt _ _) (wd_k_lt _ _) (h _ ht)
    have := congrArg (fun z => z.testBit (t % 64)) this
    simp only [wd_k_bit] at this
    have e : 64 * (t / 64) + t % 64 = t := by omega
    rw [e] at this
    simpa [show t % 64 < 64 by omega] using this
  · rw [Nat.testBit_lt_two_pow (Nat.lt_of_lt_of_le (wd_p_lt h1) (Nat.pow_le_pow_right (by decide) (by omega))), Nat.testBit_lt_two_pow (Nat.lt_of_lt_of_le (wd_p_lt h2) (Nat.pow_le_pow_right (by decide) (by omega)))]
set_option maxRecDepth 100000 in
set_option maxHeartbeats 4000000 in
theorem wd_isLike_l {w : rz_w} {d : Nat} {G : rz_G} {a c b e : Nat} {xs ys : List Nat} (h1 : G a = some (wd_o a xs)) (h2 : G (a + 1) = some (wd_a c xs)) (hok : wd_ok c xs) (k1 : G b = some (wd_o b ys)) (k2 : G (b + 1) = some (wd_a e ys)) (kok : wd_ok e ys) (hl : xs.length = ys.length) {Q : Option Value → rz_G → Prop} (hQ : Q (some (.int (if xs = ys then 1 else 0))) G) :
    ∀ (n i : Nat), c + 1 ≤ i + n → i ≤ c → (∀ j, j < i → wd_f xs j = wd_f ys j) → rz_T w d 0 0 m_Word_isLike 0 0 15 [some (.ref a), some (.ref b), some (.int (nI i))] [] G Q := by
  intro n
  induction n with
  | zero => intro i h2 h3; omega
  | succ n ih =>
    intro i hn hi hf
    obtain ⟨o1, o2, o3⟩ := id hok
    obtain ⟨p1, p2, p3⟩ := id kok
    refine rz_blk' [(.iload_n 2, 1, 0, 0), (.bipush 16, 2, 0, 0), (.imul, 1, 0, 0), (.aload_n 0, 1, 0, 0), (.getfield 15, 3, 0, 1), (.if_icmp .ge 27, 3, 0, 0), (.aload_n 0, 1, 0, 0), (.getfield 9, 3, 0, 0), (.iload_n 2, 1, 0, 0), (.laload, 1, 0, 0), (.aload_n 1, 1, 0, 0), (.getfield 9, 3, 0, 0), (.iload_n 2, 1, 0, 0), (.laload, 1, 0, 0), (.lcmp, 1, 0, 0), (.ifCond .eq 5, 3, 0, 0), (.iconst 0, 1, 0, 0), (.ireturn, 1, 0, 0)] (by decide +kernel) (Nat.le_refl _) (Nat.le_refl _) (fun K R hK hR => ?_)
    simp only [rw_b16, rw_c0, ↓rx_aload_n0, ↓rx_aload_n1, ↓rx_bipush, ↓rx_getfield, ↓rx_iconst, ↓rx_ifCond_eq, ↓rx_if_icmp_ge, ↓rx_iload_n2, ↓rx_imul, ↓rx_ireturn, ↓rx_laload, ↓rx_lcmp, ↓rx_nil, ↓ry_fvs, ↓ry_fvz, ↓ry_i1, ↓ry_i2, ↓ry_l2, ↓ry_lau, ↓ry_li0s, ↓ry_li0z, ↓ry_lr0s, ↓ry_lr0z, ↓ry_obu, ↓ry_r1, ↓ry_ri, ↓rh_ob h1, ↓rh_la h2, ↓rh_ob k1, ↓rh_la k2, wd_m16, rw_cmp0, rz_set, rz_nol, rz_clr, List.set_cons_zero, List.set_cons_succ, rz_tr, Nat.reduceAdd, Int.reduceAdd, Int.reduceToNat, Int.reduceSub, Int.reduceNeg, Int.cast_ofNat_Int]
    refine ⟨fun c1 => hK _ _ _ _ ?_, fun c1 => ?_⟩
    · have c1 := (wd_le (by omega) (by omega)).mp c1
      refine rz_blk' [(.iconst 1, 1, 0, 0), (.ireturn, 1, 0, 0)] (by decide +kernel) (Nat.le_refl _) (Nat.le_refl _) (fun K R hK hR => ?_)
      simp only [rw_c1, ↓rx_iconst, ↓rx_ireturn, ↓rx_nil, rz_set, rz_nol, rz_clr, List.set_cons_zero, List.set_cons_succ, rz_tr, Nat.reduceAdd, Int.reduceAdd, Int.reduceToNat, Int.reduceSub, Int.reduceNeg, Int.cast_ofNat_Int]
      have : xs = ys := wd_f_eq o2 p2 hl (fun j hj => hf j (by omega))
      rw [if_pos this] at hQ
      exact hR _ _ rz_nb_1 hQ
    · rw [wd_le (by omega) (by omega)] at c1
      rw [nI_clamp (by omega)]
      refine ⟨vp_in_nI (by omega) (by omega), vp_in_nI (by omega) (by omega), fun c2 => hK _ _ _ _ ?_, fun c2 => ?_⟩
      ·
        refine rz_blk' [(.iinc 2 1, 3, 0, 0), (.goto (-32), 3, 0, 0)] (by decide +kernel) (Nat.le_refl _) (Nat.le_refl _) (fun K R hK hR => ?_)
        simp only [rw_c1, ↓rx_goto, ↓rx_iinc, ↓rx_nil, ↓ry_li0s, ↓ry_li0z, rz_set, rz_nol, rz_clr, List.set_cons_zero, List.set_cons_succ, rz_tr, Nat.reduceAdd, Int.reduceAdd, Int.reduceToNat, Int.reduceSub, Int.reduceNeg, Int.cast_ofNat_Int]
        rw [nI_add]
        refine hK _ _ _ _ (ih (i + 1) (by omega) (by omega) (fun j hj => ?_))
        by_cases q : j = i
        · rw [q]; exact c2
        · exact hf j (by omega)
      · have : ¬ xs = ys := fun q => c2 (by rw [q])
        rw [if_neg this] at hQ
        exact hR _ _ rz_nb_0 hQ

set_option maxRecDepth 100000 in
set_option maxHeartbeats 4000000 in
/-- isLike(other) -/
theorem c_Word_isLike {w : rz_w} {d : Nat} {G : rz_G} {a c b e : Nat} {xs ys : List Nat} (h : wd_is G a c xs) (k : wd_is G b e ys) : rz_C w d 0 0 y_Word_isLike m_Word_isLike [.ref a, .ref b] G (fun r G' => r = some (.int (if xs = ys then 1 else 0)) ∧ G' = G) := by
  obtain ⟨h1, h2, hok⟩ := h
  obtain ⟨k1, k2, kok⟩ := k
  obtain ⟨o1, o2, o3⟩ := id hok
  obtain ⟨p1, p2, p3⟩ := id kok
  refine rz_enter' [some (.ref a), some (.ref b), none] (by decide +kernel) rfl rfl (Nat.le_of_ble_eq_true rfl) rfl ?_
  refine rz_blk' [(.aload_n 0, 1, 0, 0), (.getfield 15, 3, 0, 1), (.aload_n 1, 1, 0, 0), (.getfield 15, 3, 0, 1), (.if_icmp .eq 5, 3, 0, 0), (.iconst 0, 1, 0, 0), (.ireturn, 1, 0, 0)] (by decide +kernel) (Nat.le_refl _) (Nat.le_refl _) (fun K R hK hR => ?_)
  simp only [rw_c0, ↓rx_aload_n0, ↓rx_aload_n1, ↓rx_getfield, ↓rx_iconst, ↓rx_if_icmp_eq, ↓rx_ireturn, ↓rx_nil, ↓ry_fvs, ↓ry_fvz, ↓ry_i2, ↓ry_lr0s, ↓ry_lr0z, ↓ry_obu, ↓ry_r1, ↓rh_ob h1, ↓rh_ob k1, rz_set, rz_nol, rz_clr, List.set_cons_zero, List.set_cons_succ, rz_tr, Nat.reduceAdd, Int.reduceAdd, Int.reduceToNat, Int.reduceSub, Int.reduceNeg, Int.cast_ofNat_Int]
  refine ⟨fun c1 => hK _ _ _ _ ?_, fun c1 => ?_⟩
  · rw [nI_eq (by omega) (by omega)] at c1
    refine rz_blk' [(.iconst 0, 1, 0, 0), (.istore_n 2, 1, 0, 0)] (by decide +kernel) (Nat.le_refl _) (Nat.le_refl _) (fun K R hK hR => ?_)
    simp only [rw_c0, ↓rx_iconst, ↓rx_istore_n2, ↓rx_nil, ↓ry_i1, rz_set, rz_nol, rz_clr, List.set_cons_zero, List.set_cons_succ, rz_tr, Nat.reduceAdd, Int.reduceAdd, Int.reduceToNat, Int.reduceSub, Int.reduceNeg, Int.cast_ofNat_Int]
    exact hK _ _ _ _ (wd_isLike_l h1 h2 hok k1 k2 kok c1 ⟨rfl, rfl⟩ (c + 1) 0 (by omega) (by omega) (fun j hj => by omega))
  · rw [nI_eq (by omega) (by omega)] at c1
    exact hR _ _ rz_nb_0 ⟨by rw [if_neg (fun q => c1 (by rw [q]))]; rfl, rfl⟩

def wd_lcp : List Nat → List Nat → Nat
  | x :: xs, y :: ys => if x = y then wd_lcp xs ys + 1 else 0
  | _, _ => 0
theorem wd_lcp_le : ∀ (xs ys : List Nat), wd_lcp xs ys ≤ xs.length ∧ wd_lcp xs ys ≤ ys.length
  | [], _ => by simp [wd_lcp]
  | _ :: _, [] => by simp [wd_lcp]
  | x :: xs, y :: ys => by
    have := wd_lcp_le xs ys
    simp only [wd_lcp]; split <;> simp <;> omega
theorem wd_lcp_eq : ∀ (xs ys : List Nat) (r : Nat), r ≤ xs.length → r ≤ ys.length → xs.take r = ys.take r → (r = xs.length ∨ r = ys.length ∨ xs[r]? ≠ ys[r]?) → r = wd_lcp xs ys
  | [], ys, r, h1, _, _, _ => by simp at h1; simp [wd_lcp, h1]
  | x :: xs, [], r, _, h2, _, _ => by simp at h2; simp [wd_lcp, h2]
  | x :: xs, y :: ys, 0, _, _, _, h => by
    simp only [wd_lcp]
    split
    · next q => subst q; simp at h
    · rfl
  | x :: xs, y :: ys, r + 1, h1, h2, h3, h => by
    simp only [List.take_succ_cons, List.cons.injEq] at h3
    have := wd_lcp_eq xs ys r (by simpa using h1) (by simpa using h2) h3.2 (by simpa using h)
    simp only [wd_lcp, if_pos h3.1]
    omega
theorem wd_x15 {N M i : Nat} : (((lN (wd_k N (i / 16)) ^^^ lN (wd_k M (i / 16))).toUInt64 >>> ((nI (4 * (i % 16))).toInt64.toUInt64 &&& Int64.toUInt64 63)).toInt64 &&& 15 = 0) ↔ wd_k N (i / 16) / 2 ^ (4 * (i % 16)) % 16 = wd_k M (i / 16) / 2 ^ (4 * (i % 16)) % 16 := by
  have hx : lN (wd_k N (i / 16)) ^^^ lN (wd_k M (i / 16)) = lN (wd_k N (i / 16) ^^^ wd_k M (i / 16)) := by
    apply wb_inj
    rw [Int64.toBitVec_xor, wb_tb, wb_tb, wb_tb]
    apply BitVec.eq_of_toNat_eq
    rw [BitVec.toNat_xor, BitVec.toNat_ofNat, BitVec.toNat_ofNat, BitVec.toNat_ofNat, Nat.mod_eq_of_lt (wd_k_lt _ _), Nat.mod_eq_of_lt (wd_k_lt _ _), Nat.mod_eq_of_lt (Nat.xor_lt_two_pow (wd_k_lt _ _) (wd_k_lt _ _))]
  rw [hx, wb_shr (Nat.xor_lt_two_pow (wd_k_lt _ _) (wd_k_lt _ _)) (by omega)]
  have hm : (15 : Int64) = lN (2 ^ 4 - 1) := rfl
  rw [hm, wb_mask (Nat.lt_of_le_of_lt (Nat.div_le_self _ _) (Nat.xor_lt_two_pow (wd_k_lt _ _) (wd_k_lt _ _))) (by decide)]
  generalize wd_k N (i / 16) = u
  generalize wd_k M (i / 16) = v
  generalize 4 * (i % 16) = s
  have hz : (0 : Int64) = lN 0 := rfl
  rw [hz]
  constructor
  · intro h
    have h := lN_inj (Nat.lt_trans (Nat.mod_lt _ (by decide)) (by decide)) (by decide) h
    apply Nat.eq_of_testBit_eq
    intro t
    have ht := congrArg (fun z => z.testBit t) h
    simp only [Nat.testBit_mod_two_pow, Nat.testBit_div_two_pow, Nat.testBit_xor, Nat.zero_testBit] at ht
    rw [show (16 : Nat) = 2 ^ 4 from rfl]
    simp only [Nat.testBit_mod_two_pow, Nat.testBit_div_two_pow]
    by_cases q : t < 4
    · simp_all
    · simp [q]
  · intro h
    congr 1
    apply Nat.eq_of_testBit_eq
    intro t
    have ht := congrArg (fun z => z.testBit t) h
    rw [show (16 : Nat) = 2 ^ 4 from rfl] at ht
    simp only [Nat.testBit_mod_two_pow, Nat.testBit_div_two_pow] at ht
    simp only [Nat.testBit_mod_two_pow, Nat.testBit_div_two_pow, Nat.testBit_xor, Nat.zero_testBit]
    by_cases q : t < 4
    · simp_all
    · simp [q]
set_option maxRecDepth 100000 in
set_option maxHeartbeats 4000000 in
theorem wd_alike_l {w : rz_w} {d : Nat} {G : rz_G} {a c b e : Nat} {xs ys : List Nat} (h1 : G a = some (wd_o a xs)) (h2 : G (a + 1) = some (wd_a c xs)) (hok : wd_ok c xs) (k1 : G b = some (wd_o b ys)) (k2 : G (b + 1) = some (wd_a e ys)) (kok : wd_ok e ys) {Q : Option Value → rz_G → Prop} (hQ : Q (some (.int (nI (wd_lcp xs ys)))) G) :
    ∀ (n i : Nat) (z : Option Value), xs.length + 1 ≤ i + n → i ≤ xs.length → i ≤ ys.length → xs.take i = ys.take i → rz_T w d 0 0 m_Word_alikeWith 0 0 2 [some (.ref a), some (.ref b), some (.int (nI i)), z, none] [] G Q := by
  intro n
  induction n with
  | zero => intro i z h2 h3; omega
  | succ n ih =>
    intro i z hn hi hi2 hf
    obtain ⟨o1, o2, o3⟩ := id hok
    obtain ⟨p1, p2, p3⟩ := id kok
    have hex : (i = xs.length ∨ i = ys.length) → rz_T w d 0 0 m_Word_alikeWith 0 0 63 [some (.ref a), some (.ref b), some (.int (nI i)), z, none] [] G Q := by
      intro hx
      have hr := wd_lcp_eq xs ys i hi hi2 hf (by rcases hx with q | q; exact Or.inl q; exact Or.inr (Or.inl q))
      refine rz_blk' [(.aload_n 0, 1, 0, 0), (.getfield 15, 3, 0, 1), (.aload_n 1, 1, 0, 0), (.getfield 15, 3, 0, 1), (.if_icmp .ge 10, 3, 0, 0), (.aload_n 0, 1, 0, 0), (.getfield 15, 3, 0, 1), (.goto 7, 3, 0, 0)] (by decide +kernel) (Nat.le_refl _) (Nat.le_refl _) (fun K R hK hR => ?_)
      simp only [↓rx_aload_n0, ↓rx_aload_n1, ↓rx_getfield, ↓rx_goto, ↓rx_if_icmp_ge, ↓rx_nil, ↓ry_fvs, ↓ry_fvz, ↓ry_i2, ↓ry_lr0s, ↓ry_lr0z, ↓ry_obu, ↓ry_r1, ↓rh_ob h1, ↓rh_ob k1, rz_set, rz_nol, rz_clr, List.set_cons_zero, List.set_cons_succ, rz_tr, Nat.reduceAdd, Int.reduceAdd, Int.reduceToNat, Int.reduceSub, Int.reduceNeg, Int.cast_ofNat_Int]
      refine ⟨fun c1 => hK _ _ _ _ ?_, fun c1 => hK _ _ _ _ ?_⟩
      · rw [wd_le (by omega) (by omega)] at c1
        refine rz_blk' [(.aload_n 1, 1, 0, 0), (.getfield 15, 3, 0, 1), (.ireturn, 1, 0, 0)] (by decide +kernel) (Nat.le_refl _) (Nat.le_refl _) (fun K R hK hR => ?_)
        simp only [↓rx_aload_n1, ↓rx_getfield, ↓rx_ireturn, ↓rx_nil, ↓ry_fvs, ↓ry_fvz, ↓ry_lr0s, ↓ry_lr0z, ↓ry_obu, ↓ry_r1, ↓rh_ob h1, ↓rh_ob k1, rz_set, rz_nol, rz_clr, List.set_cons_zero, List.set_cons_succ, rz_tr, Nat.reduceAdd, Int.reduceAdd, Int.reduceToNat, Int.reduceSub, Int.reduceNeg, Int.cast_ofNat_Int]
        rw [show ys.length = wd_lcp xs ys by omega]
        exact hR _ _ (rz_nb_i (by decide)) hQ
      · rw [wd_le (by omega) (by omega)] at c1
        refine rz_blk' [(.ireturn, 1, 0, 0)] (by decide +kernel) (Nat.le_refl _) (Nat.le_refl _) (fun K R hK hR => ?_)
        simp only [↓rx_ireturn, ↓rx_nil, rz_set, rz_nol, rz_clr, List.set_cons_zero, List.set_cons_succ, rz_tr, Nat.reduceAdd, Int.reduceAdd, Int.reduceToNat, Int.reduceSub, Int.reduceNeg, Int.cast_ofNat_Int]
        rw [show xs.length = wd_lcp xs ys by omega]
        exact hR _ _ (rz_nb_i (by decide)) hQ
    refine rz_blk' [(.iload_n 2, 1, 0, 0), (.aload_n 0, 1, 0, 0), (.getfield 15, 3, 0, 1), (.if_icmp .ge 56, 3, 0, 0), (.iload_n 2, 1, 0, 0), (.aload_n 1, 1, 0, 0), (.getfield 15, 3, 0, 1), (.if_icmp .ge 48, 3, 0, 0), (.aload_n 0, 1, 0, 0), (.getfield 9, 3, 0, 0), (.iload_n 2, 1, 0, 0), (.bipush 16, 2, 0, 0), (.idiv, 1, 0, 0), (.laload, 1, 0, 0), (.aload_n 1, 1, 0, 0), (.getfield 9, 3, 0, 0), (.iload_n 2, 1, 0, 0), (.bipush 16, 2, 0, 0), (.idiv, 1, 0, 0), (.laload, 1, 0, 0), (.lxor, 1, 0, 0), (.iconst 4, 1, 0, 0), (.iload_n 2, 1, 0, 0), (.bipush 16, 2, 0, 0), (.irem, 1, 0, 0), (.imul, 1, 0, 0), (.lushr, 1, 0, 0), (.lstore_n 3, 1, 0, 0)] (by decide +kernel) (Nat.le_refl _) (Nat.le_refl _) (fun K R hK hR => ?_)
    simp only [rw_b16, rw_c4, ↓rx_aload_n0, ↓rx_aload_n1, ↓rx_bipush, ↓rx_getfield, ↓rx_iconst, ↓rx_idiv, ↓rx_if_icmp_ge, ↓rx_iload_n2, ↓rx_imul, ↓rx_irem, ↓rx_laload, ↓rx_lstore_n3, ↓rx_lushr, ↓rx_lxor, ↓rx_nil, ↓ry_fvs, ↓ry_fvz, ↓ry_i2, ↓ry_l1, ↓ry_l2, ↓ry_lau, ↓ry_li, ↓ry_li0s, ↓ry_li0z, ↓ry_lr0s, ↓ry_lr0z, ↓ry_obu, ↓ry_r1, ↓ry_ri, ↓rh_ob h1, ↓rh_la h2, ↓rh_ob k1, ↓rh_la k2, rz_set, rz_nol, rz_clr, List.set_cons_zero, List.set_cons_succ, rz_tr, Nat.reduceAdd, Int.reduceAdd, Int.reduceToNat, Int.reduceSub, Int.reduceNeg, Int.cast_ofNat_Int]
    refine ⟨fun c1 => hK _ _ _ _ (hex (Or.inl ?_)), fun c1 => ⟨fun c2 => hK _ _ _ _ (hex (Or.inr ?_)), fun c2 => ?_⟩⟩
    · rw [wd_le (by omega) (by omega)] at c1; omega
    · rw [wd_le (by omega) (by omega)] at c2; omega
    rw [wd_le (by omega) (by omega)] at c1 c2
    have hd : nI i / nI 16 = nI (i / 16) := pk_div (by omega) (by omega) (by omega)
    have hm : nI i - nI i / nI 16 * nI 16 = nI (i % 16) := pk_rem (by omega) (by omega) (by omega)
    rw [hm, hd, pk_mul, nI_clamp (by omega)]
    refine ⟨by decide, vp_in_nI (by omega) (by omega), by decide, vp_in_nI (by omega) (by omega), by decide, hK _ _ _ _ ?_⟩
    refine rz_blk' [(.lload_n 3, 1, 0, 0)] (by decide +kernel) (Nat.le_refl _) (Nat.le_refl _) (fun K R hK hR => ?_)
    simp only [↓rx_lload_n3, ↓rx_nil, ↓ry_ll0s, ↓ry_ll0z, rz_set, rz_nol, rz_clr, List.set_cons_zero, List.set_cons_succ, rz_tr, Nat.reduceAdd, Int.reduceAdd, Int.reduceToNat, Int.reduceSub, Int.reduceNeg, Int.cast_ofNat_Int]
    refine hK _ _ _ _ (rz_ldc2 (v := 15) (by decide +kernel) (rz_j4 32 rfl rfl) ?_)
    refine rz_blk' [(.land, 1, 0, 0), (.lconst 0, 1, 0, 0), (.lcmp, 1, 0, 0), (.ifCond .eq 5, 3, 0, 0), (.iload_n 2, 1, 0, 0), (.ireturn, 1, 0, 0)] (by decide +kernel) (Nat.le_refl _) (Nat.le_refl _) (fun K R hK hR => ?_)
    simp only [↓rx_ifCond_eq, ↓rx_iload_n2, ↓rx_ireturn, ↓rx_land, ↓rx_lcmp, ↓rx_lconst0, ↓rx_nil, ↓ry_i1, ↓ry_l2, ↓ry_li0s, ↓ry_li0z, rw_cmp0, rz_l0, rz_set, rz_nol, rz_clr, List.set_cons_zero, List.set_cons_succ, rz_tr, Nat.reduceAdd, Int.reduceAdd, Int.reduceToNat, Int.reduceSub, Int.reduceNeg, Int.cast_ofNat_Int]
    simp only [wd_f]
    have hxi : i < xs.length := by omega
    have hyi : i < ys.length := by omega
    refine ⟨fun c3 => hK _ _ _ _ ?_, fun c3 => ?_⟩
    · have c3 := wd_x15.mp c3
      rw [wd_k_get o2 hxi, wd_k_get p2 hyi] at c3
      refine rz_blk' [(.iinc 2 1, 3, 0, 0), (.goto (-58), 3, 0, 0)] (by decide +kernel) (Nat.le_refl _) (Nat.le_refl _) (fun K R hK hR => ?_)
      simp only [rw_c1, ↓rx_goto, ↓rx_iinc, ↓rx_nil, ↓ry_li0s, ↓ry_li0z, rz_set, rz_nol, rz_clr, List.set_cons_zero, List.set_cons_succ, rz_tr, Nat.reduceAdd, Int.reduceAdd, Int.reduceToNat, Int.reduceSub, Int.reduceNeg, Int.cast_ofNat_Int]
      rw [nI_add]
      refine hK _ _ _ _ (ih (i + 1) _ (by omega) (by omega) (by omega) ?_)
      rw [List.take_succ, List.take_succ, hf, List.getElem?_eq_getElem hxi, List.getElem?_eq_getElem hyi, c3]
    · have hr := wd_lcp_eq xs ys i hi hi2 hf (Or.inr (Or.inr ?_))
      · rw [hr]
        exact hR _ _ (rz_nb_i (by decide)) hQ
      · intro q
        rw [List.getElem?_eq_getElem hxi, List.getElem?_eq_getElem hyi] at q
        apply c3
        refine wd_x15.mpr ?_
        rw [wd_k_get o2 hxi, wd_k_get p2 hyi]
        exact Option.some.inj q

set_option maxRecDepth 100000 in
set_option maxHeartbeats 4000000 in
/-- alikeWith(other) -/
theorem c_Word_alikeWith {w : rz_w} {d : Nat} {G : rz_G} {a c b e : Nat} {xs ys : List Nat} (h : wd_is G a c xs) (k : wd_is G b e ys) : rz_C w d 0 0 y_Word_alikeWith m_Word_alikeWith [.ref a, .ref b] G (fun r G' => r = some (.int (nI (wd_lcp xs ys))) ∧ G' = G) := by
  obtain ⟨h1, h2, hok⟩ := h
  obtain ⟨k1, k2, kok⟩ := k
  refine rz_enter' [some (.ref a), some (.ref b), none, none, none] (by decide +kernel) rfl rfl (Nat.le_of_ble_eq_true rfl) rfl ?_
  refine rz_blk' [(.iconst 0, 1, 0, 0), (.istore_n 2, 1, 0, 0)] (by decide +kernel) (Nat.le_refl _) (Nat.le_refl _) (fun K R hK hR => ?_)
  simp only [rw_c0, ↓rx_iconst, ↓rx_istore_n2, ↓rx_nil, ↓ry_i1, rz_set, rz_nol, rz_clr, List.set_cons_zero, List.set_cons_succ, rz_tr, Nat.reduceAdd, Int.reduceAdd, Int.reduceToNat, Int.reduceSub, Int.reduceNeg, Int.cast_ofNat_Int]
  exact hK _ _ _ _ (wd_alike_l h1 h2 hok k1 k2 kok ⟨rfl, rfl⟩ (xs.length + 1) 0 none (by omega) (by omega) (by omega) rfl)

def wd_bef (xs ys : List Nat) : Bool := if xs.length ≠ ys.length then decide (xs.length < ys.length) else match xs[wd_lcp xs ys]?, ys[wd_lcp xs ys]? with
  | some x, some y => decide (x < y)
  | _, _ => false
set_option maxRecDepth 100000 in
set_option maxHeartbeats 4000000 in
/-- isBefore(other): shorter, or lower where they differ first -/
theorem c_Word_isBefore {w : rz_w} {d : Nat} {G : rz_G} {a c b e : Nat} {xs ys : List Nat} (h : wd_is G a c xs) (k : wd_is G b e ys) (h8 : ∀ x ∈ xs, x < 8) (k8 : ∀ x ∈ ys, x < 8) : rz_C w (d + 1) 0 0 y_Word_isBefore m_Word_isBefore [.ref a, .ref b] G (fun r G' => r = some (.int (if wd_bef xs ys = true then 1 else 0)) ∧ G' = G) := by
  obtain ⟨h1, h2, hok⟩ := id h
  obtain ⟨k1, k2, kok⟩ := id k
  obtain ⟨o1, o2, o3⟩ := id hok
  obtain ⟨p1, p2, p3⟩ := id kok
  refine rz_enter' [some (.ref a), some (.ref b), none] (by decide +kernel) rfl rfl (Nat.le_of_ble_eq_true rfl) rfl ?_
  refine rz_blk' [(.aload_n 0, 1, 0, 0), (.getfield 15, 3, 0, 1), (.aload_n 1, 1, 0, 0), (.getfield 15, 3, 0, 1), (.if_icmp .eq 20, 3, 0, 0), (.aload_n 0, 1, 0, 0), (.getfield 15, 3, 0, 1), (.aload_n 1, 1, 0, 0), (.getfield 15, 3, 0, 1), (.if_icmp .ge 7, 3, 0, 0), (.iconst 1, 1, 0, 0), (.goto 4, 3, 0, 0)] (by decide +kernel) (Nat.le_refl _) (Nat.le_refl _) (fun K R hK hR => ?_)
  simp only [rw_c1, ↓rx_aload_n0, ↓rx_aload_n1, ↓rx_getfield, ↓rx_goto, ↓rx_iconst, ↓rx_if_icmp_eq, ↓rx_if_icmp_ge, ↓rx_nil, ↓ry_fvs, ↓ry_fvz, ↓ry_i2, ↓ry_lr0s, ↓ry_lr0z, ↓ry_obu, ↓ry_r1, ↓rh_ob h1, ↓rh_ob k1, rz_set, rz_nol, rz_clr, List.set_cons_zero, List.set_cons_succ, rz_tr, Nat.reduceAdd, Int.reduceAdd, Int.reduceToNat, Int.reduceSub, Int.reduceNeg, Int.cast_ofNat_Int]
  refine ⟨fun c1 => hK _ _ _ _ ?_, fun c1 => ⟨fun c2 => hK _ _ _ _ ?_, fun c2 => hK _ _ _ _ ?_⟩⟩
  · rw [nI_eq (by omega) (by omega)] at c1
    refine rz_blk' [(.aload_n 0, 1, 0, 0), (.aload_n 1, 1, 0, 0)] (by decide +kernel) (Nat.le_refl _) (Nat.le_refl _) (fun K R hK hR => ?_)
    simp only [↓rx_aload_n0, ↓rx_aload_n1, ↓rx_nil, ↓ry_lr0s, ↓ry_lr0z, rz_set, rz_nol, rz_clr, List.set_cons_zero, List.set_cons_succ, rz_tr, Nat.reduceAdd, Int.reduceAdd, Int.reduceToNat, Int.reduceSub, Int.reduceNeg, Int.cast_ofNat_Int]
    refine hK _ _ _ _ ?_
    refine rz_cV (As := [.ref b]) (b := a) (S := []) l_Word_32 (by decide +kernel) rfl h1 rfl (Nat.le_of_ble_eq_true rfl) (Nat.le_refl _) (Nat.le_refl _) (c_Word_alikeWith h k) (fun r G' hq => ?_)
    obtain ⟨rfl, hg⟩ := hq
    have hg := hg.symm
    subst hg
    simp only [Option.toList, List.cons_append, List.nil_append]
    have hl := wd_lcp_le xs ys
    generalize hr : wd_lcp xs ys = q at hl
    refine rz_blk' [(.istore_n 2, 1, 0, 0), (.aload_n 0, 1, 0, 0), (.iload_n 2, 1, 0, 0)] (by decide +kernel) (Nat.le_refl _) (Nat.le_refl _) (fun K R hK hR => ?_)
    simp only [↓rx_aload_n0, ↓rx_iload_n2, ↓rx_istore_n2, ↓rx_nil, ↓ry_i1, ↓ry_li0s, ↓ry_li0z, ↓ry_lr0s, ↓ry_lr0z, rz_set, rz_nol, rz_clr, List.set_cons_zero, List.set_cons_succ, rz_tr, Nat.reduceAdd, Int.reduceAdd, Int.reduceToNat, Int.reduceSub, Int.reduceNeg, Int.cast_ofNat_Int]
    refine hK _ _ _ _ ?_
    refine rz_cV (As := [.int (nI q)]) (b := a) (S := []) l_Word_36 (by decide +kernel) rfl h1 rfl (Nat.le_of_ble_eq_true rfl) (Nat.le_refl _) (Nat.le_refl _) (c_Word_at h h8 (nI q)) (fun r G' hq => ?_)
    obtain ⟨hg, hq⟩ := hq
    have hg := hg.symm
    subst hg
    obtain ⟨v, rfl, hv⟩ : ∃ v : Int32, r = some (.int v) ∧ ((∃ (hj : q < xs.length), v = nI xs[q]) ∨ (xs.length ≤ q ∧ v = -1)) := by
      rcases hq with ⟨j, hj, e1, e2⟩ | ⟨e1, e2⟩
      · rw [nI_eq (by omega) (by omega)] at e1; subst e1; exact ⟨_, e2, Or.inl ⟨hj, rfl⟩⟩
      · refine ⟨_, e2, Or.inr ⟨?_, rfl⟩⟩
        rcases e1 with e1 | e1
        · exact absurd e1 (nI_pos (by omega))
        · rwa [wd_le (by omega) (by omega)] at e1
    simp only [Option.toList, List.cons_append, List.nil_append]
    refine rz_blk' [(.aload_n 1, 1, 0, 0), (.iload_n 2, 1, 0, 0)] (by decide +kernel) (Nat.le_refl _) (Nat.le_refl _) (fun K R hK hR => ?_)
    simp only [↓rx_aload_n1, ↓rx_iload_n2, ↓rx_nil, ↓ry_li0s, ↓ry_li0z, ↓ry_lr0s, ↓ry_lr0z, rz_set, rz_nol, rz_clr, List.set_cons_zero, List.set_cons_succ, rz_tr, Nat.reduceAdd, Int.reduceAdd, Int.reduceToNat, Int.reduceSub, Int.reduceNeg, Int.cast_ofNat_Int]
    refine hK _ _ _ _ ?_
    refine rz_cV (As := [.int (nI q)]) (b := b) (S := [.int v]) l_Word_36 (by decide +kernel) rfl k1 rfl (Nat.le_of_ble_eq_true rfl) (Nat.le_refl _) (Nat.le_refl _) (c_Word_at k k8 (nI q)) (fun r G' hq => ?_)
    obtain ⟨hg, hq⟩ := hq
    have hg := hg.symm
    subst hg
    obtain ⟨u, rfl, hu⟩ : ∃ v : Int32, r = some (.int v) ∧ ((∃ (hj : q < ys.length), v = nI ys[q]) ∨ (ys.length ≤ q ∧ v = -1)) := by
      rcases hq with ⟨j, hj, e1, e2⟩ | ⟨e1, e2⟩
      · rw [nI_eq (by omega) (by omega)] at e1; subst e1; exact ⟨_, e2, Or.inl ⟨hj, rfl⟩⟩
      · refine ⟨_, e2, Or.inr ⟨?_, rfl⟩⟩
        rcases e1 with e1 | e1
        · exact absurd e1 (nI_pos (by omega))
        · rwa [wd_le (by omega) (by omega)] at e1
    simp only [Option.toList, List.cons_append, List.nil_append]
    have hb : (wd_bef xs ys = true) ↔ v < u := by
      simp only [wd_bef, c1, ne_eq, not_true_eq_false, if_false, hr]
      rcases hv with ⟨hj, rfl⟩ | ⟨hj, rfl⟩ <;> rcases hu with ⟨hj2, rfl⟩ | ⟨hj2, rfl⟩
      · have b1 := h8 _ (List.getElem_mem hj)
        have b2 := k8 _ (List.getElem_mem hj2)
        rw [List.getElem?_eq_getElem hj, List.getElem?_eq_getElem hj2]
        simp only [decide_eq_true_eq]
        rw [wd_lt (by omega) (by omega)]
      · omega
      · omega
      · rw [List.getElem?_eq_none hj]
        simp
    have hfin : ∀ v : Int32, v = (if wd_bef xs ys = true then 1 else 0) → rz_T w (d + 1) 0 0 m_Word_isBefore 0 0 52 [some (.ref a), some (.ref b), some (.int (nI q))] [.int v] G (fun r G' => r = some (.int (if wd_bef xs ys = true then 1 else 0)) ∧ G' = G) := by
      intro v hv
      refine rz_blk' [(.ireturn, 1, 0, 0)] (by decide +kernel) (Nat.le_refl _) (Nat.le_refl _) (fun K R hK hR => ?_)
      simp only [↓rx_ireturn, ↓rx_nil, rz_set, rz_nol, rz_clr, List.set_cons_zero, List.set_cons_succ, rz_tr, Nat.reduceAdd, Int.reduceAdd, Int.reduceToNat, Int.reduceSub, Int.reduceNeg, Int.cast_ofNat_Int]
      refine hR _ _ ?_ ⟨by rw [hv], rfl⟩
      rw [hv]; split
      · exact rz_nb_1
      · exact rz_nb_0
    refine rz_blk' [(.if_icmp .ge 7, 3, 0, 0), (.iconst 1, 1, 0, 0), (.goto 4, 3, 0, 0)] (by decide +kernel) (Nat.le_refl _) (Nat.le_refl _) (fun K R hK hR => ?_)
    simp only [rw_c1, ↓rx_goto, ↓rx_iconst, ↓rx_if_icmp_ge, ↓rx_nil, ↓ry_i2, rz_set, rz_nol, rz_clr, List.set_cons_zero, List.set_cons_succ, rz_tr, Nat.reduceAdd, Int.reduceAdd, Int.reduceToNat, Int.reduceSub, Int.reduceNeg, Int.cast_ofNat_Int]
    refine ⟨fun c2 => hK _ _ _ _ ?_, fun c2 => hK _ _ _ _ (hfin _ ?_)⟩
    ·
      refine rz_blk' [(.iconst 0, 1, 0, 0)] (by decide +kernel) (Nat.le_refl _) (Nat.le_refl _) (fun K R hK hR => ?_)
      simp only [rw_c0, ↓rx_iconst, ↓rx_nil, rz_set, rz_nol, rz_clr, List.set_cons_zero, List.set_cons_succ, rz_tr, Nat.reduceAdd, Int.reduceAdd, Int.reduceToNat, Int.reduceSub, Int.reduceNeg, Int.cast_ofNat_Int]
      refine hK _ _ _ _ (hfin _ ?_)
      rw [if_neg (by rw [hb, Int32.not_lt]; exact c2)]; rfl
    · rw [Int32.not_le] at c2
      rw [if_pos (hb.mpr c2)]; rfl
  · rw [nI_eq (by omega) (by omega)] at c1
    rw [wd_le (by omega) (by omega)] at c2
    refine rz_blk' [(.iconst 0, 1, 0, 0), (.ireturn, 1, 0, 0)] (by decide +kernel) (Nat.le_refl _) (Nat.le_refl _) (fun K R hK hR => ?_)
    simp only [rw_c0, ↓rx_iconst, ↓rx_ireturn, ↓rx_nil, rz_set, rz_nol, rz_clr, List.set_cons_zero, List.set_cons_succ, rz_tr, Nat.reduceAdd, Int.reduceAdd, Int.reduceToNat, Int.reduceSub, Int.reduceNeg, Int.cast_ofNat_Int]
    refine hR _ _ rz_nb_0 ⟨?_, rfl⟩
    simp only [wd_bef, ne_eq, c1, not_false_eq_true, if_true, decide_eq_true_eq]
    rw [if_neg (by omega)]; rfl
  · rw [nI_eq (by omega) (by omega)] at c1
    rw [wd_le (by omega) (by omega)] at c2
    refine rz_blk' [(.ireturn, 1, 0, 0)] (by decide +kernel) (Nat.le_refl _) (Nat.le_refl _) (fun K R hK hR => ?_)
    simp only [↓rx_ireturn, ↓rx_nil, rz_set, rz_nol, rz_clr, List.set_cons_zero, List.set_cons_succ, rz_tr, Nat.reduceAdd, Int.reduceAdd, Int.reduceToNat, Int.reduceSub, Int.reduceNeg, Int.cast_ofNat_Int]
    refine hR _ _ rz_nb_1 ⟨?_, rfl⟩
    simp only [wd_bef, ne_eq, c1, not_false_eq_true, if_true, decide_eq_true_eq]
    rw [if_pos (by omega)]; rfl

set_option maxRecDepth 100000 in
set_option maxHeartbeats 4000000 in
theorem wd_copy_l {w : rz_w} {d : Nat} {G : rz_G} {a c b e : Nat} {xs ys : List Nat} (h1 : G a = some (wd_o a xs)) (hok : wd_ok c xs) (k1 : G b = some (wd_o b ys)) (k2 : G (b + 1) = some (wd_a e ys)) (kok : wd_ok e ys) (n1 : b ≠ a + 1) (n2 : b + 1 ≠ a + 1) (zs : List Nat) (hz : zs = ys ∧ zs.length ≤ 16 * c ∨ zs = []) {Q : Option Value → rz_G → Prop} (hQ : Q none (wd_put G a c zs)) :
    ∀ (n i : Nat) (f : Nat → Int64), c + 1 ≤ i + n → i ≤ c → (∀ j, f j = if j < i then wd_f zs j else wd_f xs j) → rz_T w d 0 0 m_Word_copy 0 0 26 [some (.ref a), some (.ref b), some (.int (nI zs.length)), some (.int (nI i))] [] (rz_up G (a + 1) (.inl (1, c, .inr (.inl f)))) Q := by
  intro n
  induction n with
  | zero => intro i f h2 h3; omega
  | succ n ih =>
    intro i f hn hi hf
    obtain ⟨o1, o2, o3⟩ := hok
    obtain ⟨p1, p2, p3⟩ := id kok
    have hz16 : ∀ x ∈ zs, x < 16 := by rcases hz with ⟨rfl, _⟩ | rfl; exact p2; simp
    have hzl : zs.length ≤ 16 * c := by rcases hz with ⟨_, h⟩ | rfl; exact h; simp
    have g1 : (rz_up G (a + 1) (.inl (1, c, .inr (.inl f)))) a = some (wd_o a xs) := by rw [rz_up_n _ _ (by omega)]; exact h1
    have g2 : (rz_up G (a + 1) (.inl (1, c, .inr (.inl f)))) (a + 1) = some (.inl (1, c, .inr (.inl f))) := rz_up_s _ _ _
    have g3 : (rz_up G (a + 1) (.inl (1, c, .inr (.inl f)))) b = some (wd_o b ys) := by rw [rz_up_n _ _ n1]; exact k1
    have g4 : (rz_up G (a + 1) (.inl (1, c, .inr (.inl f)))) (b + 1) = some (wd_a e ys) := by rw [rz_up_n _ _ n2]; exact k2
    have hex : xs.length ≤ 16 * i → zs.length ≤ 16 * i → rz_T w d 0 0 m_Word_copy 0 0 84 [some (.ref a), some (.ref b), some (.int (nI zs.length)), some (.int (nI i))] [] (rz_up G (a + 1) (.inl (1, c, .inr (.inl f)))) Q := by
      intro hx hx2
      refine rz_blk' [(.aload_n 0, 1, 0, 0), (.iload_n 2, 1, 0, 0), (.putfield 15, 3, 0, 1), (.return_, 1, 0, 0)] (by decide +kernel) (Nat.le_refl _) (Nat.le_refl _) (fun K R hK hR => ?_)
      simp only [List.length_cons, List.length_nil, Nat.reduceLT, rf_0_1, ↓rx_aload_n0, ↓rx_iload_n2, ↓rx_nil, ↓rx_putfield, ↓rx_return_, ↓ry_li0s, ↓ry_li0z, ↓ry_lr0s, ↓ry_lr0z, ↓ry_obu, ↓ry_vr, true_and, ↓rh_ob g1, rz_set, rz_nol, rz_clr, List.set_cons_zero, List.set_cons_succ, rz_tr, Nat.reduceAdd, Int.reduceAdd, Int.reduceToNat, Int.reduceSub, Int.reduceNeg, Int.cast_ofNat_Int]
      refine hR _ _ (rz_nb_i (by decide)) (rz_eqQ (wd_fin (xs := zs) ?_ rfl) hQ)
      funext j; rw [hf j]; split
      · rfl
      · rw [wd_f_0 o2 (by omega), wd_f_0 hz16 (by omega)]
    have hst : ∀ v : Int64, v = wd_f zs i → i < c → rz_T w d 0 0 m_Word_copy 0 0 77 [some (.ref a), some (.ref b), some (.int (nI zs.length)), some (.int (nI i))] [.long v, .int (nI i), .ref (a + 1)] (rz_up G (a + 1) (.inl (1, c, .inr (.inl f)))) Q := by
      intro v hv hic
      refine rz_blk' [(.lastore, 1, 0, 0)] (by decide +kernel) (Nat.le_refl _) (Nat.le_refl _) (fun K R hK hR => ?_)
      simp only [↓rx_lastore, ↓rx_nil, ↓ry_lau, ↓ry_ril, ↓rh_la g2, rz_set, rz_nol, rz_clr, List.set_cons_zero, List.set_cons_succ, rz_tr, Nat.reduceAdd, Int.reduceAdd, Int.reduceToNat, Int.reduceSub, Int.reduceNeg, Int.cast_ofNat_Int]
      refine ⟨vp_in_nI hic (by omega), hK _ _ _ _ ?_⟩
      rw [rz_up_up]
      refine rz_blk' [(.iinc 3 1, 3, 0, 0), (.goto (-55), 3, 0, 0)] (by decide +kernel) (Nat.le_refl _) (Nat.le_refl _) (fun K R hK hR => ?_)
      simp only [rw_c1, ↓rx_goto, ↓rx_iinc, ↓rx_nil, ↓ry_li0s, ↓ry_li0z, rz_set, rz_nol, rz_clr, List.set_cons_zero, List.set_cons_succ, rz_tr, Nat.reduceAdd, Int.reduceAdd, Int.reduceToNat, Int.reduceSub, Int.reduceNeg, Int.cast_ofNat_Int]
      rw [nI_add]
      refine hK _ _ _ _ (ih (i + 1) _ (by omega) hic (fun j => ?_))
      rw [nI_clamp (by omega)]
      simp only [vp_updL]
      by_cases hj : j = i
      · subst hj; simp [show j < j + 1 by omega, hv]
      · rw [if_neg hj, hf j]
        by_cases hj2 : j < i
        · rw [if_pos hj2, if_pos (by omega)]
        · rw [if_neg hj2, if_neg (by omega)]
    have hmid : i < c → rz_T w d 0 0 m_Word_copy 0 0 54 [some (.ref a), some (.ref b), some (.int (nI zs.length)), some (.int (nI i))] [] (rz_up G (a + 1) (.inl (1, c, .inr (.inl f)))) Q := by
      intro hic
      refine rz_blk' [(.aload_n 0, 1, 0, 0), (.getfield 9, 3, 0, 0), (.iload_n 3, 1, 0, 0), (.iload_n 3, 1, 0, 0), (.bipush 16, 2, 0, 0), (.imul, 1, 0, 0), (.iload_n 2, 1, 0, 0), (.if_icmp .ge 12, 3, 0, 0), (.aload_n 1, 1, 0, 0), (.getfield 9, 3, 0, 0), (.iload_n 3, 1, 0, 0), (.laload, 1, 0, 0), (.goto 4, 3, 0, 0)] (by decide +kernel) (Nat.le_refl _) (Nat.le_refl _) (fun K R hK hR => ?_)
      simp only [rw_b16, ↓rx_aload_n0, ↓rx_aload_n1, ↓rx_bipush, ↓rx_getfield, ↓rx_goto, ↓rx_if_icmp_ge, ↓rx_iload_n2, ↓rx_iload_n3, ↓rx_imul, ↓rx_laload, ↓rx_nil, ↓ry_fvs, ↓ry_fvz, ↓ry_i2, ↓ry_lau, ↓ry_li0s, ↓ry_li0z, ↓ry_lr0s, ↓ry_lr0z, ↓ry_obu, ↓ry_r1, ↓ry_ri, ↓rh_ob g1, ↓rh_la g2, ↓rh_ob g3, ↓rh_la g4, wd_m16, rz_set, rz_nol, rz_clr, List.set_cons_zero, List.set_cons_succ, rz_tr, Nat.reduceAdd, Int.reduceAdd, Int.reduceToNat, Int.reduceSub, Int.reduceNeg, Int.cast_ofNat_Int]
      refine ⟨fun c1 => hK _ _ _ _ ?_, fun c1 => ?_⟩
      · rw [wd_le (by omega) (by omega)] at c1
        refine rz_blk' [(.lconst 0, 1, 0, 0)] (by decide +kernel) (Nat.le_refl _) (Nat.le_refl _) (fun K R hK hR => ?_)
        simp only [↓rx_lconst0, ↓rx_nil, rz_set, rz_nol, rz_clr, List.set_cons_zero, List.set_cons_succ, rz_tr, Nat.reduceAdd, Int.reduceAdd, Int.reduceToNat, Int.reduceSub, Int.reduceNeg, Int.cast_ofNat_Int]
        exact hK _ _ _ _ (hst _ (wd_f_0 hz16 c1).symm hic)
      · rw [wd_le (by omega) (by omega)] at c1
        rcases hz with ⟨rfl, _⟩ | rfl
        · rw [nI_clamp (by omega)]
          exact ⟨vp_in_nI (by omega) (by omega), hK _ _ _ _ (hst _ rfl hic)⟩
        · simp at c1
    have hbd : rz_T w d 0 0 m_Word_copy 0 0 45 [some (.ref a), some (.ref b), some (.int (nI zs.length)), some (.int (nI i))] [] (rz_up G (a + 1) (.inl (1, c, .inr (.inl f)))) Q := by
      refine rz_blk' [(.iload_n 3, 1, 0, 0), (.aload_n 0, 1, 0, 0), (.getfield 9, 3, 0, 0), (.arraylength, 1, 0, 0), (.if_icmp .ge 33, 3, 0, 0)] (by decide +kernel) (Nat.le_refl _) (Nat.le_refl _) (fun K R hK hR => ?_)
      simp only [Nat.reduceLT, ↓rx_aload_n0, ↓rx_arraylength, ↓rx_getfield, ↓rx_if_icmp_ge, ↓rx_iload_n3, ↓rx_nil, ↓ry_fvs, ↓ry_fvz, ↓ry_i2, ↓ry_li0s, ↓ry_li0z, ↓ry_lr0s, ↓ry_lr0z, ↓ry_obu, ↓ry_r1, true_and, ↓rh_ob g1, ↓rh_aa g2, rz_set, rz_nol, rz_clr, List.set_cons_zero, List.set_cons_succ, rz_tr, Nat.reduceAdd, Int.reduceAdd, Int.reduceToNat, Int.reduceSub, Int.reduceNeg, Int.cast_ofNat_Int]
      refine ⟨fun c2 => hK _ _ _ _ (hex ?_ ?_), fun c2 => hK _ _ _ _ (hmid ?_)⟩ <;> rw [wd_le (by omega) (by omega)] at c2 <;> omega
    refine rz_blk' [(.iload_n 3, 1, 0, 0), (.bipush 16, 2, 0, 0), (.imul, 1, 0, 0), (.aload_n 0, 1, 0, 0), (.getfield 15, 3, 0, 1), (.if_icmp .lt 11, 3, 0, 0), (.iload_n 3, 1, 0, 0), (.bipush 16, 2, 0, 0), (.imul, 1, 0, 0), (.iload_n 2, 1, 0, 0), (.if_icmp .ge 42, 3, 0, 0)] (by decide +kernel) (Nat.le_refl _) (Nat.le_refl _) (fun K R hK hR => ?_)
    simp only [rw_b16, ↓rx_aload_n0, ↓rx_bipush, ↓rx_getfield, ↓rx_if_icmp_ge, ↓rx_if_icmp_lt, ↓rx_iload_n2, ↓rx_iload_n3, ↓rx_imul, ↓rx_nil, ↓ry_fvs, ↓ry_fvz, ↓ry_i2, ↓ry_li0s, ↓ry_li0z, ↓ry_lr0s, ↓ry_lr0z, ↓ry_obu, ↓ry_r1, ↓rh_ob g1, wd_m16, rz_set, rz_nol, rz_clr, List.set_cons_zero, List.set_cons_succ, rz_tr, Nat.reduceAdd, Int.reduceAdd, Int.reduceToNat, Int.reduceSub, Int.reduceNeg, Int.cast_ofNat_Int]
    refine ⟨fun c1 => hK _ _ _ _ hbd, fun c1 => ⟨fun c2 => hK _ _ _ _ (hex ?_ ?_), fun c2 => hK _ _ _ _ hbd⟩⟩
    · rw [wd_lt (by omega) (by omega)] at c1; omega
    · rwa [wd_le (by omega) (by omega)] at c2

set_option maxRecDepth 100000 in
set_option maxHeartbeats 4000000 in
/-- copy(other): its signs, none when they do not fit -/
theorem c_Word_copy {w : rz_w} {d : Nat} {G : rz_G} {a c b e : Nat} {xs ys : List Nat} (h : wd_is G a c xs) (k : wd_is G b e ys) (hn : a ≠ b) : rz_C w d 0 0 y_Word_copy m_Word_copy [.ref a, .ref b] G (fun r G' => r = none ∧ G' = wd_put G a c (if ys.length ≤ 16 * c then ys else [])) := by
  obtain ⟨n1, n2, n3⟩ := wd_apart h k hn
  obtain ⟨h1, h2, hok⟩ := h
  obtain ⟨k1, k2, kok⟩ := k
  obtain ⟨o1, o2, o3⟩ := id hok
  obtain ⟨p1, p2, p3⟩ := id kok
  refine rz_enter' [some (.ref a), some (.ref b), none, none] (by decide +kernel) rfl rfl (Nat.le_of_ble_eq_true rfl) rfl ?_
  have hgo : ∀ (zs : List Nat) (v : Option Value), (zs = ys ∧ zs.length ≤ 16 * c ∨ zs = []) → zs = (if ys.length ≤ 16 * c then ys else []) → rz_T w d 0 0 m_Word_copy 0 0 23 [some (.ref a), some (.ref b), none, none] [.int (nI zs.length)] G (fun r G' => r = none ∧ G' = wd_put G a c (if ys.length ≤ 16 * c then ys else [])) := by
    intro zs v hz hz2
    refine rz_blk' [(.istore_n 2, 1, 0, 0)] (by decide +kernel) (Nat.le_refl _) (Nat.le_refl _) (fun K R hK hR => ?_)
    simp only [↓rx_istore_n2, ↓rx_nil, ↓ry_i1, rz_set, rz_nol, rz_clr, List.set_cons_zero, List.set_cons_succ, rz_tr, Nat.reduceAdd, Int.reduceAdd, Int.reduceToNat, Int.reduceSub, Int.reduceNeg, Int.cast_ofNat_Int]
    refine hK _ _ _ _ ?_
    refine rz_blk' [(.iconst 0, 1, 0, 0), (.istore_n 3, 1, 0, 0)] (by decide +kernel) (Nat.le_refl _) (Nat.le_refl _) (fun K R hK hR => ?_)
    simp only [rw_c0, ↓rx_iconst, ↓rx_istore_n3, ↓rx_nil, ↓ry_i1, rz_set, rz_nol, rz_clr, List.set_cons_zero, List.set_cons_succ, rz_tr, Nat.reduceAdd, Int.reduceAdd, Int.reduceToNat, Int.reduceSub, Int.reduceNeg, Int.cast_ofNat_Int]
    refine hK _ _ _ _ ?_
    have e0 := rz_up_id G (a + 1) _ h2
    rw [← e0]
    exact wd_copy_l h1 hok k1 k2 kok n1 (by omega) zs hz (by rw [e0, hz2]; exact ⟨rfl, rfl⟩) (c + 1) 0 _ (by omega) (by omega) (fun j => by simp)
  refine rz_blk' [(.aload_n 1, 1, 0, 0), (.getfield 15, 3, 0, 1), (.aload_n 0, 1, 0, 0), (.getfield 9, 3, 0, 0), (.arraylength, 1, 0, 0), (.bipush 16, 2, 0, 0), (.imul, 1, 0, 0), (.if_icmp .le 7, 3, 0, 0), (.iconst 0, 1, 0, 0), (.goto 7, 3, 0, 0)] (by decide +kernel) (Nat.le_refl _) (Nat.le_refl _) (fun K R hK hR => ?_)
  simp only [Nat.reduceLT, rw_b16, rw_c0, ↓rx_aload_n0, ↓rx_aload_n1, ↓rx_arraylength, ↓rx_bipush, ↓rx_getfield, ↓rx_goto, ↓rx_iconst, ↓rx_if_icmp_le, ↓rx_imul, ↓rx_nil, ↓ry_fvs, ↓ry_fvz, ↓ry_i2, ↓ry_lr0s, ↓ry_lr0z, ↓ry_obu, ↓ry_r1, true_and, ↓rh_ob h1, ↓rh_ob k1, ↓rh_aa h2, wd_m16, rz_set, rz_nol, rz_clr, List.set_cons_zero, List.set_cons_succ, rz_tr, Nat.reduceAdd, Int.reduceAdd, Int.reduceToNat, Int.reduceSub, Int.reduceNeg, Int.cast_ofNat_Int]
  refine ⟨fun c1 => hK _ _ _ _ ?_, fun c1 => hK _ _ _ _ (hgo [] none (Or.inr rfl) ?_)⟩
  · rw [wd_le (by omega) (by omega)] at c1
    refine rz_blk' [(.aload_n 1, 1, 0, 0), (.getfield 15, 3, 0, 1)] (by decide +kernel) (Nat.le_refl _) (Nat.le_refl _) (fun K R hK hR => ?_)
    simp only [↓rx_aload_n1, ↓rx_getfield, ↓rx_nil, ↓ry_fvs, ↓ry_fvz, ↓ry_lr0s, ↓ry_lr0z, ↓ry_obu, ↓ry_r1, ↓rh_ob k1, rz_set, rz_nol, rz_clr, List.set_cons_zero, List.set_cons_succ, rz_tr, Nat.reduceAdd, Int.reduceAdd, Int.reduceToNat, Int.reduceSub, Int.reduceNeg, Int.cast_ofNat_Int]
    exact hK _ _ _ _ (hgo ys none (Or.inl ⟨rfl, c1⟩) (by rw [if_pos c1]))
  · rw [wd_le (by omega) (by omega)] at c1
    rw [if_neg c1]

