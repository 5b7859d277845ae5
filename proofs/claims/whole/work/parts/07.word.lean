/-! WriterDesk$Word: contracts over lists of signs -/
abbrev wd_o (a : Nat) (xs : List Nat) : rz_E := .inr (0, [.ref (a + 1), .int (nI xs.length)])
abbrev wd_a (c : Nat) (xs : List Nat) : rz_E := .inl (1, c, .inr (.inl (wd_f xs)))
def wd_ok (c : Nat) (xs : List Nat) : Prop := xs.length ≤ 16 * c ∧ (∀ x ∈ xs, x < 16) ∧ c ≤ 300
def wd_is (G : rz_G) (a c : Nat) (xs : List Nat) : Prop := G a = some (wd_o a xs) ∧ G (a + 1) = some (wd_a c xs) ∧ wd_ok c xs
def wd_put (G : rz_G) (a c : Nat) (xs : List Nat) : rz_G := rz_up (rz_up G a (wd_o a xs)) (a + 1) (wd_a c xs)
theorem wd_put_is {G : rz_G} {a c : Nat} {xs : List Nat} (h : wd_ok c xs) : wd_is (wd_put G a c xs) a c xs := by
  refine ⟨?_, ?_, h⟩
  · simp only [wd_put]; rw [rz_up_n _ _ (by omega), rz_up_s]
  · simp only [wd_put]; rw [rz_up_s]
theorem wd_put_n {G : rz_G} {a c b : Nat} {xs : List Nat} (h : b ≠ a) (h2 : b ≠ a + 1) : wd_put G a c xs b = G b := by
  simp only [wd_put]; rw [rz_up_n _ _ h2, rz_up_n _ _ h]
theorem wd_put_id {G : rz_G} {a c : Nat} {xs : List Nat} (h : wd_is G a c xs) : wd_put G a c xs = G := by
  simp only [wd_put]; rw [rz_up_id G a _ h.1, rz_up_id G _ _ h.2.1]
theorem wd_put_put {G : rz_G} {a c : Nat} {xs ys : List Nat} : wd_put (wd_put G a c xs) a c ys = wd_put G a c ys := by
  simp only [wd_put]
  rw [rz_up_comm (rz_up G a _) _ _ (show a + 1 ≠ a by omega), rz_up_up, rz_up_up]
/-- two words, one not the other's cells -/
theorem wd_apart {G : rz_G} {a c b c' : Nat} {xs ys : List Nat} (h : wd_is G a c xs) (h' : wd_is G b c' ys) (hn : a ≠ b) : b ≠ a + 1 ∧ a ≠ b + 1 ∧ a + 1 ≠ b + 1 := by
  refine ⟨fun q => ?_, fun q => ?_, by omega⟩
  · have h1 := h.2.1; rw [← q, h'.1] at h1; cases h1
  · have h1 := h'.2.1; rw [← q, h.1] at h1; cases h1
theorem wd_is_put {G : rz_G} {a c b c' : Nat} {xs ys zs : List Nat} (h : wd_is G a c xs) (h' : wd_is G b c' ys) (hn : a ≠ b) : wd_is (wd_put G a c zs) b c' ys := by
  obtain ⟨e1, e2, e3⟩ := wd_apart h h' hn
  exact ⟨by rw [wd_put_n (Ne.symm hn) e1]; exact h'.1, by rw [wd_put_n (Ne.symm e2) (Ne.symm e3)]; exact h'.2.1, h'.2.2⟩
/-- the array as it stands between, then the length: the word -/
theorem wd_fin {G : rz_G} {a c : Nat} {xs : List Nat} {f : Nat → Int64} {e : rz_E} (hf : f = wd_f xs) (he : e = wd_o a xs) : rz_up (rz_up G (a + 1) (.inl (1, c, .inr (.inl f)))) a e = wd_put G a c xs := by
  subst hf; subst he
  simp only [wd_put]
  exact rz_up_comm _ _ _ (by omega)
theorem rz_eqQ {Q : Option Value → rz_G → Prop} {r : Option Value} {G G' : rz_G} (h : G = G') (q : Q r G') : Q r G := h ▸ q
theorem wd_m16 (i : Nat) : nI i * nI 16 = nI (16 * i) := by rw [pk_mul, Nat.mul_comm]
theorem wd_le {a b : Nat} (ha : a < 2 ^ 31) (hb : b < 2 ^ 31) : nI a ≤ nI b ↔ a ≤ b := nI_leI ha hb
theorem wd_lt {a b : Nat} (ha : a < 2 ^ 31) (hb : b < 2 ^ 31) : nI a < nI b ↔ a < b := nI_ltI ha hb

set_option maxRecDepth 100000 in
set_option maxHeartbeats 4000000 in
theorem wd_clear_l {w : rz_w} {d : Nat} {G : rz_G} {a c : Nat} {xs : List Nat} (h1 : G a = some (wd_o a xs)) (hok : wd_ok c xs) {Q : Option Value → rz_G → Prop} (hQ : Q none (wd_put G a c [])) :
    ∀ (n i : Nat) (f : Nat → Int64), c + 1 ≤ i + n → i ≤ c → (∀ j, f j = if j < i then lN 0 else wd_f xs j) → rz_T w d 0 0 m_Word_clear 0 0 2 [some (.ref a), some (.int (nI i))] [] (rz_up G (a + 1) (.inl (1, c, .inr (.inl f)))) Q := by
  intro n
  induction n with
  | zero => intro i f h2 h3; omega
  | succ n ih =>
    intro i f hn hi hf
    obtain ⟨o1, o2, o3⟩ := hok
    have g1 : (rz_up G (a + 1) (.inl (1, c, .inr (.inl f)))) a = some (wd_o a xs) := by rw [rz_up_n _ _ (by omega)]; exact h1
    have g2 : (rz_up G (a + 1) (.inl (1, c, .inr (.inl f)))) (a + 1) = some (.inl (1, c, .inr (.inl f))) := rz_up_s _ _ _
    have hex : xs.length ≤ 16 * i → rz_T w d 0 0 m_Word_clear 0 0 35 [some (.ref a), some (.int (nI i))] [] (rz_up G (a + 1) (.inl (1, c, .inr (.inl f)))) Q := by
      intro hx
      refine rz_blk' [(.aload_n 0, 1, 0, 0), (.iconst 0, 1, 0, 0), (.putfield 15, 3, 0, 1), (.return_, 1, 0, 0)] (by decide +kernel) (Nat.le_refl _) (Nat.le_refl _) (fun K R hK hR => ?_)
      simp only [List.length_cons, List.length_nil, Nat.reduceLT, rf_0_1, rw_c0, ↓rx_aload_n0, ↓rx_iconst, ↓rx_nil, ↓rx_putfield, ↓rx_return_, ↓ry_lr0s, ↓ry_lr0z, ↓ry_obu, ↓ry_vr, true_and, ↓rh_ob g1, rz_set, rz_nol, rz_clr, List.set_cons_zero, List.set_cons_succ, rz_tr, Nat.reduceAdd, Int.reduceAdd, Int.reduceToNat, Int.reduceSub, Int.reduceNeg, Int.cast_ofNat_Int]
      refine hR _ _ (rz_nb_i (by decide)) (rz_eqQ (wd_fin (xs := []) ?_ rfl) hQ)
      rw [wd_f_nil]; funext j; rw [hf j]; split
      · rfl
      · exact wd_f_0 o2 (by omega)
    refine rz_blk' [(.iload_n 1, 1, 0, 0), (.bipush 16, 2, 0, 0), (.imul, 1, 0, 0), (.aload_n 0, 1, 0, 0), (.getfield 15, 3, 0, 1), (.if_icmp .ge 25, 3, 0, 0), (.iload_n 1, 1, 0, 0), (.aload_n 0, 1, 0, 0), (.getfield 9, 3, 0, 0), (.arraylength, 1, 0, 0), (.if_icmp .ge 16, 3, 0, 0), (.aload_n 0, 1, 0, 0), (.getfield 9, 3, 0, 0), (.iload_n 1, 1, 0, 0), (.lconst 0, 1, 0, 0), (.lastore, 1, 0, 0)] (by decide +kernel) (Nat.le_refl _) (Nat.le_refl _) (fun K R hK hR => ?_)
    simp only [Nat.reduceLT, rw_b16, ↓rx_aload_n0, ↓rx_arraylength, ↓rx_bipush, ↓rx_getfield, ↓rx_if_icmp_ge, ↓rx_iload_n1, ↓rx_imul, ↓rx_lastore, ↓rx_lconst0, ↓rx_nil, ↓ry_fvs, ↓ry_fvz, ↓ry_i2, ↓ry_lau, ↓ry_li0s, ↓ry_li0z, ↓ry_lr0s, ↓ry_lr0z, ↓ry_obu, ↓ry_r1, ↓ry_ril, true_and, ↓rh_ob g1, ↓rh_la g2, ↓rh_aa g2, wd_m16, rz_set, rz_nol, rz_clr, List.set_cons_zero, List.set_cons_succ, rz_tr, Nat.reduceAdd, Int.reduceAdd, Int.reduceToNat, Int.reduceSub, Int.reduceNeg, Int.cast_ofNat_Int]
    refine ⟨fun c1 => hK _ _ _ _ (hex ((wd_le (by omega) (by omega)).mp c1)), fun c1 => ⟨fun c2 => hK _ _ _ _ (hex ?_), fun c2 => ⟨?_, hK _ _ _ _ ?_⟩⟩⟩
    · have := (wd_le (by omega) (by omega)).mp c2; omega
    · exact vp_in_nI (by rw [wd_le (by omega) (by omega)] at c2; omega) (by omega)
    · have hic : i < c := by rw [wd_le (by omega) (by omega)] at c2; omega
      rw [rz_up_up]
      refine rz_blk' [(.iinc 1 1, 3, 0, 0), (.goto (-30), 3, 0, 0)] (by decide +kernel) (Nat.le_refl _) (Nat.le_refl _) (fun K R hK hR => ?_)
      simp only [rw_c1, ↓rx_goto, ↓rx_iinc, ↓rx_nil, ↓ry_li0s, ↓ry_li0z, rz_set, rz_nol, rz_clr, List.set_cons_zero, List.set_cons_succ, rz_tr, Nat.reduceAdd, Int.reduceAdd, Int.reduceToNat, Int.reduceSub, Int.reduceNeg, Int.cast_ofNat_Int]
      rw [nI_add]
      refine hK _ _ _ _ (ih (i + 1) _ (by omega) hic (fun j => ?_))
      rw [nI_clamp (by omega)]
      simp only [vp_updL]
      by_cases hj : j = i
      · subst hj; simp [show j < j + 1 by omega]
      · rw [if_neg hj, hf j]
        by_cases hj2 : j < i
        · rw [if_pos hj2, if_pos (by omega)]
        · rw [if_neg hj2, if_neg (by omega)]

set_option maxRecDepth 100000 in
set_option maxHeartbeats 4000000 in
/-- clear(): no signs -/
theorem c_Word_clear {w : rz_w} {d : Nat} {G : rz_G} {a c : Nat} {xs : List Nat} (h : wd_is G a c xs) : rz_C w d 0 0 y_Word_clear m_Word_clear [.ref a] G (fun r G' => r = none ∧ G' = wd_put G a c []) := by
  refine rz_enter' [some (.ref a), none] (by decide +kernel) rfl rfl (Nat.le_of_ble_eq_true rfl) rfl ?_
  refine rz_blk' [(.iconst 0, 1, 0, 0), (.istore_n 1, 1, 0, 0)] (by decide +kernel) (Nat.le_refl _) (Nat.le_refl _) (fun K R hK hR => ?_)
  simp only [rw_c0, ↓rx_iconst, ↓rx_istore_n1, ↓rx_nil, ↓ry_i1, rz_set, rz_nol, rz_clr, List.set_cons_zero, List.set_cons_succ, rz_tr, Nat.reduceAdd, Int.reduceAdd, Int.reduceToNat, Int.reduceSub, Int.reduceNeg, Int.cast_ofNat_Int]
  refine hK _ _ _ _ ?_
  have e := rz_up_id G (a + 1) _ h.2.1
  rw [← e]
  exact wd_clear_l h.1 h.2.2 (by rw [e]; exact ⟨rfl, rfl⟩) (c + 1) 0 _ (by omega) (by omega) (fun j => by simp)

set_option maxRecDepth 100000 in
set_option maxHeartbeats 4000000 in
/-- at(i): sign i, or -1 -/
theorem c_Word_at {w : rz_w} {d : Nat} {G : rz_G} {a c : Nat} {xs : List Nat} (h : wd_is G a c xs) (h8 : ∀ x ∈ xs, x < 8) (i : Int32) : rz_C w d 0 0 y_Word_at m_Word_at [.ref a, .int i] G (fun r G' => G' = G ∧ ((∃ (j : Nat) (hj : j < xs.length), i = nI j ∧ r = some (.int (nI xs[j]))) ∨ ((i < 0 ∨ nI xs.length ≤ i) ∧ r = some (.int (-1))))) := by
  obtain ⟨h1, h2, o1, o2, o3⟩ := h
  refine rz_enter' [some (.ref a), some (.int i)] (by decide +kernel) rfl rfl (Nat.le_of_ble_eq_true rfl) rfl ?_
  refine rz_blk' [(.iload_n 1, 1, 0, 0), (.ifCond .lt 11, 3, 0, 0), (.iload_n 1, 1, 0, 0), (.aload_n 0, 1, 0, 0), (.getfield 15, 3, 0, 1), (.if_icmp .lt 7, 3, 0, 0), (.iconst (-1), 1, 0, 0), (.goto 23, 3, 0, 0)] (by decide +kernel) (Nat.le_refl _) (Nat.le_refl _) (fun K R hK hR => ?_)
  simp only [rw_cm1, ↓rx_aload_n0, ↓rx_getfield, ↓rx_goto, ↓rx_iconst, ↓rx_ifCond_lt, ↓rx_if_icmp_lt, ↓rx_iload_n1, ↓rx_nil, ↓ry_fvs, ↓ry_fvz, ↓ry_i1, ↓ry_i2, ↓ry_li0s, ↓ry_li0z, ↓ry_lr0s, ↓ry_lr0z, ↓ry_obu, ↓ry_r1, ↓rh_ob h1, rz_set, rz_nol, rz_clr, List.set_cons_zero, List.set_cons_succ, rz_tr, Nat.reduceAdd, Int.reduceAdd, Int.reduceToNat, Int.reduceSub, Int.reduceNeg, Int.cast_ofNat_Int]
  refine ⟨fun c1 => hK _ _ _ _ ?_, fun c1 => ⟨fun c2 => hK _ _ _ _ ?_, fun c2 => hK _ _ _ _ ?_⟩⟩
  ·
    refine rz_blk' [(.iconst (-1), 1, 0, 0), (.goto 23, 3, 0, 0)] (by decide +kernel) (Nat.le_refl _) (Nat.le_refl _) (fun K R hK hR => ?_)
    simp only [rw_cm1, ↓rx_goto, ↓rx_iconst, ↓rx_nil, ↓rh_ob h1, rz_set, rz_nol, rz_clr, List.set_cons_zero, List.set_cons_succ, rz_tr, Nat.reduceAdd, Int.reduceAdd, Int.reduceToNat, Int.reduceSub, Int.reduceNeg, Int.cast_ofNat_Int]
    refine hK _ _ _ _ ?_
    refine rz_blk' [(.ireturn, 1, 0, 0)] (by decide +kernel) (Nat.le_refl _) (Nat.le_refl _) (fun K R hK hR => ?_)
    simp only [↓rx_ireturn, ↓rx_nil, rz_set, rz_nol, rz_clr, List.set_cons_zero, List.set_cons_succ, rz_tr, Nat.reduceAdd, Int.reduceAdd, Int.reduceToNat, Int.reduceSub, Int.reduceNeg, Int.cast_ofNat_Int]
    exact hR _ _ (rz_nb_i (by decide)) ⟨rfl, Or.inr ⟨Or.inl c1, rfl⟩⟩
  ·
    refine rz_blk' [(.aload_n 0, 1, 0, 0), (.getfield 9, 3, 0, 0), (.iload_n 1, 1, 0, 0), (.bipush 16, 2, 0, 0), (.idiv, 1, 0, 0), (.laload, 1, 0, 0), (.iconst 4, 1, 0, 0), (.iload_n 1, 1, 0, 0), (.bipush 16, 2, 0, 0), (.irem, 1, 0, 0), (.imul, 1, 0, 0), (.lushr, 1, 0, 0), (.l2i, 1, 0, 0), (.bipush 7, 2, 0, 0), (.iand, 1, 0, 0), (.ireturn, 1, 0, 0)] (by decide +kernel) (Nat.le_refl _) (Nat.le_refl _) (fun K R hK hR => ?_)
    simp only [rw_b16, rw_b7, rw_c4, ↓rx_aload_n0, ↓rx_bipush, ↓rx_getfield, ↓rx_iand, ↓rx_iconst, ↓rx_idiv, ↓rx_iload_n1, ↓rx_imul, ↓rx_irem, ↓rx_ireturn, ↓rx_l2i, ↓rx_laload, ↓rx_lushr, ↓rx_nil, ↓ry_fvs, ↓ry_fvz, ↓ry_i2, ↓ry_l1, ↓ry_lau, ↓ry_li, ↓ry_li0s, ↓ry_li0z, ↓ry_lr0s, ↓ry_lr0z, ↓ry_obu, ↓ry_r1, ↓ry_ri, ↓rh_ob h1, ↓rh_la h2, rz_set, rz_nol, rz_clr, List.set_cons_zero, List.set_cons_succ, rz_tr, Nat.reduceAdd, Int.reduceAdd, Int.reduceToNat, Int.reduceSub, Int.reduceNeg, Int.cast_ofNat_Int]
    obtain ⟨j, hj, rfl⟩ : ∃ j : Nat, j < xs.length ∧ i = nI j := by
      rcases pk_ix i (n := xs.length) (by omega) with q | q | q
      · exact absurd q c1
      · exact absurd c2 (by rw [Int32.not_lt]; exact q)
      · exact q
    have hd : nI j / nI 16 = nI (j / 16) := pk_div (by omega) (by omega) (by omega)
    have hm : nI j - nI j / nI 16 * nI 16 = nI (j % 16) := pk_rem (by omega) (by omega) (by omega)
    rw [hm, hd, pk_mul, nI_clamp (by omega)]
    refine ⟨by decide, vp_in_nI (by omega) (by omega), by decide, hR _ _ (rz_nb_i (by decide)) ⟨rfl, Or.inl ⟨j, hj, rfl, ?_⟩⟩⟩
    congr 2
    simp only [wd_f]
    rw [wb_shr (wd_k_lt _ _) (by omega), lN_i, pk_andN (k := 3) (Nat.lt_of_lt_of_le ?_ ?_) (by decide)]
    · have hg := wd_k_get o2 hj
      have h8j := h8 xs[j] (List.getElem_mem hj)
      congr 1
      omega
    all_goals sorry
  ·
    refine rz_blk' [(.ireturn, 1, 0, 0)] (by decide +kernel) (Nat.le_refl _) (Nat.le_refl _) (fun K R hK hR => ?_)
    simp only [↓rx_ireturn, ↓rx_nil, rz_set, rz_nol, rz_clr, List.set_cons_zero, List.set_cons_succ, rz_tr, Nat.reduceAdd, Int.reduceAdd, Int.reduceToNat, Int.reduceSub, Int.reduceNeg, Int.cast_ofNat_Int]
    exact hR _ _ (rz_nb_i (by decide)) ⟨rfl, Or.inr ⟨Or.inr (by rw [Int32.not_lt] at c2; exact c2), rfl⟩⟩

