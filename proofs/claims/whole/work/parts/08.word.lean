/-! WriterDesk$Word, second part: rows, append, drop, keepFirst, put, stretch, tell -/
theorem wd_upd_if {f g h : Nat → Int64} {i : Nat} {v : Int64} (hf : ∀ j, f j = if j < i then g j else h j) (hv : v = g i) : ∀ j, vp_updL f i v j = if j < i + 1 then g j else h j := by
  intro j
  simp only [vp_updL]
  by_cases hj : j = i
  · subst hj; simp [show j < j + 1 by omega, hv]
  · rw [if_neg hj, hf j]
    by_cases hj2 : j < i
    · rw [if_pos hj2, if_pos (by omega)]
    · rw [if_neg hj2, if_neg (by omega)]

set_option maxRecDepth 100000 in
set_option maxHeartbeats 4000000 in
theorem wd_load_l {w : rz_w} {d : Nat} {G : rz_G} {a c r n0 f0 wt : Nat} {xs ys : List Nat} {g : Nat → Int64} (h1 : G a = some (wd_o a xs)) (hok : wd_ok c xs) (k1 : G r = some (.inl (1, n0, .inr (.inl g)))) (n1 : r ≠ a + 1) (hn0 : n0 < 2 ^ 31) (hw : f0 + wt ≤ n0) (hg : ∀ j, j < wt → g (f0 + j) = wd_f ys j) (hy : ys.length ≤ 16 * wt) (yok : wd_ok c ys) {Q : Option Value → rz_G → Prop} (hQ : Q none (wd_put G a c ys)) :
    ∀ (n i : Nat) (f : Nat → Int64), c + 1 ≤ i + n → i ≤ c → (∀ j, f j = if j < i then wd_f ys j else wd_f xs j) → rz_T w d 0 0 m_Word_load 0 0 3 [some (.ref a), some (.ref r), some (.int (nI f0)), some (.int (nI wt)), some (.int (nI ys.length)), some (.int (nI i))] [] (rz_up G (a + 1) (.inl (1, c, .inr (.inl f)))) Q := by
  intro n
  induction n with
  | zero => intro i f h2 h3; omega
  | succ n ih =>
    intro i f hn hi hf
    obtain ⟨o1, o2, o3⟩ := hok
    obtain ⟨p1, p2, p3⟩ := id yok
    have g1 : (rz_up G (a + 1) (.inl (1, c, .inr (.inl f)))) a = some (wd_o a xs) := by rw [rz_up_n _ _ (by omega)]; exact h1
    have g2 : (rz_up G (a + 1) (.inl (1, c, .inr (.inl f)))) (a + 1) = some (.inl (1, c, .inr (.inl f))) := rz_up_s _ _ _
    have g3 : (rz_up G (a + 1) (.inl (1, c, .inr (.inl f)))) r = some (.inl (1, n0, .inr (.inl g))) := by rw [rz_up_n _ _ n1]; exact k1
    have hst : ∀ v : Int64, v = wd_f ys i → i < c → rz_T w d 0 0 m_Word_load 0 0 35 [some (.ref a), some (.ref r), some (.int (nI f0)), some (.int (nI wt)), some (.int (nI ys.length)), some (.int (nI i))] [.long v, .int (nI i), .ref (a + 1)] (rz_up G (a + 1) (.inl (1, c, .inr (.inl f)))) Q := by
      intro v hv hic
      refine rz_blk' [(.lastore, 1, 0, 0)] (by decide +kernel) (Nat.le_refl _) (Nat.le_refl _) (fun K R hK hR => ?_)
      simp only [↓rx_lastore, ↓rx_nil, ↓ry_lau, ↓ry_ril, ↓rh_la g2, rz_set, rz_nol, rz_clr, List.set_cons_zero, List.set_cons_succ, rz_tr, Nat.reduceAdd, Int.reduceAdd, Int.reduceToNat, Int.reduceSub, Int.reduceNeg, Int.cast_ofNat_Int]
      refine ⟨vp_in_nI hic (by omega), hK _ _ _ _ ?_⟩
      rw [rz_up_up]
      refine rz_blk' [(.iinc 5 1, 3, 0, 0), (.goto (-36), 3, 0, 0)] (by decide +kernel) (Nat.le_refl _) (Nat.le_refl _) (fun K R hK hR => ?_)
      simp only [rw_c1, ↓rx_goto, ↓rx_iinc, ↓rx_nil, ↓ry_li0s, ↓ry_li0z, rz_set, rz_nol, rz_clr, List.set_cons_zero, List.set_cons_succ, rz_tr, Nat.reduceAdd, Int.reduceAdd, Int.reduceToNat, Int.reduceSub, Int.reduceNeg, Int.cast_ofNat_Int]
      rw [nI_add, nI_clamp (by omega)]
      exact hK _ _ _ _ (ih (i + 1) _ (by omega) hic (wd_upd_if hf hv))
    refine rz_blk' [(.iload 5, 2, 0, 0), (.aload_n 0, 1, 0, 0), (.getfield 9, 3, 0, 0), (.arraylength, 1, 0, 0), (.if_icmp .ge 32, 3, 0, 0), (.aload_n 0, 1, 0, 0), (.getfield 9, 3, 0, 0), (.iload 5, 2, 0, 0), (.iload 5, 2, 0, 0), (.iload_n 3, 1, 0, 0), (.if_icmp .ge 12, 3, 0, 0), (.aload_n 1, 1, 0, 0), (.iload_n 2, 1, 0, 0), (.iload 5, 2, 0, 0), (.iadd, 1, 0, 0), (.laload, 1, 0, 0), (.goto 4, 3, 0, 0)] (by decide +kernel) (Nat.le_refl _) (Nat.le_refl _) (fun K R hK hR => ?_)
    simp only [Nat.reduceLT, ↓rx_aload_n0, ↓rx_aload_n1, ↓rx_arraylength, ↓rx_getfield, ↓rx_goto, ↓rx_iadd, ↓rx_if_icmp_ge, ↓rx_iload, ↓rx_iload_n2, ↓rx_iload_n3, ↓rx_laload, ↓rx_nil, ↓ry_fvs, ↓ry_fvz, ↓ry_i2, ↓ry_lau, ↓ry_li0s, ↓ry_li0z, ↓ry_lr0s, ↓ry_lr0z, ↓ry_obu, ↓ry_r1, ↓ry_ri, true_and, ↓rh_ob g1, ↓rh_aa g2, ↓rh_la g3, nI_add, rz_set, rz_nol, rz_clr, List.set_cons_zero, List.set_cons_succ, rz_tr, Nat.reduceAdd, Int.reduceAdd, Int.reduceToNat, Int.reduceSub, Int.reduceNeg, Int.cast_ofNat_Int]
    refine ⟨fun c1 => hK _ _ _ _ ?_, fun c1 => ⟨fun c2 => hK _ _ _ _ ?_, fun c2 => ?_⟩⟩
    · rw [wd_le (by omega) (by omega)] at c1
      refine rz_blk' [(.aload_n 0, 1, 0, 0), (.iload 4, 2, 0, 0), (.putfield 15, 3, 0, 1), (.return_, 1, 0, 0)] (by decide +kernel) (Nat.le_refl _) (Nat.le_refl _) (fun K R hK hR => ?_)
      simp only [List.length_cons, List.length_nil, Nat.reduceLT, rf_0_1, ↓rx_aload_n0, ↓rx_iload, ↓rx_nil, ↓rx_putfield, ↓rx_return_, ↓ry_li0s, ↓ry_li0z, ↓ry_lr0s, ↓ry_lr0z, ↓ry_obu, ↓ry_vr, true_and, ↓rh_ob g1, rz_set, rz_nol, rz_clr, List.set_cons_zero, List.set_cons_succ, rz_tr, Nat.reduceAdd, Int.reduceAdd, Int.reduceToNat, Int.reduceSub, Int.reduceNeg, Int.cast_ofNat_Int]
      refine hR _ _ (rz_nb_i (by decide)) (rz_eqQ (wd_fin (xs := ys) ?_ rfl) hQ)
      funext j; rw [hf j]; split
      · rfl
      · rw [wd_f_0 o2 (by omega), wd_f_0 p2 (by omega)]
    · rw [wd_le (by omega) (by omega)] at c1 c2
      refine rz_blk' [(.lconst 0, 1, 0, 0)] (by decide +kernel) (Nat.le_refl _) (Nat.le_refl _) (fun K R hK hR => ?_)
      simp only [↓rx_lconst0, ↓rx_nil, rz_set, rz_nol, rz_clr, List.set_cons_zero, List.set_cons_succ, rz_tr, Nat.reduceAdd, Int.reduceAdd, Int.reduceToNat, Int.reduceSub, Int.reduceNeg, Int.cast_ofNat_Int]
      exact hK _ _ _ _ (hst _ (wd_f_0 p2 (by omega)).symm (by omega))
    · rw [wd_le (by omega) (by omega)] at c1 c2
      rw [nI_clamp (by omega), hg i (by omega)]
      exact ⟨vp_in_nI (by omega) (by omega), hK _ _ _ _ (hst _ rfl (by omega))⟩

set_option maxRecDepth 100000 in
set_option maxHeartbeats 4000000 in
/-- load(row, from, width, signs): the word whose cells lie in the row -/
theorem c_Word_load {w : rz_w} {d : Nat} {G : rz_G} {a c r n0 f0 wt : Nat} {xs ys : List Nat} {g : Nat → Int64} (h : wd_is G a c xs) (k1 : G r = some (.inl (1, n0, .inr (.inl g)))) (hn0 : n0 < 2 ^ 31) (hne : r ≠ a + 1) (hw : f0 + wt ≤ n0) (hg : ∀ j, j < wt → g (f0 + j) = wd_f ys j) (hy : ys.length ≤ 16 * wt) (yok : wd_ok c ys) :
    rz_C w d 0 0 y_Word_load m_Word_load [.ref a, .ref r, .int (nI f0), .int (nI wt), .int (nI ys.length)] G (fun r G' => r = none ∧ G' = wd_put G a c ys) := by
  obtain ⟨h1, h2, hok⟩ := h
  refine rz_enter' [some (.ref a), some (.ref r), some (.int (nI f0)), some (.int (nI wt)), some (.int (nI ys.length)), none] (by decide +kernel) rfl rfl (Nat.le_of_ble_eq_true rfl) rfl ?_
  refine rz_blk' [(.iconst 0, 1, 0, 0), (.istore 5, 2, 0, 0)] (by decide +kernel) (Nat.le_refl _) (Nat.le_refl _) (fun K R hK hR => ?_)
  simp only [rw_c0, ↓rx_iconst, ↓rx_istore, ↓rx_nil, ↓ry_i1, rz_set, rz_nol, rz_clr, List.set_cons_zero, List.set_cons_succ, rz_tr, Nat.reduceAdd, Int.reduceAdd, Int.reduceToNat, Int.reduceSub, Int.reduceNeg, Int.cast_ofNat_Int]
  refine hK _ _ _ _ ?_
  have e0 := rz_up_id G (a + 1) _ h2
  rw [← e0]
  exact wd_load_l h1 hok k1 hne hn0 hw hg hy yok (by rw [e0]; exact ⟨rfl, rfl⟩) (c + 1) 0 _ (by omega) (by omega) (fun j => by simp)

/-- the row with the word's cells -/
def wd_row (g : Nat → Int64) (f0 wt : Nat) (xs : List Nat) : Nat → Int64 := fun j => if f0 ≤ j ∧ j < f0 + wt then wd_f xs (j - f0) else g j
set_option maxRecDepth 100000 in
set_option maxHeartbeats 4000000 in
theorem wd_store_l {w : rz_w} {d : Nat} {G : rz_G} {a c r n0 f0 wt : Nat} {xs : List Nat} {g : Nat → Int64} (h1 : G a = some (wd_o a xs)) (h2 : G (a + 1) = some (wd_a c xs)) (hok : wd_ok c xs) (n1 : a ≠ r) (n2 : a + 1 ≠ r) (hn0 : n0 < 2 ^ 31) (hw : f0 + wt ≤ n0) {Q : Option Value → rz_G → Prop} (hQ : Q none (rz_up G r (.inl (1, n0, .inr (.inl (wd_row g f0 wt xs)))))) :
    ∀ (n i : Nat) (f : Nat → Int64), wt + 1 ≤ i + n → i ≤ wt → (∀ j, f j = if f0 ≤ j ∧ j < f0 + i then wd_f xs (j - f0) else g j) → rz_T w d 0 0 m_Word_store 0 0 3 [some (.ref a), some (.ref r), some (.int (nI f0)), some (.int (nI wt)), some (.int (nI i))] [] (rz_up G r (.inl (1, n0, .inr (.inl f)))) Q := by
  intro n
  induction n with
  | zero => intro i f h2 h3; omega
  | succ n ih =>
    intro i f hn hi hf
    obtain ⟨o1, o2, o3⟩ := hok
    have g1 : (rz_up G r (.inl (1, n0, .inr (.inl f)))) a = some (wd_o a xs) := by rw [rz_up_n _ _ n1]; exact h1
    have g2 : (rz_up G r (.inl (1, n0, .inr (.inl f)))) (a + 1) = some (wd_a c xs) := by rw [rz_up_n _ _ n2]; exact h2
    have g3 : (rz_up G r (.inl (1, n0, .inr (.inl f)))) r = some (.inl (1, n0, .inr (.inl f))) := rz_up_s _ _ _
    have hst : ∀ v : Int64, v = wd_f xs i → i < wt → rz_T w d 0 0 m_Word_store 0 0 35 [some (.ref a), some (.ref r), some (.int (nI f0)), some (.int (nI wt)), some (.int (nI i))] [.long v, .int (nI (f0 + i)), .ref r] (rz_up G r (.inl (1, n0, .inr (.inl f)))) Q := by
      intro v hv hic
      refine rz_blk' [(.lastore, 1, 0, 0)] (by decide +kernel) (Nat.le_refl _) (Nat.le_refl _) (fun K R hK hR => ?_)
      simp only [↓rx_lastore, ↓rx_nil, ↓ry_lau, ↓ry_ril, ↓rh_la g3, rz_set, rz_nol, rz_clr, List.set_cons_zero, List.set_cons_succ, rz_tr, Nat.reduceAdd, Int.reduceAdd, Int.reduceToNat, Int.reduceSub, Int.reduceNeg, Int.cast_ofNat_Int]
      refine ⟨vp_in_nI (by omega) (by omega), hK _ _ _ _ ?_⟩
      rw [rz_up_up]
      refine rz_blk' [(.iinc 4 1, 3, 0, 0), (.goto (-36), 3, 0, 0)] (by decide +kernel) (Nat.le_refl _) (Nat.le_refl _) (fun K R hK hR => ?_)
      simp only [rw_c1, ↓rx_goto, ↓rx_iinc, ↓rx_nil, ↓ry_li0s, ↓ry_li0z, rz_set, rz_nol, rz_clr, List.set_cons_zero, List.set_cons_succ, rz_tr, Nat.reduceAdd, Int.reduceAdd, Int.reduceToNat, Int.reduceSub, Int.reduceNeg, Int.cast_ofNat_Int]
      rw [nI_add, nI_clamp (by omega)]
      refine hK _ _ _ _ (ih (i + 1) _ (by omega) hic (fun j => ?_))
      simp only [vp_updL]
      by_cases hj : j = f0 + i
      · subst hj; rw [if_pos rfl, if_pos (by omega), hv]; congr 1; omega
      · rw [if_neg hj, hf j]
        by_cases hj2 : f0 ≤ j ∧ j < f0 + i
        · rw [if_pos hj2, if_pos (by omega)]
        · rw [if_neg hj2, if_neg (by omega)]
    refine rz_blk' [(.iload 4, 2, 0, 0), (.iload_n 3, 1, 0, 0), (.if_icmp .ge 36, 3, 0, 0), (.aload_n 1, 1, 0, 0), (.iload_n 2, 1, 0, 0), (.iload 4, 2, 0, 0), (.iadd, 1, 0, 0), (.iload 4, 2, 0, 0), (.aload_n 0, 1, 0, 0), (.getfield 9, 3, 0, 0), (.arraylength, 1, 0, 0), (.if_icmp .ge 13, 3, 0, 0), (.aload_n 0, 1, 0, 0), (.getfield 9, 3, 0, 0), (.iload 4, 2, 0, 0), (.laload, 1, 0, 0), (.goto 4, 3, 0, 0)] (by decide +kernel) (Nat.le_refl _) (Nat.le_refl _) (fun K R hK hR => ?_)
    simp only [Nat.reduceLT, ↓rx_aload_n0, ↓rx_aload_n1, ↓rx_arraylength, ↓rx_getfield, ↓rx_goto, ↓rx_iadd, ↓rx_if_icmp_ge, ↓rx_iload, ↓rx_iload_n2, ↓rx_iload_n3, ↓rx_laload, ↓rx_nil, ↓ry_fvs, ↓ry_fvz, ↓ry_i2, ↓ry_lau, ↓ry_li0s, ↓ry_li0z, ↓ry_lr0s, ↓ry_lr0z, ↓ry_obu, ↓ry_r1, ↓ry_ri, true_and, ↓rh_ob g1, ↓rh_aa g2, ↓rh_la g2, nI_add, rz_set, rz_nol, rz_clr, List.set_cons_zero, List.set_cons_succ, rz_tr, Nat.reduceAdd, Int.reduceAdd, Int.reduceToNat, Int.reduceSub, Int.reduceNeg, Int.cast_ofNat_Int]
    refine ⟨fun c1 => hK _ _ _ _ ?_, fun c1 => ⟨fun c2 => hK _ _ _ _ ?_, fun c2 => ?_⟩⟩
    · rw [wd_le (by omega) (by omega)] at c1
      refine rz_blk' [(.return_, 1, 0, 0)] (by decide +kernel) (Nat.le_refl _) (Nat.le_refl _) (fun K R hK hR => ?_)
      simp only [↓rx_nil, ↓rx_return_, rz_set, rz_nol, rz_clr, List.set_cons_zero, List.set_cons_succ, rz_tr, Nat.reduceAdd, Int.reduceAdd, Int.reduceToNat, Int.reduceSub, Int.reduceNeg, Int.cast_ofNat_Int]
      refine hR _ _ (rz_nb_i (by decide)) (rz_eqQ ?_ hQ)
      have ef : f = wd_row g f0 wt xs := by
        funext j; rw [hf j]; simp only [wd_row]
        rw [show i = wt by omega]
      rw [ef]
    · rw [wd_le (by omega) (by omega)] at c1 c2
      refine rz_blk' [(.lconst 0, 1, 0, 0)] (by decide +kernel) (Nat.le_refl _) (Nat.le_refl _) (fun K R hK hR => ?_)
      simp only [↓rx_lconst0, ↓rx_nil, rz_set, rz_nol, rz_clr, List.set_cons_zero, List.set_cons_succ, rz_tr, Nat.reduceAdd, Int.reduceAdd, Int.reduceToNat, Int.reduceSub, Int.reduceNeg, Int.cast_ofNat_Int]
      exact hK _ _ _ _ (hst _ (wd_f_0 o2 (by omega)).symm (by omega))
    · rw [wd_le (by omega) (by omega)] at c1 c2
      rw [nI_clamp (by omega)]
      exact ⟨vp_in_nI (by omega) (by omega), hK _ _ _ _ (hst _ rfl (by omega))⟩

set_option maxRecDepth 100000 in
set_option maxHeartbeats 4000000 in
/-- store(row, from, width): the word's cells into the row -/
theorem c_Word_store {w : rz_w} {d : Nat} {G : rz_G} {a c r n0 f0 wt : Nat} {xs : List Nat} {g : Nat → Int64} (h : wd_is G a c xs) (k1 : G r = some (.inl (1, n0, .inr (.inl g)))) (hn0 : n0 < 2 ^ 31) (hne : r ≠ a + 1) (hw : f0 + wt ≤ n0) :
    rz_C w d 0 0 y_Word_store m_Word_store [.ref a, .ref r, .int (nI f0), .int (nI wt)] G (fun q G' => q = none ∧ G' = rz_up G r (.inl (1, n0, .inr (.inl (wd_row g f0 wt xs))))) := by
  obtain ⟨h1, h2, hok⟩ := h
  have hna : a ≠ r := by intro q; rw [q, k1] at h1; cases h1
  refine rz_enter' [some (.ref a), some (.ref r), some (.int (nI f0)), some (.int (nI wt)), none] (by decide +kernel) rfl rfl (Nat.le_of_ble_eq_true rfl) rfl ?_
  refine rz_blk' [(.iconst 0, 1, 0, 0), (.istore 4, 2, 0, 0)] (by decide +kernel) (Nat.le_refl _) (Nat.le_refl _) (fun K R hK hR => ?_)
  simp only [rw_c0, ↓rx_iconst, ↓rx_istore, ↓rx_nil, ↓ry_i1, rz_set, rz_nol, rz_clr, List.set_cons_zero, List.set_cons_succ, rz_tr, Nat.reduceAdd, Int.reduceAdd, Int.reduceToNat, Int.reduceSub, Int.reduceNeg, Int.cast_ofNat_Int]
  refine hK _ _ _ _ ?_
  have e0 := rz_up_id G r _ k1
  rw [← e0]
  refine wd_store_l (G := G) (g := g) h1 h2 hok hna (Ne.symm hne) hn0 hw ?_ (wt + 1) 0 _ (by omega) (by omega) (fun j => by rw [if_neg (by omega)])
  rw [e0]; exact ⟨rfl, rfl⟩

theorem wd_ap_bit {N M l i u : Nat} (hN : N < 2 ^ (4 * l)) : (2 ^ (4 * l) * (M % 2 ^ (64 * i)) + N).testBit u = if u < 4 * l then N.testBit u else (decide (u - 4 * l < 64 * i) && M.testBit (u - 4 * l)) := by
  rw [Nat.testBit_two_pow_mul_add _ hN, Nat.testBit_mod_two_pow]
theorem wd_ap_step {N M l i : Nat} (hN : N < 2 ^ (4 * l)) (j : Nat) : wd_k (2 ^ (4 * l) * (M % 2 ^ (64 * (i + 1))) + N) j = if j = l / 16 + i then wd_k (2 ^ (4 * l) * (M % 2 ^ (64 * i)) + N) j ||| wd_k M i * 2 ^ (4 * (l % 16)) % 2 ^ 64 else if j = l / 16 + i + 1 then wd_k (2 ^ (4 * l) * (M % 2 ^ (64 * i)) + N) j ||| wd_k M i / 2 ^ (64 - 4 * (l % 16)) else wd_k (2 ^ (4 * l) * (M % 2 ^ (64 * i)) + N) j := by
  have hlt : (if j = l / 16 + i then wd_k (2 ^ (4 * l) * (M % 2 ^ (64 * i)) + N) j ||| wd_k M i * 2 ^ (4 * (l % 16)) % 2 ^ 64 else if j = l / 16 + i + 1 then wd_k (2 ^ (4 * l) * (M % 2 ^ (64 * i)) + N) j ||| wd_k M i / 2 ^ (64 - 4 * (l % 16)) else wd_k (2 ^ (4 * l) * (M % 2 ^ (64 * i)) + N) j) < 2 ^ 64 := by
    split
    · exact Nat.or_lt_two_pow (wd_k_lt _ _) (Nat.mod_lt _ (Nat.two_pow_pos _))
    · split
      · exact Nat.or_lt_two_pow (wd_k_lt _ _) (Nat.lt_of_le_of_lt (Nat.div_le_self _ _) (wd_k_lt _ _))
      · exact wd_k_lt _ _
  refine wd_k_ext (wd_k_lt _ _) hlt (fun t ht => ?_)
  rw [wd_k_bit, wd_ap_bit hN]
  simp only [ht, decide_true, Bool.true_and]
  by_cases c1 : j = l / 16 + i
  · rw [if_pos c1, Nat.testBit_or, wd_k_bit, wd_ap_bit hN, Nat.testBit_mod_two_pow, Nat.mul_comm (wd_k M i), Nat.testBit_two_pow_mul, wd_k_bit]
    simp only [ht, decide_true, Bool.true_and]
    by_cases c2 : 4 * (l % 16) ≤ t
    · have e1 : ¬ 64 * j + t < 4 * l := by omega
      have e2 : 64 * j + t - 4 * l = 64 * i + (t - 4 * (l % 16)) := by omega
      rw [if_neg e1, if_neg e1, e2]
      have e3 : 64 * i + (t - 4 * (l % 16)) < 64 * (i + 1) := by omega
      have e4 : ¬ 64 * i + (t - 4 * (l % 16)) < 64 * i := by omega
      have e5 : t - 4 * (l % 16) < 64 := by omega
      simp [e3, e4, e5, c2]
    · by_cases e1 : 64 * j + t < 4 * l
      · rw [if_pos e1, if_pos e1]; simp [c2]
      · rw [if_neg e1, if_neg e1]
        have e3 : 64 * j + t - 4 * l < 64 * (i + 1) := by omega
        have e4 : 64 * j + t - 4 * l < 64 * i := by omega
        simp [e3, e4, c2]
  · rw [if_neg c1]
    by_cases c3 : j = l / 16 + i + 1
    · rw [if_pos c3, Nat.testBit_or, wd_k_bit, wd_ap_bit hN, Nat.testBit_div_two_pow, wd_k_bit]
      simp only [ht, decide_true, Bool.true_and]
      have e1 : ¬ 64 * j + t < 4 * l := by omega
      rw [if_neg e1, if_neg e1]
      have e4 : ¬ 64 * j + t - 4 * l < 64 * i := by omega
      by_cases c2 : t < 4 * (l % 16)
      · have e2 : 64 * j + t - 4 * l = 64 * i + (t + (64 - 4 * (l % 16))) := by omega
        have e3 : 64 * j + t - 4 * l < 64 * (i + 1) := by omega
        have e5 : t + (64 - 4 * (l % 16)) < 64 := by omega
        rw [← e2]
        simp [e3, e4, e5]
      · have e3 : ¬ 64 * j + t - 4 * l < 64 * (i + 1) := by omega
        have e5 : ¬ t + (64 - 4 * (l % 16)) < 64 := by omega
        simp [e3, e4, e5]
    · rw [if_neg c3, wd_k_bit, wd_ap_bit hN]
      simp only [ht, decide_true, Bool.true_and]
      by_cases e1 : 64 * j + t < 4 * l
      · rw [if_pos e1, if_pos e1]
      · rw [if_neg e1, if_neg e1]
        congr 2
        apply propext
        omega
theorem wd_or64 {N M : Nat} (h : N < 2 ^ 64) : lN N ||| lN M = lN (N ||| M % 2 ^ 64) := by
  rw [wb_mod M, wb_or h (Nat.mod_lt _ (Nat.two_pow_pos _))]

set_option maxRecDepth 100000 in
set_option maxHeartbeats 4000000 in
theorem wd_append_l {w : rz_w} {d : Nat} {G : rz_G} {a c b e : Nat} {xs ys : List Nat} (h1 : G a = some (wd_o a xs)) (hok : wd_ok c xs) (k1 : G b = some (wd_o b ys)) (k2 : G (b + 1) = some (wd_a e ys)) (kok : wd_ok e ys) (n1 : b ≠ a + 1) (n2 : b + 1 ≠ a + 1) (n3 : a ≠ b) (hfit : xs.length + ys.length ≤ 16 * c) {Q : Option Value → rz_G → Prop} (hQ : Q none (wd_put G a c (xs ++ ys))) :
    ∀ (n i : Nat) (z : Option Value) (f : Nat → Int64), e + 1 ≤ i + n → i ≤ e → (∀ j, f j = lN (wd_k (2 ^ (4 * xs.length) * (wd_p ys % 2 ^ (64 * i)) + wd_p xs) j)) → rz_T w d 0 0 m_Word_append 0 0 42 [some (.ref a), some (.ref b), some (.int (nI (xs.length / 16))), some (.int (nI (4 * (xs.length % 16)))), some (.int (nI i)), z, none] [] (rz_up G (a + 1) (.inl (1, c, .inr (.inl f)))) Q := by
  intro n
  induction n with
  | zero => intro i z f h2 h3; omega
  | succ n ih =>
    intro i z f hn hi hf
    obtain ⟨o1, o2, o3⟩ := hok
    obtain ⟨p1, p2, p3⟩ := id kok
    have hN := wd_p_lt o2
    have hM := wd_p_lt p2
    have g1 : (rz_up G (a + 1) (.inl (1, c, .inr (.inl f)))) a = some (wd_o a xs) := by rw [rz_up_n _ _ (by omega)]; exact h1
    have g2 : (rz_up G (a + 1) (.inl (1, c, .inr (.inl f)))) (a + 1) = some (.inl (1, c, .inr (.inl f))) := rz_up_s _ _ _
    have g3 : (rz_up G (a + 1) (.inl (1, c, .inr (.inl f)))) b = some (wd_o b ys) := by rw [rz_up_n _ _ n1]; exact k1
    have g4 : (rz_up G (a + 1) (.inl (1, c, .inr (.inl f)))) (b + 1) = some (wd_a e ys) := by rw [rz_up_n _ _ n2]; exact k2
    refine rz_blk' [(.iload 4, 2, 0, 0), (.bipush 16, 2, 0, 0), (.imul, 1, 0, 0), (.aload_n 1, 1, 0, 0), (.getfield 15, 3, 0, 1), (.if_icmp .ge 73, 3, 0, 0), (.aload_n 1, 1, 0, 0), (.getfield 9, 3, 0, 0), (.iload 4, 2, 0, 0), (.laload, 1, 0, 0), (.lstore 5, 2, 0, 0)] (by decide +kernel) (Nat.le_refl _) (Nat.le_refl _) (fun K R hK hR => ?_)
    simp only [rw_b16, ↓rx_aload_n1, ↓rx_bipush, ↓rx_getfield, ↓rx_if_icmp_ge, ↓rx_iload, ↓rx_imul, ↓rx_laload, ↓rx_lstore, ↓rx_nil, ↓ry_fvs, ↓ry_fvz, ↓ry_i2, ↓ry_l1, ↓ry_lau, ↓ry_li0s, ↓ry_li0z, ↓ry_lr0s, ↓ry_lr0z, ↓ry_obu, ↓ry_r1, ↓ry_ri, ↓rh_ob g1, ↓rh_ob g3, ↓rh_la g4, wd_m16, rz_set, rz_nol, rz_clr, List.set_cons_zero, List.set_cons_succ, rz_tr, Nat.reduceAdd, Int.reduceAdd, Int.reduceToNat, Int.reduceSub, Int.reduceNeg, Int.cast_ofNat_Int]
    refine ⟨fun c1 => hK _ _ _ _ ?_, fun c1 => ?_⟩
    · rw [wd_le (by omega) (by omega)] at c1
      refine rz_blk' [(.aload_n 0, 1, 0, 0), (.dup, 1, 0, 0), (.getfield 15, 3, 0, 1), (.aload_n 1, 1, 0, 0), (.getfield 15, 3, 0, 1), (.iadd, 1, 0, 0), (.putfield 15, 3, 0, 1), (.return_, 1, 0, 0)] (by decide +kernel) (Nat.le_refl _) (Nat.le_refl _) (fun K R hK hR => ?_)
      simp only [List.length_cons, List.length_nil, Nat.reduceLT, rf_0_1, ↓rx_aload_n0, ↓rx_aload_n1, ↓rx_dup, ↓rx_getfield, ↓rx_iadd, ↓rx_nil, ↓rx_putfield, ↓rx_return_, ↓ry_fvs, ↓ry_fvz, ↓ry_i2, ↓ry_lr0s, ↓ry_lr0z, ↓ry_obu, ↓ry_r1, ↓ry_v1i, ↓ry_v1r, ↓ry_vr, true_and, ↓rh_ob g1, ↓rh_ob g3, nI_add, rz_set, rz_nol, rz_clr, List.set_cons_zero, List.set_cons_succ, rz_tr, Nat.reduceAdd, Int.reduceAdd, Int.reduceToNat, Int.reduceSub, Int.reduceNeg, Int.cast_ofNat_Int]
      refine hR _ _ (rz_nb_i (by decide)) (rz_eqQ (wd_fin (xs := xs ++ ys) ?_ ?_) hQ)
      · funext j
        rw [hf j]
        simp only [wd_f]
        rw [wd_p_app, Nat.mod_eq_of_lt (Nat.lt_of_lt_of_le hM (Nat.pow_le_pow_right (by decide) (by omega)))]
      · simp only [wd_o, List.length_append]
    · rw [wd_le (by omega) (by omega)] at c1
      rw [nI_clamp (by omega)]
      refine ⟨vp_in_nI (by omega) (by omega), hK _ _ _ _ ?_⟩
      refine rz_blk' [(.aload_n 0, 1, 0, 0), (.getfield 9, 3, 0, 0), (.iload_n 2, 1, 0, 0), (.iload 4, 2, 0, 0), (.iadd, 1, 0, 0), (.dup2, 1, 0, 0), (.laload, 1, 0, 0), (.lload 5, 2, 0, 0), (.iload_n 3, 1, 0, 0), (.lshl, 1, 0, 0), (.lor, 1, 0, 0), (.lastore, 1, 0, 0)] (by decide +kernel) (Nat.le_refl _) (Nat.le_refl _) (fun K R hK hR => ?_)
      simp only [↓rx_aload_n0, ↓rx_dup2, ↓rx_getfield, ↓rx_iadd, ↓rx_iload, ↓rx_iload_n2, ↓rx_iload_n3, ↓rx_laload, ↓rx_lastore, ↓rx_lload, ↓rx_lor, ↓rx_lshl, ↓rx_nil, ↓ry_fvs, ↓ry_fvz, ↓ry_i2, ↓ry_l2, ↓ry_lau, ↓ry_li, ↓ry_li0s, ↓ry_li0z, ↓ry_ll0s, ↓ry_ll0z, ↓ry_lr0s, ↓ry_lr0z, ↓ry_obu, ↓ry_r1, ↓ry_ri, ↓ry_ril, ↓ry_v2, ↓rh_ob g1, ↓rh_la g2, nI_add, rz_set, rz_nol, rz_clr, List.set_cons_zero, List.set_cons_succ, rz_tr, Nat.reduceAdd, Int.reduceAdd, Int.reduceToNat, Int.reduceSub, Int.reduceNeg, Int.cast_ofNat_Int]
      rw [nI_clamp (by omega), hf, wd_f]
      have hb1 : xs.length / 16 + i < c := by omega
      refine ⟨vp_in_nI hb1 (by omega), vp_in_nI hb1 (by omega), hK _ _ _ _ ?_⟩
      rw [rz_up_up, wb_shl _ (by omega), wd_or64 (wd_k_lt _ _)]
      generalize hf1 : vp_updL f (xs.length / 16 + i) _ = f1
      have hf1v : ∀ j, f1 j = if j = xs.length / 16 + i then lN (wd_k (2 ^ (4 * xs.length) * (wd_p ys % 2 ^ (64 * (i + 1))) + wd_p xs) j) else f j := by
        intro j
        rw [← hf1]
        simp only [vp_updL]
        split
        · next q => subst q; rw [wd_ap_step hN, if_pos rfl]
        · rfl
      have q1 : (rz_up G (a + 1) (.inl (1, c, .inr (.inl f1)))) a = some (wd_o a xs) := by rw [rz_up_n _ _ (by omega)]; exact h1
      have q2 : (rz_up G (a + 1) (.inl (1, c, .inr (.inl f1)))) (a + 1) = some (.inl (1, c, .inr (.inl f1))) := rz_up_s _ _ _
      have hgo : ∀ (f2 : Nat → Int64), (∀ j, f2 j = lN (wd_k (2 ^ (4 * xs.length) * (wd_p ys % 2 ^ (64 * (i + 1))) + wd_p xs) j)) → rz_T w d 0 0 m_Word_append 0 0 118 [some (.ref a), some (.ref b), some (.int (nI (xs.length / 16))), some (.int (nI (4 * (xs.length % 16)))), some (.int (nI i)), some (.long (lN (wd_k (wd_p ys) i))), none] [] (rz_up G (a + 1) (.inl (1, c, .inr (.inl f2)))) Q := by
        intro f2 hf2
        refine rz_blk' [(.iinc 4 1, 3, 0, 0), (.goto (-79), 3, 0, 0)] (by decide +kernel) (Nat.le_refl _) (Nat.le_refl _) (fun K R hK hR => ?_)
        simp only [rw_c1, ↓rx_goto, ↓rx_iinc, ↓rx_nil, ↓ry_li0s, ↓ry_li0z, rz_set, rz_nol, rz_clr, List.set_cons_zero, List.set_cons_succ, rz_tr, Nat.reduceAdd, Int.reduceAdd, Int.reduceToNat, Int.reduceSub, Int.reduceNeg, Int.cast_ofNat_Int]
        rw [nI_add]
        exact hK _ _ _ _ (ih (i + 1) _ f2 (by omega) (by omega) hf2)
      refine rz_blk' [(.iload_n 3, 1, 0, 0), (.ifCond .le 38, 3, 0, 0), (.iload_n 2, 1, 0, 0), (.iload 4, 2, 0, 0), (.iadd, 1, 0, 0), (.iconst 1, 1, 0, 0), (.iadd, 1, 0, 0), (.aload_n 0, 1, 0, 0), (.getfield 9, 3, 0, 0), (.arraylength, 1, 0, 0), (.if_icmp .ge 24, 3, 0, 0)] (by decide +kernel) (Nat.le_refl _) (Nat.le_refl _) (fun K R hK hR => ?_)
      simp only [Nat.reduceLT, rw_c1, ↓rx_aload_n0, ↓rx_arraylength, ↓rx_getfield, ↓rx_iadd, ↓rx_iconst, ↓rx_ifCond_le, ↓rx_if_icmp_ge, ↓rx_iload, ↓rx_iload_n2, ↓rx_iload_n3, ↓rx_nil, ↓ry_fvs, ↓ry_fvz, ↓ry_i1, ↓ry_i2, ↓ry_li0s, ↓ry_li0z, ↓ry_lr0s, ↓ry_lr0z, ↓ry_obu, ↓ry_r1, true_and, ↓rh_ob q1, ↓rh_aa q2, nI_add, rz_set, rz_nol, rz_clr, List.set_cons_zero, List.set_cons_succ, rz_tr, Nat.reduceAdd, Int.reduceAdd, Int.reduceToNat, Int.reduceSub, Int.reduceNeg, Int.cast_ofNat_Int]
      have hz : (0 : Int32) = nI 0 := rfl
      rw [hz]
      refine ⟨fun c2 => hK _ _ _ _ (hgo _ (fun j => ?_)), fun c2 => ⟨fun c3 => hK _ _ _ _ (hgo _ (fun j => ?_)), fun c3 => hK _ _ _ _ ?_⟩⟩
      · rw [wd_le (by omega) (by omega)] at c2
        rw [hf1v j]
        split
        · rfl
        · next q =>
          rw [hf j, wd_ap_step hN, if_neg q]
          split
          · rw [show 4 * (xs.length % 16) = 0 by omega, Nat.div_eq_of_lt (wd_k_lt _ _), Nat.or_zero]
          · rfl
      · rw [wd_le (by omega) (by omega)] at c3
        rw [hf1v j]
        split
        · rfl
        · next q =>
          rw [hf j]
          by_cases q2 : j = xs.length / 16 + i + 1
          · have big : ∀ t, 2 ^ (4 * xs.length) * (wd_p ys % 2 ^ (64 * t)) + wd_p xs < 2 ^ (64 * j) := by
              intro t
              have e1 : wd_p ys % 2 ^ (64 * t) < 2 ^ (4 * ys.length) := Nat.lt_of_le_of_lt (Nat.mod_le _ _) hM
              have e2 : 2 ^ (4 * xs.length) * (wd_p ys % 2 ^ (64 * t)) + wd_p xs < 2 ^ (4 * xs.length) * 2 ^ (4 * ys.length) := by
                have : 2 ^ (4 * xs.length) * (wd_p ys % 2 ^ (64 * t) + 1) ≤ 2 ^ (4 * xs.length) * 2 ^ (4 * ys.length) := Nat.mul_le_mul_left _ e1
                rw [Nat.mul_add, Nat.mul_one] at this
                omega
              rw [← Nat.pow_add] at e2
              exact Nat.lt_of_lt_of_le e2 (Nat.pow_le_pow_right (by decide) (by omega))
            rw [wd_k_0 (big i), wd_k_0 (big (i + 1))]
          · rw [wd_ap_step hN, if_neg q, if_neg q2]
      · rw [wd_le (by omega) (by omega)] at c2 c3
        refine rz_blk' [(.aload_n 0, 1, 0, 0), (.getfield 9, 3, 0, 0), (.iload_n 2, 1, 0, 0), (.iload 4, 2, 0, 0), (.iadd, 1, 0, 0), (.iconst 1, 1, 0, 0), (.iadd, 1, 0, 0), (.dup2, 1, 0, 0), (.laload, 1, 0, 0), (.lload 5, 2, 0, 0), (.bipush 64, 2, 0, 0), (.iload_n 3, 1, 0, 0), (.isub, 1, 0, 0), (.lushr, 1, 0, 0), (.lor, 1, 0, 0), (.lastore, 1, 0, 0)] (by decide +kernel) (Nat.le_refl _) (Nat.le_refl _) (fun K R hK hR => ?_)
        simp only [rw_b64, rw_c1, ↓rx_aload_n0, ↓rx_bipush, ↓rx_dup2, ↓rx_getfield, ↓rx_iadd, ↓rx_iconst, ↓rx_iload, ↓rx_iload_n2, ↓rx_iload_n3, ↓rx_isub, ↓rx_laload, ↓rx_lastore, ↓rx_lload, ↓rx_lor, ↓rx_lushr, ↓rx_nil, ↓ry_fvs, ↓ry_fvz, ↓ry_i2, ↓ry_l2, ↓ry_lau, ↓ry_li, ↓ry_li0s, ↓ry_li0z, ↓ry_ll0s, ↓ry_ll0z, ↓ry_lr0s, ↓ry_lr0z, ↓ry_obu, ↓ry_r1, ↓ry_ri, ↓ry_ril, ↓ry_v2, ↓rh_ob q1, ↓rh_la q2, nI_add, rz_set, rz_nol, rz_clr, List.set_cons_zero, List.set_cons_succ, rz_tr, Nat.reduceAdd, Int.reduceAdd, Int.reduceToNat, Int.reduceSub, Int.reduceNeg, Int.cast_ofNat_Int]
        rw [pk_sub (by omega), nI_clamp (by omega), wb_shr (wd_k_lt _ _) (by omega)]
        refine ⟨vp_in_nI (by omega) (by omega), vp_in_nI (by omega) (by omega), hK _ _ _ _ ?_⟩
        rw [rz_up_up]
        refine hgo _ (fun j => ?_)
        simp only [vp_updL]
        split
        · next q =>
          subst q
          rw [hf1v, if_neg (by omega), hf, wb_or (wd_k_lt _ _) (Nat.lt_of_le_of_lt (Nat.div_le_self _ _) (wd_k_lt _ _)), wd_ap_step hN, if_neg (by omega), if_pos rfl]
        · next q =>
          rw [hf1v j]
          split
          · rfl
          · next q2 => rw [hf j, wd_ap_step hN, if_neg q2, if_neg q]

set_option maxRecDepth 100000 in
set_option maxHeartbeats 4000000 in
/-- append(other), where it fits -/
theorem c_Word_append {w : rz_w} {d : Nat} {G : rz_G} {a c b e : Nat} {xs ys : List Nat} (h : wd_is G a c xs) (k : wd_is G b e ys) (hn : a ≠ b) (hfit : xs.length + ys.length ≤ 16 * c) : rz_C w d 0 0 y_Word_append m_Word_append [.ref a, .ref b] G (fun r G' => r = none ∧ G' = wd_put G a c (xs ++ ys)) := by
  obtain ⟨n1, n2, n3⟩ := wd_apart h k hn
  obtain ⟨h1, h2, hok⟩ := h
  obtain ⟨k1, k2, kok⟩ := k
  obtain ⟨o1, o2, o3⟩ := id hok
  obtain ⟨p1, p2, p3⟩ := id kok
  refine rz_enter' [some (.ref a), some (.ref b), none, none, none, none, none] (by decide +kernel) rfl rfl (Nat.le_of_ble_eq_true rfl) rfl ?_
  refine rz_blk' [(.aload_n 0, 1, 0, 0), (.getfield 15, 3, 0, 1), (.aload_n 1, 1, 0, 0), (.getfield 15, 3, 0, 1), (.iadd, 1, 0, 0), (.aload_n 0, 1, 0, 0), (.getfield 9, 3, 0, 0), (.arraylength, 1, 0, 0), (.bipush 16, 2, 0, 0), (.imul, 1, 0, 0), (.if_icmp .le 4, 3, 0, 0), (.return_, 1, 0, 0)] (by decide +kernel) (Nat.le_refl _) (Nat.le_refl _) (fun K R hK hR => ?_)
  simp only [Nat.reduceLT, rw_b16, ↓rx_aload_n0, ↓rx_aload_n1, ↓rx_arraylength, ↓rx_bipush, ↓rx_getfield, ↓rx_iadd, ↓rx_if_icmp_le, ↓rx_imul, ↓rx_nil, ↓rx_return_, ↓ry_fvs, ↓ry_fvz, ↓ry_i2, ↓ry_lr0s, ↓ry_lr0z, ↓ry_obu, ↓ry_r1, true_and, ↓rh_ob h1, ↓rh_ob k1, ↓rh_aa h2, wd_m16, nI_add, rz_set, rz_nol, rz_clr, List.set_cons_zero, List.set_cons_succ, rz_tr, Nat.reduceAdd, Int.reduceAdd, Int.reduceToNat, Int.reduceSub, Int.reduceNeg, Int.cast_ofNat_Int]
  refine ⟨fun c1 => hK _ _ _ _ ?_, fun c1 => absurd ((wd_le (by omega) (by omega)).mpr hfit) c1⟩
  refine rz_blk' [(.aload_n 0, 1, 0, 0), (.getfield 15, 3, 0, 1), (.bipush 16, 2, 0, 0), (.idiv, 1, 0, 0), (.istore_n 2, 1, 0, 0)] (by decide +kernel) (Nat.le_refl _) (Nat.le_refl _) (fun K R hK hR => ?_)
  simp only [rw_b16, ↓rx_aload_n0, ↓rx_bipush, ↓rx_getfield, ↓rx_idiv, ↓rx_istore_n2, ↓rx_nil, ↓ry_fvs, ↓ry_fvz, ↓ry_i1, ↓ry_i2, ↓ry_lr0s, ↓ry_lr0z, ↓ry_obu, ↓ry_r1, ↓rh_ob h1, rz_set, rz_nol, rz_clr, List.set_cons_zero, List.set_cons_succ, rz_tr, Nat.reduceAdd, Int.reduceAdd, Int.reduceToNat, Int.reduceSub, Int.reduceNeg, Int.cast_ofNat_Int]
  rw [pk_div (by omega) (by omega) (by omega)]
  refine ⟨by decide, hK _ _ _ _ ?_⟩
  refine rz_blk' [(.iconst 4, 1, 0, 0), (.aload_n 0, 1, 0, 0), (.getfield 15, 3, 0, 1), (.bipush 16, 2, 0, 0), (.irem, 1, 0, 0), (.imul, 1, 0, 0), (.istore_n 3, 1, 0, 0)] (by decide +kernel) (Nat.le_refl _) (Nat.le_refl _) (fun K R hK hR => ?_)
  simp only [rw_b16, rw_c4, ↓rx_aload_n0, ↓rx_bipush, ↓rx_getfield, ↓rx_iconst, ↓rx_imul, ↓rx_irem, ↓rx_istore_n3, ↓rx_nil, ↓ry_fvs, ↓ry_fvz, ↓ry_i1, ↓ry_i2, ↓ry_lr0s, ↓ry_lr0z, ↓ry_obu, ↓ry_r1, ↓rh_ob h1, rz_set, rz_nol, rz_clr, List.set_cons_zero, List.set_cons_succ, rz_tr, Nat.reduceAdd, Int.reduceAdd, Int.reduceToNat, Int.reduceSub, Int.reduceNeg, Int.cast_ofNat_Int]
  rw [pk_rem (by omega) (by omega) (by omega), pk_mul]
  refine ⟨by decide, hK _ _ _ _ ?_⟩
  refine rz_blk' [(.iconst 0, 1, 0, 0), (.istore 4, 2, 0, 0)] (by decide +kernel) (Nat.le_refl _) (Nat.le_refl _) (fun K R hK hR => ?_)
  simp only [rw_c0, ↓rx_iconst, ↓rx_istore, ↓rx_nil, ↓ry_i1, rz_set, rz_nol, rz_clr, List.set_cons_zero, List.set_cons_succ, rz_tr, Nat.reduceAdd, Int.reduceAdd, Int.reduceToNat, Int.reduceSub, Int.reduceNeg, Int.cast_ofNat_Int]
  refine hK _ _ _ _ ?_
  have e0 := rz_up_id G (a + 1) _ h2
  rw [← e0]
  refine wd_append_l h1 hok k1 k2 kok n1 (by omega) hn hfit (by rw [e0]; exact ⟨rfl, rfl⟩) (e + 1) 0 none _ (by omega) (by omega) (fun j => ?_)
  simp [wd_f, Nat.mod_one]

