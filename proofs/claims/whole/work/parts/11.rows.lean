/-! WriterDesk$Rows: a set of rows of longs, a list without doubles -/
section RCP
variable {w : rz_w} {d mc ms : Nat} {M : rz_M} {kc kn pc : Nat} {Lc : rz_L} {S : List Value} {G : rz_G} {Q : Option Value → rz_G → Prop}
/-- System.arraycopy of longs, between two arrays -/
theorem rz_copyl {idx : Nat} (hl : Cond.methodLink (rz_on M.2.2.2.1) idx arraycopyName ∈ rz_tb) (h1 : Cond.native arraycopyName ∈ rz_tb) (h2 : Cond.static arraycopyName ∈ rz_tb) (h3 : Cond.initialized "java/lang/System" ∈ rz_tb) {a0 a n0 n1 : Nat} {f g : Nat → Int64} (hG0 : G a0 = some (.inl (1, n0, .inr (.inl f)))) (hG1 : G a = some (.inl (1, n1, .inr (.inl g))))
    {sp dp n : Nat} (hb : sp < 2 ^ 31 ∧ dp < 2 ^ 31 ∧ n < 2 ^ 31) (h4 : sp + n ≤ n0) (h5 : dp + n ≤ n1) (hst : (S.map fun v => v.category).sum ≤ 8) (hd : decode M.1 pc = .ok (.invokestatic idx, 3))
    (k : rz_T w (d + 1) mc ms M kc kn (pc + 3) Lc S (rz_up G a (.inl (1, n1, .inr (.inl (va_cpy f g sp dp n))))) Q) : rz_T w (d + 1) mc ms M kc kn pc Lc (.int (nI n) :: .int (nI dp) :: .ref a :: .int (nI sp) :: .ref a0 :: S) G Q := by
  intro p l e s m args below meth c H locs ls hc hS hR hll
  obtain ⟨L, q, hm, hq, hL, hP, hD⟩ := rz_get hR hG1
  have hm0 : a0 ∈ L := (hL a0).mpr (by rw [hG0]; simp)
  obtain ⟨q0, hq0⟩ := va_pl_get (X := []) (f := rz_f w G) hm0
  have hq0 : (va_pl L (rz_f w G))[q0]? = some (a0, .inl (w.2.1 1, n0, .inr (.inl f))) := by
    have e1 : rz_f w G a0 = .inl (w.2.1 1, n0, .inr (.inl f)) := by simp only [rz_f, hG0, rz_e]
    rw [← e1]; exact hq0
  have c1 : (nI sp).toNatClampNeg = sp := nI_clamp hb.1
  have c2 : (nI dp).toNatClampNeg = dp := nI_clamp hb.2.1
  have c3 : (nI n).toNatClampNeg = n := nI_clamp hb.2.2
  have hts := hc.2.2.2.2.2.2.2.1
  refine va_copyl hc.1 hc.2.1 (hc.2.2.1.trans hll.1.symm) hc.2.2.2.2.2.1 (hts _ hl) (hts _ h1) (hts _ h2) (hts _ h3) hc.2.2.2.2.2.2.2.2.1.1 hP hD hS q0 q 1 1 hq0 hq rfl rfl rfl (nI_pos hb.1) (nI_pos hb.2.1) (nI_pos hb.2.2) (by rw [c1, c3]; exact h4) (by rw [c2, c3]; exact h5) (fun _ _ => rfl) (by show 1 ≤ d + 1; omega) (by show _ + 18 ≤ 40 * (d + 1); omega) hd (fun H1 locs1 hP1 hD1 hS1 => ?_)
  rw [c1, c2, c3] at hP1 hD1
  exact k p l e s m args below meth c H1 locs1 ls hc hS1 (rz_set' (H := H) (e1 := .inl (1, n1, .inr (.inl (va_cpy f g sp dp n)))) (rz_szS hc.2.2.2.2.2.2.2.2.2 hS1) hG1 hm hq hL hD hP1 hD1) hll
end RCP
def rw_l (g : Nat → Int64) (n : Nat) : List Int64 := (List.range n).map g
theorem rw_l_len (g : Nat → Int64) (n : Nat) : (rw_l g n).length = n := by simp [rw_l]
theorem rw_l_eq {g h : Nat → Int64} {n : Nat} : rw_l g n = rw_l h n ↔ ∀ k, k < n → g k = h k := by
  simp only [rw_l]
  constructor
  · intro e k hk
    have := congrArg (fun l => l[k]?) e
    simpa [hk] using this
  · intro e
    apply List.map_congr_left
    intro k hk
    exact e k (List.mem_range.mp hk)
def rw_mx (m x : Int64) : Int64 := ((m ^^^ x) * (-7046029254386353131)) ^^^ ((((m ^^^ x) * (-7046029254386353131)).toUInt64 >>> ((nI 32).toInt64.toUInt64 &&& Int64.toUInt64 63)).toInt64)
def rw_mix (r : List Int64) : Int64 := r.foldl rw_mx (lN 0)
def rw_h (e : Nat) (r : List Int64) : Nat := (rw_mix r).toInt32.toBitVec.toNat % 2 ^ e
theorem rw_h_lt (e : Nat) (r : List Int64) : rw_h e r < 2 ^ e := Nat.mod_lt _ (Nat.two_pow_pos _)
/-- the slots are right for the rows -/
def rw_ok (e : Nat) (sl : Nat → Int32) (rs : List (List Int64)) : Prop :=
  (∀ s, s < 2 ^ e → ∃ v, v ≤ rs.length ∧ sl s = nI v) ∧
  (∀ i (hi : i < rs.length), ∃ k, k < 2 ^ e ∧ sl ((rw_h e rs[i] + k) % 2 ^ e) = nI (i + 1) ∧ ∀ k', k' < k → sl ((rw_h e rs[i] + k') % 2 ^ e) ≠ nI 0) ∧
  (List.range (2 ^ e)).countP (fun s => decide (sl s = nI 0)) + rs.length = 2 ^ e
def rw_o (r wd mo n : Nat) : rz_E := .inr (1, [.ref (r + 1), .int (nI wd), .int (nI mo), .ref (r + 2), .int (nI n)])
/-- Rows at r: rows of wd longs, at most mo, 2 ^ e slots; the rows rs -/
def rw_is (G : rz_G) (r wd mo e : Nat) (rs : List (List Int64)) : Prop :=
  ∃ (f : Nat → Int64) (sl : Nat → Int32), G r = some (.inr (1, [.ref (r + 1), .int (nI wd), .int (nI mo), .ref (r + 2), .int (nI rs.length)])) ∧ G (r + 1) = some (.inl (1, mo * wd, .inr (.inl f))) ∧ G (r + 2) = some (.inl (0, 2 ^ e, .inl sl)) ∧
    (∀ i (hi : i < rs.length), rw_l (fun k => f (i * wd + k)) wd = rs[i]) ∧ rw_ok e sl rs ∧ rs.length ≤ mo ∧ mo < 2 ^ e ∧ e ≤ 16 ∧ wd ≤ 100 ∧ rs.Nodup
def rw_fr (r : Nat) (G G' : rz_G) : Prop := ∀ a, a ≠ r → a ≠ r + 1 → a ≠ r + 2 → G' a = G a
theorem rw_p16 {e : Nat} (h : e ≤ 16) : 2 ^ e ≤ 65536 := Nat.le_trans (Nat.pow_le_pow_right (by decide) h) (by decide)
theorem rw_cnt_upd (P : Nat → Bool) (n s : Nat) (Q : Nat → Bool) (h1 : P s = true) (h2 : Q s = false) (h3 : ∀ j, j ≠ s → Q j = P j) (hs : s < n) : (List.range n).countP Q + 1 = (List.range n).countP P := by
  induction n with
  | zero => omega
  | succ n ih =>
    rw [List.range_succ, List.countP_append, List.countP_append]
    by_cases q : s = n
    · subst q
      have : (List.range s).countP Q = (List.range s).countP P := by
        apply List.countP_congr
        intro j hj
        rw [h3 j (by have := List.mem_range.mp hj; omega)]
      simp [this, h1, h2]
    · have := ih (by omega)
      simp only [List.countP_singleton, h3 n (fun z => q z.symm)]
      omega
/-- a zero slot -/
theorem rw_zero {e : Nat} {sl : Nat → Int32} {rs : List (List Int64)} (h : rw_ok e sl rs) (hl : rs.length < 2 ^ e) : ∃ s, s < 2 ^ e ∧ sl s = nI 0 := by
  have h3 := h.2.2
  have : 0 < (List.range (2 ^ e)).countP (fun s => decide (sl s = nI 0)) := by omega
  obtain ⟨s, hs, hq⟩ := List.countP_pos_iff.mp this
  exact ⟨s, List.mem_range.mp hs, of_decide_eq_true hq⟩
set_option maxRecDepth 100000 in
set_option maxHeartbeats 4000000 in
theorem rw_slot_l {w : rz_w} {d : Nat} {G : rz_G} {r wd mo e n p m : Nat} {sl : Nat → Int32} {g : Nat → Int64} (h1 : G r = some (.inr (1, [.ref (r + 1), .int (nI wd), .int (nI mo), .ref (r + 2), .int (nI n)]))) (h2 : G (r + 2) = some (.inl (0, 2 ^ e, .inl sl))) (he : e ≤ 16) (hwd : wd ≤ 100) (hp : G p = some (.inl (1, m, .inr (.inl g)))) (hm : wd ≤ m) (hm2 : m < 2 ^ 31) {Q : Option Value → rz_G → Prop} (hQ : Q (some (.int (nI (rw_h e (rw_l g wd))))) G) :
    ∀ (n i : Nat), wd + 1 ≤ i + n → i ≤ wd → rz_T w d 0 0 m_Rows_slotOf 0 0 5 [some (.ref r), some (.ref p), some (.long (rw_mix (rw_l g i))), none, some (.int (nI i))] [] G Q := by
  intro n
  have hp16 := rw_p16 he
  induction n with
  | zero => intro i h2 h3; omega
  | succ n ih =>
    intro i hn hi
    refine rz_blk' [(.iload 4, 2, 0, 0), (.aload_n 0, 1, 0, 0), (.getfield 13, 3, 1, 1), (.if_icmp .ge 27, 3, 0, 0), (.lload_n 2, 1, 0, 0), (.aload_n 1, 1, 0, 0), (.iload 4, 2, 0, 0), (.laload, 1, 0, 0), (.lxor, 1, 0, 0)] (by decide +kernel) (Nat.le_refl _) (Nat.le_refl _) (fun K R hK hR => ?_)
    simp only [↓rx_aload_n0, ↓rx_aload_n1, ↓rx_getfield, ↓rx_if_icmp_ge, ↓rx_iload, ↓rx_laload, ↓rx_lload_n2, ↓rx_lxor, ↓rx_nil, ↓ry_fvs, ↓ry_fvz, ↓ry_i2, ↓ry_l2, ↓ry_lau, ↓ry_li0s, ↓ry_li0z, ↓ry_ll0s, ↓ry_ll0z, ↓ry_lr0s, ↓ry_lr0z, ↓ry_obu, ↓ry_r1, ↓ry_ri, ↓rh_ob h1, ↓rh_la hp, rz_set, rz_nol, rz_clr, List.set_cons_zero, List.set_cons_succ, rz_tr, Nat.reduceAdd, Int.reduceAdd, Int.reduceToNat, Int.reduceSub, Int.reduceNeg, Int.cast_ofNat_Int]
    refine ⟨fun c1 => hK _ _ _ _ ?_, fun c1 => ⟨?_, hK _ _ _ _ ?_⟩⟩
    · rw [nI_leI (by omega) (by omega)] at c1
      refine rz_blk' [(.lload_n 2, 1, 0, 0), (.l2i, 1, 0, 0), (.aload_n 0, 1, 0, 0), (.getfield 20, 3, 1, 3), (.arraylength, 1, 0, 0), (.iconst 1, 1, 0, 0), (.isub, 1, 0, 0), (.iand, 1, 0, 0), (.ireturn, 1, 0, 0)] (by decide +kernel) (Nat.le_refl _) (Nat.le_refl _) (fun K R hK hR => ?_)
      simp only [Nat.reduceLT, rw_c1, ↓rx_aload_n0, ↓rx_arraylength, ↓rx_getfield, ↓rx_iand, ↓rx_iconst, ↓rx_ireturn, ↓rx_isub, ↓rx_l2i, ↓rx_lload_n2, ↓rx_nil, ↓ry_fvs, ↓ry_fvz, ↓ry_i2, ↓ry_l1, ↓ry_ll0s, ↓ry_ll0z, ↓ry_lr0s, ↓ry_lr0z, ↓ry_obu, ↓ry_r1, true_and, ↓rh_ob h1, ↓rh_aa h2, rz_set, rz_nol, rz_clr, List.set_cons_zero, List.set_cons_succ, rz_tr, Nat.reduceAdd, Int.reduceAdd, Int.reduceToNat, Int.reduceSub, Int.reduceNeg, Int.cast_ofNat_Int]
      have hpos := Nat.two_pow_pos e
      rw [pk_sub (by omega), pk_and _ e (by rw [hp_bN (by omega)])]
      refine hR _ _ (rz_nb_i (by decide)) ?_
      rw [show i = wd by omega]
      exact hQ
    · rw [nI_leI (by omega) (by omega)] at c1
      exact vp_in_nI (by omega) hm2
    · rw [nI_leI (by omega) (by omega)] at c1
      refine rz_ldc2 (v := -7046029254386353131) (by decide +kernel) (rz_j3 211 rfl rfl) ?_
      rw [nI_clamp (by omega)]
      refine rz_blk' [(.lmul, 1, 0, 0), (.lstore_n 2, 1, 0, 0)] (by decide +kernel) (Nat.le_refl _) (Nat.le_refl _) (fun K R hK hR => ?_)
      simp only [↓rx_lmul, ↓rx_lstore_n2, ↓rx_nil, ↓ry_l1, ↓ry_l2, rz_set, rz_nol, rz_clr, List.set_cons_zero, List.set_cons_succ, rz_tr, Nat.reduceAdd, Int.reduceAdd, Int.reduceToNat, Int.reduceSub, Int.reduceNeg, Int.cast_ofNat_Int]
      refine hK _ _ _ _ ?_
      refine rz_blk' [(.lload_n 2, 1, 0, 0), (.lload_n 2, 1, 0, 0), (.bipush 32, 2, 0, 0), (.lushr, 1, 0, 0), (.lxor, 1, 0, 0), (.lstore_n 2, 1, 0, 0)] (by decide +kernel) (Nat.le_refl _) (Nat.le_refl _) (fun K R hK hR => ?_)
      simp only [rw_b32, ↓rx_bipush, ↓rx_lload_n2, ↓rx_lstore_n2, ↓rx_lushr, ↓rx_lxor, ↓rx_nil, ↓ry_l1, ↓ry_l2, ↓ry_li, ↓ry_ll0s, ↓ry_ll0z, rz_set, rz_nol, rz_clr, List.set_cons_zero, List.set_cons_succ, rz_tr, Nat.reduceAdd, Int.reduceAdd, Int.reduceToNat, Int.reduceSub, Int.reduceNeg, Int.cast_ofNat_Int]
      refine hK _ _ _ _ ?_
      refine rz_blk' [(.iinc 4 1, 3, 0, 0), (.goto (-30), 3, 0, 0)] (by decide +kernel) (Nat.le_refl _) (Nat.le_refl _) (fun K R hK hR => ?_)
      simp only [rw_c1, ↓rx_goto, ↓rx_iinc, ↓rx_nil, ↓ry_li0s, ↓ry_li0z, rz_set, rz_nol, rz_clr, List.set_cons_zero, List.set_cons_succ, rz_tr, Nat.reduceAdd, Int.reduceAdd, Int.reduceToNat, Int.reduceSub, Int.reduceNeg, Int.cast_ofNat_Int]
      rw [nI_add]
      have := ih (i + 1) (by omega) (by omega)
      have em : rw_mix (rw_l g (i + 1)) = rw_mx (rw_mix (rw_l g i)) (g i) := by simp [rw_mix, rw_l, List.range_succ]
      rw [em] at this
      exact hK _ _ _ _ this
set_option maxRecDepth 100000 in
set_option maxHeartbeats 4000000 in
/-- slotOf(row) -/
theorem c_Rows_slotOf {w : rz_w} {d : Nat} {G : rz_G} {r wd mo e n p m : Nat} {sl : Nat → Int32} {g : Nat → Int64} (h1 : G r = some (.inr (1, [.ref (r + 1), .int (nI wd), .int (nI mo), .ref (r + 2), .int (nI n)]))) (h2 : G (r + 2) = some (.inl (0, 2 ^ e, .inl sl))) (he : e ≤ 16) (hwd : wd ≤ 100) (hp : G p = some (.inl (1, m, .inr (.inl g)))) (hm : wd ≤ m) (hm2 : m < 2 ^ 31) : rz_C w d 0 0 y_Rows_slotOf m_Rows_slotOf [.ref r, .ref p] G (fun q G' => q = some (.int (nI (rw_h e (rw_l g wd)))) ∧ G' = G) := by
  refine rz_enter' [some (.ref r), some (.ref p), none, none, none] (by decide +kernel) rfl rfl (Nat.le_of_ble_eq_true rfl) rfl ?_
  refine rz_blk' [(.lconst 0, 1, 0, 0), (.lstore_n 2, 1, 0, 0)] (by decide +kernel) (Nat.le_refl _) (Nat.le_refl _) (fun K R hK hR => ?_)
  simp only [↓rx_lconst0, ↓rx_lstore_n2, ↓rx_nil, ↓ry_l1, rz_set, rz_nol, rz_clr, List.set_cons_zero, List.set_cons_succ, rz_tr, Nat.reduceAdd, Int.reduceAdd, Int.reduceToNat, Int.reduceSub, Int.reduceNeg, Int.cast_ofNat_Int]
  refine hK _ _ _ _ ?_
  refine rz_blk' [(.iconst 0, 1, 0, 0), (.istore 4, 2, 0, 0)] (by decide +kernel) (Nat.le_refl _) (Nat.le_refl _) (fun K R hK hR => ?_)
  simp only [rw_c0, ↓rx_iconst, ↓rx_istore, ↓rx_nil, ↓ry_i1, rz_set, rz_nol, rz_clr, List.set_cons_zero, List.set_cons_succ, rz_tr, Nat.reduceAdd, Int.reduceAdd, Int.reduceToNat, Int.reduceSub, Int.reduceNeg, Int.cast_ofNat_Int]
  exact hK _ _ _ _ (rw_slot_l h1 h2 he hwd hp hm hm2 ⟨rfl, rfl⟩ (wd + 1) 0 (by omega) (by omega))

set_option maxRecDepth 100000 in
set_option maxHeartbeats 4000000 in
theorem rw_isRow_l {w : rz_w} {d : Nat} {G : rz_G} {r wd mo n p m i0 : Nat} {f g : Nat → Int64} (h1 : G r = some (.inr (1, [.ref (r + 1), .int (nI wd), .int (nI mo), .ref (r + 2), .int (nI n)]))) (h2 : G (r + 1) = some (.inl (1, mo * wd, .inr (.inl f)))) (hmw : mo * wd < 2 ^ 31) (hi0 : i0 * wd + wd ≤ mo * wd) (hp : G p = some (.inl (1, m, .inr (.inl g)))) (hm : wd ≤ m) (hm2 : m < 2 ^ 31) {Q : Option Value → rz_G → Prop} (hQ : Q (some (.int (if rw_l (fun k => f (i0 * wd + k)) wd = rw_l g wd then 1 else 0))) G) :
    ∀ (n i : Nat), wd + 1 ≤ i + n → i ≤ wd → (∀ k, k < i → f (i0 * wd + k) = g k) → rz_T w d 0 0 m_Rows_isRow 0 0 10 [some (.ref r), some (.int (nI i0)), some (.ref p), some (.int (nI (i0 * wd))), some (.int (nI i))] [] G Q := by
  intro n
  induction n with
  | zero => intro i h2 h3; omega
  | succ n ih =>
    intro i hn hi hf
    refine rz_blk' [(.iload 4, 2, 0, 0), (.aload_n 0, 1, 0, 0), (.getfield 13, 3, 1, 1), (.if_icmp .ge 28, 3, 0, 0), (.aload_n 0, 1, 0, 0), (.getfield 16, 3, 1, 0), (.iload_n 3, 1, 0, 0), (.iload 4, 2, 0, 0), (.iadd, 1, 0, 0), (.laload, 1, 0, 0), (.aload_n 2, 1, 0, 0), (.iload 4, 2, 0, 0), (.laload, 1, 0, 0), (.lcmp, 1, 0, 0), (.ifCond .eq 5, 3, 0, 0), (.iconst 0, 1, 0, 0), (.ireturn, 1, 0, 0)] (by decide +kernel) (Nat.le_refl _) (Nat.le_refl _) (fun K R hK hR => ?_)
    simp only [rw_c0, ↓rx_aload_n0, ↓rx_aload_n2, ↓rx_getfield, ↓rx_iadd, ↓rx_iconst, ↓rx_ifCond_eq, ↓rx_if_icmp_ge, ↓rx_iload, ↓rx_iload_n3, ↓rx_ireturn, ↓rx_laload, ↓rx_lcmp, ↓rx_nil, ↓ry_fvs, ↓ry_fvz, ↓ry_i1, ↓ry_i2, ↓ry_l2, ↓ry_lau, ↓ry_li0s, ↓ry_li0z, ↓ry_lr0s, ↓ry_lr0z, ↓ry_obu, ↓ry_r1, ↓ry_ri, ↓rh_ob h1, ↓rh_la h2, ↓rh_la hp, nI_add, rw_cmp0, rz_set, rz_nol, rz_clr, List.set_cons_zero, List.set_cons_succ, rz_tr, Nat.reduceAdd, Int.reduceAdd, Int.reduceToNat, Int.reduceSub, Int.reduceNeg, Int.cast_ofNat_Int]
    refine ⟨fun c1 => hK _ _ _ _ ?_, fun c1 => ?_⟩
    · rw [nI_leI (by omega) (by omega)] at c1
      refine rz_blk' [(.iconst 1, 1, 0, 0), (.ireturn, 1, 0, 0)] (by decide +kernel) (Nat.le_refl _) (Nat.le_refl _) (fun K R hK hR => ?_)
      simp only [rw_c1, ↓rx_iconst, ↓rx_ireturn, ↓rx_nil, rz_set, rz_nol, rz_clr, List.set_cons_zero, List.set_cons_succ, rz_tr, Nat.reduceAdd, Int.reduceAdd, Int.reduceToNat, Int.reduceSub, Int.reduceNeg, Int.cast_ofNat_Int]
      rw [if_pos (rw_l_eq.mpr (fun k hk => hf k (by omega)))] at hQ
      exact hR _ _ rz_nb_1 hQ
    · rw [nI_leI (by omega) (by omega)] at c1
      rw [nI_clamp (by omega), nI_clamp (by omega)]
      refine ⟨vp_in_nI (by omega) (by omega), vp_in_nI (by omega) (by omega), fun c2 => hK _ _ _ _ ?_, fun c2 => ?_⟩
      ·
        refine rz_blk' [(.iinc 4 1, 3, 0, 0), (.goto (-31), 3, 0, 0)] (by decide +kernel) (Nat.le_refl _) (Nat.le_refl _) (fun K R hK hR => ?_)
        simp only [rw_c1, ↓rx_goto, ↓rx_iinc, ↓rx_nil, ↓ry_li0s, ↓ry_li0z, rz_set, rz_nol, rz_clr, List.set_cons_zero, List.set_cons_succ, rz_tr, Nat.reduceAdd, Int.reduceAdd, Int.reduceToNat, Int.reduceSub, Int.reduceNeg, Int.cast_ofNat_Int]
        rw [nI_add]
        refine hK _ _ _ _ (ih (i + 1) (by omega) (by omega) (fun k hk => ?_))
        by_cases q : k = i
        · rw [q]; exact c2
        · exact hf k (by omega)
      · rw [if_neg (fun q => c2 (rw_l_eq.mp q i (by omega)))] at hQ
        exact hR _ _ rz_nb_0 hQ
set_option maxRecDepth 100000 in
set_option maxHeartbeats 4000000 in
/-- isRow(number, row) -/
theorem c_Rows_isRow {w : rz_w} {d : Nat} {G : rz_G} {r wd mo n p m i0 : Nat} {f g : Nat → Int64} (h1 : G r = some (.inr (1, [.ref (r + 1), .int (nI wd), .int (nI mo), .ref (r + 2), .int (nI n)]))) (h2 : G (r + 1) = some (.inl (1, mo * wd, .inr (.inl f)))) (hmw : mo * wd < 2 ^ 31) (hi0 : i0 * wd + wd ≤ mo * wd) (hp : G p = some (.inl (1, m, .inr (.inl g)))) (hm : wd ≤ m) (hm2 : m < 2 ^ 31) :
    rz_C w d 0 0 y_Rows_isRow m_Rows_isRow [.ref r, .int (nI i0), .ref p] G (fun q G' => q = some (.int (if rw_l (fun k => f (i0 * wd + k)) wd = rw_l g wd then 1 else 0)) ∧ G' = G) := by
  refine rz_enter' [some (.ref r), some (.int (nI i0)), some (.ref p), none, none] (by decide +kernel) rfl rfl (Nat.le_of_ble_eq_true rfl) rfl ?_
  refine rz_blk' [(.iload_n 1, 1, 0, 0), (.aload_n 0, 1, 0, 0), (.getfield 13, 3, 1, 1), (.imul, 1, 0, 0), (.istore_n 3, 1, 0, 0)] (by decide +kernel) (Nat.le_refl _) (Nat.le_refl _) (fun K R hK hR => ?_)
  simp only [↓rx_aload_n0, ↓rx_getfield, ↓rx_iload_n1, ↓rx_imul, ↓rx_istore_n3, ↓rx_nil, ↓ry_fvs, ↓ry_fvz, ↓ry_i1, ↓ry_i2, ↓ry_li0s, ↓ry_li0z, ↓ry_lr0s, ↓ry_lr0z, ↓ry_obu, ↓ry_r1, ↓rh_ob h1, pk_mul, rz_set, rz_nol, rz_clr, List.set_cons_zero, List.set_cons_succ, rz_tr, Nat.reduceAdd, Int.reduceAdd, Int.reduceToNat, Int.reduceSub, Int.reduceNeg, Int.cast_ofNat_Int]
  refine hK _ _ _ _ ?_
  refine rz_blk' [(.iconst 0, 1, 0, 0), (.istore 4, 2, 0, 0)] (by decide +kernel) (Nat.le_refl _) (Nat.le_refl _) (fun K R hK hR => ?_)
  simp only [rw_c0, ↓rx_iconst, ↓rx_istore, ↓rx_nil, ↓ry_i1, rz_set, rz_nol, rz_clr, List.set_cons_zero, List.set_cons_succ, rz_tr, Nat.reduceAdd, Int.reduceAdd, Int.reduceToNat, Int.reduceSub, Int.reduceNeg, Int.cast_ofNat_Int]
  exact hK _ _ _ _ (rw_isRow_l h1 h2 hmw hi0 hp hm hm2 ⟨rfl, rfl⟩ (wd + 1) 0 (by omega) (by omega) (fun k hk => by omega))

set_option maxRecDepth 100000 in
set_option maxHeartbeats 4000000 in
/-- addNew(row, slot): false when full -/
theorem c_Rows_addNew {w : rz_w} {d : Nat} {G : rz_G} {r wd mo e n p m s : Nat} {f g : Nat → Int64} {sl : Nat → Int32} (h1 : G r = some (.inr (1, [.ref (r + 1), .int (nI wd), .int (nI mo), .ref (r + 2), .int (nI n)]))) (h2 : G (r + 1) = some (.inl (1, mo * wd, .inr (.inl f)))) (h3 : G (r + 2) = some (.inl (0, 2 ^ e, .inl sl))) (he : e ≤ 16) (hs : s < 2 ^ e) (hmw : mo * wd < 2 ^ 31) (hwd : wd ≤ 100) (hmo : mo < 65536) (hn : n ≤ mo) (hp : G p = some (.inl (1, m, .inr (.inl g)))) (hm : wd ≤ m) (hpr : p ≠ r + 1) :
    rz_C w (d + 1) 0 0 y_Rows_addNew m_Rows_addNew [.ref r, .ref p, .int (nI s)] G (fun q G' => (n = mo ∧ q = some (.int 0) ∧ G' = G) ∨ (n < mo ∧ q = some (.int 1) ∧ G' = rz_up (rz_up (rz_up G (r + 1) (.inl (1, mo * wd, .inr (.inl (va_cpy g f 0 (n * wd) wd))))) r (.inr (1, [.ref (r + 1), .int (nI wd), .int (nI mo), .ref (r + 2), .int (nI (n + 1))]))) (r + 2) (.inl (0, 2 ^ e, .inl (upd sl s (nI (n + 1))))))) := by
  have hp16 := rw_p16 he
  refine rz_enter' [some (.ref r), some (.ref p), some (.int (nI s))] (by decide +kernel) rfl rfl (Nat.le_of_ble_eq_true rfl) rfl ?_
  refine rz_blk' [(.aload_n 0, 1, 0, 0), (.getfield 24, 3, 1, 4), (.aload_n 0, 1, 0, 0), (.getfield 7, 3, 1, 2), (.if_icmp .lt 5, 3, 0, 0), (.iconst 0, 1, 0, 0), (.ireturn, 1, 0, 0)] (by decide +kernel) (Nat.le_refl _) (Nat.le_refl _) (fun K R hK hR => ?_)
  simp only [rw_c0, ↓rx_aload_n0, ↓rx_getfield, ↓rx_iconst, ↓rx_if_icmp_lt, ↓rx_ireturn, ↓rx_nil, ↓ry_fvs, ↓ry_fvz, ↓ry_i2, ↓ry_lr0s, ↓ry_lr0z, ↓ry_obu, ↓ry_r1, ↓rh_ob h1, rz_set, rz_nol, rz_clr, List.set_cons_zero, List.set_cons_succ, rz_tr, Nat.reduceAdd, Int.reduceAdd, Int.reduceToNat, Int.reduceSub, Int.reduceNeg, Int.cast_ofNat_Int]
  refine ⟨fun c1 => hK _ _ _ _ ?_, fun c1 => ?_⟩
  · rw [nI_ltI (by omega) (by omega)] at c1
    have hnw : n * wd + wd ≤ mo * wd := by
      have := Nat.mul_le_mul_right wd (show n + 1 ≤ mo from c1)
      rw [Nat.add_mul, Nat.one_mul] at this
      exact this
    refine rz_blk' [(.aload_n 1, 1, 0, 0), (.iconst 0, 1, 0, 0), (.aload_n 0, 1, 0, 0), (.getfield 16, 3, 1, 0), (.aload_n 0, 1, 0, 0), (.getfield 24, 3, 1, 4), (.aload_n 0, 1, 0, 0), (.getfield 13, 3, 1, 1), (.imul, 1, 0, 0), (.aload_n 0, 1, 0, 0), (.getfield 13, 3, 1, 1)] (by decide +kernel) (Nat.le_refl _) (Nat.le_refl _) (fun K R hK hR => ?_)
    simp only [rw_c0, ↓rx_aload_n0, ↓rx_aload_n1, ↓rx_getfield, ↓rx_iconst, ↓rx_imul, ↓rx_nil, ↓ry_fvs, ↓ry_fvz, ↓ry_i2, ↓ry_lr0s, ↓ry_lr0z, ↓ry_obu, ↓ry_r1, ↓rh_ob h1, pk_mul, rz_set, rz_nol, rz_clr, List.set_cons_zero, List.set_cons_succ, rz_tr, Nat.reduceAdd, Int.reduceAdd, Int.reduceToNat, Int.reduceSub, Int.reduceNeg, Int.cast_ofNat_Int]
    refine hK _ _ _ _ (rz_copyl (rz_j3 216 rfl rfl) (rz_j3 218 rfl rfl) (rz_j3 217 rfl rfl) (rz_j1 20 rfl rfl) hp h2 ⟨by decide, by omega, by omega⟩ (by omega) hnw (Nat.le_of_ble_eq_true rfl) (by decide +kernel) ?_)
    generalize hG1 : rz_up G (r + 1) _ = G1
    have q1 : G1 r = some (.inr (1, [.ref (r + 1), .int (nI wd), .int (nI mo), .ref (r + 2), .int (nI n)])) := by rw [← hG1, rz_up_n _ _ (by omega)]; exact h1
    refine rz_blk' [(.aload_n 0, 1, 0, 0), (.dup, 1, 0, 0), (.getfield 24, 3, 1, 4), (.iconst 1, 1, 0, 0), (.iadd, 1, 0, 0), (.putfield 24, 3, 1, 4)] (by decide +kernel) (Nat.le_refl _) (Nat.le_refl _) (fun K R hK hR => ?_)
    simp only [List.length_cons, List.length_nil, Nat.reduceLT, rf_1_4, rw_c1, ↓rx_aload_n0, ↓rx_dup, ↓rx_getfield, ↓rx_iadd, ↓rx_iconst, ↓rx_nil, ↓rx_putfield, ↓ry_fvs, ↓ry_fvz, ↓ry_i2, ↓ry_lr0s, ↓ry_lr0z, ↓ry_obu, ↓ry_r1, ↓ry_v1i, ↓ry_v1r, ↓ry_vr, true_and, ↓rh_ob q1, nI_add, rz_set, rz_nol, rz_clr, List.set_cons_zero, List.set_cons_succ, rz_tr, Nat.reduceAdd, Int.reduceAdd, Int.reduceToNat, Int.reduceSub, Int.reduceNeg, Int.cast_ofNat_Int]
    refine hK _ _ _ _ ?_
    generalize hG2 : rz_up G1 r _ = G2
    have r1 : G2 r = some (.inr (1, [.ref (r + 1), .int (nI wd), .int (nI mo), .ref (r + 2), .int (nI (n + 1))])) := by rw [← hG2, rz_up_s]
    have r2 : G2 (r + 2) = some (.inl (0, 2 ^ e, .inl sl)) := by rw [← hG2, rz_up_n _ _ (by omega), ← hG1, rz_up_n _ _ (by omega)]; exact h3
    refine rz_blk' [(.aload_n 0, 1, 0, 0), (.getfield 20, 3, 1, 3), (.iload_n 2, 1, 0, 0), (.aload_n 0, 1, 0, 0), (.getfield 24, 3, 1, 4), (.iastore, 1, 0, 0), (.iconst 1, 1, 0, 0), (.ireturn, 1, 0, 0)] (by decide +kernel) (Nat.le_refl _) (Nat.le_refl _) (fun K R hK hR => ?_)
    simp only [rw_c1, ↓rx_aload_n0, ↓rx_getfield, ↓rx_iastore, ↓rx_iconst, ↓rx_iload_n2, ↓rx_ireturn, ↓rx_nil, ↓ry_fvs, ↓ry_fvz, ↓ry_iau, ↓ry_li0s, ↓ry_li0z, ↓ry_lr0s, ↓ry_lr0z, ↓ry_obu, ↓ry_r1, ↓ry_rii, true_and, ↓rh_ob r1, ↓rh_ia r2, rz_set, rz_nol, rz_clr, List.set_cons_zero, List.set_cons_succ, rz_tr, Nat.reduceAdd, Int.reduceAdd, Int.reduceToNat, Int.reduceSub, Int.reduceNeg, Int.cast_ofNat_Int]
    rw [nI_clamp (by omega)]
    refine ⟨vp_in_nI hs (by omega), hR _ _ rz_nb_1 (Or.inr ⟨c1, rfl, ?_⟩)⟩
    rw [← hG2, ← hG1]
  · rw [nI_ltI (by omega) (by omega)] at c1
    exact hR _ _ rz_nb_0 (Or.inl ⟨by omega, rfl, rfl⟩)

theorem rw_ok_nil (e : Nat) (sl : Nat → Int32) (h : ∀ s, s < 2 ^ e → sl s = nI 0) : rw_ok e sl [] := by
  refine ⟨fun s hs => ⟨0, by simp, h s hs⟩, fun i hi => by simp at hi, ?_⟩
  have : (List.range (2 ^ e)).countP (fun s => decide (sl s = nI 0)) = (List.range (2 ^ e)).length := by
    rw [List.countP_eq_length]
    intro s hs
    exact decide_eq_true (h s (List.mem_range.mp hs))
  rw [this]; simp
set_option maxRecDepth 100000 in
set_option maxHeartbeats 4000000 in
/-- clear(): no rows -/
theorem c_Rows_clear {w : rz_w} {d : Nat} {G : rz_G} {r wd mo e : Nat} {rs : List (List Int64)} (h : rw_is G r wd mo e rs) : rz_C w (d + 1) 0 0 y_Rows_clear m_Rows_clear [.ref r] G (fun q G' => q = none ∧ rw_is G' r wd mo e [] ∧ rw_fr r G G') := by
  obtain ⟨f, sl, h1, h2, h3, h4, h5, h6, h7, h8, h9, h10⟩ := h
  have hp16 := rw_p16 h8
  refine rz_enter' [some (.ref r)] (by decide +kernel) rfl rfl (Nat.le_of_ble_eq_true rfl) rfl ?_
  refine rz_blk' [(.aload_n 0, 1, 0, 0), (.getfield 20, 3, 1, 3), (.iconst 0, 1, 0, 0)] (by decide +kernel) (Nat.le_refl _) (Nat.le_refl _) (fun K R hK hR => ?_)
  simp only [rw_c0, ↓rx_aload_n0, ↓rx_getfield, ↓rx_iconst, ↓rx_nil, ↓ry_fvs, ↓ry_fvz, ↓ry_lr0s, ↓ry_lr0z, ↓ry_obu, ↓ry_r1, ↓rh_ob h1, rz_set, rz_nol, rz_clr, List.set_cons_zero, List.set_cons_succ, rz_tr, Nat.reduceAdd, Int.reduceAdd, Int.reduceToNat, Int.reduceSub, Int.reduceNeg, Int.cast_ofNat_Int]
  refine hK _ _ _ _ ?_
  refine rz_cS (As := [.ref (r + 2), .int (nI 0)]) (S := []) l_Rows_27 (by decide +kernel) rfl (Nat.le_of_ble_eq_true rfl) (Nat.le_refl _) (Nat.le_refl _) (c_Arr_fill h3 (by omega)) (fun r G' hq => ?_)
  obtain ⟨rfl, rfl⟩ := hq
  simp only [Option.toList, List.nil_append]
  generalize hG1 : rz_up G (r + 2) _ = G1
  have q1 : G1 r = some (.inr (1, [.ref (r + 1), .int (nI wd), .int (nI mo), .ref (r + 2), .int (nI rs.length)])) := by rw [← hG1, rz_up_n _ _ (by omega)]; exact h1
  refine rz_blk' [(.aload_n 0, 1, 0, 0), (.iconst 0, 1, 0, 0), (.putfield 24, 3, 1, 4), (.return_, 1, 0, 0)] (by decide +kernel) (Nat.le_refl _) (Nat.le_refl _) (fun K R hK hR => ?_)
  simp only [List.length_cons, List.length_nil, Nat.reduceLT, rf_1_4, rw_c0, ↓rx_aload_n0, ↓rx_iconst, ↓rx_nil, ↓rx_putfield, ↓rx_return_, ↓ry_lr0s, ↓ry_lr0z, ↓ry_obu, ↓ry_vr, true_and, ↓rh_ob q1, rz_set, rz_nol, rz_clr, List.set_cons_zero, List.set_cons_succ, rz_tr, Nat.reduceAdd, Int.reduceAdd, Int.reduceToNat, Int.reduceSub, Int.reduceNeg, Int.cast_ofNat_Int]
  refine hR _ _ (rz_nb_i (by decide)) ⟨rfl, ⟨f, _, by rw [rz_up_s]; rfl, by rw [rz_up_n _ _ (by omega), ← hG1, rz_up_n _ _ (by omega)]; exact h2, by rw [rz_up_n _ _ (by omega), ← hG1, rz_up_s], fun i hi => by simp at hi, rw_ok_nil e _ (fun s hs => if_pos hs), by simp, h7, h8, h9, List.nodup_nil⟩, fun a n1 n2 n3 => ?_⟩
  rw [rz_up_n _ _ n1, ← hG1, rz_up_n _ _ n3]

