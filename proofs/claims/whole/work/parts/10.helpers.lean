/-! small methods: WriterDesk.has, isLetter, letterOf, holdsNoLetter; Arrays.fill; Integer.bitCount; Word.tell -/
section RLW
variable {w : rz_w} {d mc ms : Nat} {M : rz_M} {kc kn pc : Nat} {Lc : rz_L} {S : List Value} {G : rz_G} {Q : Option Value → rz_G → Prop}
theorem rz_ldcw {idx : Nat} {v : Int32} (hd : decode M.1 pc = .ok (.ldc_w idx, 3)) (hw : Cond.constant (rz_on M.2.2.2.1) idx v ∈ rz_tb) (k : rz_T w d mc ms M kc kn (pc + 3) Lc (.int v :: S) G Q) : rz_T w d mc ms M kc kn pc Lc S G Q := fun p l e s m args below meth c H locs ls hc hS hR hl => lv_ldcw hc.1 hc.2.1 hc.2.2.2.2.2.1 (hc.2.2.2.2.2.2.2.1 _ hw) hd (k p l e s m args below meth c H locs ls hc hS hR hl)
end RLW
theorem hp_su : ∀ n, n < 32 → (((nI n).toUInt32 &&& Int32.toUInt32 31).toBitVec % 32).toNat = n := by decide +kernel
/-- an unsigned shift of any int, as numbers -/
theorem hp_ushr (x : Int32) {k : Nat} (hk : k < 32) : (x.toUInt32 >>> ((nI k).toUInt32 &&& Int32.toUInt32 31)).toInt32 = nI (x.toBitVec.toNat / 2 ^ k) := by
  apply Int32.toBitVec_inj.mp
  apply BitVec.eq_of_toNat_eq
  rw [pk_ushr x (nI k) k (hp_su k hk), pk_tn (Nat.lt_of_le_of_lt (Nat.div_le_self _ _) x.toBitVec.isLt)]
theorem hp_bN {n : Nat} (h : n < 2 ^ 31) : (nI n).toBitVec.toNat = n := pk_tn (by omega)
theorem hp_and1 (n : Nat) (h : n < 2 ^ 32) : nI n &&& nI 1 = nI (n % 2) := pk_andN h 1 (by decide)
theorem hp_and3 (n : Nat) (h : n < 2 ^ 32) : nI n &&& nI 3 = nI (n % 4) := pk_andN h 2 (by decide)
theorem hp_z : (0 : Int32) = nI 0 := rfl
set_option maxRecDepth 100000 in
set_option maxHeartbeats 4000000 in
/-- has(set, state) -/
theorem c_Desk_has {w : rz_w} {d : Nat} {G : rz_G} {s q : Nat} (hs : s < 2 ^ 31) (hq : q < 32) : rz_C w d 0 0 y_Desk_has m_Desk_has [.int (nI s), .int (nI q)] G (fun r G' => r = some (.int (if s.testBit q then 1 else 0)) ∧ G' = G) := by
  refine rz_enter' [some (.int (nI s)), some (.int (nI q))] (by decide +kernel) rfl rfl (Nat.le_of_ble_eq_true rfl) rfl ?_
  have hb : (s.testBit q = true) ↔ s / 2 ^ q % 2 = 1 := by rw [Nat.testBit_eq_decide_div_mod_eq]; simp
  refine rz_blk' [(.iload_n 0, 1, 0, 0), (.iload_n 1, 1, 0, 0), (.iushr, 1, 0, 0), (.iconst 1, 1, 0, 0), (.iand, 1, 0, 0), (.ifCond .eq 7, 3, 0, 0), (.iconst 1, 1, 0, 0), (.goto 4, 3, 0, 0)] (by decide +kernel) (Nat.le_refl _) (Nat.le_refl _) (fun K R hK hR => ?_)
  simp only [rw_c1, ↓rx_goto, ↓rx_iand, ↓rx_iconst, ↓rx_ifCond_eq, ↓rx_iload_n0, ↓rx_iload_n1, ↓rx_iushr, ↓rx_nil, ↓ry_i1, ↓ry_i2, ↓ry_li0s, ↓ry_li0z, rz_set, rz_nol, rz_clr, List.set_cons_zero, List.set_cons_succ, rz_tr, Nat.reduceAdd, Int.reduceAdd, Int.reduceToNat, Int.reduceSub, Int.reduceNeg, Int.cast_ofNat_Int]
  rw [hp_ushr _ hq, hp_bN hs, hp_and1 _ (by have := Nat.div_le_self s (2 ^ q); omega), hp_z, nI_eq (by omega) (by omega)]
  refine ⟨fun c1 => hK _ _ _ _ ?_, fun c1 => hK _ _ _ _ ?_⟩
  ·
    refine rz_blk' [(.iconst 0, 1, 0, 0), (.ireturn, 1, 0, 0)] (by decide +kernel) (Nat.le_refl _) (Nat.le_refl _) (fun K R hK hR => ?_)
    simp only [rw_c0, ↓rx_iconst, ↓rx_ireturn, ↓rx_nil, rz_set, rz_nol, rz_clr, List.set_cons_zero, List.set_cons_succ, rz_tr, Nat.reduceAdd, Int.reduceAdd, Int.reduceToNat, Int.reduceSub, Int.reduceNeg, Int.cast_ofNat_Int]
    exact hR _ _ rz_nb_0 ⟨by rw [if_neg (by rw [hb]; omega)]; rfl, rfl⟩
  ·
    refine rz_blk' [(.ireturn, 1, 0, 0)] (by decide +kernel) (Nat.le_refl _) (Nat.le_refl _) (fun K R hK hR => ?_)
    simp only [↓rx_ireturn, ↓rx_nil, rz_set, rz_nol, rz_clr, List.set_cons_zero, List.set_cons_succ, rz_tr, Nat.reduceAdd, Int.reduceAdd, Int.reduceToNat, Int.reduceSub, Int.reduceNeg, Int.cast_ofNat_Int]
    exact hR _ _ rz_nb_1 ⟨by rw [if_pos (by rw [hb]; omega)]; rfl, rfl⟩
set_option maxRecDepth 100000 in
set_option maxHeartbeats 4000000 in
/-- isLetter(letter), of any int -/
theorem c_Desk_isLetter {w : rz_w} {d : Nat} {G : rz_G} (x : Int32) : rz_C w d 0 0 y_Desk_isLetter m_Desk_isLetter [.int x] G (fun r G' => G' = G ∧ ((∃ k : Nat, k < 3 ∧ x = nI k ∧ r = some (.int 1)) ∨ ((∀ k : Nat, k < 3 → x ≠ nI k) ∧ r = some (.int 0)))) := by
  refine rz_enter' [some (.int x)] (by decide +kernel) rfl rfl (Nat.le_of_ble_eq_true rfl) rfl ?_
  refine rz_blk' [(.iload_n 0, 1, 0, 0), (.ifCond .lt 12, 3, 0, 0), (.iload_n 0, 1, 0, 0), (.iconst 3, 1, 0, 0), (.if_icmp .ge 7, 3, 0, 0), (.iconst 1, 1, 0, 0), (.goto 4, 3, 0, 0)] (by decide +kernel) (Nat.le_refl _) (Nat.le_refl _) (fun K R hK hR => ?_)
  simp only [rw_c1, rw_c3, ↓rx_goto, ↓rx_iconst, ↓rx_ifCond_lt, ↓rx_if_icmp_ge, ↓rx_iload_n0, ↓rx_nil, ↓ry_i1, ↓ry_i2, ↓ry_li0s, ↓ry_li0z, rz_set, rz_nol, rz_clr, List.set_cons_zero, List.set_cons_succ, rz_tr, Nat.reduceAdd, Int.reduceAdd, Int.reduceToNat, Int.reduceSub, Int.reduceNeg, Int.cast_ofNat_Int]
  refine ⟨fun c1 => hK _ _ _ _ ?_, fun c1 => ⟨fun c2 => hK _ _ _ _ ?_, fun c2 => hK _ _ _ _ ?_⟩⟩
  ·
    refine rz_blk' [(.iconst 0, 1, 0, 0), (.ireturn, 1, 0, 0)] (by decide +kernel) (Nat.le_refl _) (Nat.le_refl _) (fun K R hK hR => ?_)
    simp only [rw_c0, ↓rx_iconst, ↓rx_ireturn, ↓rx_nil, rz_set, rz_nol, rz_clr, List.set_cons_zero, List.set_cons_succ, rz_tr, Nat.reduceAdd, Int.reduceAdd, Int.reduceToNat, Int.reduceSub, Int.reduceNeg, Int.cast_ofNat_Int]
    exact hR _ _ rz_nb_0 ⟨rfl, Or.inr ⟨fun k hk q => nI_pos (by omega) (q ▸ c1), rfl⟩⟩
  ·
    refine rz_blk' [(.iconst 0, 1, 0, 0), (.ireturn, 1, 0, 0)] (by decide +kernel) (Nat.le_refl _) (Nat.le_refl _) (fun K R hK hR => ?_)
    simp only [rw_c0, ↓rx_iconst, ↓rx_ireturn, ↓rx_nil, rz_set, rz_nol, rz_clr, List.set_cons_zero, List.set_cons_succ, rz_tr, Nat.reduceAdd, Int.reduceAdd, Int.reduceToNat, Int.reduceSub, Int.reduceNeg, Int.cast_ofNat_Int]
    refine hR _ _ rz_nb_0 ⟨rfl, Or.inr ⟨fun k hk q => ?_, rfl⟩⟩
    rw [q, nI_leI (by omega) (by omega)] at c2
    omega
  ·
    refine rz_blk' [(.ireturn, 1, 0, 0)] (by decide +kernel) (Nat.le_refl _) (Nat.le_refl _) (fun K R hK hR => ?_)
    simp only [↓rx_ireturn, ↓rx_nil, rz_set, rz_nol, rz_clr, List.set_cons_zero, List.set_cons_succ, rz_tr, Nat.reduceAdd, Int.reduceAdd, Int.reduceToNat, Int.reduceSub, Int.reduceNeg, Int.cast_ofNat_Int]
    rcases pk_ix x (n := 3) (by omega) with q | q | ⟨j, hj, q⟩
    · exact absurd q c1
    · exact absurd q c2
    · exact hR _ _ rz_nb_1 ⟨rfl, Or.inl ⟨j, hj, q, rfl⟩⟩
def dk_let (b k : Nat) : Nat := b / 2 ^ (2 * k) % 4
set_option maxRecDepth 100000 in
set_option maxHeartbeats 4000000 in
/-- letterOf(word, i) -/
theorem c_Desk_letterOf {w : rz_w} {d : Nat} {G : rz_G} (x : Int32) {k : Nat} (hk : k < 16) : rz_C w d 0 0 y_Desk_letterOf m_Desk_letterOf [.int x, .int (nI k)] G (fun r G' => r = some (.int (nI (dk_let x.toBitVec.toNat k))) ∧ G' = G) := by
  refine rz_enter' [some (.int x), some (.int (nI k))] (by decide +kernel) rfl rfl (Nat.le_of_ble_eq_true rfl) rfl ?_
  refine rz_blk' [(.iload_n 0, 1, 0, 0), (.iconst 2, 1, 0, 0), (.iload_n 1, 1, 0, 0), (.imul, 1, 0, 0), (.iushr, 1, 0, 0), (.iconst 3, 1, 0, 0), (.iand, 1, 0, 0), (.ireturn, 1, 0, 0)] (by decide +kernel) (Nat.le_refl _) (Nat.le_refl _) (fun K R hK hR => ?_)
  simp only [rw_c2, rw_c3, ↓rx_iand, ↓rx_iconst, ↓rx_iload_n0, ↓rx_iload_n1, ↓rx_imul, ↓rx_ireturn, ↓rx_iushr, ↓rx_nil, ↓ry_i2, ↓ry_li0s, ↓ry_li0z, rz_set, rz_nol, rz_clr, List.set_cons_zero, List.set_cons_succ, rz_tr, Nat.reduceAdd, Int.reduceAdd, Int.reduceToNat, Int.reduceSub, Int.reduceNeg, Int.cast_ofNat_Int]
  rw [pk_mul, hp_ushr _ (by omega), hp_and3 _ (Nat.lt_of_le_of_lt (Nat.div_le_self _ _) x.toBitVec.isLt)]
  exact hR _ _ (rz_nb_i (by decide)) ⟨rfl, rfl⟩
set_option maxRecDepth 100000 in
set_option maxHeartbeats 4000000 in
theorem hp_hnl_l {w : rz_w} {d : Nat} {G : rz_G} (x : Int32) {n0 : Nat} (hn0 : n0 ≤ 15) {Q : Option Value → rz_G → Prop} (hQ1 : (∃ i, i < n0 ∧ dk_let x.toBitVec.toNat i = 3) → Q (some (.int 1)) G) (hQ0 : (∀ i, i < n0 → dk_let x.toBitVec.toNat i ≠ 3) → Q (some (.int 0)) G) :
    ∀ (n i : Nat), n0 + 1 ≤ i + n → i ≤ n0 → (∀ j, j < i → dk_let x.toBitVec.toNat j ≠ 3) → rz_T w (d + 1) 0 0 m_Desk_holdsNoLetter 0 0 2 [some (.int (nI n0)), some (.int x), some (.int (nI i))] [] G Q := by
  intro n
  induction n with
  | zero => intro i h2 h3; omega
  | succ n ih =>
    intro i hn hi hf
    refine rz_blk' [(.iload_n 2, 1, 0, 0), (.iload_n 0, 1, 0, 0), (.if_icmp .ge 22, 3, 0, 0), (.iload_n 1, 1, 0, 0), (.iload_n 2, 1, 0, 0)] (by decide +kernel) (Nat.le_refl _) (Nat.le_refl _) (fun K R hK hR => ?_)
    simp only [↓rx_if_icmp_ge, ↓rx_iload_n0, ↓rx_iload_n1, ↓rx_iload_n2, ↓rx_nil, ↓ry_i2, ↓ry_li0s, ↓ry_li0z, rz_set, rz_nol, rz_clr, List.set_cons_zero, List.set_cons_succ, rz_tr, Nat.reduceAdd, Int.reduceAdd, Int.reduceToNat, Int.reduceSub, Int.reduceNeg, Int.cast_ofNat_Int]
    refine ⟨fun c1 => hK _ _ _ _ ?_, fun c1 => hK _ _ _ _ ?_⟩
    · rw [nI_leI (by omega) (by omega)] at c1
      refine rz_blk' [(.iconst 0, 1, 0, 0), (.ireturn, 1, 0, 0)] (by decide +kernel) (Nat.le_refl _) (Nat.le_refl _) (fun K R hK hR => ?_)
      simp only [rw_c0, ↓rx_iconst, ↓rx_ireturn, ↓rx_nil, rz_set, rz_nol, rz_clr, List.set_cons_zero, List.set_cons_succ, rz_tr, Nat.reduceAdd, Int.reduceAdd, Int.reduceToNat, Int.reduceSub, Int.reduceNeg, Int.cast_ofNat_Int]
      exact hR _ _ rz_nb_0 (hQ0 (fun j hj => hf j (by omega)))
    · rw [nI_leI (by omega) (by omega)] at c1
      refine rz_cS (As := [.int x, .int (nI i)]) (S := []) l_Desk_221 (by decide +kernel) rfl (Nat.le_of_ble_eq_true rfl) (Nat.le_refl _) (Nat.le_refl _) (c_Desk_letterOf x (by omega)) (fun r G' hq => ?_)
      obtain ⟨rfl, hg⟩ := hq
      have hg := hg.symm
      subst hg
      simp only [Option.toList, List.cons_append, List.nil_append]
      refine rz_cS (As := [.int (nI (dk_let x.toBitVec.toNat i))]) (S := []) l_Desk_87 (by decide +kernel) rfl (Nat.le_of_ble_eq_true rfl) (Nat.le_refl _) (Nat.le_refl _) (c_Desk_isLetter _) (fun r G' hq => ?_)
      obtain ⟨hg, hq⟩ := hq
      have hg := hg.symm
      subst hg
      have h4 : dk_let x.toBitVec.toNat i < 4 := Nat.mod_lt _ (by decide)
      rcases hq with ⟨k, hk, e, rfl⟩ | ⟨e, rfl⟩
      · simp only [Option.toList, List.cons_append, List.nil_append]
        rw [nI_eq (by omega) (by omega)] at e
        refine rz_blk' [(.ifCond .ne 5, 3, 0, 0), (.iconst 1, 1, 0, 0), (.ireturn, 1, 0, 0)] (by decide +kernel) (Nat.le_refl _) (Nat.le_refl _) (fun K R hK hR => ?_)
        simp only [rw_c1, ↓rx_iconst, ↓rx_ifCond_ne, ↓rx_ireturn, ↓rx_nil, ↓ry_i1, rz_set, rz_nol, rz_clr, List.set_cons_zero, List.set_cons_succ, rz_tr, Nat.reduceAdd, Int.reduceAdd, Int.reduceToNat, Int.reduceSub, Int.reduceNeg, Int.cast_ofNat_Int]
        refine ⟨fun c2 => hK _ _ _ _ ?_, fun c2 => absurd c2 (by decide)⟩
        refine rz_blk' [(.iinc 2 1, 3, 0, 0), (.goto (-21), 3, 0, 0)] (by decide +kernel) (Nat.le_refl _) (Nat.le_refl _) (fun K R hK hR => ?_)
        simp only [rw_c1, ↓rx_goto, ↓rx_iinc, ↓rx_nil, ↓ry_li0s, ↓ry_li0z, rz_set, rz_nol, rz_clr, List.set_cons_zero, List.set_cons_succ, rz_tr, Nat.reduceAdd, Int.reduceAdd, Int.reduceToNat, Int.reduceSub, Int.reduceNeg, Int.cast_ofNat_Int]
        rw [nI_add]
        refine hK _ _ _ _ (ih (i + 1) (by omega) (by omega) (fun j hj => ?_))
        by_cases q : j = i
        · rw [q]; omega
        · exact hf j (by omega)
      · simp only [Option.toList, List.cons_append, List.nil_append]
        refine rz_blk' [(.ifCond .ne 5, 3, 0, 0), (.iconst 1, 1, 0, 0), (.ireturn, 1, 0, 0)] (by decide +kernel) (Nat.le_refl _) (Nat.le_refl _) (fun K R hK hR => ?_)
        simp only [rw_c1, ↓rx_iconst, ↓rx_ifCond_ne, ↓rx_ireturn, ↓rx_nil, ↓ry_i1, rz_set, rz_nol, rz_clr, List.set_cons_zero, List.set_cons_succ, rz_tr, Nat.reduceAdd, Int.reduceAdd, Int.reduceToNat, Int.reduceSub, Int.reduceNeg, Int.cast_ofNat_Int]
        refine ⟨fun c2 => absurd trivial c2, fun c2 => hR _ _ rz_nb_1 (hQ1 ⟨i, by omega, ?_⟩)⟩
        have := e (dk_let x.toBitVec.toNat i)
        by_cases q : dk_let x.toBitVec.toNat i < 3
        · exact absurd rfl (this q)
        · omega
set_option maxRecDepth 100000 in
set_option maxHeartbeats 4000000 in
/-- holdsNoLetter(n, word) -/
theorem c_Desk_holdsNoLetter {w : rz_w} {d : Nat} {G : rz_G} (x : Int32) {n0 : Nat} (hn0 : n0 ≤ 15) : rz_C w (d + 1) 0 0 y_Desk_holdsNoLetter m_Desk_holdsNoLetter [.int (nI n0), .int x] G (fun r G' => G' = G ∧ (((∃ i, i < n0 ∧ dk_let x.toBitVec.toNat i = 3) ∧ r = some (.int 1)) ∨ ((∀ i, i < n0 → dk_let x.toBitVec.toNat i ≠ 3) ∧ r = some (.int 0)))) := by
  refine rz_enter' [some (.int (nI n0)), some (.int x), none] (by decide +kernel) rfl rfl (Nat.le_of_ble_eq_true rfl) rfl ?_
  refine rz_blk' [(.iconst 0, 1, 0, 0), (.istore_n 2, 1, 0, 0)] (by decide +kernel) (Nat.le_refl _) (Nat.le_refl _) (fun K R hK hR => ?_)
  simp only [rw_c0, ↓rx_iconst, ↓rx_istore_n2, ↓rx_nil, ↓ry_i1, rz_set, rz_nol, rz_clr, List.set_cons_zero, List.set_cons_succ, rz_tr, Nat.reduceAdd, Int.reduceAdd, Int.reduceToNat, Int.reduceSub, Int.reduceNeg, Int.cast_ofNat_Int]
  exact hK _ _ _ _ (hp_hnl_l x hn0 (fun h => ⟨rfl, Or.inl ⟨h, rfl⟩⟩) (fun h => ⟨rfl, Or.inr ⟨h, rfl⟩⟩) (n0 + 1) 0 (by omega) (by omega) (fun j hj => by omega))

set_option maxRecDepth 100000 in
set_option maxHeartbeats 4000000 in
theorem hp_fill_l {w : rz_w} {d : Nat} {G : rz_G} {a n0 z : Nat} {g : Nat → Int32} (hn0 : n0 < 2 ^ 31) {Q : Option Value → rz_G → Prop} (hQ : Q none (rz_up G a (.inl (0, n0, .inl (fun j => if j < n0 then nI z else g j))))) :
    ∀ (n i : Nat) (f : Nat → Int32), n0 + 1 ≤ i + n → i ≤ n0 → (∀ j, f j = if j < i then nI z else g j) → rz_T w d 0 0 m_Arr_fill 0 0 5 [some (.ref a), some (.int (nI z)), some (.int (nI i)), some (.int (nI n0))] [] (rz_up G a (.inl (0, n0, .inl f))) Q := by
  intro n
  induction n with
  | zero => intro i f h2 h3; omega
  | succ n ih =>
    intro i f hn hi hf
    have g2 : (rz_up G a (.inl (0, n0, .inl f))) a = some (.inl (0, n0, .inl f)) := rz_up_s _ _ _
    refine rz_blk' [(.iload_n 2, 1, 0, 0), (.iload_n 3, 1, 0, 0), (.if_icmp .ge 13, 3, 0, 0), (.aload_n 0, 1, 0, 0), (.iload_n 2, 1, 0, 0), (.iload_n 1, 1, 0, 0), (.iastore, 1, 0, 0)] (by decide +kernel) (Nat.le_refl _) (Nat.le_refl _) (fun K R hK hR => ?_)
    simp only [↓rx_aload_n0, ↓rx_iastore, ↓rx_if_icmp_ge, ↓rx_iload_n1, ↓rx_iload_n2, ↓rx_iload_n3, ↓rx_nil, ↓ry_i2, ↓ry_iau, ↓ry_li0s, ↓ry_li0z, ↓ry_lr0s, ↓ry_lr0z, ↓ry_rii, true_and, ↓rh_ia g2, rz_set, rz_nol, rz_clr, List.set_cons_zero, List.set_cons_succ, rz_tr, Nat.reduceAdd, Int.reduceAdd, Int.reduceToNat, Int.reduceSub, Int.reduceNeg, Int.cast_ofNat_Int]
    refine ⟨fun c1 => hK _ _ _ _ ?_, fun c1 => ⟨vp_in_nI (by rw [nI_leI (by omega) (by omega)] at c1; omega) hn0, hK _ _ _ _ ?_⟩⟩
    · rw [nI_leI (by omega) (by omega)] at c1
      refine rz_blk' [(.return_, 1, 0, 0)] (by decide +kernel) (Nat.le_refl _) (Nat.le_refl _) (fun K R hK hR => ?_)
      simp only [↓rx_nil, ↓rx_return_, rz_set, rz_nol, rz_clr, List.set_cons_zero, List.set_cons_succ, rz_tr, Nat.reduceAdd, Int.reduceAdd, Int.reduceToNat, Int.reduceSub, Int.reduceNeg, Int.cast_ofNat_Int]
      refine hR _ _ (rz_nb_i (by decide)) (rz_eqQ ?_ hQ)
      have ef : f = fun j => if j < n0 then nI z else g j := by funext j; rw [hf j, show i = n0 by omega]
      rw [ef]
    · rw [nI_leI (by omega) (by omega)] at c1
      rw [rz_up_up]
      refine rz_blk' [(.iinc 2 1, 3, 0, 0), (.goto (-12), 3, 0, 0)] (by decide +kernel) (Nat.le_refl _) (Nat.le_refl _) (fun K R hK hR => ?_)
      simp only [rw_c1, ↓rx_goto, ↓rx_iinc, ↓rx_nil, ↓ry_li0s, ↓ry_li0z, rz_set, rz_nol, rz_clr, List.set_cons_zero, List.set_cons_succ, rz_tr, Nat.reduceAdd, Int.reduceAdd, Int.reduceToNat, Int.reduceSub, Int.reduceNeg, Int.cast_ofNat_Int]
      rw [nI_add, nI_clamp (by omega)]
      refine hK _ _ _ _ (ih (i + 1) _ (by omega) (by omega) (fun j => ?_))
      simp only [upd]
      by_cases hj : j = i
      · subst hj; simp [show j < j + 1 by omega]
      · rw [if_neg hj, hf j]
        by_cases hj2 : j < i
        · rw [if_pos hj2, if_pos (by omega)]
        · rw [if_neg hj2, if_neg (by omega)]
set_option maxRecDepth 100000 in
set_option maxHeartbeats 4000000 in
theorem c_Arr_fill {w : rz_w} {d : Nat} {G : rz_G} {a n0 z : Nat} {g : Nat → Int32} (h : G a = some (.inl (0, n0, .inl g))) (hn0 : n0 < 2 ^ 31) : rz_C w d 0 0 y_Arr_fill m_Arr_fill [.ref a, .int (nI z)] G (fun r G' => r = none ∧ G' = rz_up G a (.inl (0, n0, .inl (fun j => if j < n0 then nI z else g j)))) := by
  refine rz_enter' [some (.ref a), some (.int (nI z)), none, none] (by decide +kernel) rfl rfl (Nat.le_of_ble_eq_true rfl) rfl ?_
  refine rz_blk' [(.iconst 0, 1, 0, 0), (.istore_n 2, 1, 0, 0)] (by decide +kernel) (Nat.le_refl _) (Nat.le_refl _) (fun K R hK hR => ?_)
  simp only [rw_c0, ↓rx_iconst, ↓rx_istore_n2, ↓rx_nil, ↓ry_i1, rz_set, rz_nol, rz_clr, List.set_cons_zero, List.set_cons_succ, rz_tr, Nat.reduceAdd, Int.reduceAdd, Int.reduceToNat, Int.reduceSub, Int.reduceNeg, Int.cast_ofNat_Int]
  refine hK _ _ _ _ ?_
  refine rz_blk' [(.aload_n 0, 1, 0, 0), (.arraylength, 1, 0, 0), (.istore_n 3, 1, 0, 0)] (by decide +kernel) (Nat.le_refl _) (Nat.le_refl _) (fun K R hK hR => ?_)
  simp only [Nat.reduceLT, ↓rx_aload_n0, ↓rx_arraylength, ↓rx_istore_n3, ↓rx_nil, ↓ry_i1, ↓ry_lr0s, ↓ry_lr0z, ↓ry_r1, true_and, ↓rh_aa h, rz_set, rz_nol, rz_clr, List.set_cons_zero, List.set_cons_succ, rz_tr, Nat.reduceAdd, Int.reduceAdd, Int.reduceToNat, Int.reduceSub, Int.reduceNeg, Int.cast_ofNat_Int]
  refine hK _ _ _ _ ?_
  have e0 := rz_up_id G a _ h
  rw [← e0]
  refine hp_fill_l (G := G) (g := g) hn0 ?_ (n0 + 1) 0 _ (by omega) (by omega) (fun j => by simp)
  rw [e0]; exact ⟨rfl, rfl⟩

set_option maxRecDepth 100000 in
set_option maxHeartbeats 4000000 in
theorem hp_fillb_l {w : rz_w} {d : Nat} {G : rz_G} {a n0 z : Nat} {g : Nat → Int32} (hn0 : n0 < 2 ^ 31) {Q : Option Value → rz_G → Prop} (hQ : Q none (rz_up G a (.inl (2, n0, .inl (fun j => if j < n0 then vp_nar .byte (nI z) else g j))))) :
    ∀ (n i : Nat) (f : Nat → Int32), n0 + 1 ≤ i + n → i ≤ n0 → (∀ j, f j = if j < i then vp_nar .byte (nI z) else g j) → rz_T w d 0 0 m_Arr_fill2 0 0 5 [some (.ref a), some (.int (nI z)), some (.int (nI i)), some (.int (nI n0))] [] (rz_up G a (.inl (2, n0, .inl f))) Q := by
  intro n
  induction n with
  | zero => intro i f h2 h3; omega
  | succ n ih =>
    intro i f hn hi hf
    have g2 : (rz_up G a (.inl (2, n0, .inl f))) a = some (.inl (2, n0, .inl f)) := rz_up_s _ _ _
    refine rz_blk' [(.iload_n 2, 1, 0, 0), (.iload_n 3, 1, 0, 0), (.if_icmp .ge 13, 3, 0, 0), (.aload_n 0, 1, 0, 0), (.iload_n 2, 1, 0, 0), (.iload_n 1, 1, 0, 0), (.bastore, 1, 0, 0)] (by decide +kernel) (Nat.le_refl _) (Nat.le_refl _) (fun K R hK hR => ?_)
    simp only [Nat.reduceEqDiff, false_or, or_false, or_true, reduceIte, ↓rx_aload_n0, ↓rx_bastore, ↓rx_if_icmp_ge, ↓rx_iload_n1, ↓rx_iload_n2, ↓rx_iload_n3, ↓rx_nil, ↓ry_i2, ↓ry_iau, ↓ry_li0s, ↓ry_li0z, ↓ry_lr0s, ↓ry_lr0z, ↓ry_rii, true_and, true_or, ↓rh_ia g2, rz_set, rz_nol, rz_clr, List.set_cons_zero, List.set_cons_succ, rz_tr, Nat.reduceAdd, Int.reduceAdd, Int.reduceToNat, Int.reduceSub, Int.reduceNeg, Int.cast_ofNat_Int]
    refine ⟨fun c1 => hK _ _ _ _ ?_, fun c1 => ⟨vp_in_nI (by rw [nI_leI (by omega) (by omega)] at c1; omega) hn0, hK _ _ _ _ ?_⟩⟩
    · rw [nI_leI (by omega) (by omega)] at c1
      refine rz_blk' [(.return_, 1, 0, 0)] (by decide +kernel) (Nat.le_refl _) (Nat.le_refl _) (fun K R hK hR => ?_)
      simp only [↓rx_nil, ↓rx_return_, rz_set, rz_nol, rz_clr, List.set_cons_zero, List.set_cons_succ, rz_tr, Nat.reduceAdd, Int.reduceAdd, Int.reduceToNat, Int.reduceSub, Int.reduceNeg, Int.cast_ofNat_Int]
      refine hR _ _ (rz_nb_i (by decide)) (rz_eqQ ?_ hQ)
      have ef : f = fun j => if j < n0 then vp_nar .byte (nI z) else g j := by funext j; rw [hf j, show i = n0 by omega]
      rw [ef]
    · rw [nI_leI (by omega) (by omega)] at c1
      rw [rz_up_up]
      refine rz_blk' [(.iinc 2 1, 3, 0, 0), (.goto (-12), 3, 0, 0)] (by decide +kernel) (Nat.le_refl _) (Nat.le_refl _) (fun K R hK hR => ?_)
      simp only [rw_c1, ↓rx_goto, ↓rx_iinc, ↓rx_nil, ↓ry_li0s, ↓ry_li0z, rz_set, rz_nol, rz_clr, List.set_cons_zero, List.set_cons_succ, rz_tr, Nat.reduceAdd, Int.reduceAdd, Int.reduceToNat, Int.reduceSub, Int.reduceNeg, Int.cast_ofNat_Int]
      rw [nI_add, nI_clamp (by omega)]
      refine hK _ _ _ _ (ih (i + 1) _ (by omega) (by omega) (fun j => ?_))
      simp only [upd]
      by_cases hj : j = i
      · subst hj; simp [show j < j + 1 by omega]
      · rw [if_neg hj, hf j]
        by_cases hj2 : j < i
        · rw [if_pos hj2, if_pos (by omega)]
        · rw [if_neg hj2, if_neg (by omega)]
set_option maxRecDepth 100000 in
set_option maxHeartbeats 4000000 in
theorem c_Arr_fill2 {w : rz_w} {d : Nat} {G : rz_G} {a n0 z : Nat} {g : Nat → Int32} (h : G a = some (.inl (2, n0, .inl g))) (hn0 : n0 < 2 ^ 31) : rz_C w d 0 0 y_Arr_fill2 m_Arr_fill2 [.ref a, .int (nI z)] G (fun r G' => r = none ∧ G' = rz_up G a (.inl (2, n0, .inl (fun j => if j < n0 then vp_nar .byte (nI z) else g j)))) := by
  refine rz_enter' [some (.ref a), some (.int (nI z)), none, none] (by decide +kernel) rfl rfl (Nat.le_of_ble_eq_true rfl) rfl ?_
  refine rz_blk' [(.iconst 0, 1, 0, 0), (.istore_n 2, 1, 0, 0)] (by decide +kernel) (Nat.le_refl _) (Nat.le_refl _) (fun K R hK hR => ?_)
  simp only [rw_c0, ↓rx_iconst, ↓rx_istore_n2, ↓rx_nil, ↓ry_i1, rz_set, rz_nol, rz_clr, List.set_cons_zero, List.set_cons_succ, rz_tr, Nat.reduceAdd, Int.reduceAdd, Int.reduceToNat, Int.reduceSub, Int.reduceNeg, Int.cast_ofNat_Int]
  refine hK _ _ _ _ ?_
  refine rz_blk' [(.aload_n 0, 1, 0, 0), (.arraylength, 1, 0, 0), (.istore_n 3, 1, 0, 0)] (by decide +kernel) (Nat.le_refl _) (Nat.le_refl _) (fun K R hK hR => ?_)
  simp only [Nat.reduceLT, ↓rx_aload_n0, ↓rx_arraylength, ↓rx_istore_n3, ↓rx_nil, ↓ry_i1, ↓ry_lr0s, ↓ry_lr0z, ↓ry_r1, true_and, ↓rh_aa h, rz_set, rz_nol, rz_clr, List.set_cons_zero, List.set_cons_succ, rz_tr, Nat.reduceAdd, Int.reduceAdd, Int.reduceToNat, Int.reduceSub, Int.reduceNeg, Int.cast_ofNat_Int]
  refine hK _ _ _ _ ?_
  have e0 := rz_up_id G a _ h
  rw [← e0]
  refine hp_fillb_l (G := G) (g := g) hn0 ?_ (n0 + 1) 0 _ (by omega) (by omega) (fun j => by simp)
  rw [e0]; exact ⟨rfl, rfl⟩

def hp_cnt (s : Nat) : Nat := (List.range 6).countP (fun q => s.testBit q)
def hp_bc (x0 : Int32) : Int32 :=
  let u := fun (x y : Int32) => (x.toUInt32 >>> (y.toUInt32 &&& Int32.toUInt32 31)).toInt32
  let x1 := x0 - (u x0 (nI 1) &&& 1431655765)
  let x2 := (x1 &&& 858993459) + (u x1 (nI 2) &&& 858993459)
  let x3 := (x2 + u x2 (nI 4)) &&& 252645135
  let x4 := x3 + u x3 (nI 8)
  let x5 := x4 + u x4 (nI 16)
  x5 &&& nI 63
theorem hp_bc_ok : ∀ s, s < 64 → hp_bc (nI s) = nI (hp_cnt s) := by decide +kernel
set_option maxRecDepth 100000 in
set_option maxHeartbeats 4000000 in
/-- Integer.bitCount of a set of states -/
theorem c_Int_bitCount {w : rz_w} {d : Nat} {G : rz_G} {s : Nat} (hs : s < 64) : rz_C w d 0 0 y_Int_bitCount m_Int_bitCount [.int (nI s)] G (fun r G' => r = some (.int (nI (hp_cnt s))) ∧ G' = G) := by
  refine rz_enter' [some (.int (nI s))] (by decide +kernel) rfl rfl (Nat.le_of_ble_eq_true rfl) rfl ?_
  refine rz_blk' [(.iload_n 0, 1, 0, 0), (.iload_n 0, 1, 0, 0), (.iconst 1, 1, 0, 0), (.iushr, 1, 0, 0)] (by decide +kernel) (Nat.le_refl _) (Nat.le_refl _) (fun K R hK hR => ?_)
  simp only [rw_c1, ↓rx_iconst, ↓rx_iload_n0, ↓rx_iushr, ↓rx_nil, ↓ry_i2, ↓ry_li0s, ↓ry_li0z, rz_set, rz_nol, rz_clr, List.set_cons_zero, List.set_cons_succ, rz_tr, Nat.reduceAdd, Int.reduceAdd, Int.reduceToNat, Int.reduceSub, Int.reduceNeg, Int.cast_ofNat_Int]
  refine hK _ _ _ _ (rz_ldcw (idx := 265) (by decide +kernel) (rz_j3 164 rfl rfl) ?_)
  refine rz_blk' [(.iand, 1, 0, 0), (.isub, 1, 0, 0), (.istore_n 0, 1, 0, 0)] (by decide +kernel) (Nat.le_refl _) (Nat.le_refl _) (fun K R hK hR => ?_)
  simp only [↓rx_iand, ↓rx_istore_n0, ↓rx_isub, ↓rx_nil, ↓ry_i1, ↓ry_i2, rz_set, rz_nol, rz_clr, List.set_cons_zero, List.set_cons_succ, rz_tr, Nat.reduceAdd, Int.reduceAdd, Int.reduceToNat, Int.reduceSub, Int.reduceNeg, Int.cast_ofNat_Int]
  refine hK _ _ _ _ ?_
  refine rz_blk' [(.iload_n 0, 1, 0, 0)] (by decide +kernel) (Nat.le_refl _) (Nat.le_refl _) (fun K R hK hR => ?_)
  simp only [↓rx_iload_n0, ↓rx_nil, ↓ry_li0s, ↓ry_li0z, rz_set, rz_nol, rz_clr, List.set_cons_zero, List.set_cons_succ, rz_tr, Nat.reduceAdd, Int.reduceAdd, Int.reduceToNat, Int.reduceSub, Int.reduceNeg, Int.cast_ofNat_Int]
  refine hK _ _ _ _ (rz_ldcw (idx := 266) (by decide +kernel) (rz_j3 165 rfl rfl) ?_)
  refine rz_blk' [(.iand, 1, 0, 0), (.iload_n 0, 1, 0, 0), (.iconst 2, 1, 0, 0), (.iushr, 1, 0, 0)] (by decide +kernel) (Nat.le_refl _) (Nat.le_refl _) (fun K R hK hR => ?_)
  simp only [rw_c2, ↓rx_iand, ↓rx_iconst, ↓rx_iload_n0, ↓rx_iushr, ↓rx_nil, ↓ry_i2, ↓ry_li0s, ↓ry_li0z, rz_set, rz_nol, rz_clr, List.set_cons_zero, List.set_cons_succ, rz_tr, Nat.reduceAdd, Int.reduceAdd, Int.reduceToNat, Int.reduceSub, Int.reduceNeg, Int.cast_ofNat_Int]
  refine hK _ _ _ _ (rz_ldcw (idx := 266) (by decide +kernel) (rz_j3 165 rfl rfl) ?_)
  refine rz_blk' [(.iand, 1, 0, 0), (.iadd, 1, 0, 0), (.istore_n 0, 1, 0, 0)] (by decide +kernel) (Nat.le_refl _) (Nat.le_refl _) (fun K R hK hR => ?_)
  simp only [↓rx_iadd, ↓rx_iand, ↓rx_istore_n0, ↓rx_nil, ↓ry_i1, ↓ry_i2, rz_set, rz_nol, rz_clr, List.set_cons_zero, List.set_cons_succ, rz_tr, Nat.reduceAdd, Int.reduceAdd, Int.reduceToNat, Int.reduceSub, Int.reduceNeg, Int.cast_ofNat_Int]
  refine hK _ _ _ _ ?_
  refine rz_blk' [(.iload_n 0, 1, 0, 0), (.iload_n 0, 1, 0, 0), (.iconst 4, 1, 0, 0), (.iushr, 1, 0, 0), (.iadd, 1, 0, 0)] (by decide +kernel) (Nat.le_refl _) (Nat.le_refl _) (fun K R hK hR => ?_)
  simp only [rw_c4, ↓rx_iadd, ↓rx_iconst, ↓rx_iload_n0, ↓rx_iushr, ↓rx_nil, ↓ry_i2, ↓ry_li0s, ↓ry_li0z, rz_set, rz_nol, rz_clr, List.set_cons_zero, List.set_cons_succ, rz_tr, Nat.reduceAdd, Int.reduceAdd, Int.reduceToNat, Int.reduceSub, Int.reduceNeg, Int.cast_ofNat_Int]
  refine hK _ _ _ _ (rz_ldcw (idx := 267) (by decide +kernel) (rz_j3 166 rfl rfl) ?_)
  refine rz_blk' [(.iand, 1, 0, 0), (.istore_n 0, 1, 0, 0)] (by decide +kernel) (Nat.le_refl _) (Nat.le_refl _) (fun K R hK hR => ?_)
  simp only [↓rx_iand, ↓rx_istore_n0, ↓rx_nil, ↓ry_i1, ↓ry_i2, rz_set, rz_nol, rz_clr, List.set_cons_zero, List.set_cons_succ, rz_tr, Nat.reduceAdd, Int.reduceAdd, Int.reduceToNat, Int.reduceSub, Int.reduceNeg, Int.cast_ofNat_Int]
  refine hK _ _ _ _ ?_
  refine rz_blk' [(.iload_n 0, 1, 0, 0), (.iload_n 0, 1, 0, 0), (.bipush 8, 2, 0, 0), (.iushr, 1, 0, 0), (.iadd, 1, 0, 0), (.istore_n 0, 1, 0, 0)] (by decide +kernel) (Nat.le_refl _) (Nat.le_refl _) (fun K R hK hR => ?_)
  simp only [rw_b8, ↓rx_bipush, ↓rx_iadd, ↓rx_iload_n0, ↓rx_istore_n0, ↓rx_iushr, ↓rx_nil, ↓ry_i1, ↓ry_i2, ↓ry_li0s, ↓ry_li0z, rz_set, rz_nol, rz_clr, List.set_cons_zero, List.set_cons_succ, rz_tr, Nat.reduceAdd, Int.reduceAdd, Int.reduceToNat, Int.reduceSub, Int.reduceNeg, Int.cast_ofNat_Int]
  refine hK _ _ _ _ ?_
  refine rz_blk' [(.iload_n 0, 1, 0, 0), (.iload_n 0, 1, 0, 0), (.bipush 16, 2, 0, 0), (.iushr, 1, 0, 0), (.iadd, 1, 0, 0), (.istore_n 0, 1, 0, 0)] (by decide +kernel) (Nat.le_refl _) (Nat.le_refl _) (fun K R hK hR => ?_)
  simp only [rw_b16, ↓rx_bipush, ↓rx_iadd, ↓rx_iload_n0, ↓rx_istore_n0, ↓rx_iushr, ↓rx_nil, ↓ry_i1, ↓ry_i2, ↓ry_li0s, ↓ry_li0z, rz_set, rz_nol, rz_clr, List.set_cons_zero, List.set_cons_succ, rz_tr, Nat.reduceAdd, Int.reduceAdd, Int.reduceToNat, Int.reduceSub, Int.reduceNeg, Int.cast_ofNat_Int]
  refine hK _ _ _ _ ?_
  refine rz_blk' [(.iload_n 0, 1, 0, 0), (.bipush 63, 2, 0, 0), (.iand, 1, 0, 0), (.ireturn, 1, 0, 0)] (by decide +kernel) (Nat.le_refl _) (Nat.le_refl _) (fun K R hK hR => ?_)
  simp only [rw_b63, ↓rx_bipush, ↓rx_iand, ↓rx_iload_n0, ↓rx_ireturn, ↓rx_nil, ↓ry_i2, ↓ry_li0s, ↓ry_li0z, rz_set, rz_nol, rz_clr, List.set_cons_zero, List.set_cons_succ, rz_tr, Nat.reduceAdd, Int.reduceAdd, Int.reduceToNat, Int.reduceSub, Int.reduceNeg, Int.cast_ofNat_Int]
  exact hR _ _ (rz_nb_i (by decide)) ⟨by rw [← hp_bc_ok s hs]; rfl, rfl⟩

def wd_told (b n : Nat) : List Nat := (List.range n).map (fun i => b / 2 ^ (3 * i) % 8)
theorem wd_told_len (b n : Nat) : (wd_told b n).length = n := by simp [wd_told]
theorem wd_told_8 (b n : Nat) : ∀ x ∈ wd_told b n, x < 8 := by
  intro x hx
  obtain ⟨i, -, rfl⟩ := List.mem_map.mp hx
  exact Nat.mod_lt _ (by decide)
theorem wd_told_succ (b n : Nat) : wd_told b (n + 1) = wd_told b n ++ [b / 2 ^ (3 * n) % 8] := by simp [wd_told, List.range_succ]
theorem wd_te_step {ws : List Nat} {x : Nat} (h16 : ∀ y ∈ ws, y < 16) (hl : ws.length < 3) (hx : x < 8) (j : Nat) : wd_f (ws ++ [x]) j = if j = 0 then wd_f ws 0 ||| (lN x <<< ((nI (4 * ws.length)).toInt64 &&& 63)) else wd_f ws j := by
  have hN := wd_p_lt h16
  have e1 : wd_p (ws ++ [x]) = 2 ^ (4 * ws.length) * x + wd_p ws := by rw [wd_p_app]; simp [wd_p]
  have hb : 2 ^ (4 * ws.length) * x + wd_p ws < 2 ^ 64 := by
    have h8 : 2 ^ (4 * ws.length) ≤ 2 ^ 8 := Nat.pow_le_pow_right (by decide) (by omega)
    have : 2 ^ (4 * ws.length) * x ≤ 2 ^ 8 * 8 := Nat.mul_le_mul h8 (by omega)
    have e8 : (2 : Nat) ^ 8 = 256 := rfl
    have e64 : (2 : Nat) ^ 64 = 18446744073709551616 := rfl
    omega
  split
  · next q =>
    subst q
    simp only [wd_f]
    rw [wb_shl _ (by omega), e1]
    have k0 : ∀ N, N < 2 ^ 64 → wd_k N 0 = N := fun N h => by simp only [wd_k, Nat.mul_zero, Nat.pow_zero, Nat.div_one]; exact Nat.mod_eq_of_lt h
    have h2 : x * 2 ^ (4 * ws.length) < 2 ^ 64 := by rw [Nat.mul_comm]; omega
    rw [k0 _ hb, k0 _ (by omega), wb_or (by omega) h2]
    congr 1
    rw [Nat.mul_comm x]
    apply Nat.eq_of_testBit_eq
    intro t
    rw [Nat.testBit_two_pow_mul_add _ hN, Nat.testBit_or, Nat.testBit_two_pow_mul]
    by_cases c : t < 4 * ws.length
    · rw [if_pos c]; simp [show ¬ 4 * ws.length ≤ t by omega]
    · rw [if_neg c, Nat.testBit_lt_two_pow (Nat.lt_of_lt_of_le hN (Nat.pow_le_pow_right (by decide) (by omega)))]
      simp [show 4 * ws.length ≤ t by omega]
  · next q =>
    simp only [wd_f]
    have hp : (2 : Nat) ^ 64 ≤ 2 ^ (64 * j) := Nat.pow_le_pow_right (by decide) (by omega)
    rw [wd_k_0 (Nat.lt_of_lt_of_le (by rw [e1]; exact hb) hp), wd_k_0 (Nat.lt_of_lt_of_le (by omega) hp)]
set_option maxRecDepth 100000 in
set_option maxHeartbeats 4000000 in
theorem wd_tell_l {w : rz_w} {d : Nat} {G : rz_G} {a c : Nat} (hc : 1 ≤ c) (hc3 : c ≤ 300) (x : Int32) {n0 : Nat} (hn0 : n0 ≤ 3) {Q : Option Value → rz_G → Prop} (hQ : Q none (wd_put G a c (wd_told x.toBitVec.toNat n0))) :
    ∀ (n i : Nat), n0 + 1 ≤ i + n → i ≤ n0 → rz_T w d 0 0 m_Word_tell 0 0 6 [some (.ref a), some (.int (nI n0)), some (.int x), some (.int (nI i))] [] (wd_put G a c (wd_told x.toBitVec.toNat i)) Q := by
  intro n
  induction n with
  | zero => intro i h2 h3; omega
  | succ n ih =>
    intro i hn hi
    have hlen := wd_told_len x.toBitVec.toNat i
    have h8 := wd_told_8 x.toBitVec.toNat i
    have hex : n0 ≤ i → rz_T w d 0 0 m_Word_tell 0 0 54 [some (.ref a), some (.int (nI n0)), some (.int x), some (.int (nI i))] [] (wd_put G a c (wd_told x.toBitVec.toNat i)) Q := by
      intro q
      refine rz_blk' [(.return_, 1, 0, 0)] (by decide +kernel) (Nat.le_refl _) (Nat.le_refl _) (fun K R hK hR => ?_)
      simp only [↓rx_nil, ↓rx_return_, rz_set, rz_nol, rz_clr, List.set_cons_zero, List.set_cons_succ, rz_tr, Nat.reduceAdd, Int.reduceAdd, Int.reduceToNat, Int.reduceSub, Int.reduceNeg, Int.cast_ofNat_Int]
      rw [show i = n0 by omega]
      exact hR _ _ (rz_nb_i (by decide)) hQ
    obtain ⟨g1, g2, o1, o2, o3⟩ := wd_put_is (G := G) (a := a) (c := c) (xs := wd_told x.toBitVec.toNat i) ⟨by rw [hlen]; omega, fun y hy => by have := h8 y hy; omega, hc3⟩
    refine rz_blk' [(.iload_n 3, 1, 0, 0), (.iload_n 1, 1, 0, 0), (.if_icmp .ge 46, 3, 0, 0), (.iload_n 3, 1, 0, 0), (.iconst 3, 1, 0, 0), (.if_icmp .ge 41, 3, 0, 0), (.aload_n 0, 1, 0, 0), (.getfield 9, 3, 0, 0), (.iconst 0, 1, 0, 0), (.dup2, 1, 0, 0), (.laload, 1, 0, 0), (.iload_n 2, 1, 0, 0), (.iconst 3, 1, 0, 0), (.iload_n 3, 1, 0, 0), (.imul, 1, 0, 0), (.iushr, 1, 0, 0), (.bipush 7, 2, 0, 0), (.iand, 1, 0, 0), (.i2l, 1, 0, 0), (.iconst 4, 1, 0, 0), (.iload_n 3, 1, 0, 0), (.imul, 1, 0, 0), (.lshl, 1, 0, 0), (.lor, 1, 0, 0), (.lastore, 1, 0, 0)] (by decide +kernel) (Nat.le_refl _) (Nat.le_refl _) (fun K R hK hR => ?_)
    simp only [rw_b7, rw_c0, rw_c3, rw_c4, ↓rx_aload_n0, ↓rx_bipush, ↓rx_dup2, ↓rx_getfield, ↓rx_i2l, ↓rx_iand, ↓rx_iconst, ↓rx_if_icmp_ge, ↓rx_iload_n1, ↓rx_iload_n2, ↓rx_iload_n3, ↓rx_imul, ↓rx_iushr, ↓rx_laload, ↓rx_lastore, ↓rx_lor, ↓rx_lshl, ↓rx_nil, ↓ry_fvs, ↓ry_fvz, ↓ry_i1, ↓ry_i2, ↓ry_l2, ↓ry_lau, ↓ry_li, ↓ry_li0s, ↓ry_li0z, ↓ry_lr0s, ↓ry_lr0z, ↓ry_obu, ↓ry_r1, ↓ry_ri, ↓ry_ril, ↓ry_v2, ↓rh_ob g1, ↓rh_la g2, rz_set, rz_nol, rz_clr, List.set_cons_zero, List.set_cons_succ, rz_tr, Nat.reduceAdd, Int.reduceAdd, Int.reduceToNat, Int.reduceSub, Int.reduceNeg, Int.cast_ofNat_Int]
    refine ⟨fun c1 => hK _ _ _ _ (hex ?_), fun c1 => ⟨fun c2 => hK _ _ _ _ (hex ?_), fun c2 => ?_⟩⟩
    · rwa [nI_leI (by omega) (by omega)] at c1
    · rw [nI_leI (by omega) (by omega)] at c2; omega
    rw [nI_leI (by omega) (by omega)] at c1 c2
    rw [pk_mul, pk_mul, hp_ushr _ (by omega), nI_and7, nI_l (n := x.toBitVec.toNat / 2 ^ (3 * i) % 8) (by omega)]
    refine ⟨vp_in_nI (by omega) (by omega), vp_in_nI (by omega) (by omega), hK _ _ _ _ ?_⟩
    have e0 : (nI 0).toNatClampNeg = 0 := nI_clamp (by decide)
    rw [e0]
    generalize hf : vp_updL (wd_f (wd_told x.toBitVec.toNat i)) 0 _ = f
    have hfv : f = wd_f (wd_told x.toBitVec.toNat (i + 1)) := by
      funext j
      rw [← hf, wd_told_succ, wd_te_step o2 (by omega) (Nat.mod_lt _ (by decide)), hlen]
      simp only [vp_updL]
    subst hfv
    generalize hG2 : rz_up (wd_put G a c (wd_told x.toBitVec.toNat i)) (a + 1) _ = G2
    have q1 : G2 a = some (wd_o a (wd_told x.toBitVec.toNat i)) := by rw [← hG2, rz_up_n _ _ (by omega)]; exact g1
    refine rz_blk' [(.aload_n 0, 1, 0, 0), (.dup, 1, 0, 0), (.getfield 15, 3, 0, 1), (.iconst 1, 1, 0, 0), (.iadd, 1, 0, 0), (.putfield 15, 3, 0, 1)] (by decide +kernel) (Nat.le_refl _) (Nat.le_refl _) (fun K R hK hR => ?_)
    simp only [List.length_cons, List.length_nil, Nat.reduceLT, rf_0_1, rw_c1, ↓rx_aload_n0, ↓rx_dup, ↓rx_getfield, ↓rx_iadd, ↓rx_iconst, ↓rx_nil, ↓rx_putfield, ↓ry_fvs, ↓ry_fvz, ↓ry_i2, ↓ry_lr0s, ↓ry_lr0z, ↓ry_obu, ↓ry_r1, ↓ry_v1i, ↓ry_v1r, ↓ry_vr, true_and, ↓rh_ob q1, nI_add, rz_set, rz_nol, rz_clr, List.set_cons_zero, List.set_cons_succ, rz_tr, Nat.reduceAdd, Int.reduceAdd, Int.reduceToNat, Int.reduceSub, Int.reduceNeg, Int.cast_ofNat_Int]
    refine hK _ _ _ _ ?_
    refine rz_blk' [(.iinc 3 1, 3, 0, 0), (.goto (-45), 3, 0, 0)] (by decide +kernel) (Nat.le_refl _) (Nat.le_refl _) (fun K R hK hR => ?_)
    simp only [rw_c1, ↓rx_goto, ↓rx_iinc, ↓rx_nil, ↓ry_li0s, ↓ry_li0z, nI_add, rz_set, rz_nol, rz_clr, List.set_cons_zero, List.set_cons_succ, rz_tr, Nat.reduceAdd, Int.reduceAdd, Int.reduceToNat, Int.reduceSub, Int.reduceNeg, Int.cast_ofNat_Int]
    have eG : rz_up G2 a (.inr (0, [.ref (a + 1), .int (nI ((wd_told x.toBitVec.toNat i).length + 1))])) = wd_put G a c (wd_told x.toBitVec.toNat (i + 1)) := by
      rw [← hG2]
      simp only [wd_put]
      rw [rz_up_up, rz_up_comm _ _ _ (show a + 1 ≠ a by omega), rz_up_up]
      simp only [wd_o, wd_told_len]
    rw [eG]
    exact hK _ _ _ _ (ih (i + 1) (by omega) (by omega))
set_option maxRecDepth 100000 in
set_option maxHeartbeats 4000000 in
/-- tell(n, bits) -/
theorem c_Word_tell {w : rz_w} {d : Nat} {G : rz_G} {a c : Nat} {xs : List Nat} (h : wd_is G a c xs) (hc : 1 ≤ c) (x : Int32) {n0 : Nat} (hn0 : n0 ≤ 3) : rz_C w (d + 1) 0 0 y_Word_tell m_Word_tell [.ref a, .int (nI n0), .int x] G (fun r G' => r = none ∧ G' = wd_put G a c (wd_told x.toBitVec.toNat n0)) := by
  obtain ⟨h1, h2, o1, o2, o3⟩ := id h
  refine rz_enter' [some (.ref a), some (.int (nI n0)), some (.int x), none] (by decide +kernel) rfl rfl (Nat.le_of_ble_eq_true rfl) rfl ?_
  refine rz_blk' [(.aload_n 0, 1, 0, 0)] (by decide +kernel) (Nat.le_refl _) (Nat.le_refl _) (fun K R hK hR => ?_)
  simp only [↓rx_aload_n0, ↓rx_nil, ↓ry_lr0s, ↓ry_lr0z, rz_set, rz_nol, rz_clr, List.set_cons_zero, List.set_cons_succ, rz_tr, Nat.reduceAdd, Int.reduceAdd, Int.reduceToNat, Int.reduceSub, Int.reduceNeg, Int.cast_ofNat_Int]
  refine hK _ _ _ _ ?_
  refine rz_cV (As := []) (b := a) (S := []) l_Word_19 (by decide +kernel) rfl h1 rfl (Nat.le_of_ble_eq_true rfl) (Nat.le_refl _) (Nat.le_refl _) (c_Word_clear h) (fun r G' hq => ?_)
  obtain ⟨rfl, rfl⟩ := hq
  simp only [Option.toList, List.nil_append]
  refine rz_blk' [(.iconst 0, 1, 0, 0), (.istore_n 3, 1, 0, 0)] (by decide +kernel) (Nat.le_refl _) (Nat.le_refl _) (fun K R hK hR => ?_)
  simp only [rw_c0, ↓rx_iconst, ↓rx_istore_n3, ↓rx_nil, ↓ry_i1, rz_set, rz_nol, rz_clr, List.set_cons_zero, List.set_cons_succ, rz_tr, Nat.reduceAdd, Int.reduceAdd, Int.reduceToNat, Int.reduceSub, Int.reduceNeg, Int.cast_ofNat_Int]
  refine hK _ _ _ _ ?_
  have e := wd_tell_l (w := w) (d := d + 1) (G := G) (a := a) hc o3 x hn0 (Q := fun r G' => r = none ∧ G' = wd_put G a c (wd_told x.toBitVec.toNat n0)) ⟨rfl, rfl⟩ (n0 + 1) 0 (by omega) (by omega)
  exact e

