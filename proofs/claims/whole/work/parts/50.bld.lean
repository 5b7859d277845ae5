/-! WriterDesk$Builder: alikeSet -/
def bp_nf (em : mv_T) (ec : Nat) (S T : bf_T) : List ps_nd × Option Nat := ps_fld em em ec ec 0 ([], none) (bp_st S T)
def bp_sr (em : mv_T) (ec : Nat) (S T : bf_T) : ps_sT := ps_lo em em ec ec 73 0 (ps_s0 (bp_nf em ec S T).1 (bp_nf em ec S T).2)
def bp_al (em : mv_T) (ec : Nat) (kd : Nat → Nat) (T S : bf_T) : Bool := decide (kd S.1 = kd T.1) && !(bp_sr em ec S T).2.2.isSome
def ps_xo (X : Nat → List Nat) : Prop := ∀ j, j < 146 → wd_ok 26 (X j)
theorem ps_ss0 {I : Nat → Int32} {A : Nat → Nat → Int32} {X : Nat → List Nat} (hX : ps_xo X) (h0 : I 0 = nI 0) (h1 : I 1 = nI 0) (h2 : I 2 = -1) (h3 : ∀ i, i < 36 → A 3 i = nI 0) : ps_ss I A X [] none 0 A := by
  refine ⟨⟨h0, by simp, hX, fun i n hn => by simp at hn, fun p q hp hq => ?_⟩, h1, by decide, h2, fun g hg => (by cases hg), fun _ _ => rfl⟩
  have hc : ps_cnt [] p q = 0 := rfl
  rw [hc]
  exact ⟨h3 _ (by omega), by decide, fun z => by omega⟩
section BAL
variable {w : rz_w} {d : Nat} {G : rz_G} {a : Nat} {I : Nat → Int32} {A : Nat → Nat → Int32} {J : Nat → Nat → Int64} {X : Nat → List Nat} {P : Nat → Nat} {Im : Nat → Int32} {Am : Nat → Nat → Int32} {Jm : Nat → Nat → Int64} {Xm : Nat → List Nat} {Pm : Nat → Nat} {T : bf_T} {TS : List bf_T} {em : mv_T} {ec ap : Nat} {Jp : Nat → Nat → Int64} {b : Bool} {kd : Nat → Nat} {af : Nat → Nat → Nat} {Ok : Nat → ps_nd → Prop} {Q : Option Value → rz_G → Prop}
set_option maxRecDepth 100000 in
set_option maxHeartbeats 4000000 in
theorem ba_o (hm : mv_is Im Am Xm em ec) (hs : mv_set Im Am em ec) (hap : ap + 304 ≤ a ∨ a + 588 ≤ ap) (hT : bf_st I X T) (hTS : bs_st A X TS) (hk : bk_st a A P b kd af)
    (hOk : ∀ k n, k < 72 → Ok k n → ∀ l, l < 3 → ps_sh em em ec ec l n ∧ ∀ n' ∈ ps_nx em em ec ec l n, Ok (k + 1) n') (hO0 : ∀ S ∈ TS, ∀ n ∈ bp_st S T, Ok 0 n) (hlS : ∀ S ∈ TS, ∀ q, q < 6 → S.1.testBit q = true → (S.2 q).length ≤ 368) (hlT : ∀ q, q < 6 → T.1.testBit q = true → (T.2 q).length ≤ 368)
    (hQ : ∀ Ip Ap Xp Pp, ps_xo Xp → Q (some (.int (ps_fo (TS.findIdx? (bp_al em ec kd T))))) (ps_put (mc_put (bo_put G a I A J X P) (a + 1) Im Am Jm Xm Pm) ap Ip Ap Jp Xp Pp)) :
    ∀ (k st : Nat) (Ip : Nat → Int32) (Ap : Nat → Nat → Int32) (Xp : Nat → List Nat) (Pp : Nat → Nat), st + k = TS.length → ps_xo Xp → (∀ i S, i < st → TS[i]? = some S → bp_al em ec kd T S = false) → rz_T w (d + 5) 0 0 m_Bld_alikeSet 0 0 2 [some (.ref a), some (.int (nI TS.length)), some (.ref ap), some (.int (nI st))] [] (ps_put (mc_put (bo_put G a I A J X P) (a + 1) Im Am Jm Xm Pm) ap Ip Ap Jp Xp Pp) Q := by
  have h40 := hTS.1
  obtain ⟨s0, s1, s2, s3⟩ := id hT
  obtain ⟨k1, k2, k3, k4⟩ := id hk
  intro k
  induction k with
  | zero =>
    intro st Ip Ap Xp Pp hkk hXp hno
    refine rz_blk' [(.iload_n 3, 1, 0, 0), (.iload_n 1, 1, 0, 0), (.if_icmp .ge 59, 3, 0, 0)] (by decide +kernel) (Nat.le_refl _) (Nat.le_refl _) (fun K R hK hR => ?_)
    simp only [↓rx_if_icmp_ge, ↓rx_iload_n1, ↓rx_iload_n3, ↓rx_nil, ↓ry_i2, ↓ry_li0s, ↓ry_li0z, ↓bl_ob, ↓bl_r71, ↓bl_i76, ↓bl_i77, ↓bl_i78, ↓bl_i79, ↓bl_r80, ↓bl_r81, rz_set, rz_nol, rz_clr, List.set_cons_zero, List.set_cons_succ, rz_tr, Nat.reduceAdd, Int.reduceAdd, Int.reduceToNat, Int.reduceSub, Int.reduceNeg, Int.cast_ofNat_Int]
    rw [nI_leI (by omega) (by omega)]
    refine ⟨fun c => hK _ _ _ _ ?_, fun c => by omega⟩
    have hn : TS.findIdx? (bp_al em ec kd T) = none := by
      rw [List.findIdx?_eq_none_iff]
      intro S hS
      obtain ⟨i, hi⟩ := List.mem_iff_getElem?.mp hS
      exact hno i S (by have := (List.getElem?_eq_some_iff.mp hi).1; omega) hi
    have hQ := hQ Ip Ap Xp Pp hXp
    rw [hn] at hQ
    refine rz_blk' [(.iconst (-1), 1, 0, 0), (.ireturn, 1, 0, 0)] (by decide +kernel) (Nat.le_refl _) (Nat.le_refl _) (fun K R hK hR => ?_)
    simp only [rw_cm1, ↓rx_iconst, ↓rx_ireturn, ↓rx_nil, ↓bl_ob, ↓bl_r71, ↓bl_i76, ↓bl_i77, ↓bl_i78, ↓bl_i79, ↓bl_r80, ↓bl_r81, rz_set, rz_nol, rz_clr, List.set_cons_zero, List.set_cons_succ, rz_tr, Nat.reduceAdd, Int.reduceAdd, Int.reduceToNat, Int.reduceSub, Int.reduceNeg, Int.cast_ofNat_Int]
    exact hR _ _ (rz_nb_i (by decide)) hQ
  | succ k ih =>
    intro st Ip Ap Xp Pp hkk hXp hno
    obtain ⟨S, hst⟩ : ∃ S, TS[st]? = some S := ⟨_, List.getElem?_eq_getElem (by omega)⟩
    obtain ⟨u1, u2, u3⟩ := hTS.2 st S hst
    have hmem := List.mem_of_getElem? hst
    have hob : ∀ Ip Ap Xp Pp, (ps_put (mc_put (bo_put G a I A J X P) (a + 1) Im Am Jm Xm Pm) ap Ip Ap Jp Xp Pp) a = some (.inr (8, bo_fs a I P)) := fun Ip Ap Xp Pp => by rw [ps_out (by omega)]; exact bl_at0
    have h79 : (ps_put (mc_put (bo_put G a I A J X P) (a + 1) Im Am Jm Xm Pm) ap Ip Ap Jp Xp Pp) (a + 79) = some (.inl (0, 40, .inl (A 3))) := by rw [ps_out (by omega)]; exact bl_c79
    have hkd : (ps_put (mc_put (bo_put G a I A J X P) (a + 1) Im Am Jm Xm Pm) ap Ip Ap Jp Xp Pp) (P 0) = some (.inl (0, 64, .inl (A (bk_a b)))) := by
      rw [k1, ps_out (by cases b <;> simp only [bk_a] <;> simp <;> omega)]; exact bl_ck
    have hnext : ∀ Ip Ap Xp Pp, ps_xo Xp → bp_al em ec kd T S = false → rz_T w (d + 5) 0 0 m_Bld_alikeSet 0 0 57 [some (.ref a), some (.int (nI TS.length)), some (.ref ap), some (.int (nI st))] [] (ps_put (mc_put (bo_put G a I A J X P) (a + 1) Im Am Jm Xm Pm) ap Ip Ap Jp Xp Pp) Q := by
      intro Ip Ap Xp Pp e1 e2
      refine rz_blk' [(.iinc 3 1, 3, 0, 0), (.goto (-58), 3, 0, 0)] (by decide +kernel) (Nat.le_refl _) (Nat.le_refl _) (fun K R hK hR => ?_)
      simp only [rw_c1, ↓rx_goto, ↓rx_iinc, ↓rx_nil, ↓ry_li0s, ↓ry_li0z, ↓bl_ob, ↓bl_r71, ↓bl_i76, ↓bl_i77, ↓bl_i78, ↓bl_i79, ↓bl_r80, ↓bl_r81, nI_add, rz_set, rz_nol, rz_clr, List.set_cons_zero, List.set_cons_succ, rz_tr, Nat.reduceAdd, Int.reduceAdd, Int.reduceToNat, Int.reduceSub, Int.reduceNeg, Int.cast_ofNat_Int]
      refine hK _ _ _ _ (ih (st + 1) Ip Ap Xp Pp (by omega) e1 (fun i S' hi hS' => ?_))
      by_cases ci : i = st
      · subst ci; rw [hst] at hS'; cases hS'; exact e2
      · exact hno i S' (by omega) hS'
    refine rz_blk' [(.iload_n 3, 1, 0, 0), (.iload_n 1, 1, 0, 0), (.if_icmp .ge 59, 3, 0, 0), (.aload_n 0, 1, 0, 0), (.getfield 38, 3, 8, 6), (.aload_n 0, 1, 0, 0), (.getfield 44, 3, 8, 8), (.iload_n 3, 1, 0, 0), (.iaload, 1, 0, 0), (.iaload, 1, 0, 0), (.aload_n 0, 1, 0, 0), (.getfield 38, 3, 8, 6), (.aload_n 0, 1, 0, 0), (.getfield 90, 3, 8, 10), (.iaload, 1, 0, 0), (.if_icmp .ne 30, 3, 0, 0)] (by decide +kernel) (Nat.le_refl _) (Nat.le_refl _) (fun K R hK hR => ?_)
    simp only [↓rx_aload_n0, ↓rx_getfield, ↓rx_iaload, ↓rx_if_icmp_ge, ↓rx_if_icmp_ne, ↓rx_iload_n1, ↓rx_iload_n3, ↓rx_nil, ↓ry_fvs, ↓ry_fvz, ↓ry_i2, ↓ry_iau, ↓ry_li0s, ↓ry_li0z, ↓ry_lr0s, ↓ry_lr0z, ↓ry_obu, ↓ry_r1, ↓ry_ri, true_and, ↓bl_ob, ↓bl_r71, ↓bl_i76, ↓bl_i77, ↓bl_i78, ↓bl_i79, ↓bl_r80, ↓bl_r81, ↓rh_ob (hob _ _ _ _), ↓rh_ia h79, ↓rh_ia hkd, s0, rz_set, rz_nol, rz_clr, List.set_cons_zero, List.set_cons_succ, rz_tr, Nat.reduceAdd, Int.reduceAdd, Int.reduceToNat, Int.reduceSub, Int.reduceNeg, Int.cast_ofNat_Int]
    rw [nI_leI (by omega) (by omega), nI_clamp (n := st) (by omega), u1, nI_clamp (n := S.1) (by omega), nI_clamp (n := T.1) (by omega), (k3 _ u2).1, (k3 _ s1).1, nI_eq (by have := (k3 _ u2).2; omega) (by have := (k3 _ s1).2; omega)]
    refine ⟨fun c => by omega, fun c => ⟨vp_in_nI (by omega) (by decide), vp_in_nI (by omega) (by decide), vp_in_nI (by omega) (by decide), fun c2 => hK _ _ _ _ (hnext Ip Ap Xp Pp hXp (by simp [bp_al, c2])), fun c2 => hK _ _ _ _ ?_⟩⟩
    refine rz_blk' [(.aload_n 2, 1, 0, 0), (.aload_n 0, 1, 0, 0), (.getfield 12, 3, 8, 0), (.aload_n 0, 1, 0, 0), (.getfield 12, 3, 8, 0)] (by decide +kernel) (Nat.le_refl _) (Nat.le_refl _) (fun K R hK hR => ?_)
    simp only [↓rx_aload_n0, ↓rx_aload_n2, ↓rx_getfield, ↓rx_nil, ↓ry_fvs, ↓ry_fvz, ↓ry_lr0s, ↓ry_lr0z, ↓ry_obu, ↓ry_r1, ↓bl_ob, ↓bl_r71, ↓bl_i76, ↓bl_i77, ↓bl_i78, ↓bl_i79, ↓bl_r80, ↓bl_r81, ↓rh_ob (hob _ _ _ _), rz_set, rz_nol, rz_clr, List.set_cons_zero, List.set_cons_succ, rz_tr, Nat.reduceAdd, Int.reduceAdd, Int.reduceToNat, Int.reduceSub, Int.reduceNeg, Int.cast_ofNat_Int]
    refine hK _ _ _ _ ?_
    refine rz_cV (As := [.ref (a + 1), .ref (a + 1)]) (b := ap) (S := []) l_Bld_202 (by decide +kernel) rfl ps_at0 rfl (Nat.le_of_ble_eq_true rfl) (Nat.le_refl _) (Nat.le_refl _) (c_Pair_begin (a + 1) (a + 1)) (fun r G' hr => ?_)
    obtain ⟨rfl, I2, A2, P2, rfl, e0, e1, e2, e8, e5, e3, p0, p1⟩ := hr
    simp only [Option.toList, List.nil_append]
    have hss := ps_ss0 hXp e0 e1 e2 e3
    refine rz_blk' [(.aload_n 0, 1, 0, 0), (.iload_n 3, 1, 0, 0), (.aload_n 2, 1, 0, 0)] (by decide +kernel) (Nat.le_refl _) (Nat.le_refl _) (fun K R hK hR => ?_)
    simp only [↓rx_aload_n0, ↓rx_aload_n2, ↓rx_iload_n3, ↓rx_nil, ↓ry_li0s, ↓ry_li0z, ↓ry_lr0s, ↓ry_lr0z, ↓bl_ob, ↓bl_r71, ↓bl_i76, ↓bl_i77, ↓bl_i78, ↓bl_i79, ↓bl_r80, ↓bl_r81, rz_set, rz_nol, rz_clr, List.set_cons_zero, List.set_cons_succ, rz_tr, Nat.reduceAdd, Int.reduceAdd, Int.reduceToNat, Int.reduceSub, Int.reduceNeg, Int.cast_ofNat_Int]
    refine hK _ _ _ _ ?_
    refine rz_cV (As := [.int (nI st), .ref ap]) (b := a) (S := []) l_Bld_207 (by decide +kernel) rfl (hob _ _ _ _) rfl (Nat.le_of_ble_eq_true rfl) (Nat.le_refl _) (Nat.le_refl _) (c_Bld_startPairs hm hs hap p0 p1 hT hTS hst (hlS S hmem) hlT hss) (fun r G' hr => ?_)
    obtain ⟨rfl, I3, A3, X3, rfl, hs3⟩ := hr
    simp only [Option.toList, List.nil_append]
    change ps_ss I3 A3 X3 (bp_nf em ec S T).1 (bp_nf em ec S T).2 0 A2 at hs3
    obtain ⟨ext, x1, x2, x3⟩ := ps_fld_ext (m1 := em) (m2 := em) (c1 := ec) (c2 := ec) (gr := 0) (bp_st S T) ([], none)
    change (bp_nf em ec S T).1 = [] ++ ext at x1
    change (bp_nf em ec S T).2 = none ∨ (bp_nf em ec S T).2 = some 0 ∧ ext ≠ [] at x3
    rw [List.nil_append] at x1
    have hmc : mc_at' (mc_put (bo_put G a I A J X P) (a + 1) Im Am Jm Xm Pm) (P2 0) ap 304 (Im, Am, Jm, Xm, Pm) em ec := ⟨by rw [p0]; exact fun o ho => mc_at ho, hm, hs, by unfold mc_ap; omega⟩
    have hmc1 : mc_at' (mc_put (bo_put G a I A J X P) (a + 1) Im Am Jm Xm Pm) (P2 1) ap 304 (Im, Am, Jm, Xm, Pm) em ec := ⟨by rw [p1]; exact fun o ho => mc_at ho, hm, hs, by unfold mc_ap; omega⟩
    refine rz_blk' [(.aload_n 2, 1, 0, 0)] (by decide +kernel) (Nat.le_refl _) (Nat.le_refl _) (fun K R hK hR => ?_)
    simp only [↓rx_aload_n2, ↓rx_nil, ↓ry_lr0s, ↓ry_lr0z, ↓bl_ob, ↓bl_r71, ↓bl_i76, ↓bl_i77, ↓bl_i78, ↓bl_i79, ↓bl_r80, ↓bl_r81, rz_set, rz_nol, rz_clr, List.set_cons_zero, List.set_cons_succ, rz_tr, Nat.reduceAdd, Int.reduceAdd, Int.reduceToNat, Int.reduceSub, Int.reduceNeg, Int.cast_ofNat_Int]
    refine hK _ _ _ _ ?_
    refine rz_cV (As := []) (b := ap) (S := []) l_Bld_211 (by decide +kernel) rfl ps_at0 rfl (Nat.le_of_ble_eq_true rfl) (Nat.le_refl _) (Nat.le_refl _) (c_Pair_search (Ok := Ok) hmc hmc1 hOk hs3 e5 e8 (fun n hn => hO0 S hmem n (x2 n (by rw [← x1]; exact hn))) (fun g hg => by
      rcases x3 with x3 | x3
      · rw [x3] at hg; cases hg
      · rw [x3.1] at hg; cases hg; exact ⟨rfl, by rw [x1]; exact x3.2⟩) rfl) (fun r G' hr => ?_)
    obtain ⟨I4, A4, X4, A5', rfl, rfl, hs4, -⟩ := hr
    simp only [Option.toList, List.cons_append, List.nil_append]
    change rz_T w (d + 5) 0 0 m_Bld_alikeSet 0 0 52 _ [.int (rz_b (bp_sr em ec S T).2.2.isSome)] _ _
    have hX4 : ps_xo X4 := hs4.1.2.2.1
    by_cases ce : (bp_sr em ec S T).2.2.isSome = true
    · rw [ce]
      refine rz_blk' [(.ifCond .ne 5, 3, 0, 0)] (by decide +kernel) (Nat.le_refl _) (Nat.le_refl _) (fun K R hK hR => ?_)
      simp only [↓rx_ifCond_ne, ↓rx_nil, ↓ry_i1, ↓bl_ob, ↓bl_r71, ↓bl_i76, ↓bl_i77, ↓bl_i78, ↓bl_i79, ↓bl_r80, ↓bl_r81, rz_set, rz_nol, rz_clr, List.set_cons_zero, List.set_cons_succ, rz_tr, Nat.reduceAdd, Int.reduceAdd, Int.reduceToNat, Int.reduceSub, Int.reduceNeg, Int.cast_ofNat_Int]
      exact ⟨fun _ => hK _ _ _ _ (hnext _ _ _ _ hX4 (by simp [bp_al, ce])), fun z => absurd z (by decide)⟩
    · have ce : (bp_sr em ec S T).2.2.isSome = false := by simpa using ce
      rw [ce]
      refine rz_blk' [(.ifCond .ne 5, 3, 0, 0), (.iload_n 3, 1, 0, 0), (.ireturn, 1, 0, 0)] (by decide +kernel) (Nat.le_refl _) (Nat.le_refl _) (fun K R hK hR => ?_)
      simp only [↓rx_ifCond_ne, ↓rx_iload_n3, ↓rx_ireturn, ↓rx_nil, ↓ry_i1, ↓ry_li0s, ↓ry_li0z, ↓bl_ob, ↓bl_r71, ↓bl_i76, ↓bl_i77, ↓bl_i78, ↓bl_i79, ↓bl_r80, ↓bl_r81, rz_set, rz_nol, rz_clr, List.set_cons_zero, List.set_cons_succ, rz_tr, Nat.reduceAdd, Int.reduceAdd, Int.reduceToNat, Int.reduceSub, Int.reduceNeg, Int.cast_ofNat_Int]
      refine ⟨fun z => absurd rfl z, fun _ => hR _ _ (rz_nb_i (by decide)) ?_⟩
      have hf : TS.findIdx? (bp_al em ec kd T) = some st := by
        rw [List.findIdx?_eq_some_iff_getElem]
        obtain ⟨hl, hg⟩ := List.getElem?_eq_some_iff.mp hst
        refine ⟨hl, by rw [hg]; simp only [bp_al, ce, c2]; simp, fun j hj => ?_⟩
        have := hno j TS[j] hj (List.getElem?_eq_getElem (by omega))
        rw [this]; simp
      have hQ := hQ I4 A4 X4 P2 hX4
      rw [hf] at hQ
      exact hQ
end BAL

set_option maxRecDepth 100000 in
set_option maxHeartbeats 4000000 in
/-- alikeSet(states, pairs) -/
theorem c_Bld_alikeSet {w : rz_w} {d : Nat} {G : rz_G} {a : Nat} {I : Nat → Int32} {A : Nat → Nat → Int32} {J : Nat → Nat → Int64} {X : Nat → List Nat} {P : Nat → Nat} {Im : Nat → Int32} {Am : Nat → Nat → Int32} {Jm : Nat → Nat → Int64} {Xm : Nat → List Nat} {Pm : Nat → Nat} {T : bf_T} {TS : List bf_T} {em : mv_T} {ec ap : Nat} {Ip : Nat → Int32} {Ap : Nat → Nat → Int32} {Xp : Nat → List Nat} {Jp : Nat → Nat → Int64} {Pp : Nat → Nat} {b : Bool} {kd : Nat → Nat} {af : Nat → Nat → Nat} {Ok : Nat → ps_nd → Prop} (hm : mv_is Im Am Xm em ec) (hs : mv_set Im Am em ec) (hap : ap + 304 ≤ a ∨ a + 588 ≤ ap) (hT : bf_st I X T) (hTS : bs_st A X TS) (hk : bk_st a A P b kd af)
    (hOk : ∀ k n, k < 72 → Ok k n → ∀ l, l < 3 → ps_sh em em ec ec l n ∧ ∀ n' ∈ ps_nx em em ec ec l n, Ok (k + 1) n') (hO0 : ∀ S ∈ TS, ∀ n ∈ bp_st S T, Ok 0 n) (hlS : ∀ S ∈ TS, ∀ q, q < 6 → S.1.testBit q = true → (S.2 q).length ≤ 368) (hlT : ∀ q, q < 6 → T.1.testBit q = true → (T.2 q).length ≤ 368) (hXp : ps_xo Xp) :
    rz_C w (d + 5) 0 0 y_Bld_alikeSet m_Bld_alikeSet [.ref a, .int (nI TS.length), .ref ap] (ps_put (mc_put (bo_put G a I A J X P) (a + 1) Im Am Jm Xm Pm) ap Ip Ap Jp Xp Pp) (fun r G' => r = some (.int (ps_fo (TS.findIdx? (bp_al em ec kd T)))) ∧ ∃ I' A' X' P', G' = (ps_put (mc_put (bo_put G a I A J X P) (a + 1) Im Am Jm Xm Pm) ap I' A' Jp X' P') ∧ ps_xo X') := by
  refine rz_enter' [some (.ref a), some (.int (nI TS.length)), some (.ref ap), none] (by decide +kernel) rfl rfl (Nat.le_of_ble_eq_true rfl) rfl ?_
  refine rz_blk' [(.iconst 0, 1, 0, 0), (.istore_n 3, 1, 0, 0)] (by decide +kernel) (Nat.le_refl _) (Nat.le_refl _) (fun K R hK hR => ?_)
  simp only [rw_c0, ↓rx_iconst, ↓rx_istore_n3, ↓rx_nil, ↓ry_i1, ↓bl_ob, ↓bl_r71, ↓bl_i76, ↓bl_i77, ↓bl_i78, ↓bl_i79, ↓bl_r80, ↓bl_r81, rz_set, rz_nol, rz_clr, List.set_cons_zero, List.set_cons_succ, rz_tr, Nat.reduceAdd, Int.reduceAdd, Int.reduceToNat, Int.reduceSub, Int.reduceNeg, Int.cast_ofNat_Int]
  exact hK _ _ _ _ (ba_o hm hs hap hT hTS hk hOk hO0 hlS hlT (fun Ip Ap Xp Pp h => ⟨rfl, Ip, Ap, Xp, Pp, rfl, h⟩) TS.length 0 Ip Ap Xp Pp (by omega) hXp (fun i S hi => by omega))

