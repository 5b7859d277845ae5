/-! WriterDesk$Reading: readLetter, writeFinalWords, outputsOf -/
def rd_add1 (acc : List (Nat × List Nat)) (v : Nat × List Nat) : Option (List (Nat × List Nat)) := if v ∈ acc then some acc else if acc.length < 200 then some (acc ++ [v]) else none
def rd_es (m : mv_T) (xs : List Nat) : List Nat → List (Nat × List Nat) → Option (List (Nat × List Nat))
  | [], acc => some acc
  | e :: es, acc => match rd_add1 acc ((mv_e m e).2.2.1, xs ++ (mv_e m e).2.2.2) with
    | some acc => rd_es m xs es acc
    | none => none
/-- the ways behind a letter -/
def rd_ws (m : mv_T) (al l : Nat) : List (Nat × List Nat) → List (Nat × List Nat) → Option (List (Nat × List Nat))
  | [], acc => some acc
  | w :: ws, acc => match rd_es m w.2 (mv_pl m al (w.1 * 3 + l)) acc with
    | some acc => rd_ws m al l ws acc
    | none => none
/-- the outputs -/
def rd_fi (m : mv_T) (cl al : Nat) : List (Nat × List Nat) → List (Nat × List Nat) → List (Nat × List Nat)
  | [], acc => acc
  | w :: ws, acc => rd_fi m cl al ws (if (cl &&& al).testBit w.1 then (if (0, w.2 ++ (m.2.2.1 w.1).getD []) ∈ acc then acc else acc ++ [(0, w.2 ++ (m.2.2.1 w.1).getD [])]) else acc)
/-- told words: 3 signs at most -/
def mv_w3 (m : mv_T) : Prop := (∀ e, e < m.2.1.length → (mv_e m e).2.2.2.length ≤ 3 ∧ ∀ x ∈ (mv_e m e).2.2.2, x < 8) ∧ (∀ q xs, m.2.2.1 q = some xs → xs.length ≤ 3 ∧ ∀ x ∈ xs, x < 8) ∧ m.2.2.2.length ≤ 3 ∧ ∀ x ∈ m.2.2.2, x < 8
def mc_ap (am a n : Nat) : Prop := am + 70 ≤ a ∨ a + n ≤ am
theorem mc_is_keep {G G' : rz_G} {a : Nat} {I : Nat → Int32} {A : Nat → Nat → Int32} {J : Nat → Nat → Int64} {X : Nat → List Nat} {P : Nat → Nat} (h : mc_is G a I A J X P) (hk : ∀ o, o < 70 → G' (a + o) = G (a + o)) : mc_is G' a I A J X P := fun o ho => by rw [hk o ho]; exact h o ho
theorem mc_is_wi {G : rz_G} {a : Nat} {I : Nat → Int32} {A : Nat → Nat → Int32} {J : Nat → Nat → Int64} {X : Nat → List Nat} {P : Nat → Nat} (h : mc_is G a I A J X P) (hX : mc_ww X) {k : Nat} (hk : k < 30) : wd_is G (a + 10 + 2 * k) 3 (X k) := by rw [← mc_id h]; exact mc_wi hX hk
theorem mc_is_wo {G : rz_G} {a : Nat} {I : Nat → Int32} {A : Nat → Nat → Int32} {J : Nat → Nat → Int64} {X : Nat → List Nat} {P : Nat → Nat} (h : mc_is G a I A J X P) (hX : mc_ww X) : wd_is G (a + 5) 3 (X 30) := by rw [← mc_id h]; exact mc_wo hX
section RDL
variable {w : rz_w} {d : Nat} {a am : Nat} {I : Nat → Int32} {A : Nat → Nat → Int32} {J : Nat → Nat → Int64} {X : Nat → List Nat} {P : Nat → Nat} {m : mv_T} {cl l bd : Nat} {b : Bool} {wn : List (Nat × List Nat)} {G0 : rz_G} {Q : Option Value → rz_G → Prop}
set_option maxRecDepth 100000 in
set_option maxHeartbeats 4000000 in
theorem rd_rl_i (hm : mv_is I A X m cl) (hs : mv_set I A m cl) (h3 : mv_w3 m) (hap : mc_ap am a 12) (hbd : bd + 3 ≤ 48) {way : Nat} (hway : way < wn.length) (hwl : wn[way].2.length ≤ bd) (hp : wn[way].1 * 3 + l < 18) {res : Option (List (Nat × List Nat))}
    (hQ0 : res = none → ∀ wt xs ys G', rd_is G' a b wn wt xs ys → rd_fr a G0 G' → Q (some (.int 0)) G')
    (hk : ∀ acc' xs ys G' z1 z2, rd_is G' a b wn acc' xs ys → rd_fr a G0 G' → mc_is G' am I A J X P → (∀ v ∈ acc', v.2.length ≤ bd + 3) → rd_ws m (mv_al m cl) l (wn.drop (way + 1)) acc' = res → rz_T w (d + 4) 0 0 m_Read_readLetter 0 0 129 [some (.ref a), some (.ref am), some (.int (nI l)), some (.int (nI way)), some (.int (nI (wn[way].1 * 3 + l))), z1, z2] [] G' Q) :
    ∀ (n i : Nat) (acc : List (Nat × List Nat)) (ys : List Nat) (G : rz_G) (z : Option Value), (mv_pl m (mv_al m cl) (wn[way].1 * 3 + l)).length + 1 ≤ i + n → i ≤ (mv_pl m (mv_al m cl) (wn[way].1 * 3 + l)).length → rd_is G a b wn acc wn[way].2 ys → rd_fr a G0 G → mc_is G am I A J X P → (∀ v ∈ acc, v.2.length ≤ bd + 3) →
      (match rd_es m wn[way].2 ((mv_pl m (mv_al m cl) (wn[way].1 * 3 + l)).drop i) acc with | some acc => rd_ws m (mv_al m cl) l (wn.drop (way + 1)) acc | none => none) = res →
      rz_T w (d + 4) 0 0 m_Read_readLetter 0 0 55 [some (.ref a), some (.ref am), some (.int (nI l)), some (.int (nI way)), some (.int (nI (wn[way].1 * 3 + l))), some (.int (nI ((mv_so m (mv_al m cl) (wn[way].1 * 3 + l)).length + i))), z] [] G Q := by
  intro n
  obtain ⟨r1, r2, r3, r4⟩ := mv_row hs hp
  have m4 := hm.2.2.2.2.1
  have m2 := hm.2.2.1
  have mX := hm.2.2.2.2.2.2.2.2.2.2.2.2
  have hnt := rd_nt a b
  generalize hpl : mv_pl m (mv_al m cl) (wn[way].1 * 3 + l) = pl at r2 r3 r4 ⊢
  generalize hso : (mv_so m (mv_al m cl) (wn[way].1 * 3 + l)).length = so at r1 r2 r3 r4 ⊢
  have hpm : ∀ e ∈ pl, e < m.2.1.length ∧ (mv_e m e).2.2.1 < 6 := fun e he => mv_pl6 hm e (by rw [← hpl] at he; exact he)
  unfold mc_ap at hap
  induction n with
  | zero => intro i acc ys G z h1 h2; omega
  | succ n ih =>
    intro i acc ys G z hn hi hG hfr hmc hacc hres
    have hob : G am = some (.inr (2, mc_fs am I P)) := hmc 0 (by decide)
    have h9 : G (am + 9) = some (.inl (0, 19, .inl (A 4))) := hmc 9 (by decide)
    have h8 : G (am + 8) = some (.inl (0, 24, .inl (A 3))) := hmc 8 (by decide)
    refine rz_blk' [(.iload 5, 2, 0, 0), (.aload_n 1, 1, 0, 0), (.getfield 82, 3, 2, 12), (.iload 4, 2, 0, 0), (.iconst 1, 1, 0, 0), (.iadd, 1, 0, 0), (.iaload, 1, 0, 0), (.if_icmp .ge 63, 3, 0, 0), (.aload_n 1, 1, 0, 0), (.getfield 86, 3, 2, 11), (.iload 5, 2, 0, 0), (.iaload, 1, 0, 0), (.istore 6, 2, 0, 0)] (by decide +kernel) (Nat.le_refl _) (Nat.le_refl _) (fun K R hK hR => ?_)
    simp only [rw_c1, ↓rx_aload_n1, ↓rx_getfield, ↓rx_iadd, ↓rx_iaload, ↓rx_iconst, ↓rx_if_icmp_ge, ↓rx_iload, ↓rx_istore, ↓rx_nil, ↓ry_fvs, ↓ry_fvz, ↓ry_i1, ↓ry_i2, ↓ry_iau, ↓ry_li0s, ↓ry_li0z, ↓ry_lr0s, ↓ry_lr0z, ↓ry_obu, ↓ry_r1, ↓ry_ri, true_and, ↓rh_ob hob, ↓rh_ia h9, ↓rh_ia h8, nI_add, rz_set, rz_nol, rz_clr, List.set_cons_zero, List.set_cons_succ, rz_tr, Nat.reduceAdd, Int.reduceAdd, Int.reduceToNat, Int.reduceSub, Int.reduceNeg, Int.cast_ofNat_Int]
    rw [nI_clamp (n := wn[way].1 * 3 + l + 1) (by omega), r2, nI_leI (by omega) (by omega)]
    refine ⟨vp_in_nI (by omega) (by decide), fun c1 => hK _ _ _ _ ?_, fun c1 => ?_⟩
    · rw [List.drop_of_length_le (by omega)] at hres
      exact hk acc _ _ G _ _ hG hfr hmc hacc hres
    have hil : i < pl.length := by omega
    obtain ⟨e, hei⟩ : ∃ e, pl[i]? = some e := ⟨_, List.getElem?_eq_getElem hil⟩
    obtain ⟨s1, s2⟩ := r4 i e hei
    have hdr : pl.drop i = e :: pl.drop (i + 1) := by
      rw [List.drop_eq_getElem_cons hil]
      congr 1
      rw [List.getElem?_eq_getElem hil] at hei
      exact Option.some.inj hei
    rw [hdr] at hres
    simp only [rd_es] at hres
    have hee := hm.2.2.2.2.2.1 e s2
    have hwe := h3.1 e s2
    have hge := mv_e_get s2
    rw [nI_clamp (by omega), s1]
    refine ⟨vp_in_nI (by omega) (by decide), hK _ _ _ _ ?_⟩
    obtain ⟨⟨g, h0⟩, h1, h2, h3', h4, h5, h6, h7⟩ := id hG
    refine rz_blk' [(.aload_n 0, 1, 0, 0), (.getfield 36, 3, 3, 4), (.aload_n 0, 1, 0, 0), (.getfield 32, 3, 3, 3)] (by decide +kernel) (Nat.le_refl _) (Nat.le_refl _) (fun K R hK hR => ?_)
    simp only [↓rx_aload_n0, ↓rx_getfield, ↓rx_nil, ↓ry_fvs, ↓ry_fvz, ↓ry_lr0s, ↓ry_lr0z, ↓ry_obu, ↓ry_r1, ↓rh_ob h1, rz_set, rz_nol, rz_clr, List.set_cons_zero, List.set_cons_succ, rz_tr, Nat.reduceAdd, Int.reduceAdd, Int.reduceToNat, Int.reduceSub, Int.reduceNeg, Int.cast_ofNat_Int]
    refine hK _ _ _ _ ?_
    refine rz_cV (As := [.ref (a + 8)]) (b := a + 10) (S := []) l_Read_51 (by decide +kernel) rfl h3'.1 rfl (Nat.le_of_ble_eq_true rfl) (Nat.le_refl _) (Nat.le_refl _) (c_Word_copy h3' h2 (by omega)) (fun r G' hq => ?_)
    obtain ⟨rfl, rfl⟩ := hq
    simp only [Option.toList, List.nil_append]
    have hbw := h6 _ (List.getElem_mem hway)
    rw [if_pos (by omega)]
    obtain ⟨hG1, hfr1⟩ := rd_is_w (ys' := wn[way].2) hG (rd_wok4 hbw)
    generalize wd_put G (a + 10) 4 wn[way].2 = G1 at hG1 hfr1
    have hmc1 : mc_is G1 am I A J X P := mc_is_keep hmc (fun o ho => hfr1 _ (by omega))
    obtain ⟨-, j1, j2, j3, -⟩ := id hG1
    have hob1 : G1 am = some (.inr (2, mc_fs am I P)) := hmc1 0 (by decide)
    have h41 : G1 (am + 4) = some (.inl (4, 24, .inr (.inr (.inr (.inr (fun e => some (am + 10 + 2 * e))))))) := hmc1 4 (by decide)
    have hwe1 := mc_is_wi hmc1 mX (show e < 30 by omega)
    rw [hee.2.2.2.1, ← hge] at hwe1
    refine rz_blk' [(.aload_n 0, 1, 0, 0), (.getfield 36, 3, 3, 4), (.aload_n 1, 1, 0, 0), (.getfield 89, 3, 2, 5), (.iload 6, 2, 0, 0), (.aaload, 1, 0, 0)] (by decide +kernel) (Nat.le_refl _) (Nat.le_refl _) (fun K R hK hR => ?_)
    simp only [Nat.reduceEqDiff, false_or, or_false, or_true, reduceIte, ↓rx_aaload, ↓rx_aload_n0, ↓rx_aload_n1, ↓rx_getfield, ↓rx_iload, ↓rx_nil, ↓ry_fvs, ↓ry_fvz, ↓ry_li0s, ↓ry_li0z, ↓ry_lr0s, ↓ry_lr0z, ↓ry_obu, ↓ry_r1, ↓ry_ri, true_and, true_or, ↓rh_ob j1, ↓rh_ob hob1, ↓rh_ra h41, va_rfs, rz_set, rz_nol, rz_clr, List.set_cons_zero, List.set_cons_succ, rz_tr, Nat.reduceAdd, Int.reduceAdd, Int.reduceToNat, Int.reduceSub, Int.reduceNeg, Int.cast_ofNat_Int]
    rw [nI_clamp (by omega)]
    refine ⟨vp_in_nI (by omega) (by decide), hK _ _ _ _ ?_⟩
    refine rz_cV (As := [.ref (am + 10 + 2 * e)]) (b := a + 10) (S := []) l_Read_93 (by decide +kernel) rfl j3.1 rfl (Nat.le_of_ble_eq_true rfl) (Nat.le_refl _) (Nat.le_refl _) (c_Word_append j3 hwe1 (by omega) (by omega)) (fun r G' hq => ?_)
    obtain ⟨rfl, rfl⟩ := hq
    simp only [Option.toList, List.nil_append]
    have hvw : rd_wok ((mv_e m e).2.2.1, wn[way].2 ++ (mv_e m e).2.2.2) := by
      refine ⟨by rw [hge]; dsimp only; omega, by dsimp only; rw [List.length_append]; omega, ?_⟩
      intro x hx
      rcases List.mem_append.mp hx with q | q
      · exact hbw.2.2 x q
      · exact hwe.2 x q
    obtain ⟨hG2, hfr2⟩ := rd_is_w (ys' := wn[way].2 ++ (mv_e m e).2.2.2) hG1 (rd_wok4 hvw)
    generalize wd_put G1 (a + 10) 4 (wn[way].2 ++ (mv_e m e).2.2.2) = G2 at hG2 hfr2
    have hmc2 : mc_is G2 am I A J X P := mc_is_keep hmc1 (fun o ho => hfr2 _ (by omega))
    obtain ⟨⟨g2, p0⟩, p1, p2, p3, p4, p5, p6, p7⟩ := id hG2
    have hob2 : G2 am = some (.inr (2, mc_fs am I P)) := hmc2 0 (by decide)
    have h31 : G2 (am + 3) = some (.inl (0, 24, .inl (A 2))) := hmc2 3 (by decide)
    refine rz_blk' [(.aload_n 0, 1, 0, 0), (.aload_n 0, 1, 0, 0), (.getfield 20, 3, 3, 1), (.aload_n 1, 1, 0, 0), (.getfield 96, 3, 2, 4), (.iload 6, 2, 0, 0), (.iaload, 1, 0, 0)] (by decide +kernel) (Nat.le_refl _) (Nat.le_refl _) (fun K R hK hR => ?_)
    simp only [↓rx_aload_n0, ↓rx_aload_n1, ↓rx_getfield, ↓rx_iaload, ↓rx_iload, ↓rx_nil, ↓ry_fvs, ↓ry_fvz, ↓ry_iau, ↓ry_li0s, ↓ry_li0z, ↓ry_lr0s, ↓ry_lr0z, ↓ry_obu, ↓ry_r1, ↓ry_ri, true_and, ↓rh_ob p1, ↓rh_ob hob2, ↓rh_ia h31, rz_set, rz_nol, rz_clr, List.set_cons_zero, List.set_cons_succ, rz_tr, Nat.reduceAdd, Int.reduceAdd, Int.reduceToNat, Int.reduceSub, Int.reduceNeg, Int.cast_ofNat_Int]
    rw [nI_clamp (by omega), hee.2.2.1, ← hge]
    refine ⟨vp_in_nI (by omega) (by decide), hK _ _ _ _ ?_⟩
    refine rz_cV (As := [.ref (rd_t a b), .int (nI (mv_e m e).2.2.1)]) (b := a) (S := []) l_Read_55 (by decide +kernel) rfl p1 rfl (Nat.le_of_ble_eq_true rfl) (Nat.le_refl _) (Nat.le_refl _) (c_Read_addWay p1 p0 p3 p5 p7 hvw (by omega)) (fun r G' hq => ?_)
    obtain ⟨hpost, ⟨g3, hg3⟩, hfr3⟩ := hq
    have hfr3' : rd_fr a G2 G' := fun x hx => hfr3 x (by omega) (by omega) (by omega) (by omega)
    have hfrA : rd_fr a G0 G' := ((hfr.trans hfr1).trans hfr2).trans hfr3'
    have hmc3 : mc_is G' am I A J X P := mc_is_keep hmc2 (fun o ho => hfr3' _ (by omega))
    have hrd : ∀ acc', rw_is G' (rd_t a b) 4 200 9 (acc'.map rd_enc) → (∀ v ∈ acc', rd_wok v) → rd_is G' a b wn acc' wn[way].2 (wn[way].2 ++ (mv_e m e).2.2.2) := by
      intro acc' q1 q2
      exact ⟨⟨g3, hg3⟩, by rw [hfr3 _ (by omega) (by omega) (by omega) (by omega)]; exact p1, wd_is_keep p2 (hfr3 _ (by omega) (by omega) (by omega) (by omega)) (hfr3 _ (by omega) (by omega) (by omega) (by omega)), wd_is_keep p3 (hfr3 _ (by omega) (by omega) (by omega) (by omega)) (hfr3 _ (by omega) (by omega) (by omega) (by omega)), rw_is_keep p4 (hfr3 _ (by omega) (by omega) (by omega) (by omega)) (hfr3 _ (by omega) (by omega) (by omega) (by omega)) (hfr3 _ (by omega) (by omega) (by omega) (by omega)), q1, p6, q2⟩
    have hgo : ∀ acc', rd_add1 acc ((mv_e m e).2.2.1, wn[way].2 ++ (mv_e m e).2.2.2) = some acc' → rw_is G' (rd_t a b) 4 200 9 (acc'.map rd_enc) → (∀ v ∈ acc', rd_wok v) → (∀ v ∈ acc', v.2.length ≤ bd + 3) → rz_T w (d + 4) 0 0 m_Read_readLetter 0 0 123 [some (.ref a), some (.ref am), some (.int (nI l)), some (.int (nI way)), some (.int (nI (wn[way].1 * 3 + l))), some (.int (nI (so + i))), some (.int (nI e))] [] G' Q := by
      intro acc' q1 q2 q3 q4
      refine rz_blk' [(.iinc 5 1, 3, 0, 0), (.goto (-71), 3, 0, 0)] (by decide +kernel) (Nat.le_refl _) (Nat.le_refl _) (fun K R hK hR => ?_)
      simp only [rw_c1, ↓rx_goto, ↓rx_iinc, ↓rx_nil, ↓ry_li0s, ↓ry_li0z, nI_add, rz_set, rz_nol, rz_clr, List.set_cons_zero, List.set_cons_succ, rz_tr, Nat.reduceAdd, Int.reduceAdd, Int.reduceToNat, Int.reduceSub, Int.reduceNeg, Int.cast_ofNat_Int]
      rw [Nat.add_assoc]
      rw [q1] at hres
      exact hK _ _ _ _ (ih (i + 1) acc' _ G' _ (by omega) (by omega) (hrd acc' q2 q3) hfrA hmc3 q4 hres)
    rcases hpost with ⟨q1, rfl, q3⟩ | ⟨q1, q2, rfl, q4⟩ | ⟨q1, q2, rfl, q4⟩
    · simp only [Option.toList, List.cons_append, List.nil_append]
      refine rz_blk' [(.ifCond .ne 5, 3, 0, 0), (.iconst 0, 1, 0, 0), (.ireturn, 1, 0, 0)] (by decide +kernel) (Nat.le_refl _) (Nat.le_refl _) (fun K R hK hR => ?_)
      simp only [rw_c0, ↓rx_iconst, ↓rx_ifCond_ne, ↓rx_ireturn, ↓rx_nil, ↓ry_i1, rz_set, rz_nol, rz_clr, List.set_cons_zero, List.set_cons_succ, rz_tr, Nat.reduceAdd, Int.reduceAdd, Int.reduceToNat, Int.reduceSub, Int.reduceNeg, Int.cast_ofNat_Int]
      exact ⟨fun c2 => hK _ _ _ _ (hgo acc (by simp only [rd_add1]; rw [if_pos q1]) q3 p7 hacc), fun c2 => absurd c2 (by decide)⟩
    · simp only [Option.toList, List.cons_append, List.nil_append]
      refine rz_blk' [(.ifCond .ne 5, 3, 0, 0), (.iconst 0, 1, 0, 0), (.ireturn, 1, 0, 0)] (by decide +kernel) (Nat.le_refl _) (Nat.le_refl _) (fun K R hK hR => ?_)
      simp only [rw_c0, ↓rx_iconst, ↓rx_ifCond_ne, ↓rx_ireturn, ↓rx_nil, ↓ry_i1, rz_set, rz_nol, rz_clr, List.set_cons_zero, List.set_cons_succ, rz_tr, Nat.reduceAdd, Int.reduceAdd, Int.reduceToNat, Int.reduceSub, Int.reduceNeg, Int.cast_ofNat_Int]
      refine ⟨fun c2 => absurd trivial c2, fun c2 => hR _ _ rz_nb_0 (hQ0 ?_ acc _ _ G' (hrd acc q4 p7) hfrA)⟩
      have : rd_add1 acc ((mv_e m e).2.2.1, wn[way].2 ++ (mv_e m e).2.2.2) = none := by
        simp only [rd_add1]; rw [if_neg q1, if_neg (by omega)]
      rw [this] at hres
      exact hres.symm
    · simp only [Option.toList, List.cons_append, List.nil_append]
      refine rz_blk' [(.ifCond .ne 5, 3, 0, 0), (.iconst 0, 1, 0, 0), (.ireturn, 1, 0, 0)] (by decide +kernel) (Nat.le_refl _) (Nat.le_refl _) (fun K R hK hR => ?_)
      simp only [rw_c0, ↓rx_iconst, ↓rx_ifCond_ne, ↓rx_ireturn, ↓rx_nil, ↓ry_i1, rz_set, rz_nol, rz_clr, List.set_cons_zero, List.set_cons_succ, rz_tr, Nat.reduceAdd, Int.reduceAdd, Int.reduceToNat, Int.reduceSub, Int.reduceNeg, Int.cast_ofNat_Int]
      refine ⟨fun c2 => hK _ _ _ _ (hgo _ (by simp only [rd_add1]; rw [if_neg q1, if_pos q2]) q4 ?_ ?_), fun c2 => absurd c2 (by decide)⟩
      · intro v hv
        rcases List.mem_append.mp hv with q | q
        · exact p7 v q
        · simp at q; subst q; exact hvw
      · intro v hv
        rcases List.mem_append.mp hv with q | q
        · exact hacc v q
        · simp at q; subst q; dsimp only; rw [List.length_append]; omega

set_option maxRecDepth 100000 in
set_option maxHeartbeats 4000000 in
theorem rd_rl_o (hm : mv_is I A X m cl) (hs : mv_set I A m cl) (h3 : mv_w3 m) (hap : mc_ap am a 12) (hbd : bd + 3 ≤ 48) (hl : l < 3) (hwb : ∀ v ∈ wn, v.2.length ≤ bd) {res : Option (List (Nat × List Nat))}
    (hQ0 : res = none → ∀ wt xs ys G', rd_is G' a b wn wt xs ys → rd_fr a G0 G' → Q (some (.int 0)) G')
    (hQ1 : ∀ acc, res = some acc → ∀ xs ys G', rd_is G' a (!b) acc wn xs ys → rd_fr a G0 G' → (∀ v ∈ acc, v.2.length ≤ bd + 3) → Q (some (.int 1)) G') :
    ∀ (n way : Nat) (acc : List (Nat × List Nat)) (xs ys : List Nat) (G : rz_G) (z1 z2 z3 : Option Value), wn.length + 1 ≤ way + n → way ≤ wn.length → rd_is G a b wn acc xs ys → rd_fr a G0 G → mc_is G am I A J X P → (∀ v ∈ acc, v.2.length ≤ bd + 3) → rd_ws m (mv_al m cl) l (wn.drop way) acc = res →
      rz_T w (d + 4) 0 0 m_Read_readLetter 0 0 9 [some (.ref a), some (.ref am), some (.int (nI l)), some (.int (nI way)), z1, z2, z3] [] G Q := by
  intro n
  have hnt := rd_nt a b
  have m2 := hm.2.2.1
  induction n with
  | zero => intro way acc xs ys G z1 z2 z3 h1 h2; omega
  | succ n ih =>
    intro way acc xs ys G z1 z2 z3 hn hi hG hfr hmc hacc hres
    obtain ⟨⟨g, h0⟩, h1, h2, h3', h4, h5, h6, h7⟩ := id hG
    have hlen := rd_len h4
    obtain ⟨f, sl, o1, -⟩ := id h4
    rw [List.length_map] at o1
    refine rz_blk' [(.iload_n 3, 1, 0, 0), (.aload_n 0, 1, 0, 0), (.getfield 14, 3, 3, 0), (.getfield 71, 3, 1, 4), (.if_icmp .ge 118, 3, 0, 0), (.aload_n 0, 1, 0, 0), (.getfield 14, 3, 3, 0), (.iload_n 3, 1, 0, 0), (.aload_n 0, 1, 0, 0), (.getfield 32, 3, 3, 3)] (by decide +kernel) (Nat.le_refl _) (Nat.le_refl _) (fun K R hK hR => ?_)
    simp only [↓rx_aload_n0, ↓rx_getfield, ↓rx_if_icmp_ge, ↓rx_iload_n3, ↓rx_nil, ↓ry_fvs, ↓ry_fvz, ↓ry_i2, ↓ry_li0s, ↓ry_li0z, ↓ry_lr0s, ↓ry_lr0z, ↓ry_obu, ↓ry_r1, ↓rh_ob h1, ↓rh_ob o1, rz_set, rz_nol, rz_clr, List.set_cons_zero, List.set_cons_succ, rz_tr, Nat.reduceAdd, Int.reduceAdd, Int.reduceToNat, Int.reduceSub, Int.reduceNeg, Int.cast_ofNat_Int]
    refine ⟨fun c1 => hK _ _ _ _ ?_, fun c1 => hK _ _ _ _ ?_⟩
    · rw [nI_leI (by omega) (by omega)] at c1
      refine rz_blk' [(.aload_n 0, 1, 0, 0)] (by decide +kernel) (Nat.le_refl _) (Nat.le_refl _) (fun K R hK hR => ?_)
      simp only [↓rx_aload_n0, ↓rx_nil, ↓ry_lr0s, ↓ry_lr0z, rz_set, rz_nol, rz_clr, List.set_cons_zero, List.set_cons_succ, rz_tr, Nat.reduceAdd, Int.reduceAdd, Int.reduceToNat, Int.reduceSub, Int.reduceNeg, Int.cast_ofNat_Int]
      refine hK _ _ _ _ ?_
      refine rz_cV (As := []) (b := a) (S := []) l_Read_99 (by decide +kernel) rfl h1 rfl (Nat.le_of_ble_eq_true rfl) (Nat.le_refl _) (Nat.le_refl _) (c_Read_swap hG) (fun r G' hq => ?_)
      obtain ⟨rfl, q1, q2⟩ := hq
      simp only [Option.toList, List.nil_append]
      refine rz_blk' [(.iconst 1, 1, 0, 0), (.ireturn, 1, 0, 0)] (by decide +kernel) (Nat.le_refl _) (Nat.le_refl _) (fun K R hK hR => ?_)
      simp only [rw_c1, ↓rx_iconst, ↓rx_ireturn, ↓rx_nil, rz_set, rz_nol, rz_clr, List.set_cons_zero, List.set_cons_succ, rz_tr, Nat.reduceAdd, Int.reduceAdd, Int.reduceToNat, Int.reduceSub, Int.reduceNeg, Int.cast_ofNat_Int]
      rw [List.drop_of_length_le (by omega)] at hres
      exact hR _ _ rz_nb_1 (hQ1 acc hres.symm xs ys G' q1 (hfr.trans q2) hacc)
    rw [nI_leI (by omega) (by omega)] at c1
    have hway : way < wn.length := by omega
    have hk := h6 _ (List.getElem_mem hway)
    refine rz_cS (As := [.ref (rd_n a b), .int (nI way), .ref (a + 8)]) (S := []) l_Read_74 (by decide +kernel) rfl (Nat.le_of_ble_eq_true rfl) (Nat.le_refl _) (Nat.le_refl _) (c_Read_loadWay h4 h6 hway h2 (by omega)) (fun r G' hq => ?_)
    obtain ⟨rfl, rfl⟩ := hq
    simp only [Option.toList, List.nil_append]
    obtain ⟨hG1, hfr1⟩ := rd_is_b hG (rd_wok4 hk)
    generalize wd_put G (a + 8) 4 wn[way].2 = G1 at hG1 hfr1
    have hmc1 : mc_is G1 am I A J X P := mc_is_keep hmc (fun o ho => hfr1 _ (by unfold mc_ap at hap; omega))
    obtain ⟨-, j1, j2, j3, j4, -⟩ := id hG1
    have hob1 : G1 am = some (.inr (2, mc_fs am I P)) := hmc1 0 (by decide)
    have h91 : G1 (am + 9) = some (.inl (0, 19, .inl (A 4))) := hmc1 9 (by decide)
    refine rz_blk' [(.aload_n 0, 1, 0, 0), (.getfield 14, 3, 3, 0), (.iload_n 3, 1, 0, 0)] (by decide +kernel) (Nat.le_refl _) (Nat.le_refl _) (fun K R hK hR => ?_)
    simp only [↓rx_aload_n0, ↓rx_getfield, ↓rx_iload_n3, ↓rx_nil, ↓ry_fvs, ↓ry_fvz, ↓ry_li0s, ↓ry_li0z, ↓ry_lr0s, ↓ry_lr0z, ↓ry_obu, ↓ry_r1, ↓rh_ob j1, rz_set, rz_nol, rz_clr, List.set_cons_zero, List.set_cons_succ, rz_tr, Nat.reduceAdd, Int.reduceAdd, Int.reduceToNat, Int.reduceSub, Int.reduceNeg, Int.cast_ofNat_Int]
    refine hK _ _ _ _ ?_
    refine rz_cS (As := [.ref (rd_n a b), .int (nI way)]) (S := []) l_Read_78 (by decide +kernel) rfl (Nat.le_of_ble_eq_true rfl) (Nat.le_refl _) (Nat.le_refl _) (c_Read_stateOf j4 h6 hway) (fun r G' hq => ?_)
    obtain ⟨rfl, hg⟩ := hq
    have hg := hg.symm
    subst hg
    simp only [Option.toList, List.cons_append, List.nil_append]
    refine rz_blk' [(.iconst 3, 1, 0, 0), (.imul, 1, 0, 0), (.iload_n 2, 1, 0, 0), (.iadd, 1, 0, 0), (.istore 4, 2, 0, 0)] (by decide +kernel) (Nat.le_refl _) (Nat.le_refl _) (fun K R hK hR => ?_)
    simp only [rw_c3, ↓rx_iadd, ↓rx_iconst, ↓rx_iload_n2, ↓rx_imul, ↓rx_istore, ↓rx_nil, ↓ry_i1, ↓ry_i2, ↓ry_li0s, ↓ry_li0z, pk_mul, nI_add, rz_set, rz_nol, rz_clr, List.set_cons_zero, List.set_cons_succ, rz_tr, Nat.reduceAdd, Int.reduceAdd, Int.reduceToNat, Int.reduceSub, Int.reduceNeg, Int.cast_ofNat_Int]
    refine hK _ _ _ _ ?_
    have hp : wn[way].1 * 3 + l < 18 := by have := hk.1; omega
    obtain ⟨r1, r2, r3, r4⟩ := mv_row hs hp
    have m4 := hm.2.2.2.2.1
    refine rz_blk' [(.aload_n 1, 1, 0, 0), (.getfield 82, 3, 2, 12), (.iload 4, 2, 0, 0), (.iaload, 1, 0, 0), (.istore 5, 2, 0, 0)] (by decide +kernel) (Nat.le_refl _) (Nat.le_refl _) (fun K R hK hR => ?_)
    simp only [↓rx_aload_n1, ↓rx_getfield, ↓rx_iaload, ↓rx_iload, ↓rx_istore, ↓rx_nil, ↓ry_fvs, ↓ry_fvz, ↓ry_i1, ↓ry_iau, ↓ry_li0s, ↓ry_li0z, ↓ry_lr0s, ↓ry_lr0z, ↓ry_obu, ↓ry_r1, ↓ry_ri, true_and, ↓rh_ob hob1, ↓rh_ia h91, rz_set, rz_nol, rz_clr, List.set_cons_zero, List.set_cons_succ, rz_tr, Nat.reduceAdd, Int.reduceAdd, Int.reduceToNat, Int.reduceSub, Int.reduceNeg, Int.cast_ofNat_Int]
    rw [nI_clamp (by omega), r1]
    refine ⟨vp_in_nI (by omega) (by decide), hK _ _ _ _ ?_⟩
    have hdr : wn.drop way = wn[way] :: wn.drop (way + 1) := List.drop_eq_getElem_cons hway
    rw [hdr] at hres
    simp only [rd_ws] at hres
    have := rd_rl_i (w := w) (d := d) (G0 := G0) (Q := Q) (b := b) (J := J) (P := P) hm hs h3 hap hbd hway (hwb _ (List.getElem_mem hway)) hp (res := res) hQ0 (fun acc' xs' ys' G' z1 z2 q1 q2 q3 q4 q5 => ?_) ((mv_pl m (mv_al m cl) (wn[way].1 * 3 + l)).length + 1) 0 acc ys _ z3 (by omega) (by omega) hG1 (hfr.trans hfr1) hmc1 hacc (by rw [List.drop_zero]; exact hres)
    · exact this
    refine rz_blk' [(.iinc 3 1, 3, 0, 0), (.goto (-123), 3, 0, 0)] (by decide +kernel) (Nat.le_refl _) (Nat.le_refl _) (fun K R hK hR => ?_)
    simp only [rw_c1, ↓rx_goto, ↓rx_iinc, ↓rx_nil, ↓ry_li0s, ↓ry_li0z, nI_add, rz_set, rz_nol, rz_clr, List.set_cons_zero, List.set_cons_succ, rz_tr, Nat.reduceAdd, Int.reduceAdd, Int.reduceToNat, Int.reduceSub, Int.reduceNeg, Int.cast_ofNat_Int]
    exact hK _ _ _ _ (ih (way + 1) acc' xs' ys' G' _ _ _ (by omega) (by omega) q1 q2 q3 q4 q5)
end RDL
set_option maxRecDepth 100000 in
set_option maxHeartbeats 4000000 in
/-- readLetter(machine, letter) -/
theorem c_Read_readLetter {w : rz_w} {d : Nat} {G : rz_G} {a am : Nat} {I : Nat → Int32} {A : Nat → Nat → Int32} {J : Nat → Nat → Int64} {X : Nat → List Nat} {P : Nat → Nat} {m : mv_T} {cl l bd : Nat} {b : Bool} {wn wt : List (Nat × List Nat)} {xs ys : List Nat} (h : rd_is G a b wn wt xs ys) (hmc : mc_is G am I A J X P) (hm : mv_is I A X m cl) (hs : mv_set I A m cl) (h3 : mv_w3 m) (hap : mc_ap am a 12) (hbd : bd + 3 ≤ 48) (hl : l < 3) (hwb : ∀ v ∈ wn, v.2.length ≤ bd) :
    rz_C w (d + 4) 0 0 y_Read_readLetter m_Read_readLetter [.ref a, .ref am, .int (nI l)] G (fun q G' => rd_fr a G G' ∧ ((rd_ws m (mv_al m cl) l wn [] = none ∧ q = some (.int 0) ∧ ∃ wt xs ys, rd_is G' a b wn wt xs ys) ∨ ∃ acc, rd_ws m (mv_al m cl) l wn [] = some acc ∧ q = some (.int 1) ∧ (∃ xs ys, rd_is G' a (!b) acc wn xs ys) ∧ ∀ v ∈ acc, v.2.length ≤ bd + 3)) := by
  obtain ⟨⟨g, h0⟩, h1, h2, h3', h4, h5, h6, h7⟩ := id h
  have hnt := rd_nt a b
  obtain ⟨f, sl, o1, -⟩ := id h5
  refine rz_enter' [some (.ref a), some (.ref am), some (.int (nI l)), none, none, none, none] (by decide +kernel) rfl rfl (Nat.le_of_ble_eq_true rfl) rfl ?_
  refine rz_blk' [(.aload_n 0, 1, 0, 0), (.getfield 20, 3, 3, 1)] (by decide +kernel) (Nat.le_refl _) (Nat.le_refl _) (fun K R hK hR => ?_)
  simp only [↓rx_aload_n0, ↓rx_getfield, ↓rx_nil, ↓ry_fvs, ↓ry_fvz, ↓ry_lr0s, ↓ry_lr0z, ↓ry_obu, ↓ry_r1, ↓rh_ob h1, rz_set, rz_nol, rz_clr, List.set_cons_zero, List.set_cons_succ, rz_tr, Nat.reduceAdd, Int.reduceAdd, Int.reduceToNat, Int.reduceSub, Int.reduceNeg, Int.cast_ofNat_Int]
  refine hK _ _ _ _ ?_
  refine rz_cV (As := []) (b := rd_t a b) (S := []) l_Read_39 (by decide +kernel) rfl o1 rfl (Nat.le_of_ble_eq_true rfl) (Nat.le_refl _) (Nat.le_refl _) (c_Rows_clear h5) (fun r G' hq => ?_)
  obtain ⟨rfl, q1, q2⟩ := hq
  simp only [Option.toList, List.nil_append]
  have hfr : rd_fr a G G' := fun x hx => q2 x (by omega) (by omega) (by omega)
  have hG1 : rd_is G' a b wn [] xs ys := ⟨⟨g, by rw [q2 _ (by omega) (by omega) (by omega)]; exact h0⟩, by rw [q2 _ (by omega) (by omega) (by omega)]; exact h1, wd_is_keep h2 (q2 _ (by omega) (by omega) (by omega)) (q2 _ (by omega) (by omega) (by omega)), wd_is_keep h3' (q2 _ (by omega) (by omega) (by omega)) (q2 _ (by omega) (by omega) (by omega)), rw_is_keep h4 (q2 _ (by omega) (by omega) (by omega)) (q2 _ (by omega) (by omega) (by omega)) (q2 _ (by omega) (by omega) (by omega)), q1, h6, fun v hv => by simp at hv⟩
  have hmc1 : mc_is G' am I A J X P := mc_is_keep hmc (fun o ho => hfr _ (by unfold mc_ap at hap; omega))
  refine rz_blk' [(.iconst 0, 1, 0, 0), (.istore_n 3, 1, 0, 0)] (by decide +kernel) (Nat.le_refl _) (Nat.le_refl _) (fun K R hK hR => ?_)
  simp only [rw_c0, ↓rx_iconst, ↓rx_istore_n3, ↓rx_nil, ↓ry_i1, rz_set, rz_nol, rz_clr, List.set_cons_zero, List.set_cons_succ, rz_tr, Nat.reduceAdd, Int.reduceAdd, Int.reduceToNat, Int.reduceSub, Int.reduceNeg, Int.cast_ofNat_Int]
  refine hK _ _ _ _ (rd_rl_o (b := b) (res := rd_ws m (mv_al m cl) l wn []) hm hs h3 hap hbd hl hwb (fun e wt xs ys G' q1 q2 => ⟨q2, Or.inl ⟨e, rfl, wt, xs, ys, q1⟩⟩) (fun acc e xs ys G' q1 q2 q3 => ⟨q2, Or.inr ⟨acc, e, rfl, ⟨xs, ys, q1⟩, q3⟩⟩) (wn.length + 1) 0 [] xs ys G' none none none (by omega) (by omega) hG1 hfr hmc1 (fun v hv => by simp at hv) (by rw [List.drop_zero]))

