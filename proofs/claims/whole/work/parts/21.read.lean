/-! WriterDesk$Reading: writeFinalWords, outputsOf -/
def rd_f1 (m : mv_T) (cl al : Nat) (acc : List (Nat × List Nat)) (v : Nat × List Nat) : List (Nat × List Nat) := if (cl &&& al).testBit v.1 then (if (0, v.2 ++ (m.2.2.1 v.1).getD []) ∈ acc then acc else acc ++ [(0, v.2 ++ (m.2.2.1 v.1).getD [])]) else acc
theorem rd_f1_len (m : mv_T) (cl al : Nat) (acc : List (Nat × List Nat)) (v : Nat × List Nat) : (rd_f1 m cl al acc v).length ≤ acc.length + 1 := by
  simp only [rd_f1]; split
  · split
    · omega
    · simp
  · omega
section RDF
variable {w : rz_w} {d : Nat} {a am : Nat} {I : Nat → Int32} {A : Nat → Nat → Int32} {J : Nat → Nat → Int64} {X : Nat → List Nat} {P : Nat → Nat} {m : mv_T} {cl bd : Nat} {b : Bool} {wn : List (Nat × List Nat)} {G0 : rz_G} {Q : Option Value → rz_G → Prop}
set_option maxRecDepth 100000 in
set_option maxHeartbeats 4000000 in
theorem rd_wf_l (hm : mv_is I A X m cl) (hs : mv_set I A m cl) (h3 : mv_w3 m) (hap : mc_ap am a 12) (hbd : bd + 3 ≤ 48) (hwb : ∀ v ∈ wn, v.2.length ≤ bd) (hQ : ∀ xs ys G', rd_is G' a (!b) (rd_fi m cl (mv_al m cl) wn []) wn xs ys → rd_fr a G0 G' → Q none G') :
    ∀ (n way : Nat) (acc : List (Nat × List Nat)) (xs ys : List Nat) (G : rz_G) (z : Option Value), wn.length + 1 ≤ way + n → way ≤ wn.length → rd_is G a b wn acc xs ys → rd_fr a G0 G → mc_is G am I A J X P → acc.length ≤ way → rd_fi m cl (mv_al m cl) (wn.drop way) acc = rd_fi m cl (mv_al m cl) wn [] →
      rz_T w (d + 4) 0 0 m_Read_writeFinalWords 0 0 9 [some (.ref a), some (.ref am), some (.int (nI way)), z] [] G Q := by
  intro n
  have hnt := rd_nt a b
  have m2 := hm.2.2.1
  have mX := hm.2.2.2.2.2.2.2.2.2.2.2.2
  have hI2 := hm.2.2.2.2.2.2.1
  have hcl := hm.2.2.2.2.2.2.2.1
  have hal := mv_al64 hm
  have hI4 := hs.2.1
  unfold mc_ap at hap
  induction n with
  | zero => intro way acc xs ys G z h1 h2; omega
  | succ n ih =>
    intro way acc xs ys G z hn hi hG hfr hmc hacc hres
    obtain ⟨⟨g, h0⟩, h1, h2, h3', h4, h5, h6, h7⟩ := id hG
    have hlen := rd_len h4
    obtain ⟨f, sl, o1, -⟩ := id h4
    rw [List.length_map] at o1
    refine rz_blk' [(.iload_n 2, 1, 0, 0), (.aload_n 0, 1, 0, 0), (.getfield 14, 3, 3, 0), (.getfield 71, 3, 1, 4), (.if_icmp .ge 61, 3, 0, 0), (.aload_n 0, 1, 0, 0), (.getfield 14, 3, 3, 0), (.iload_n 2, 1, 0, 0)] (by decide +kernel) (Nat.le_refl _) (Nat.le_refl _) (fun K R hK hR => ?_)
    simp only [↓rx_aload_n0, ↓rx_getfield, ↓rx_if_icmp_ge, ↓rx_iload_n2, ↓rx_nil, ↓ry_fvs, ↓ry_fvz, ↓ry_i2, ↓ry_li0s, ↓ry_li0z, ↓ry_lr0s, ↓ry_lr0z, ↓ry_obu, ↓ry_r1, ↓rh_ob h1, ↓rh_ob o1, rz_set, rz_nol, rz_clr, List.set_cons_zero, List.set_cons_succ, rz_tr, Nat.reduceAdd, Int.reduceAdd, Int.reduceToNat, Int.reduceSub, Int.reduceNeg, Int.cast_ofNat_Int]
    refine ⟨fun c1 => hK _ _ _ _ ?_, fun c1 => hK _ _ _ _ ?_⟩
    · rw [nI_leI (by omega) (by omega)] at c1
      refine rz_blk' [(.aload_n 0, 1, 0, 0)] (by decide +kernel) (Nat.le_refl _) (Nat.le_refl _) (fun K R hK hR => ?_)
      simp only [↓rx_aload_n0, ↓rx_nil, ↓ry_lr0s, ↓ry_lr0z, rz_set, rz_nol, rz_clr, List.set_cons_zero, List.set_cons_succ, rz_tr, Nat.reduceAdd, Int.reduceAdd, Int.reduceToNat, Int.reduceSub, Int.reduceNeg, Int.cast_ofNat_Int]
      refine hK _ _ _ _ ?_
      refine rz_cV (As := []) (b := a) (S := []) l_Read_99 (by decide +kernel) rfl h1 rfl (Nat.le_of_ble_eq_true rfl) (Nat.le_refl _) (Nat.le_refl _) (c_Read_swap hG) (fun r G' hq => ?_)
      obtain ⟨rfl, q1, q2⟩ := hq
      simp only [Option.toList, List.nil_append]
      refine rz_blk' [(.return_, 1, 0, 0)] (by decide +kernel) (Nat.le_refl _) (Nat.le_refl _) (fun K R hK hR => ?_)
      simp only [↓rx_nil, ↓rx_return_, rz_set, rz_nol, rz_clr, List.set_cons_zero, List.set_cons_succ, rz_tr, Nat.reduceAdd, Int.reduceAdd, Int.reduceToNat, Int.reduceSub, Int.reduceNeg, Int.cast_ofNat_Int]
      rw [List.drop_of_length_le (by omega)] at hres
      simp only [rd_fi] at hres
      rw [hres] at q1
      exact hR _ _ (rz_nb_i (by decide)) (hQ xs ys G' q1 (hfr.trans q2))
    rw [nI_leI (by omega) (by omega)] at c1
    have hway : way < wn.length := by omega
    have hk := h6 _ (List.getElem_mem hway)
    have hkb := hwb _ (List.getElem_mem hway)
    have hdr : wn.drop way = wn[way] :: wn.drop (way + 1) := List.drop_eq_getElem_cons hway
    rw [hdr] at hres
    have hres : rd_fi m cl (mv_al m cl) (wn.drop (way + 1)) (rd_f1 m cl (mv_al m cl) acc wn[way]) = rd_fi m cl (mv_al m cl) wn [] := hres
    refine rz_cS (As := [.ref (rd_n a b), .int (nI way)]) (S := []) l_Read_78 (by decide +kernel) rfl (Nat.le_of_ble_eq_true rfl) (Nat.le_refl _) (Nat.le_refl _) (c_Read_stateOf h4 h6 hway) (fun r G' hq => ?_)
    obtain ⟨rfl, hg⟩ := hq
    have hg := hg.symm
    subst hg
    simp only [Option.toList, List.cons_append, List.nil_append]
    refine rz_blk' [(.istore_n 3, 1, 0, 0), (.aload_n 1, 1, 0, 0), (.iload_n 3, 1, 0, 0)] (by decide +kernel) (Nat.le_refl _) (Nat.le_refl _) (fun K R hK hR => ?_)
    simp only [↓rx_aload_n1, ↓rx_iload_n3, ↓rx_istore_n3, ↓rx_nil, ↓ry_i1, ↓ry_li0s, ↓ry_li0z, ↓ry_lr0s, ↓ry_lr0z, rz_set, rz_nol, rz_clr, List.set_cons_zero, List.set_cons_succ, rz_tr, Nat.reduceAdd, Int.reduceAdd, Int.reduceToNat, Int.reduceSub, Int.reduceNeg, Int.cast_ofNat_Int]
    refine hK _ _ _ _ ?_
    have hob : G am = some (.inr (2, mc_fs am I P)) := hmc 0 (by decide)
    have hcc := c_Mach_isClosing (w := w) (d := d + 3) (G := G) (a := am) (I := I) (A := A) (J := J) (X := X) (P := P) (q := wn[way].1) hI2 hcl hI4 hal (by have := hk.1; omega)
    rw [mc_id hmc] at hcc
    refine rz_cV (As := [.int (nI wn[way].1)]) (b := am) (S := []) l_Read_102 (by decide +kernel) rfl hob rfl (Nat.le_of_ble_eq_true rfl) (Nat.le_refl _) (Nat.le_refl _) (hcc) (fun r G' hq => ?_)
    obtain ⟨rfl, hg⟩ := hq
    have hg := hg.symm
    subst hg
    simp only [Option.toList, List.cons_append, List.nil_append]
    have hgo : ∀ (acc' : List (Nat × List Nat)) (xs ys : List Nat) (G3 : rz_G), acc' = rd_f1 m cl (mv_al m cl) acc wn[way] → rd_is G3 a b wn acc' xs ys → rd_fr a G0 G3 → mc_is G3 am I A J X P → rz_T w (d + 4) 0 0 m_Read_writeFinalWords 0 0 72 [some (.ref a), some (.ref am), some (.int (nI way)), some (.int (nI wn[way].1))] [] G3 Q := by
      intro acc' xs ys G3 q1 q2 q3 q4
      refine rz_blk' [(.iinc 2 1, 3, 0, 0), (.goto (-66), 3, 0, 0)] (by decide +kernel) (Nat.le_refl _) (Nat.le_refl _) (fun K R hK hR => ?_)
      simp only [rw_c1, ↓rx_goto, ↓rx_iinc, ↓rx_nil, ↓ry_li0s, ↓ry_li0z, nI_add, rz_set, rz_nol, rz_clr, List.set_cons_zero, List.set_cons_succ, rz_tr, Nat.reduceAdd, Int.reduceAdd, Int.reduceToNat, Int.reduceSub, Int.reduceNeg, Int.cast_ofNat_Int]
      exact hK _ _ _ _ (ih (way + 1) acc' xs ys G3 _ (by omega) (by omega) q2 q3 q4 (by rw [q1]; have := rd_f1_len m cl (mv_al m cl) acc wn[way]; omega) (by rw [q1]; exact hres))
    by_cases c2 : (cl &&& mv_al m cl).testBit wn[way].1 = true
    · rw [if_pos c2]
      refine rz_blk' [(.ifCond .eq 38, 3, 0, 0), (.aload_n 0, 1, 0, 0), (.getfield 14, 3, 3, 0), (.iload_n 2, 1, 0, 0), (.aload_n 0, 1, 0, 0), (.getfield 36, 3, 3, 4)] (by decide +kernel) (Nat.le_refl _) (Nat.le_refl _) (fun K R hK hR => ?_)
      simp only [↓rx_aload_n0, ↓rx_getfield, ↓rx_ifCond_eq, ↓rx_iload_n2, ↓rx_nil, ↓ry_fvs, ↓ry_fvz, ↓ry_i1, ↓ry_li0s, ↓ry_li0z, ↓ry_lr0s, ↓ry_lr0z, ↓ry_obu, ↓ry_r1, ↓rh_ob h1, rz_set, rz_nol, rz_clr, List.set_cons_zero, List.set_cons_succ, rz_tr, Nat.reduceAdd, Int.reduceAdd, Int.reduceToNat, Int.reduceSub, Int.reduceNeg, Int.cast_ofNat_Int]
      refine ⟨fun c3 => absurd c3 (by decide), fun c3 => hK _ _ _ _ ?_⟩
      have hcb : cl.testBit wn[way].1 = true := by
        rw [Nat.testBit_and, Bool.and_eq_true] at c2; exact c2.1
      obtain ⟨fs, hfs⟩ := Option.isSome_iff_exists.mp ((hm.2.2.2.2.2.2.2.2.1 wn[way].1 hk.1).mp hcb)
      have hxq := hm.2.2.2.2.2.2.2.2.2.2.1 wn[way].1 hk.1 fs hfs
      have hf3 := h3.2.1 _ fs hfs
      refine rz_cS (As := [.ref (rd_n a b), .int (nI way), .ref (a + 10)]) (S := []) l_Read_74 (by decide +kernel) rfl (Nat.le_of_ble_eq_true rfl) (Nat.le_refl _) (Nat.le_refl _) (c_Read_loadWay h4 h6 hway h3' (by omega)) (fun r G' hq => ?_)
      obtain ⟨rfl, rfl⟩ := hq
      simp only [Option.toList, List.nil_append]
      obtain ⟨hG1, hfr1⟩ := rd_is_w (ys' := wn[way].2) hG (rd_wok4 hk)
      generalize wd_put G (a + 10) 4 wn[way].2 = G1 at hG1 hfr1
      have hmc1 : mc_is G1 am I A J X P := mc_is_keep hmc (fun o ho => hfr1 _ (by omega))
      obtain ⟨-, j1, j2, j3, -⟩ := id hG1
      have hob1 : G1 am = some (.inr (2, mc_fs am I P)) := hmc1 0 (by decide)
      have h71 : G1 (am + 7) = some (.inl (4, 6, .inr (.inr (.inr (.inr (fun q => some (am + 58 + 2 * q))))))) := hmc1 7 (by decide)
      have hwe1 := mc_is_wi hmc1 mX (show 24 + wn[way].1 < 30 by have := hk.1; omega)
      rw [hxq, show am + 10 + 2 * (24 + wn[way].1) = am + 58 + 2 * wn[way].1 by omega] at hwe1
      refine rz_blk' [(.aload_n 0, 1, 0, 0), (.getfield 36, 3, 3, 4), (.aload_n 1, 1, 0, 0), (.getfield 106, 3, 2, 7), (.iload_n 3, 1, 0, 0), (.aaload, 1, 0, 0)] (by decide +kernel) (Nat.le_refl _) (Nat.le_refl _) (fun K R hK hR => ?_)
      simp only [Nat.reduceEqDiff, false_or, or_false, or_true, reduceIte, ↓rx_aaload, ↓rx_aload_n0, ↓rx_aload_n1, ↓rx_getfield, ↓rx_iload_n3, ↓rx_nil, ↓ry_fvs, ↓ry_fvz, ↓ry_li0s, ↓ry_li0z, ↓ry_lr0s, ↓ry_lr0z, ↓ry_obu, ↓ry_r1, ↓ry_ri, true_and, true_or, ↓rh_ob j1, ↓rh_ob hob1, ↓rh_ra h71, va_rfs, rz_set, rz_nol, rz_clr, List.set_cons_zero, List.set_cons_succ, rz_tr, Nat.reduceAdd, Int.reduceAdd, Int.reduceToNat, Int.reduceSub, Int.reduceNeg, Int.cast_ofNat_Int]
      have hk1 := hk.1
      rw [nI_clamp (by omega)]
      refine ⟨vp_in_nI (by omega) (by decide), hK _ _ _ _ ?_⟩
      refine rz_cV (As := [.ref (am + 58 + 2 * wn[way].1)]) (b := a + 10) (S := []) l_Read_93 (by decide +kernel) rfl j3.1 rfl (Nat.le_of_ble_eq_true rfl) (Nat.le_refl _) (Nat.le_refl _) (c_Word_append j3 hwe1 (by omega) (by omega)) (fun r G' hq => ?_)
      obtain ⟨rfl, rfl⟩ := hq
      simp only [Option.toList, List.nil_append]
      have hvw : rd_wok (0, wn[way].2 ++ fs) := by
        refine ⟨show 0 < 6 by decide, by dsimp only; rw [List.length_append]; omega, ?_⟩
        intro x hx
        rcases List.mem_append.mp hx with q | q
        · exact hk.2.2 x q
        · exact hf3.2 x q
      obtain ⟨hG2, hfr2⟩ := rd_is_w (ys' := wn[way].2 ++ fs) hG1 (rd_wok4 hvw)
      generalize wd_put G1 (a + 10) 4 (wn[way].2 ++ fs) = G2 at hG2 hfr2
      have hmc2 : mc_is G2 am I A J X P := mc_is_keep hmc1 (fun o ho => hfr2 _ (by omega))
      obtain ⟨⟨g2, p0⟩, p1, p2, p3, p4, p5, p6, p7⟩ := id hG2
      refine rz_blk' [(.aload_n 0, 1, 0, 0), (.aload_n 0, 1, 0, 0), (.getfield 20, 3, 3, 1), (.iconst 0, 1, 0, 0)] (by decide +kernel) (Nat.le_refl _) (Nat.le_refl _) (fun K R hK hR => ?_)
      simp only [rw_c0, ↓rx_aload_n0, ↓rx_getfield, ↓rx_iconst, ↓rx_nil, ↓ry_fvs, ↓ry_fvz, ↓ry_lr0s, ↓ry_lr0z, ↓ry_obu, ↓ry_r1, ↓rh_ob p1, rz_set, rz_nol, rz_clr, List.set_cons_zero, List.set_cons_succ, rz_tr, Nat.reduceAdd, Int.reduceAdd, Int.reduceToNat, Int.reduceSub, Int.reduceNeg, Int.cast_ofNat_Int]
      refine hK _ _ _ _ ?_
      refine rz_cV (As := [.ref (rd_t a b), .int (nI 0)]) (b := a) (S := []) l_Read_55 (by decide +kernel) rfl p1 rfl (Nat.le_of_ble_eq_true rfl) (Nat.le_refl _) (Nat.le_refl _) (c_Read_addWay p1 p0 p3 p5 p7 hvw (by omega)) (fun r G' hq => ?_)
      obtain ⟨hpost, ⟨g3, hg3⟩, hfr3⟩ := hq
      have hfr3' : rd_fr a G2 G' := fun x hx => hfr3 x (by omega) (by omega) (by omega) (by omega)
      have hfrA : rd_fr a G0 G' := ((hfr.trans hfr1).trans hfr2).trans hfr3'
      have hmc3 : mc_is G' am I A J X P := mc_is_keep hmc2 (fun o ho => hfr3' _ (by omega))
      have hrd : ∀ acc', rw_is G' (rd_t a b) 4 200 9 (acc'.map rd_enc) → (∀ v ∈ acc', rd_wok v) → rd_is G' a b wn acc' xs (wn[way].2 ++ fs) := by
        intro acc' q1 q2
        exact ⟨⟨g3, hg3⟩, by rw [hfr3 _ (by omega) (by omega) (by omega) (by omega)]; exact p1, wd_is_keep p2 (hfr3 _ (by omega) (by omega) (by omega) (by omega)) (hfr3 _ (by omega) (by omega) (by omega) (by omega)), wd_is_keep p3 (hfr3 _ (by omega) (by omega) (by omega) (by omega)) (hfr3 _ (by omega) (by omega) (by omega) (by omega)), rw_is_keep p4 (hfr3 _ (by omega) (by omega) (by omega) (by omega)) (hfr3 _ (by omega) (by omega) (by omega) (by omega)) (hfr3 _ (by omega) (by omega) (by omega) (by omega)), q1, p6, q2⟩
      have hfe : (m.2.2.1 wn[way].1).getD [] = fs := by rw [hfs]; rfl
      have hend : ∀ acc', acc' = rd_f1 m cl (mv_al m cl) acc wn[way] → rw_is G' (rd_t a b) 4 200 9 (acc'.map rd_enc) → (∀ v ∈ acc', rd_wok v) → ∀ r : Int32, rz_T w (d + 4) 0 0 m_Read_writeFinalWords 0 0 71 [some (.ref a), some (.ref am), some (.int (nI way)), some (.int (nI wn[way].1))] [.int r] G' Q := by
        intro acc' q1 q2 q3 r
        refine rz_blk' [(.pop, 1, 0, 0)] (by decide +kernel) (Nat.le_refl _) (Nat.le_refl _) (fun K R hK hR => ?_)
        simp only [↓rx_nil, ↓rx_pop, ↓ry_v1i, ↓ry_v1r, rz_set, rz_nol, rz_clr, List.set_cons_zero, List.set_cons_succ, rz_tr, Nat.reduceAdd, Int.reduceAdd, Int.reduceToNat, Int.reduceSub, Int.reduceNeg, Int.cast_ofNat_Int]
        exact hK _ _ _ _ (hgo acc' _ _ G' q1 (hrd acc' q2 q3) hfrA hmc3)
      rcases hpost with ⟨q1, rfl, q3⟩ | ⟨q1, q2, rfl, q4⟩ | ⟨q1, q2, rfl, q4⟩
      · exact hend acc (by simp only [rd_f1, hfe]; rw [if_pos c2, if_pos q1]) q3 p7 1
      · omega
      · refine hend _ (by simp only [rd_f1, hfe]; rw [if_pos c2, if_neg q1]) q4 ?_ 1
        intro v hv
        rcases List.mem_append.mp hv with q | q
        · exact p7 v q
        · simp at q; subst q; exact hvw
    · rw [if_neg c2]
      refine rz_blk' [(.ifCond .eq 38, 3, 0, 0), (.aload_n 0, 1, 0, 0), (.getfield 14, 3, 3, 0), (.iload_n 2, 1, 0, 0), (.aload_n 0, 1, 0, 0), (.getfield 36, 3, 3, 4)] (by decide +kernel) (Nat.le_refl _) (Nat.le_refl _) (fun K R hK hR => ?_)
      simp only [↓rx_aload_n0, ↓rx_getfield, ↓rx_ifCond_eq, ↓rx_iload_n2, ↓rx_nil, ↓ry_fvs, ↓ry_fvz, ↓ry_i1, ↓ry_li0s, ↓ry_li0z, ↓ry_lr0s, ↓ry_lr0z, ↓ry_obu, ↓ry_r1, ↓rh_ob h1, rz_set, rz_nol, rz_clr, List.set_cons_zero, List.set_cons_succ, rz_tr, Nat.reduceAdd, Int.reduceAdd, Int.reduceToNat, Int.reduceSub, Int.reduceNeg, Int.cast_ofNat_Int]
      exact ⟨fun c3 => hK _ _ _ _ (hgo acc _ _ G (by simp only [rd_f1]; rw [if_neg c2]) hG hfr hmc), fun c3 => absurd trivial c3⟩
end RDF
set_option maxRecDepth 100000 in
set_option maxHeartbeats 4000000 in
/-- writeFinalWords(machine) -/
theorem c_Read_writeFinalWords {w : rz_w} {d : Nat} {G : rz_G} {a am : Nat} {I : Nat → Int32} {A : Nat → Nat → Int32} {J : Nat → Nat → Int64} {X : Nat → List Nat} {P : Nat → Nat} {m : mv_T} {cl : Nat} {bd : Nat} {b : Bool} {wn wt : List (Nat × List Nat)} {xs ys : List Nat} (h : rd_is G a b wn wt xs ys) (hmc : mc_is G am I A J X P) (hm : mv_is I A X m cl) (hs : mv_set I A m cl) (h3 : mv_w3 m) (hap : mc_ap am a 12) (hbd : bd + 3 ≤ 48) (hwb : ∀ v ∈ wn, v.2.length ≤ bd) :
    rz_C w (d + 4) 0 0 y_Read_writeFinalWords m_Read_writeFinalWords [.ref a, .ref am] G (fun q G' => q = none ∧ rd_fr a G G' ∧ ∃ xs ys, rd_is G' a (!b) (rd_fi m cl (mv_al m cl) wn []) wn xs ys) := by
  obtain ⟨⟨g, h0⟩, h1, h2, h3', h4, h5, h6, h7⟩ := id h
  have hnt := rd_nt a b
  obtain ⟨f, sl, o1, -⟩ := id h5
  refine rz_enter' [some (.ref a), some (.ref am), none, none] (by decide +kernel) rfl rfl (Nat.le_of_ble_eq_true rfl) rfl ?_
  refine rz_blk' [(.aload_n 0, 1, 0, 0), (.getfield 20, 3, 3, 1)] (by decide +kernel) (Nat.le_refl _) (Nat.le_refl _) (fun K R hK hR => ?_)
  simp only [↓rx_aload_n0, ↓rx_getfield, ↓rx_nil, ↓ry_fvs, ↓ry_fvz, ↓ry_lr0s, ↓ry_lr0z, ↓ry_obu, ↓ry_r1, ↓rh_ob h1, rz_set, rz_nol, rz_clr, List.set_cons_zero, List.set_cons_succ, rz_tr, Nat.reduceAdd, Int.reduceAdd, Int.reduceToNat, Int.reduceSub, Int.reduceNeg, Int.cast_ofNat_Int]
  refine hK _ _ _ _ ?_
  refine rz_cV (As := []) (b := rd_t a b) (S := []) l_Read_39 (by decide +kernel) rfl o1 rfl (Nat.le_of_ble_eq_true rfl) (Nat.le_refl _) (Nat.le_refl _) (c_Rows_clear h5) (fun r G' hq => ?_)
  obtain ⟨rfl, q1, q2⟩ := hq
  simp only [Option.toList, List.nil_append]
  have hfr : rd_fr a G G' := fun x hx => q2 x (by omega) (by omega) (by omega)
  have hG1 : rd_is G' a b wn [] xs ys := ⟨⟨g, by rw [q2 _ (by omega) (by omega) (by omega)]; exact h0⟩, by rw [q2 _ (by omega) (by omega) (by omega)]; exact h1, wd_is_keep h2 (q2 _ (by omega) (by omega) (by omega)) (q2 _ (by omega) (by omega) (by omega)), wd_is_keep h3' (q2 _ (by omega) (by omega) (by omega)) (q2 _ (by omega) (by omega) (by omega)), rw_is_keep h4 (q2 _ (by omega) (by omega) (by omega)) (q2 _ (by omega) (by omega) (by omega)) (q2 _ (by omega) (by omega) (by omega)), q1, h6, fun v hv => by simp at hv⟩
  have hmc1 : mc_is G' am I A J X P := mc_is_keep hmc (fun o ho => hfr _ (by unfold mc_ap at hap; omega))
  refine rz_blk' [(.iconst 0, 1, 0, 0), (.istore_n 2, 1, 0, 0)] (by decide +kernel) (Nat.le_refl _) (Nat.le_refl _) (fun K R hK hR => ?_)
  simp only [rw_c0, ↓rx_iconst, ↓rx_istore_n2, ↓rx_nil, ↓ry_i1, rz_set, rz_nol, rz_clr, List.set_cons_zero, List.set_cons_succ, rz_tr, Nat.reduceAdd, Int.reduceAdd, Int.reduceToNat, Int.reduceSub, Int.reduceNeg, Int.cast_ofNat_Int]
  exact hK _ _ _ _ (rd_wf_l hm hs h3 hap hbd hwb (fun xs ys G' q1 q2 => ⟨rfl, q2, xs, ys, q1⟩) (wn.length + 1) 0 [] xs ys G' none (by omega) (by omega) hG1 hfr hmc1 (by simp) (by rw [List.drop_zero]))

/-- the ways behind the first k letters of a word; none when there are too many -/
def rd_k (m : mv_T) (al : Nat) (lt : Nat → Nat) : Nat → Option (List (Nat × List Nat))
  | 0 => some (if al = 0 then [] else [(0, m.2.2.2)])
  | k + 1 => match rd_k m al lt k with
    | some ws => rd_ws m al (lt k) ws []
    | none => none
set_option maxRecDepth 100000 in
set_option maxHeartbeats 4000000 in
theorem rd_oo_l {w : rz_w} {d : Nat} {G : rz_G} {a am : Nat} {I : Nat → Int32} {A : Nat → Nat → Int32} {J : Nat → Nat → Int64} {X : Nat → List Nat} {P : Nat → Nat} {m : mv_T} {cl : Nat} {G0 : rz_G} {n0 : Nat} (hn0 : n0 ≤ 10) (x : Int32) (hlet : ∀ i, i < n0 → dk_let x.toBitVec.toNat i < 3) (hm : mv_is I A X m cl) (hs : mv_set I A m cl) (h3 : mv_w3 m) (hap : mc_ap am a 12) {Q : Option Value → rz_G → Prop}
    (hQ0 : rd_k m (mv_al m cl) (dk_let x.toBitVec.toNat) n0 = none → ∀ b wn wt xs ys G', rd_is G' a b wn wt xs ys → rd_fr a G0 G' → Q (some (.int (-1))) G')
    (hQ1 : ∀ ws, rd_k m (mv_al m cl) (dk_let x.toBitVec.toNat) n0 = some ws → ∀ b wt xs ys G', rd_is G' a b (rd_fi m cl (mv_al m cl) ws []) wt xs ys → rd_fr a G0 G' → Q (some (.int (nI (rd_fi m cl (mv_al m cl) ws []).length))) G') :
    ∀ (n k : Nat) (ws wt : List (Nat × List Nat)) (b : Bool) (xs ys : List Nat) (G : rz_G), n0 + 1 ≤ k + n → k ≤ n0 → rd_k m (mv_al m cl) (dk_let x.toBitVec.toNat) k = some ws → (∀ v ∈ ws, v.2.length ≤ 3 + 3 * k) → rd_is G a b ws wt xs ys → rd_fr a G0 G → mc_is G am I A J X P →
      rz_T w (d + 5) 0 0 m_Read_outputsOf 0 0 38 [some (.ref a), some (.ref am), some (.int (nI n0)), some (.int x), some (.int (nI k))] [] G Q := by
  intro n
  induction n with
  | zero => intro k ws wt b xs ys G h1 h2; omega
  | succ n ih =>
    intro k ws wt b xs ys G hn hk hw hwb hG hfr hmc
    obtain ⟨-, h1, -, -, h4, -⟩ := id hG
    refine rz_blk' [(.iload 4, 2, 0, 0), (.iload_n 2, 1, 0, 0), (.if_icmp .ge 25, 3, 0, 0), (.aload_n 0, 1, 0, 0), (.aload_n 1, 1, 0, 0), (.iload_n 3, 1, 0, 0), (.iload 4, 2, 0, 0)] (by decide +kernel) (Nat.le_refl _) (Nat.le_refl _) (fun K R hK hR => ?_)
    simp only [↓rx_aload_n0, ↓rx_aload_n1, ↓rx_if_icmp_ge, ↓rx_iload, ↓rx_iload_n2, ↓rx_iload_n3, ↓rx_nil, ↓ry_i2, ↓ry_li0s, ↓ry_li0z, ↓ry_lr0s, ↓ry_lr0z, rz_set, rz_nol, rz_clr, List.set_cons_zero, List.set_cons_succ, rz_tr, Nat.reduceAdd, Int.reduceAdd, Int.reduceToNat, Int.reduceSub, Int.reduceNeg, Int.cast_ofNat_Int]
    refine ⟨fun c1 => hK _ _ _ _ ?_, fun c1 => hK _ _ _ _ ?_⟩
    · rw [nI_leI (by omega) (by omega)] at c1
      have hk2 : k = n0 := by omega
      subst hk2
      refine rz_blk' [(.aload_n 0, 1, 0, 0), (.aload_n 1, 1, 0, 0)] (by decide +kernel) (Nat.le_refl _) (Nat.le_refl _) (fun K R hK hR => ?_)
      simp only [↓rx_aload_n0, ↓rx_aload_n1, ↓rx_nil, ↓ry_lr0s, ↓ry_lr0z, rz_set, rz_nol, rz_clr, List.set_cons_zero, List.set_cons_succ, rz_tr, Nat.reduceAdd, Int.reduceAdd, Int.reduceToNat, Int.reduceSub, Int.reduceNeg, Int.cast_ofNat_Int]
      refine hK _ _ _ _ ?_
      refine rz_cV (As := [.ref am]) (b := a) (S := []) l_Read_67 (by decide +kernel) rfl h1 rfl (Nat.le_of_ble_eq_true rfl) (Nat.le_refl _) (Nat.le_refl _) (c_Read_writeFinalWords (bd := 3 + 3 * k) hG hmc hm hs h3 hap (by omega) hwb) (fun r G' hq => ?_)
      obtain ⟨rfl, q1, xs2, ys2, q2⟩ := hq
      simp only [Option.toList, List.nil_append]
      obtain ⟨-, j1, -, -, j4, -⟩ := id q2
      obtain ⟨f, sl, o1, -⟩ := id j4
      rw [List.length_map] at o1
      refine rz_blk' [(.aload_n 0, 1, 0, 0), (.getfield 14, 3, 3, 0), (.getfield 71, 3, 1, 4), (.ireturn, 1, 0, 0)] (by decide +kernel) (Nat.le_refl _) (Nat.le_refl _) (fun K R hK hR => ?_)
      simp only [↓rx_aload_n0, ↓rx_getfield, ↓rx_ireturn, ↓rx_nil, ↓ry_fvs, ↓ry_fvz, ↓ry_lr0s, ↓ry_lr0z, ↓ry_obu, ↓ry_r1, ↓rh_ob j1, ↓rh_ob o1, rz_set, rz_nol, rz_clr, List.set_cons_zero, List.set_cons_succ, rz_tr, Nat.reduceAdd, Int.reduceAdd, Int.reduceToNat, Int.reduceSub, Int.reduceNeg, Int.cast_ofNat_Int]
      exact hR _ _ (rz_nb_i (by decide)) (hQ1 ws hw _ _ _ _ G' q2 (hfr.trans q1))
    rw [nI_leI (by omega) (by omega)] at c1
    refine rz_cN (As := [.int x, .int (nI k)]) (S := [.ref am, .ref a]) l_Read_59 (by decide +kernel) rfl (Nat.le_of_ble_eq_true rfl) (Nat.le_refl _) (Nat.le_refl _) (c_Desk_letterOf x (by omega)) (fun r G' hq => ?_)
    obtain ⟨rfl, hg⟩ := hq
    have hg := hg.symm
    subst hg
    simp only [Option.toList, List.cons_append, List.nil_append]
    have hl3 := hlet k (by omega)
    refine rz_cV (As := [.ref am, .int (nI (dk_let x.toBitVec.toNat k))]) (b := a) (S := []) l_Read_63 (by decide +kernel) rfl h1 rfl (Nat.le_of_ble_eq_true rfl) (Nat.le_refl _) (Nat.le_refl _) (c_Read_readLetter (bd := 3 + 3 * k) hG hmc hm hs h3 hap (by omega) hl3 hwb) (fun r G' hq => ?_)
    obtain ⟨hfr2, hq⟩ := hq
    have hmc2 : mc_is G' am I A J X P := mc_is_keep hmc (fun o ho => hfr2 _ (by unfold mc_ap at hap; omega))
    have hstep : rd_k m (mv_al m cl) (dk_let x.toBitVec.toNat) (k + 1) = rd_ws m (mv_al m cl) (dk_let x.toBitVec.toNat k) ws [] := by simp only [rd_k, hw]
    have hnone : ∀ j, rd_k m (mv_al m cl) (dk_let x.toBitVec.toNat) (k + 1) = none → rd_k m (mv_al m cl) (dk_let x.toBitVec.toNat) (k + 1 + j) = none := by
      intro j hj
      induction j with
      | zero => exact hj
      | succ j ih2 => rw [← Nat.add_assoc]; simp only [rd_k]; rw [ih2]
    rcases hq with ⟨q1, rfl, wt2, xs2, ys2, q4⟩ | ⟨acc, q1, rfl, ⟨xs2, ys2, q3⟩, q4⟩
    · simp only [Option.toList, List.cons_append, List.nil_append]
      refine rz_blk' [(.ifCond .ne 5, 3, 0, 0), (.iconst (-1), 1, 0, 0), (.ireturn, 1, 0, 0)] (by decide +kernel) (Nat.le_refl _) (Nat.le_refl _) (fun K R hK hR => ?_)
      simp only [rw_cm1, ↓rx_iconst, ↓rx_ifCond_ne, ↓rx_ireturn, ↓rx_nil, ↓ry_i1, rz_set, rz_nol, rz_clr, List.set_cons_zero, List.set_cons_succ, rz_tr, Nat.reduceAdd, Int.reduceAdd, Int.reduceToNat, Int.reduceSub, Int.reduceNeg, Int.cast_ofNat_Int]
      refine ⟨fun c2 => absurd trivial c2, fun c2 => hR _ _ (rz_nb_i (by decide)) (hQ0 ?_ _ _ _ _ _ G' q4 (hfr.trans hfr2))⟩
      have := hnone (n0 - (k + 1)) (by rw [hstep]; exact q1)
      rw [show k + 1 + (n0 - (k + 1)) = n0 by omega] at this
      exact this
    · simp only [Option.toList, List.cons_append, List.nil_append]
      refine rz_blk' [(.ifCond .ne 5, 3, 0, 0), (.iconst (-1), 1, 0, 0), (.ireturn, 1, 0, 0)] (by decide +kernel) (Nat.le_refl _) (Nat.le_refl _) (fun K R hK hR => ?_)
      simp only [rw_cm1, ↓rx_iconst, ↓rx_ifCond_ne, ↓rx_ireturn, ↓rx_nil, ↓ry_i1, rz_set, rz_nol, rz_clr, List.set_cons_zero, List.set_cons_succ, rz_tr, Nat.reduceAdd, Int.reduceAdd, Int.reduceToNat, Int.reduceSub, Int.reduceNeg, Int.cast_ofNat_Int]
      refine ⟨fun c2 => hK _ _ _ _ ?_, fun c2 => absurd c2 (by decide)⟩
      refine rz_blk' [(.iinc 4 1, 3, 0, 0), (.goto (-25), 3, 0, 0)] (by decide +kernel) (Nat.le_refl _) (Nat.le_refl _) (fun K R hK hR => ?_)
      simp only [rw_c1, ↓rx_goto, ↓rx_iinc, ↓rx_nil, ↓ry_li0s, ↓ry_li0z, nI_add, rz_set, rz_nol, rz_clr, List.set_cons_zero, List.set_cons_succ, rz_tr, Nat.reduceAdd, Int.reduceAdd, Int.reduceToNat, Int.reduceSub, Int.reduceNeg, Int.cast_ofNat_Int]
      exact hK _ _ _ _ (ih (k + 1) acc _ _ _ _ G' (by omega) (by omega) (by rw [hstep]; exact q1) (fun v hv => by have := q4 v hv; omega) q3 (hfr.trans hfr2) hmc2)
set_option maxRecDepth 100000 in
set_option maxHeartbeats 4000000 in
/-- outputsOf(machine, n, letters): how many outputs; -1 when there are too many ways -/
theorem c_Read_outputsOf {w : rz_w} {d : Nat} {G : rz_G} {a am : Nat} {I : Nat → Int32} {A : Nat → Nat → Int32} {J : Nat → Nat → Int64} {X : Nat → List Nat} {P : Nat → Nat} {m : mv_T} {cl : Nat} {b : Bool} {wn wt : List (Nat × List Nat)} {xs ys : List Nat} {n0 : Nat} (hn0 : n0 ≤ 10) (x : Int32) (hlet : ∀ i, i < n0 → dk_let x.toBitVec.toNat i < 3) (h : rd_is G a b wn wt xs ys) (hmc : mc_is G am I A J X P) (hm : mv_is I A X m cl) (hs : mv_set I A m cl) (h3 : mv_w3 m) (hap : mc_ap am a 12) :
    rz_C w (d + 5) 0 0 y_Read_outputsOf m_Read_outputsOf [.ref a, .ref am, .int (nI n0), .int x] G (fun q G' => rd_fr a G G' ∧ ((rd_k m (mv_al m cl) (dk_let x.toBitVec.toNat) n0 = none ∧ q = some (.int (-1)) ∧ ∃ b wn wt xs ys, rd_is G' a b wn wt xs ys) ∨ ∃ ws, rd_k m (mv_al m cl) (dk_let x.toBitVec.toNat) n0 = some ws ∧ q = some (.int (nI (rd_fi m cl (mv_al m cl) ws []).length)) ∧ ∃ b wt xs ys, rd_is G' a b (rd_fi m cl (mv_al m cl) ws []) wt xs ys)) := by
  obtain ⟨⟨g, h0⟩, h1, h2, h3', h4, h5, h6, h7⟩ := id h
  have hnt := rd_nt a b
  obtain ⟨f, sl, o1, -⟩ := id h4
  have hI4 := hs.2.1
  have hal := mv_al64 hm
  have mX := hm.2.2.2.2.2.2.2.2.2.2.2.2
  have hop := hm.2.2.2.2.2.2.2.2.2.2.2.1
  refine rz_enter' [some (.ref a), some (.ref am), some (.int (nI n0)), some (.int x), none] (by decide +kernel) rfl rfl (Nat.le_of_ble_eq_true rfl) rfl ?_
  refine rz_blk' [(.aload_n 0, 1, 0, 0), (.getfield 14, 3, 3, 0)] (by decide +kernel) (Nat.le_refl _) (Nat.le_refl _) (fun K R hK hR => ?_)
  simp only [↓rx_aload_n0, ↓rx_getfield, ↓rx_nil, ↓ry_fvs, ↓ry_fvz, ↓ry_lr0s, ↓ry_lr0z, ↓ry_obu, ↓ry_r1, ↓rh_ob h1, rz_set, rz_nol, rz_clr, List.set_cons_zero, List.set_cons_succ, rz_tr, Nat.reduceAdd, Int.reduceAdd, Int.reduceToNat, Int.reduceSub, Int.reduceNeg, Int.cast_ofNat_Int]
  refine hK _ _ _ _ ?_
  refine rz_cV (As := []) (b := rd_n a b) (S := []) l_Read_39 (by decide +kernel) rfl o1 rfl (Nat.le_of_ble_eq_true rfl) (Nat.le_refl _) (Nat.le_refl _) (c_Rows_clear h4) (fun r G' hq => ?_)
  obtain ⟨rfl, q1, q2⟩ := hq
  simp only [Option.toList, List.nil_append]
  have hfr : rd_fr a G G' := fun x hx => q2 x (by omega) (by omega) (by omega)
  have hG1 : rd_is G' a b [] wt xs ys := ⟨⟨g, by rw [q2 _ (by omega) (by omega) (by omega)]; exact h0⟩, by rw [q2 _ (by omega) (by omega) (by omega)]; exact h1, wd_is_keep h2 (q2 _ (by omega) (by omega) (by omega)) (q2 _ (by omega) (by omega) (by omega)), wd_is_keep h3' (q2 _ (by omega) (by omega) (by omega)) (q2 _ (by omega) (by omega) (by omega)), q1, rw_is_keep h5 (q2 _ (by omega) (by omega) (by omega)) (q2 _ (by omega) (by omega) (by omega)) (q2 _ (by omega) (by omega) (by omega)), fun v hv => by simp at hv, h7⟩
  have hmc1 : mc_is G' am I A J X P := mc_is_keep hmc (fun o ho => hfr _ (by unfold mc_ap at hap; omega))
  have hob1 : G' am = some (.inr (2, mc_fs am I P)) := hmc1 0 (by decide)
  have hgo : ∀ (ws wt : List (Nat × List Nat)) (b : Bool) (xs ys : List Nat) (G2 : rz_G), rd_k m (mv_al m cl) (dk_let x.toBitVec.toNat) 0 = some ws → (∀ v ∈ ws, v.2.length ≤ 3) → rd_is G2 a b ws wt xs ys → rd_fr a G G2 → mc_is G2 am I A J X P → rz_T w (d + 5) 0 0 m_Read_outputsOf 0 0 35 [some (.ref a), some (.ref am), some (.int (nI n0)), some (.int x), none] [] G2 (fun q G' => rd_fr a G G' ∧ ((rd_k m (mv_al m cl) (dk_let x.toBitVec.toNat) n0 = none ∧ q = some (.int (-1)) ∧ ∃ b wn wt xs ys, rd_is G' a b wn wt xs ys) ∨ ∃ ws, rd_k m (mv_al m cl) (dk_let x.toBitVec.toNat) n0 = some ws ∧ q = some (.int (nI (rd_fi m cl (mv_al m cl) ws []).length)) ∧ ∃ b wt xs ys, rd_is G' a b (rd_fi m cl (mv_al m cl) ws []) wt xs ys)) := by
    intro ws wt b xs ys G2 a1 a2 a3 a4 a5
    refine rz_blk' [(.iconst 0, 1, 0, 0), (.istore 4, 2, 0, 0)] (by decide +kernel) (Nat.le_refl _) (Nat.le_refl _) (fun K R hK hR => ?_)
    simp only [rw_c0, ↓rx_iconst, ↓rx_istore, ↓rx_nil, ↓ry_i1, rz_set, rz_nol, rz_clr, List.set_cons_zero, List.set_cons_succ, rz_tr, Nat.reduceAdd, Int.reduceAdd, Int.reduceToNat, Int.reduceSub, Int.reduceNeg, Int.cast_ofNat_Int]
    exact hK _ _ _ _ (rd_oo_l (G := G) hn0 x hlet hm hs h3 hap (fun e b wn wt xs ys G' p1 p2 => ⟨p2, Or.inl ⟨e, rfl, b, wn, wt, xs, ys, p1⟩⟩) (fun ws e b wt xs ys G' p1 p2 => ⟨p2, Or.inr ⟨ws, e, rfl, b, wt, xs, ys, p1⟩⟩) (n0 + 1) 0 ws wt b xs ys G2 (by omega) (by omega) a1 (fun v hv => by have := a2 v hv; omega) a3 a4 a5)
  refine rz_blk' [(.aload_n 1, 1, 0, 0), (.getfield 42, 3, 2, 10), (.ifCond .eq 24, 3, 0, 0)] (by decide +kernel) (Nat.le_refl _) (Nat.le_refl _) (fun K R hK hR => ?_)
  simp only [↓rx_aload_n1, ↓rx_getfield, ↓rx_ifCond_eq, ↓rx_nil, ↓ry_fvs, ↓ry_fvz, ↓ry_i1, ↓ry_lr0s, ↓ry_lr0z, ↓ry_obu, ↓ry_r1, ↓rh_ob hob1, hI4, rz_set, rz_nol, rz_clr, List.set_cons_zero, List.set_cons_succ, rz_tr, Nat.reduceAdd, Int.reduceAdd, Int.reduceToNat, Int.reduceSub, Int.reduceNeg, Int.cast_ofNat_Int]
  rw [hp_z, nI_eq (by omega) (by omega)]
  refine ⟨fun c1 => hK _ _ _ _ (hgo [] wt b xs ys G' (by simp only [rd_k]; rw [if_pos c1]) (fun v hv => by simp at hv) hG1 hfr hmc1), fun c1 => hK _ _ _ _ ?_⟩
  obtain ⟨-, j1, j2, j3, -⟩ := id hG1
  have hwo := mc_is_wo hmc1 mX
  rw [hop] at hwo
  refine rz_blk' [(.aload_n 0, 1, 0, 0), (.getfield 36, 3, 3, 4), (.aload_n 1, 1, 0, 0), (.getfield 48, 3, 2, 6)] (by decide +kernel) (Nat.le_refl _) (Nat.le_refl _) (fun K R hK hR => ?_)
  simp only [↓rx_aload_n0, ↓rx_aload_n1, ↓rx_getfield, ↓rx_nil, ↓ry_fvs, ↓ry_fvz, ↓ry_lr0s, ↓ry_lr0z, ↓ry_obu, ↓ry_r1, ↓rh_ob j1, ↓rh_ob hob1, rz_set, rz_nol, rz_clr, List.set_cons_zero, List.set_cons_succ, rz_tr, Nat.reduceAdd, Int.reduceAdd, Int.reduceToNat, Int.reduceSub, Int.reduceNeg, Int.cast_ofNat_Int]
  refine hK _ _ _ _ ?_
  refine rz_cV (As := [.ref (am + 5)]) (b := a + 10) (S := []) l_Read_51 (by decide +kernel) rfl j3.1 rfl (Nat.le_of_ble_eq_true rfl) (Nat.le_refl _) (Nat.le_refl _) (c_Word_copy j3 hwo (by unfold mc_ap at hap; omega)) (fun r G' hq => ?_)
  obtain ⟨rfl, rfl⟩ := hq
  simp only [Option.toList, List.nil_append]
  rw [if_pos (by have := h3.2.2.1; omega)]
  have hvw : rd_wok (0, m.2.2.2) := ⟨show 0 < 6 by decide, by have := h3.2.2.1; dsimp only; omega, h3.2.2.2⟩
  obtain ⟨hG2, hfr2⟩ := rd_is_w (ys' := m.2.2.2) hG1 (rd_wok4 hvw)
  generalize wd_put G' (a + 10) 4 m.2.2.2 = G2 at hG2 hfr2
  have hmc2 : mc_is G2 am I A J X P := mc_is_keep hmc1 (fun o ho => hfr2 _ (by unfold mc_ap at hap; omega))
  obtain ⟨⟨g2, p0⟩, p1, p2, p3, p4, p5, p6, p7⟩ := id hG2
  refine rz_blk' [(.aload_n 0, 1, 0, 0), (.aload_n 0, 1, 0, 0), (.getfield 14, 3, 3, 0), (.iconst 0, 1, 0, 0)] (by decide +kernel) (Nat.le_refl _) (Nat.le_refl _) (fun K R hK hR => ?_)
  simp only [rw_c0, ↓rx_aload_n0, ↓rx_getfield, ↓rx_iconst, ↓rx_nil, ↓ry_fvs, ↓ry_fvz, ↓ry_lr0s, ↓ry_lr0z, ↓ry_obu, ↓ry_r1, ↓rh_ob p1, rz_set, rz_nol, rz_clr, List.set_cons_zero, List.set_cons_succ, rz_tr, Nat.reduceAdd, Int.reduceAdd, Int.reduceToNat, Int.reduceSub, Int.reduceNeg, Int.cast_ofNat_Int]
  refine hK _ _ _ _ ?_
  refine rz_cV (As := [.ref (rd_n a b), .int (nI 0)]) (b := a) (S := []) l_Read_55 (by decide +kernel) rfl p1 rfl (Nat.le_of_ble_eq_true rfl) (Nat.le_refl _) (Nat.le_refl _) (c_Read_addWay p1 p0 p3 p4 p6 hvw (by omega)) (fun r G3 hq => ?_)
  obtain ⟨hpost, ⟨g3, hg3⟩, hfr3⟩ := hq
  have hfr3' : rd_fr a G2 G3 := fun x hx => hfr3 x (by omega) (by omega) (by omega) (by omega)
  have hfrA : rd_fr a G G3 := (hfr.trans hfr2).trans hfr3'
  have hmc3 : mc_is G3 am I A J X P := mc_is_keep hmc2 (fun o ho => hfr3' _ (by unfold mc_ap at hap; omega))
  rcases hpost with ⟨e1, -, -⟩ | ⟨-, e2, -, -⟩ | ⟨e1, e2, rfl, e4⟩
  · simp at e1
  · simp at e2
  · simp only [Option.toList, List.cons_append, List.nil_append]
    refine rz_blk' [(.pop, 1, 0, 0)] (by decide +kernel) (Nat.le_refl _) (Nat.le_refl _) (fun K R hK hR => ?_)
    simp only [↓rx_nil, ↓rx_pop, ↓ry_v1i, ↓ry_v1r, rz_set, rz_nol, rz_clr, List.set_cons_zero, List.set_cons_succ, rz_tr, Nat.reduceAdd, Int.reduceAdd, Int.reduceToNat, Int.reduceSub, Int.reduceNeg, Int.cast_ofNat_Int]
    refine hK _ _ _ _ (hgo [(0, m.2.2.2)] wt b xs m.2.2.2 G3 (by simp only [rd_k]; rw [if_neg c1]) (fun v hv => by simp at hv; subst hv; exact h3.2.2.1) ?_ hfrA hmc3)
    exact ⟨⟨g3, hg3⟩, by rw [hfr3 _ (by omega) (by omega) (by omega) (by omega)]; exact p1, wd_is_keep p2 (hfr3 _ (by omega) (by omega) (by omega) (by omega)) (hfr3 _ (by omega) (by omega) (by omega) (by omega)), wd_is_keep p3 (hfr3 _ (by omega) (by omega) (by omega) (by omega)) (hfr3 _ (by omega) (by omega) (by omega) (by omega)), e4, rw_is_keep p5 (hfr3 _ (by omega) (by omega) (by omega) (by omega)) (hfr3 _ (by omega) (by omega) (by omega) (by omega)) (hfr3 _ (by omega) (by omega) (by omega) (by omega)), fun v hv => by simp at hv; subst hv; exact hvw, p7⟩

