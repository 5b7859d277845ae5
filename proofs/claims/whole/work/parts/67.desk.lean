/-! WriterDesk: machine, first, useful -/
def dk_um (V : dk_V) (k : Nat) (m : mv_T) : dk_V := (va_up V.1 k m, V.2)
theorem dk_ap {z k : Nat} (hk : k < 6) : ∀ x, x < z + (1582 + 70 * k) ∨ z + (1582 + 70 * k) + 70 ≤ x ↔ x < z + dk_lo (k + 10) ∨ z + dk_lo (k + 10) + dk_n (k + 10) ≤ x := by
  have e1 : ∀ k, k < 6 → dk_lo (k + 10) = 1582 + 70 * k ∧ dk_n (k + 10) = 70 := by decide
  intro x
  rw [(e1 k hk).1, (e1 k hk).2]
/-- a machine of the desk changes -/
theorem dk_upm {V : dk_V} {G : rz_G} {z k cl : Nat} {I : Nat → Int32} {A : Nat → Nat → Int32} {J : Nat → Nat → Int64} {X : Nat → List Nat} {P : Nat → Nat} {m : mv_T} (h : dk G z V) (hk : k < 6) (hm : mv_is I A X m cl) (hs : I 3 = nI 0 ∨ mv_set I A m cl) (h3 : mv_w3 m) : dk (mc_put G (z + (1582 + 70 * k)) I A J X P) z (dk_um V k m) ∧ dk_fr z G (mc_put G (z + (1582 + 70 * k)) I A J X P) := by
  have hcl := mk_cl_eq hm
  subst hcl
  refine dk_mod h (k + 10) (by omega) (fun x hx => mc_out ((dk_ap hk x).mpr hx)) ?_ (fun j hj hn hc => ?_)
  · have e : va_up V.1 k m k = m := va_up_self _ _ _
    have h5 : dk_mc (mc_put G (z + (1582 + 70 * k)) I A J X P) (z + (1582 + 70 * k)) m := ⟨(I, A, J, X, P), fun o ho => mc_at ho, hm, hs, h3⟩
    show dk_mc _ _ (va_up V.1 k m k)
    rw [e]; exact h5
  · match j, hj, hn, hc with
    | 0, _, _, hc => exact hc
    | 1, _, _, hc => exact hc
    | 2, _, _, hc => exact hc
    | 3, _, _, hc => exact hc
    | 4, _, _, hc => exact hc
    | 5, _, _, hc => exact hc
    | 6, _, _, hc => exact hc
    | 7, _, _, hc => exact hc
    | 8, _, _, hc => exact hc
    | 9, _, _, hc => exact hc
    | j + 10, _, hn, hc =>
      show dk_mc G _ (va_up V.1 k m j)
      rw [va_up_ne _ _ (by omega)]; exact hc
theorem dk_um_id {V : dk_V} {k : Nat} : dk_um V k (V.1 k) = V := by
  obtain ⟨f, r⟩ := V
  simp only [dk_um, Prod.mk.injEq, and_true]
  funext j
  by_cases c : j = k
  · subst c; rw [va_up_self]
  · rw [va_up_ne _ _ c]
theorem dk_same {V : dk_V} {G : rz_G} {z k cl : Nat} {I : Nat → Int32} {A : Nat → Nat → Int32} {J : Nat → Nat → Int64} {X : Nat → List Nat} {P : Nat → Nat} (h : dk G z V) (hk : k < 6) (hm : mv_is I A X (V.1 k) cl) (hs : I 3 = nI 0 ∨ mv_set I A (V.1 k) cl) (h3 : mv_w3 (V.1 k)) : dk (mc_put G (z + (1582 + 70 * k)) I A J X P) z V ∧ dk_fr z G (mc_put G (z + (1582 + 70 * k)) I A J X P) := by
  have := dk_upm (J := J) (P := P) h hk hm hs h3
  rw [dk_um_id] at this
  exact this
theorem dk_m {V : dk_V} {G : rz_G} {z k : Nat} (h : dk G z V) (hk : k < 6) : dk_mc G (z + (1582 + 70 * k)) (V.1 k) := h (k + 10) (by omega)
theorem mc_c {G : rz_G} {a : Nat} {I : Nat → Int32} {A : Nat → Nat → Int32} {J : Nat → Nat → Int64} {X : Nat → List Nat} {P : Nat → Nat} (h : mc_is G a I A J X P) : G a = some (.inr (2, mc_fs a I P)) := h 0 (by decide)
abbrev ru_V (V : dk_V) (z : Nat) (G : rz_G) (f : Option Value → dk_V → Prop) (e : Nat → Prop) : ru_P := ([], fun r G' => ∃ V', f r V' ∧ dk G' z V' ∧ dk_fr z G G', fun c G' => e c ∧ dk G' z V ∧ dk_fr z G G')
theorem mv_set_op {I : Nat → Int32} {A : Nat → Nat → Int32} {m : mv_T} {cl : Nat} (op : List Nat) (h : mv_set I A m cl) : mv_set I A (m.1, m.2.1, m.2.2.1, op) cl := by
  have e1 : mv_al (m.1, m.2.1, m.2.2.1, op) cl = mv_al m cl := rfl
  have e3 : ∀ al p k, mv_pk (m.1, m.2.1, m.2.2.1, op) al p k = mv_pk m al p k := fun al p k => by
    induction k with
    | zero => rfl
    | succ k ih => simp only [mv_pk]; rw [ih]; rfl
  have e2 : ∀ al p, mv_so (m.1, m.2.1, m.2.2.1, op) al p = mv_so m al p := fun al p => by
    induction p with
    | zero => rfl
    | succ p ih =>
      simp only [mv_so]
      rw [ih]
      congr 1
      exact e3 al p m.2.1.length
  unfold mv_set at h ⊢
  rw [e1, e2]
  refine ⟨h.1, h.2.1, h.2.2.1, fun p hp => ?_⟩
  rw [e2]; exact h.2.2.2 p hp
def dk_ms (n : Nat) : mv_T := (n, [], fun _ => none, [])
/-- no machine of that number -/
def dk_no (x : Int32) : Prop := ∀ k, k < 6 → x ≠ nI k
def dk_ok6 (x : Int32) : Prop := ∃ n, 1 ≤ n ∧ n ≤ 6 ∧ x = nI n

set_option maxRecDepth 100000 in
set_option maxHeartbeats 4000000 in
theorem c_Desk_machine {w : rz_w} {d : Nat} {G : rz_G} {z : Nat} {V : dk_V} (h : dk G z V) (x y : Int32)  : ru_C w (d + 9) 1 6 y_Desk_machine m_Desk_machine [.ref z, .int x, .int y] G (ru_V V z G (fun r V' => r = none ∧ ∃ k n, k < 6 ∧ 1 ≤ n ∧ n ≤ 6 ∧ x = nI k ∧ y = nI n ∧ V' = dk_um V k (dk_ms n)) (fun c => (c = 0 ∧ dk_no x) ∨ (c = 1 ∧ ¬ dk_no x ∧ ¬ dk_ok6 y))) := by
  obtain ⟨hob, hma⟩ := h 0 (by decide)
  refine ru_enter [some (.ref z), some (.int x), some (.int y), none] rfl (by decide +kernel) rfl rfl (Nat.le_of_ble_eq_true rfl) rfl ?_
  refine ru_blk' [(.aload_n 0, 1, 0, 0), (.iload_n 1, 1, 0, 0)] (by decide +kernel) (Nat.zero_le _) (Nat.zero_le _) (fun K R hK hR => ?_)
  simp only [↓rx_aload_n0, ↓rx_iload_n1, ↓rx_nil, ↓ry_li0s, ↓ry_li0z, ↓ry_lr0s, ↓ry_lr0z, rz_set, rz_nol, rz_clr, List.set_cons_zero, List.set_cons_succ, rz_tr, Nat.reduceAdd, Int.reduceAdd, Int.reduceToNat, Int.reduceSub, Int.reduceNeg, Int.cast_ofNat_Int]
  refine hK _ _ _ _ ?_
  refine ru_cV2 (As := [.int x]) (b := z) (S := []) l_Desk_73 (by decide +kernel) rfl hob rfl (Nat.le_of_ble_eq_true rfl) rfl rfl (Nat.le_refl _) (Nat.le_refl _) (c_Desk_machineOf h x) (fun c G' hc => by obtain ⟨⟨rfl, rfl⟩, hn⟩ := hc; exact ⟨Or.inl ⟨rfl, hn⟩, h, dk_fr.rf⟩) (fun r G' hr => ?_)
  obtain ⟨hg, k, hk, hkx, rfl⟩ := hr
  have hg := hg.symm
  subst hg
  simp only [Option.toList, List.cons_append, List.nil_append]
  obtain ⟨S, hmc, hm, hs, h3⟩ := dk_m h hk
  have hmo := mc_c hmc
  refine ru_blk' [(.astore_n 3, 1, 0, 0)] (by decide +kernel) (Nat.zero_le _) (Nat.zero_le _) (fun K R hK hR => ?_)
  simp only [↓rx_astore_n3, ↓rx_nil, ↓ry_r1, rz_set, rz_nol, rz_clr, List.set_cons_zero, List.set_cons_succ, rz_tr, Nat.reduceAdd, Int.reduceAdd, Int.reduceToNat, Int.reduceSub, Int.reduceNeg, Int.cast_ofNat_Int]
  refine hK _ _ _ _ ?_
  refine ru_blk' [(.iload_n 2, 1, 0, 0), (.iconst 1, 1, 0, 0), (.if_icmp .lt 9, 3, 0, 0), (.iload_n 2, 1, 0, 0), (.bipush 6, 2, 0, 0), (.if_icmp .le 11, 3, 0, 0)] (by decide +kernel) (Nat.zero_le _) (Nat.zero_le _) (fun K R hK hR => ?_)
  simp only [rw_b6, rw_c1, ↓rx_bipush, ↓rx_iconst, ↓rx_if_icmp_le, ↓rx_if_icmp_lt, ↓rx_iload_n2, ↓rx_nil, ↓ry_i2, ↓ry_li0s, ↓ry_li0z, rz_set, rz_nol, rz_clr, List.set_cons_zero, List.set_cons_succ, rz_tr, Nat.reduceAdd, Int.reduceAdd, Int.reduceToNat, Int.reduceSub, Int.reduceNeg, Int.cast_ofNat_Int]
  have hx : ¬ dk_no x := fun q => q k hk hkx
  have hthrow : ¬ dk_ok6 y → ru_T w (d + 8 + 1) 1 6 m_Desk_machine 0 0 17 [some (.ref z), some (.int x), some (.int y), some (.ref (z + (1582 + 70 * k)))] [] G (ru_V V z G (fun r V' => r = none ∧ ∃ k n, k < 6 ∧ 1 ≤ n ∧ n ≤ 6 ∧ x = nI k ∧ y = nI n ∧ V' = dk_um V k (dk_ms n)) (fun c => (c = 0 ∧ dk_no x) ∨ (c = 1 ∧ ¬ dk_no x ∧ ¬ dk_ok6 y))) := fun q => by
    exact ru_throw (c := 1) (by decide) rfl rfl (by decide +kernel) (by decide +kernel) (by decide +kernel) (by decide +kernel) (Nat.le_of_ble_eq_true rfl) (Nat.le_refl _) (Nat.le_refl _) ⟨Or.inr ⟨rfl, hx, q⟩, h, dk_fr.rf⟩
  refine ⟨fun c => hK _ _ _ _ (hthrow ?_), fun c => ⟨fun c2 => hK _ _ _ _ ?_, fun c2 => hK _ _ _ _ (hthrow ?_)⟩⟩
  · rintro ⟨n, n1, n6, rfl⟩
    exact absurd ((nI_ltI (by omega) (by decide)).mp c) (by omega)
  rotate_left
  · rintro ⟨n, n1, n6, rfl⟩
    exact c2 ((nI_leI (by omega) (by decide)).mpr n6)
  obtain ⟨n, n1, n6, rfl⟩ : ∃ n, 1 ≤ n ∧ n ≤ 6 ∧ y = nI n := by
    have h0 : ¬ y < 0 := fun q => c (by
      rw [Int32.lt_iff_toInt_lt] at q ⊢
      have : (nI 1).toInt = 1 := nI_toInt (by decide)
      have : (0 : Int32).toInt = 0 := rfl
      omega)
    obtain ⟨j, hj, rfl⟩ := nI_of h0
    exact ⟨j, Nat.le_of_not_lt (fun q => c ((nI_ltI hj (by decide)).mpr q)), (nI_leI hj (by decide)).mp c2, rfl⟩
  refine ru_blk' [(.aload_n 3, 1, 0, 0), (.iload_n 2, 1, 0, 0)] (by decide +kernel) (Nat.zero_le _) (Nat.zero_le _) (fun K R hK hR => ?_)
  simp only [↓rx_aload_n3, ↓rx_iload_n2, ↓rx_nil, ↓ry_li0s, ↓ry_li0z, ↓ry_lr0s, ↓ry_lr0z, rz_set, rz_nol, rz_clr, List.set_cons_zero, List.set_cons_succ, rz_tr, Nat.reduceAdd, Int.reduceAdd, Int.reduceToNat, Int.reduceSub, Int.reduceNeg, Int.cast_ofNat_Int]
  refine hK _ _ _ _ ?_
  have hc := c_Mach_reset (w := w) (d := d + 7) (G := G) (a := z + (1582 + 70 * k)) (I := S.1) (A := S.2.1) (J := S.2.2.1) (X := S.2.2.2.1) (P := S.2.2.2.2) hm.2.2.2.2.2.2.2.2.2.2.2.2 (nI n)
  rw [mc_id hmc] at hc
  refine ru_cV (As := [.int (nI n)]) (b := z + (1582 + 70 * k)) (S := []) l_Desk_80 (by decide +kernel) rfl hmo rfl (Nat.le_of_ble_eq_true rfl) (Nat.zero_le _) (Nat.zero_le _) (hc) (fun r G' hr => ?_)
  obtain ⟨rfl, rfl⟩ := hr
  simp only [Option.toList, List.nil_append]
  refine ru_blk' [(.return_, 1, 0, 0)] (by decide +kernel) (Nat.zero_le _) (Nat.zero_le _) (fun K R hK hR => ?_)
  simp only [↓rx_nil, ↓rx_return_, rz_set, rz_nol, rz_clr, List.set_cons_zero, List.set_cons_succ, rz_tr, Nat.reduceAdd, Int.reduceAdd, Int.reduceToNat, Int.reduceSub, Int.reduceNeg, Int.cast_ofNat_Int]
  have hX := hm.2.2.2.2.2.2.2.2.2.2.2.2
  have hd := dk_upm (J := S.2.2.1) (P := S.2.2.2.2) (I := upd (upd (upd (upd S.1 0 (nI n)) 1 (nI 0)) 2 (nI 0)) 3 (nI 0)) (A := S.2.1) (X := va_up S.2.2.2.1 30 []) (m := dk_ms n) (cl := 0) h hk ⟨?_, n1, n6, ?_, by simp [dk_ms], fun e he => absurd he (Nat.not_lt_zero _), ?_, by decide, fun q hq => by simp [dk_ms], fun q hq => rfl, fun q hq xs hxs => (by cases hxs), va_up_self _ _ _, fun j hj => ?_⟩ (Or.inl pk_us) ⟨fun e he => absurd he (Nat.not_lt_zero _), fun q xs hx => (by cases hx), by simp [dk_ms], fun x hx => (by cases hx)⟩
  · exact hR _ _ (rz_nb_i (by decide)) ⟨⟨rfl, rfl⟩, rfl, _, ⟨rfl, k, n, hk, n1, n6, hkx, rfl, rfl⟩, hd.1, hd.2⟩
  · rw [pk_un (by decide), pk_un (by decide), pk_un (by decide), pk_us]; rfl
  · rw [pk_un (by decide), pk_un (by decide), pk_us]; rfl
  · rw [pk_un (by decide), pk_us]
  · by_cases c : j = 30
    · subst c; rw [va_up_self]; exact wd_ok_nil (by decide)
    · rw [va_up_ne _ _ c]; exact hX j hj
set_option maxRecDepth 100000 in
set_option maxHeartbeats 4000000 in
theorem c_Desk_first {w : rz_w} {d : Nat} {G : rz_G} {z : Nat} {V : dk_V} (h : dk G z V) (x y u : Int32)  : ru_C w (d + 9) 1 6 y_Desk_first m_Desk_first [.ref z, .int x, .int y, .int u] G (ru_V V z G (fun r V' => r = none ∧ ∃ k n, k < 6 ∧ n ≤ 3 ∧ x = nI k ∧ y = nI n ∧ V' = dk_um V k ((V.1 k).1, (V.1 k).2.1, (V.1 k).2.2.1, wd_told u.toBitVec.toNat n)) (fun c => (c = 0 ∧ dk_no x) ∨ (c = 1 ∧ ¬ dk_no x ∧ ∀ n, n ≤ 3 → y ≠ nI n))) := by
  obtain ⟨hob, hma⟩ := h 0 (by decide)
  refine ru_enter [some (.ref z), some (.int x), some (.int y), some (.int u), none] rfl (by decide +kernel) rfl rfl (Nat.le_of_ble_eq_true rfl) rfl ?_
  refine ru_blk' [(.aload_n 0, 1, 0, 0), (.iload_n 1, 1, 0, 0)] (by decide +kernel) (Nat.zero_le _) (Nat.zero_le _) (fun K R hK hR => ?_)
  simp only [↓rx_aload_n0, ↓rx_iload_n1, ↓rx_nil, ↓ry_li0s, ↓ry_li0z, ↓ry_lr0s, ↓ry_lr0z, rz_set, rz_nol, rz_clr, List.set_cons_zero, List.set_cons_succ, rz_tr, Nat.reduceAdd, Int.reduceAdd, Int.reduceToNat, Int.reduceSub, Int.reduceNeg, Int.cast_ofNat_Int]
  refine hK _ _ _ _ ?_
  refine ru_cV2 (As := [.int x]) (b := z) (S := []) l_Desk_73 (by decide +kernel) rfl hob rfl (Nat.le_of_ble_eq_true rfl) rfl rfl (Nat.le_refl _) (Nat.le_refl _) (c_Desk_machineOf h x) (fun c G' hc => by obtain ⟨⟨rfl, rfl⟩, hn⟩ := hc; exact ⟨Or.inl ⟨rfl, hn⟩, h, dk_fr.rf⟩) (fun r G' hr => ?_)
  obtain ⟨hg, k, hk, hkx, rfl⟩ := hr
  have hg := hg.symm
  subst hg
  simp only [Option.toList, List.cons_append, List.nil_append]
  obtain ⟨S, hmc, hm, hs, h3⟩ := dk_m h hk
  have hmo := mc_c hmc
  refine ru_blk' [(.astore 4, 2, 0, 0)] (by decide +kernel) (Nat.zero_le _) (Nat.zero_le _) (fun K R hK hR => ?_)
  simp only [↓rx_astore, ↓rx_nil, ↓ry_r1, rz_set, rz_nol, rz_clr, List.set_cons_zero, List.set_cons_succ, rz_tr, Nat.reduceAdd, Int.reduceAdd, Int.reduceToNat, Int.reduceSub, Int.reduceNeg, Int.cast_ofNat_Int]
  refine hK _ _ _ _ ?_
  refine ru_blk' [(.iload_n 2, 1, 0, 0), (.ifCond .lt 8, 3, 0, 0), (.iload_n 2, 1, 0, 0), (.iconst 3, 1, 0, 0), (.if_icmp .le 11, 3, 0, 0)] (by decide +kernel) (Nat.zero_le _) (Nat.zero_le _) (fun K R hK hR => ?_)
  simp only [rw_c3, ↓rx_iconst, ↓rx_ifCond_lt, ↓rx_if_icmp_le, ↓rx_iload_n2, ↓rx_nil, ↓ry_i1, ↓ry_i2, ↓ry_li0s, ↓ry_li0z, rz_set, rz_nol, rz_clr, List.set_cons_zero, List.set_cons_succ, rz_tr, Nat.reduceAdd, Int.reduceAdd, Int.reduceToNat, Int.reduceSub, Int.reduceNeg, Int.cast_ofNat_Int]
  have hx : ¬ dk_no x := fun q => q k hk hkx
  have hthrow : (∀ n, n ≤ 3 → y ≠ nI n) → ru_T w (d + 8 + 1) 1 6 m_Desk_first 0 0 16 [some (.ref z), some (.int x), some (.int y), some (.int u), some (.ref (z + (1582 + 70 * k)))] [] G (ru_V V z G (fun r V' => r = none ∧ ∃ k n, k < 6 ∧ n ≤ 3 ∧ x = nI k ∧ y = nI n ∧ V' = dk_um V k ((V.1 k).1, (V.1 k).2.1, (V.1 k).2.2.1, wd_told u.toBitVec.toNat n)) (fun c => (c = 0 ∧ dk_no x) ∨ (c = 1 ∧ ¬ dk_no x ∧ ∀ n, n ≤ 3 → y ≠ nI n))) := fun q => by
    exact ru_throw (c := 1) (by decide) rfl rfl (by decide +kernel) (by decide +kernel) (by decide +kernel) (by decide +kernel) (Nat.le_of_ble_eq_true rfl) (Nat.le_refl _) (Nat.le_refl _) ⟨Or.inr ⟨rfl, hx, q⟩, h, dk_fr.rf⟩
  refine ⟨fun c => hK _ _ _ _ (hthrow ?_), fun c => ⟨fun c2 => hK _ _ _ _ ?_, fun c2 => hK _ _ _ _ (hthrow ?_)⟩⟩
  · rintro n hn rfl
    exact nI_pos (by omega) c
  rotate_left
  · rintro n hn rfl
    exact c2 ((nI_leI (by omega) (by decide)).mpr hn)
  obtain ⟨n, n3, rfl⟩ : ∃ n, n ≤ 3 ∧ y = nI n := by
    obtain ⟨j, hj, rfl⟩ := nI_of c
    exact ⟨j, (nI_leI hj (by decide)).mp c2, rfl⟩
  have hX := hm.2.2.2.2.2.2.2.2.2.2.2.2
  refine ru_blk' [(.aload 4, 2, 0, 0), (.getfield 118, 3, 2, 6), (.iload_n 2, 1, 0, 0), (.iload_n 3, 1, 0, 0)] (by decide +kernel) (Nat.zero_le _) (Nat.zero_le _) (fun K R hK hR => ?_)
  simp only [↓rx_aload, ↓rx_getfield, ↓rx_iload_n2, ↓rx_iload_n3, ↓rx_nil, ↓ry_fvs, ↓ry_fvz, ↓ry_li0s, ↓ry_li0z, ↓ry_lr0s, ↓ry_lr0z, ↓ry_obu, ↓ry_r1, ↓rh_ob hmo, mc_fs, rz_set, rz_nol, rz_clr, List.set_cons_zero, List.set_cons_succ, rz_tr, Nat.reduceAdd, Int.reduceAdd, Int.reduceToNat, Int.reduceSub, Int.reduceNeg, Int.cast_ofNat_Int]
  refine hK _ _ _ _ ?_
  have wi := mc_is_wo hmc hX
  have hc := c_Word_tell (w := w) (d := d + 7) (n0 := n) wi (by decide) u n3
  refine ru_cV (As := [.int (nI n), .int u]) (b := z + (1582 + 70 * k) + 5) (S := []) l_Desk_105 (by decide +kernel) rfl wi.1 rfl (Nat.le_of_ble_eq_true rfl) (Nat.zero_le _) (Nat.zero_le _) (hc) (fun r G' hr => ?_)
  obtain ⟨rfl, rfl⟩ := hr
  simp only [Option.toList, List.nil_append]
  refine ru_blk' [(.return_, 1, 0, 0)] (by decide +kernel) (Nat.zero_le _) (Nat.zero_le _) (fun K R hK hR => ?_)
  simp only [↓rx_nil, ↓rx_return_, rz_set, rz_nol, rz_clr, List.set_cons_zero, List.set_cons_succ, rz_tr, Nat.reduceAdd, Int.reduceAdd, Int.reduceToNat, Int.reduceSub, Int.reduceNeg, Int.cast_ofNat_Int]
  have ew : wd_put G (z + (1582 + 70 * k) + 5) 3 (wd_told u.toBitVec.toNat n) = mc_put G (z + (1582 + 70 * k)) S.1 S.2.1 S.2.2.1 (va_up S.2.2.2.1 30 (wd_told u.toBitVec.toNat n)) S.2.2.2.2 := by
    have := mc_wq (G := G) (a := z + (1582 + 70 * k)) (I := S.1) (A := S.2.1) (J := S.2.2.1) (X := S.2.2.2.1) (P := S.2.2.2.2) (xs := wd_told u.toBitVec.toNat n)
    rw [mc_id hmc] at this; exact this
  obtain ⟨v0, v1, v2, v3, v4, v5, v6, v7, v8, v9, v10, v11, v12⟩ := id hm
  have hl := wd_told_len u.toBitVec.toNat n
  have h8 := wd_told_8 u.toBitVec.toNat n
  have h24 := v4
  have hd := dk_upm (J := S.2.2.1) (P := S.2.2.2.2) (I := S.1) (A := S.2.1) (X := va_up S.2.2.2.1 30 (wd_told u.toBitVec.toNat n)) (m := ((V.1 k).1, (V.1 k).2.1, (V.1 k).2.2.1, wd_told u.toBitVec.toNat n)) (cl := mk_cl (V.1 k)) h hk ⟨v0, v1, v2, v3, v4, fun e he => ?_, v6, v7, v8, v9, fun q hq xs hxs => ?_, va_up_self _ _ _, fun j hj => ?_⟩ (hs.imp id (mv_set_op _)) ⟨h3.1, h3.2.1, by show (wd_told _ n).length ≤ 3; omega, h8⟩
  · rw [ew]
    exact hR _ _ (rz_nb_i (by decide)) ⟨⟨rfl, rfl⟩, rfl, _, ⟨rfl, k, n, hk, n3, hkx, rfl, rfl⟩, hd.1, hd.2⟩
  · rw [va_up_ne _ _ (by dsimp only at he; omega)]; exact v5 e he
  · rw [va_up_ne _ _ (by omega)]; exact v10 q hq xs hxs
  · by_cases c : j = 30
    · subst c; rw [va_up_self]; exact ⟨by omega, fun x hx => by have := h8 x hx; omega, by decide⟩
    · rw [va_up_ne _ _ c]; exact v12 j hj
set_option maxRecDepth 100000 in
set_option maxHeartbeats 4000000 in
theorem c_Desk_useful {w : rz_w} {d : Nat} {G : rz_G} {z : Nat} {V : dk_V} (h : dk G z V) (x : Int32)  : ru_C w (d + 9) 1 6 y_Desk_useful m_Desk_useful [.ref z, .int x] G (ru_V V z G (fun r V' => V' = V ∧ ∃ k, k < 6 ∧ x = nI k ∧ r = some (.int (nI (hp_cnt (mv_al (V.1 k) (mk_cl (V.1 k))))))) (fun c => (c = 0 ∧ dk_no x))) := by
  obtain ⟨hob, hma⟩ := h 0 (by decide)
  refine ru_enter [some (.ref z), some (.int x), none] rfl (by decide +kernel) rfl rfl (Nat.le_of_ble_eq_true rfl) rfl ?_
  refine ru_blk' [(.aload_n 0, 1, 0, 0), (.iload_n 1, 1, 0, 0)] (by decide +kernel) (Nat.zero_le _) (Nat.zero_le _) (fun K R hK hR => ?_)
  simp only [↓rx_aload_n0, ↓rx_iload_n1, ↓rx_nil, ↓ry_li0s, ↓ry_li0z, ↓ry_lr0s, ↓ry_lr0z, rz_set, rz_nol, rz_clr, List.set_cons_zero, List.set_cons_succ, rz_tr, Nat.reduceAdd, Int.reduceAdd, Int.reduceToNat, Int.reduceSub, Int.reduceNeg, Int.cast_ofNat_Int]
  refine hK _ _ _ _ ?_
  refine ru_cV2 (As := [.int x]) (b := z) (S := []) l_Desk_73 (by decide +kernel) rfl hob rfl (Nat.le_of_ble_eq_true rfl) rfl rfl (Nat.le_refl _) (Nat.le_refl _) (c_Desk_machineOf h x) (fun c G' hc => by obtain ⟨⟨rfl, rfl⟩, hn⟩ := hc; exact ⟨⟨rfl, hn⟩, h, dk_fr.rf⟩) (fun r G' hr => ?_)
  obtain ⟨hg, k, hk, hkx, rfl⟩ := hr
  have hg := hg.symm
  subst hg
  simp only [Option.toList, List.cons_append, List.nil_append]
  obtain ⟨S, hmc, hm, hs, h3⟩ := dk_m h hk
  have hmo := mc_c hmc
  refine ru_blk' [(.astore_n 2, 1, 0, 0)] (by decide +kernel) (Nat.zero_le _) (Nat.zero_le _) (fun K R hK hR => ?_)
  simp only [↓rx_astore_n2, ↓rx_nil, ↓ry_r1, rz_set, rz_nol, rz_clr, List.set_cons_zero, List.set_cons_succ, rz_tr, Nat.reduceAdd, Int.reduceAdd, Int.reduceToNat, Int.reduceSub, Int.reduceNeg, Int.cast_ofNat_Int]
  refine hK _ _ _ _ ?_
  refine ru_blk' [(.aload_n 2, 1, 0, 0)] (by decide +kernel) (Nat.zero_le _) (Nat.zero_le _) (fun K R hK hR => ?_)
  simp only [↓rx_aload_n2, ↓rx_nil, ↓ry_lr0s, ↓ry_lr0z, rz_set, rz_nol, rz_clr, List.set_cons_zero, List.set_cons_succ, rz_tr, Nat.reduceAdd, Int.reduceAdd, Int.reduceToNat, Int.reduceSub, Int.reduceNeg, Int.cast_ofNat_Int]
  refine hK _ _ _ _ ?_
  have hc := c_Mach_settle (w := w) (d := d + 6) (G := G) (a := z + (1582 + 70 * k)) (I := S.1) (A := S.2.1) (J := S.2.2.1) (X := S.2.2.2.1) (P := S.2.2.2.2) hm hs
  rw [mc_id hmc] at hc
  refine ru_cV (As := []) (b := z + (1582 + 70 * k)) (S := []) l_Desk_121 (by decide +kernel) rfl hmo rfl (Nat.le_of_ble_eq_true rfl) (Nat.zero_le _) (Nat.zero_le _) (hc) (fun r G' hr => ?_)
  obtain ⟨rfl, I', A', rfl, hm', hs'⟩ := hr
  simp only [Option.toList, List.nil_append]
  have hal := mv_al64 hm
  refine ru_blk' [(.aload_n 2, 1, 0, 0), (.getfield 124, 3, 2, 10)] (by decide +kernel) (Nat.zero_le _) (Nat.zero_le _) (fun K R hK hR => ?_)
  simp only [↓rx_aload_n2, ↓rx_getfield, ↓rx_nil, ↓ry_fvs, ↓ry_fvz, ↓ry_lr0s, ↓ry_lr0z, ↓ry_obu, ↓ry_r1, mc_ob, mc_fs, hs'.2.1, rz_set, rz_nol, rz_clr, List.set_cons_zero, List.set_cons_succ, rz_tr, Nat.reduceAdd, Int.reduceAdd, Int.reduceToNat, Int.reduceSub, Int.reduceNeg, Int.cast_ofNat_Int]
  refine hK _ _ _ _ ?_
  refine ru_cS (As := [.int (nI (mv_al (V.1 k) (mk_cl (V.1 k))))]) (S := []) l_Desk_127 (by decide +kernel) rfl (Nat.le_of_ble_eq_true rfl) (Nat.zero_le _) (Nat.zero_le _) (c_Int_bitCount hal) (fun r G' hr => ?_)
  obtain ⟨rfl, hg⟩ := hr
  have hg := hg.symm
  subst hg
  simp only [Option.toList, List.cons_append, List.nil_append]
  refine ru_blk' [(.ireturn, 1, 0, 0)] (by decide +kernel) (Nat.zero_le _) (Nat.zero_le _) (fun K R hK hR => ?_)
  simp only [↓rx_ireturn, ↓rx_nil, rz_set, rz_nol, rz_clr, List.set_cons_zero, List.set_cons_succ, rz_tr, Nat.reduceAdd, Int.reduceAdd, Int.reduceToNat, Int.reduceSub, Int.reduceNeg, Int.cast_ofNat_Int]
  have hd := dk_same (J := S.2.2.1) (P := S.2.2.2.2) h hk hm' (Or.inr hs') h3
  exact hR _ _ (rz_nb_i (by decide)) ⟨⟨rfl, rfl⟩, rfl, V, ⟨rfl, k, hk, hkx, rfl⟩, hd.1, hd.2⟩
