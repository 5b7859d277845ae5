/-! WriterDesk$Rows.add -/
/-- a new row at a free slot that its search comes to -/
theorem rw_ok_add {e : Nat} {sl : Nat → Int32} {rs : List (List Int64)} {row : List Int64} {t : Nat} (h : rw_ok e sl rs) (hb : rs.length + 1 < 2 ^ 31) (ht : t < 2 ^ e) (h0 : sl ((rw_h e row + t) % 2 ^ e) = nI 0) (hn : ∀ k, k < t → sl ((rw_h e row + k) % 2 ^ e) ≠ nI 0) : rw_ok e (upd sl ((rw_h e row + t) % 2 ^ e) (nI (rs.length + 1))) (rs ++ [row]) := by
  obtain ⟨a1, a2, a3⟩ := h
  have hpos := Nat.two_pow_pos e
  have hs : (rw_h e row + t) % 2 ^ e < 2 ^ e := Nat.mod_lt _ hpos
  have hne : ∀ j, sl j ≠ nI 0 → upd sl ((rw_h e row + t) % 2 ^ e) (nI (rs.length + 1)) j = sl j := fun j hj => pk_un (fun q => hj (by rw [q]; exact h0))
  refine ⟨fun s hs => ?_, fun i hi => ?_, ?_⟩
  · by_cases q : s = (rw_h e row + t) % 2 ^ e
    · exact ⟨rs.length + 1, by simp, by rw [q, pk_us]⟩
    · obtain ⟨v, hv, e1⟩ := a1 s hs
      exact ⟨v, by simp; omega, by rw [pk_un q]; exact e1⟩
  · by_cases q : i < rs.length
    · obtain ⟨k, hk, e1, e2⟩ := a2 i q
      rw [List.getElem_append_left q]
      refine ⟨k, hk, ?_, fun k' hk' => ?_⟩
      · rw [hne _ (by rw [e1, Ne, nI_eq (by omega) (by omega)]; omega)]; exact e1
      · rw [hne _ (e2 k' hk')]; exact e2 k' hk'
    · have hi2 : i = rs.length := by simp at hi; omega
      subst hi2
      simp only [List.getElem_concat_length]
      refine ⟨t, ht, by rw [pk_us], fun k' hk' => ?_⟩
      rw [hne _ (hn k' hk')]; exact hn k' hk'
  · have := rw_cnt_upd (fun s => decide (sl s = nI 0)) (2 ^ e) ((rw_h e row + t) % 2 ^ e) (fun s => decide (upd sl ((rw_h e row + t) % 2 ^ e) (nI (rs.length + 1)) s = nI 0)) (decide_eq_true h0) (by rw [decide_eq_false_iff_not, pk_us, nI_eq (by omega) (by omega)]; omega) (fun j hj => by rw [pk_un hj]) hs
    simp only [List.length_append, List.length_cons, List.length_nil]
    omega
/-- it isn't there, when its search comes to a free slot -/
theorem rw_notin {e : Nat} {sl : Nat → Int32} {rs : List (List Int64)} {row : List Int64} {t : Nat} (h : rw_ok e sl rs) (hb : rs.length + 1 < 2 ^ 31) (h0 : sl ((rw_h e row + t) % 2 ^ e) = nI 0) (hn : ∀ k, k < t → ∀ i (hi : i < rs.length), sl ((rw_h e row + k) % 2 ^ e) = nI (i + 1) → rs[i] ≠ row) : row ∉ rs := by
  intro hm
  obtain ⟨i, hi, hr⟩ := List.getElem_of_mem hm
  obtain ⟨k, hk, e1, e2⟩ := h.2.1 i hi
  rw [hr] at e1 e2
  rcases Nat.lt_trichotomy k t with q | q | q
  · exact hn k q i hi e1 hr
  · rw [q, h0, nI_eq (by omega) (by omega)] at e1; omega
  · exact e2 t q h0
def rw_post (G : rz_G) (r wd mo e : Nat) (rs : List (List Int64)) (row : List Int64) (q : Option Value) (G' : rz_G) : Prop :=
  (row ∈ rs ∧ q = some (.int 1) ∧ G' = G) ∨ (row ∉ rs ∧ rs.length = mo ∧ q = some (.int 0) ∧ G' = G) ∨ (row ∉ rs ∧ rs.length < mo ∧ q = some (.int 1) ∧ rw_is G' r wd mo e (rs ++ [row]) ∧ rw_fr r G G')
theorem rw_cyc {n h s : Nat} (hn : 0 < n) (hs : s < n) (hh : h < n) : ∃ k, k < n ∧ (h + k) % n = s := by
  refine ⟨(s + n - h) % n, Nat.mod_lt _ hn, ?_⟩
  rw [Nat.add_mod_mod, show h + (s + n - h) = s + n by omega, Nat.add_mod_right, Nat.mod_eq_of_lt hs]
set_option maxRecDepth 100000 in
set_option maxHeartbeats 4000000 in
theorem rw_add_l {w : rz_w} {d : Nat} {G : rz_G} {r wd mo e p m : Nat} {rs : List (List Int64)} {f g : Nat → Int64} {sl : Nat → Int32} (h1 : G r = some (.inr (1, [.ref (r + 1), .int (nI wd), .int (nI mo), .ref (r + 2), .int (nI rs.length)]))) (h2 : G (r + 1) = some (.inl (1, mo * wd, .inr (.inl f)))) (h3 : G (r + 2) = some (.inl (0, 2 ^ e, .inl sl)))
    (h4 : ∀ i (hi : i < rs.length), rw_l (fun k => f (i * wd + k)) wd = rs[i]) (h5 : rw_ok e sl rs) (h6 : rs.length ≤ mo) (h7 : mo < 2 ^ e) (h8 : e ≤ 16) (h9 : wd ≤ 100) (h10 : rs.Nodup) (hp : G p = some (.inl (1, m, .inr (.inl g)))) (hm : wd ≤ m) (hm2 : m < 2 ^ 31) (hpr : p ≠ r + 1) :
    ∀ (n t : Nat) (z : Option Value), 2 ^ e + 1 ≤ t + n → t ≤ 2 ^ e → (∀ k, k < t → sl ((rw_h e (rw_l g wd) + k) % 2 ^ e) ≠ nI 0) → (∀ k, k < t → ∀ i (hi : i < rs.length), sl ((rw_h e (rw_l g wd) + k) % 2 ^ e) = nI (i + 1) → rs[i] ≠ rw_l g wd) →
      rz_T w (d + 2) 0 0 m_Rows_add 0 0 8 [some (.ref r), some (.ref p), some (.int (nI ((rw_h e (rw_l g wd) + t) % 2 ^ e))), some (.int (nI t)), z] [] G (rw_post G r wd mo e rs (rw_l g wd)) := by
  intro n
  have hp16 := rw_p16 h8
  have hpos := Nat.two_pow_pos e
  have hmw : mo * wd < 2 ^ 31 := by
    have : mo * wd ≤ 65536 * 100 := Nat.mul_le_mul (by omega) h9
    omega
  have hh := rw_h_lt e (rw_l g wd)
  induction n with
  | zero => intro t z h2 h3; omega
  | succ n ih =>
    intro t z hn ht hz hr
    have hsl : (rw_h e (rw_l g wd) + t) % 2 ^ e < 2 ^ e := Nat.mod_lt _ hpos
    generalize hs : (rw_h e (rw_l g wd) + t) % 2 ^ e = s at hsl
    refine rz_blk' [(.iload_n 3, 1, 0, 0), (.aload_n 0, 1, 0, 0), (.getfield 20, 3, 1, 3), (.arraylength, 1, 0, 0), (.if_icmp .ge 55, 3, 0, 0), (.aload_n 0, 1, 0, 0), (.getfield 20, 3, 1, 3), (.iload_n 2, 1, 0, 0), (.iaload, 1, 0, 0), (.iconst 1, 1, 0, 0), (.isub, 1, 0, 0), (.istore 4, 2, 0, 0)] (by decide +kernel) (Nat.le_refl _) (Nat.le_refl _) (fun K R hK hR => ?_)
    simp only [Nat.reduceLT, rw_c1, ↓rx_aload_n0, ↓rx_arraylength, ↓rx_getfield, ↓rx_iaload, ↓rx_iconst, ↓rx_if_icmp_ge, ↓rx_iload_n2, ↓rx_iload_n3, ↓rx_istore, ↓rx_isub, ↓rx_nil, ↓ry_fvs, ↓ry_fvz, ↓ry_i1, ↓ry_i2, ↓ry_iau, ↓ry_li0s, ↓ry_li0z, ↓ry_lr0s, ↓ry_lr0z, ↓ry_obu, ↓ry_r1, ↓ry_ri, true_and, ↓rh_ob h1, ↓rh_aa h3, ↓rh_ia h3, rz_set, rz_nol, rz_clr, List.set_cons_zero, List.set_cons_succ, rz_tr, Nat.reduceAdd, Int.reduceAdd, Int.reduceToNat, Int.reduceSub, Int.reduceNeg, Int.cast_ofNat_Int]
    rw [nI_clamp (by omega)]
    refine ⟨fun c1 => ?_, fun c1 => ⟨vp_in_nI hsl (by omega), hK _ _ _ _ ?_⟩⟩
    · rw [nI_leI (by omega) (by omega)] at c1
      obtain ⟨s0, hs0, e0⟩ := rw_zero h5 (by omega)
      obtain ⟨k, hk, ek⟩ := rw_cyc hpos hs0 hh
      exact absurd (by rw [ek]; exact e0) (hz k (by omega))
    rw [nI_leI (by omega) (by omega)] at c1
    obtain ⟨v, hv, ev⟩ := h5.1 s hsl
    rw [ev]
    cases v with
    | zero =>
      have hni := rw_notin (row := rw_l g wd) (t := t) h5 (by omega) (by rw [hs]; exact ev) hr
      refine rz_blk' [(.iload 4, 2, 0, 0), (.ifCond .ge 10, 3, 0, 0), (.aload_n 0, 1, 0, 0), (.aload_n 1, 1, 0, 0), (.iload_n 2, 1, 0, 0)] (by decide +kernel) (Nat.le_refl _) (Nat.le_refl _) (fun K R hK hR => ?_)
      simp only [↓rx_aload_n0, ↓rx_aload_n1, ↓rx_ifCond_ge, ↓rx_iload, ↓rx_iload_n2, ↓rx_nil, ↓ry_i1, ↓ry_li0s, ↓ry_li0z, ↓ry_lr0s, ↓ry_lr0z, rz_set, rz_nol, rz_clr, List.set_cons_zero, List.set_cons_succ, rz_tr, Nat.reduceAdd, Int.reduceAdd, Int.reduceToNat, Int.reduceSub, Int.reduceNeg, Int.cast_ofNat_Int]
      refine ⟨fun c2 => absurd c2 (by decide), fun c2 => hK _ _ _ _ ?_⟩
      refine rz_cV (As := [.ref p, .int (nI s)]) (b := r) (S := []) l_Rows_37 (by decide +kernel) rfl h1 rfl (Nat.le_of_ble_eq_true rfl) (Nat.le_refl _) (Nat.le_refl _) (c_Rows_addNew h1 h2 h3 h8 hsl hmw h9 (by omega) h6 hp hm hpr) (fun r G' hq => ?_)
      rcases hq with ⟨q1, rfl, q3⟩ | ⟨q1, rfl, q3⟩
      · simp only [Option.toList, List.cons_append, List.nil_append]
        refine rz_blk' [(.ireturn, 1, 0, 0)] (by decide +kernel) (Nat.le_refl _) (Nat.le_refl _) (fun K R hK hR => ?_)
        simp only [↓rx_ireturn, ↓rx_nil, rz_set, rz_nol, rz_clr, List.set_cons_zero, List.set_cons_succ, rz_tr, Nat.reduceAdd, Int.reduceAdd, Int.reduceToNat, Int.reduceSub, Int.reduceNeg, Int.cast_ofNat_Int]
        exact hR _ _ rz_nb_0 (Or.inr (Or.inl ⟨hni, q1, rfl, q3⟩))
      · simp only [Option.toList, List.cons_append, List.nil_append]
        refine rz_blk' [(.ireturn, 1, 0, 0)] (by decide +kernel) (Nat.le_refl _) (Nat.le_refl _) (fun K R hK hR => ?_)
        simp only [↓rx_ireturn, ↓rx_nil, rz_set, rz_nol, rz_clr, List.set_cons_zero, List.set_cons_succ, rz_tr, Nat.reduceAdd, Int.reduceAdd, Int.reduceToNat, Int.reduceSub, Int.reduceNeg, Int.cast_ofNat_Int]
        refine hR _ _ rz_nb_1 (Or.inr (Or.inr ⟨hni, q1, rfl, ⟨va_cpy g f 0 (rs.length * wd) wd, upd sl s (nI (rs.length + 1)), ?_, ?_, ?_, ?_, ?_, ?_, h7, h8, h9, ?_⟩, ?_⟩))
        · rw [q3, rz_up_n _ _ (by omega), rz_up_s]; simp
        · rw [q3, rz_up_n _ _ (by omega), rz_up_n _ _ (by omega), rz_up_s]
        · rw [q3, rz_up_s]
        · intro i hi
          by_cases qi : i < rs.length
          · rw [List.getElem_append_left qi, ← h4 i qi]
            refine rw_l_eq.mpr (fun k hk => pk_cpy_out (Or.inl ?_))
            have := Nat.mul_le_mul_right wd (show i + 1 ≤ rs.length from qi)
            rw [Nat.add_mul, Nat.one_mul] at this
            omega
          · have hi2 : i = rs.length := by simp at hi; omega
            subst hi2
            simp only [List.getElem_concat_length]
            refine rw_l_eq.mpr (fun k hk => ?_)
            rw [pk_cpy_in (by omega) (by omega)]
            congr 1
            omega
        · rw [← hs]
          exact rw_ok_add h5 (by omega) (by omega) (by rw [hs]; exact ev) hz
        · simp; omega
        · rw [List.nodup_append]
          refine ⟨h10, by simp, ?_⟩
          intro a ha b hb
          simp at hb
          subst hb
          exact fun q => hni (q ▸ ha)
        · intro a n1 n2 n3
          rw [q3, rz_up_n _ _ n3, rz_up_n _ _ n1, rz_up_n _ _ n2]
    | succ v =>
      have hvl : v < rs.length := by omega
      rw [pk_sub (by omega), Nat.add_sub_cancel]
      have hiw : v * wd + wd ≤ mo * wd := by
        have := Nat.mul_le_mul_right wd (show v + 1 ≤ mo by omega)
        rw [Nat.add_mul, Nat.one_mul] at this
        exact this
      refine rz_blk' [(.iload 4, 2, 0, 0), (.ifCond .ge 10, 3, 0, 0), (.aload_n 0, 1, 0, 0), (.aload_n 1, 1, 0, 0), (.iload_n 2, 1, 0, 0)] (by decide +kernel) (Nat.le_refl _) (Nat.le_refl _) (fun K R hK hR => ?_)
      simp only [↓rx_aload_n0, ↓rx_aload_n1, ↓rx_ifCond_ge, ↓rx_iload, ↓rx_iload_n2, ↓rx_nil, ↓ry_i1, ↓ry_li0s, ↓ry_li0z, ↓ry_lr0s, ↓ry_lr0z, rz_set, rz_nol, rz_clr, List.set_cons_zero, List.set_cons_succ, rz_tr, Nat.reduceAdd, Int.reduceAdd, Int.reduceToNat, Int.reduceSub, Int.reduceNeg, Int.cast_ofNat_Int]
      refine ⟨fun c2 => hK _ _ _ _ ?_, fun c2 => absurd (nI_pos' (by omega)) c2⟩
      refine rz_blk' [(.aload_n 0, 1, 0, 0), (.iload 4, 2, 0, 0), (.aload_n 1, 1, 0, 0)] (by decide +kernel) (Nat.le_refl _) (Nat.le_refl _) (fun K R hK hR => ?_)
      simp only [↓rx_aload_n0, ↓rx_aload_n1, ↓rx_iload, ↓rx_nil, ↓ry_li0s, ↓ry_li0z, ↓ry_lr0s, ↓ry_lr0z, rz_set, rz_nol, rz_clr, List.set_cons_zero, List.set_cons_succ, rz_tr, Nat.reduceAdd, Int.reduceAdd, Int.reduceToNat, Int.reduceSub, Int.reduceNeg, Int.cast_ofNat_Int]
      refine hK _ _ _ _ ?_
      refine rz_cV (As := [.int (nI v), .ref p]) (b := r) (S := []) l_Rows_41 (by decide +kernel) rfl h1 rfl (Nat.le_of_ble_eq_true rfl) (Nat.le_refl _) (Nat.le_refl _) (c_Rows_isRow h1 h2 hmw hiw hp hm hm2) (fun r G' hq => ?_)
      obtain ⟨rfl, hg⟩ := hq
      have hg := hg.symm
      subst hg
      simp only [Option.toList, List.cons_append, List.nil_append]
      rw [h4 v hvl]
      by_cases qe : rs[v] = rw_l g wd
      · rw [if_pos qe]
        refine rz_blk' [(.ifCond .eq 5, 3, 0, 0), (.iconst 1, 1, 0, 0), (.ireturn, 1, 0, 0)] (by decide +kernel) (Nat.le_refl _) (Nat.le_refl _) (fun K R hK hR => ?_)
        simp only [rw_c1, ↓rx_iconst, ↓rx_ifCond_eq, ↓rx_ireturn, ↓rx_nil, ↓ry_i1, rz_set, rz_nol, rz_clr, List.set_cons_zero, List.set_cons_succ, rz_tr, Nat.reduceAdd, Int.reduceAdd, Int.reduceToNat, Int.reduceSub, Int.reduceNeg, Int.cast_ofNat_Int]
        refine ⟨fun c3 => absurd c3 (by decide), fun c3 => hR _ _ rz_nb_1 (Or.inl ⟨?_, rfl, rfl⟩)⟩
        rw [← qe]; exact List.getElem_mem hvl
      · rw [if_neg qe]
        refine rz_blk' [(.ifCond .eq 5, 3, 0, 0), (.iconst 1, 1, 0, 0), (.ireturn, 1, 0, 0)] (by decide +kernel) (Nat.le_refl _) (Nat.le_refl _) (fun K R hK hR => ?_)
        simp only [rw_c1, ↓rx_iconst, ↓rx_ifCond_eq, ↓rx_ireturn, ↓rx_nil, ↓ry_i1, rz_set, rz_nol, rz_clr, List.set_cons_zero, List.set_cons_succ, rz_tr, Nat.reduceAdd, Int.reduceAdd, Int.reduceToNat, Int.reduceSub, Int.reduceNeg, Int.cast_ofNat_Int]
        refine ⟨fun c3 => hK _ _ _ _ ?_, fun c3 => absurd trivial c3⟩
        refine rz_blk' [(.iload_n 2, 1, 0, 0), (.iconst 1, 1, 0, 0), (.iadd, 1, 0, 0), (.aload_n 0, 1, 0, 0), (.getfield 20, 3, 1, 3), (.arraylength, 1, 0, 0), (.iconst 1, 1, 0, 0), (.isub, 1, 0, 0), (.iand, 1, 0, 0), (.istore_n 2, 1, 0, 0)] (by decide +kernel) (Nat.le_refl _) (Nat.le_refl _) (fun K R hK hR => ?_)
        simp only [Nat.reduceLT, rw_c1, ↓rx_aload_n0, ↓rx_arraylength, ↓rx_getfield, ↓rx_iadd, ↓rx_iand, ↓rx_iconst, ↓rx_iload_n2, ↓rx_istore_n2, ↓rx_isub, ↓rx_nil, ↓ry_fvs, ↓ry_fvz, ↓ry_i1, ↓ry_i2, ↓ry_li0s, ↓ry_li0z, ↓ry_lr0s, ↓ry_lr0z, ↓ry_obu, ↓ry_r1, true_and, ↓rh_ob h1, ↓rh_aa h3, nI_add, rz_set, rz_nol, rz_clr, List.set_cons_zero, List.set_cons_succ, rz_tr, Nat.reduceAdd, Int.reduceAdd, Int.reduceToNat, Int.reduceSub, Int.reduceNeg, Int.cast_ofNat_Int]
        rw [pk_sub (by omega), pk_andN (k := e) (by omega) (by rw [hp_bN (by omega)])]
        refine hK _ _ _ _ ?_
        refine rz_blk' [(.iinc 3 1, 3, 0, 0), (.goto (-58), 3, 0, 0)] (by decide +kernel) (Nat.le_refl _) (Nat.le_refl _) (fun K R hK hR => ?_)
        simp only [rw_c1, ↓rx_goto, ↓rx_iinc, ↓rx_nil, ↓ry_li0s, ↓ry_li0z, nI_add, rz_set, rz_nol, rz_clr, List.set_cons_zero, List.set_cons_succ, rz_tr, Nat.reduceAdd, Int.reduceAdd, Int.reduceToNat, Int.reduceSub, Int.reduceNeg, Int.cast_ofNat_Int]
        have es : (s + 1) % 2 ^ e = (rw_h e (rw_l g wd) + (t + 1)) % 2 ^ e := by rw [← hs, Nat.mod_add_mod]; rfl
        rw [es]
        refine hK _ _ _ _ (ih (t + 1) _ (by omega) (by omega) (fun k hk => ?_) (fun k hk i hi => ?_))
        · by_cases q : k = t
          · subst q; rw [hs, ev, Ne, nI_eq (by omega) (by omega)]; omega
          · exact hz k (by omega)
        · by_cases q : k = t
          · subst q
            rw [hs, ev]
            intro e2
            rw [nI_eq (by omega) (by omega)] at e2
            have : i = v := by omega
            subst this
            exact qe
          · exact hr k (by omega) i hi
set_option maxRecDepth 100000 in
set_option maxHeartbeats 4000000 in
/-- add(row) -/
theorem c_Rows_add {w : rz_w} {d : Nat} {G : rz_G} {r wd mo e p m : Nat} {rs : List (List Int64)} {g : Nat → Int64} (h : rw_is G r wd mo e rs) (hp : G p = some (.inl (1, m, .inr (.inl g)))) (hm : wd ≤ m) (hm2 : m < 2 ^ 31) (hpr : p ≠ r + 1) : rz_C w (d + 2) 0 0 y_Rows_add m_Rows_add [.ref r, .ref p] G (rw_post G r wd mo e rs (rw_l g wd)) := by
  obtain ⟨f, sl, h1, h2, h3, h4, h5, h6, h7, h8, h9, h10⟩ := h
  refine rz_enter' [some (.ref r), some (.ref p), none, none, none] (by decide +kernel) rfl rfl (Nat.le_of_ble_eq_true rfl) rfl ?_
  refine rz_blk' [(.aload_n 0, 1, 0, 0), (.aload_n 1, 1, 0, 0)] (by decide +kernel) (Nat.le_refl _) (Nat.le_refl _) (fun K R hK hR => ?_)
  simp only [↓rx_aload_n0, ↓rx_aload_n1, ↓rx_nil, ↓ry_lr0s, ↓ry_lr0z, rz_set, rz_nol, rz_clr, List.set_cons_zero, List.set_cons_succ, rz_tr, Nat.reduceAdd, Int.reduceAdd, Int.reduceToNat, Int.reduceSub, Int.reduceNeg, Int.cast_ofNat_Int]
  refine hK _ _ _ _ ?_
  refine rz_cV (As := [.ref p]) (b := r) (S := []) l_Rows_33 (by decide +kernel) rfl h1 rfl (Nat.le_of_ble_eq_true rfl) (Nat.le_refl _) (Nat.le_refl _) (c_Rows_slotOf h1 h3 h8 h9 hp hm hm2) (fun r G' hq => ?_)
  obtain ⟨rfl, hg⟩ := hq
  have hg := hg.symm
  subst hg
  simp only [Option.toList, List.cons_append, List.nil_append]
  refine rz_blk' [(.istore_n 2, 1, 0, 0)] (by decide +kernel) (Nat.le_refl _) (Nat.le_refl _) (fun K R hK hR => ?_)
  simp only [↓rx_istore_n2, ↓rx_nil, ↓ry_i1, rz_set, rz_nol, rz_clr, List.set_cons_zero, List.set_cons_succ, rz_tr, Nat.reduceAdd, Int.reduceAdd, Int.reduceToNat, Int.reduceSub, Int.reduceNeg, Int.cast_ofNat_Int]
  refine hK _ _ _ _ ?_
  refine rz_blk' [(.iconst 0, 1, 0, 0), (.istore_n 3, 1, 0, 0)] (by decide +kernel) (Nat.le_refl _) (Nat.le_refl _) (fun K R hK hR => ?_)
  simp only [rw_c0, ↓rx_iconst, ↓rx_istore_n3, ↓rx_nil, ↓ry_i1, rz_set, rz_nol, rz_clr, List.set_cons_zero, List.set_cons_succ, rz_tr, Nat.reduceAdd, Int.reduceAdd, Int.reduceToNat, Int.reduceSub, Int.reduceNeg, Int.cast_ofNat_Int]
  have := rw_add_l (w := w) (d := d) h1 h2 h3 h4 h5 h6 h7 h8 h9 h10 hp hm hm2 hpr (2 ^ e + 1) 0 none (by omega) (by omega) (fun k hk => by omega) (fun k hk => by omega)
  have e0 : (rw_h e (rw_l g wd) + 0) % 2 ^ e = rw_h e (rw_l g wd) := Nat.mod_eq_of_lt (rw_h_lt _ _)
  rw [e0] at this
  exact hK _ _ _ _ this

