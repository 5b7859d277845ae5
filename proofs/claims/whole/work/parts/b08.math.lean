/-! mathematics: runs of the machine that writes early; rests are short -/
theorem mk_C {p q : Nat} {u v x y : List Nat} : nd_C (xf_mk p q false u v) x y ↔ u ++ x ≠ v ++ y := by
  unfold nd_C
  cases h : ps_ap u v with
  | true =>
    simp only [xf_mk, h, Bool.or_true, true_or, true_iff]
    exact ap_ne h x y
  | false =>
    simp only [xf_mk, h, ps_cl, ps_cr, Bool.false_or, Bool.false_eq_true, if_false, false_or, ← lcpn_wd]
    exact not_congr (lcp_drop u v x y).symm
theorem rn_snoc {T : mv_T} {u : List Nat} {l p t : Nat} {o : List Nat} : rn T p (u ++ [l]) t o ↔ ∃ s x e, rn T p u s x ∧ e ∈ T.2.1 ∧ e.1 = s ∧ e.2.1 = l ∧ e.2.2.1 = t ∧ o = x ++ e.2.2.2 := by
  constructor
  · intro h
    obtain ⟨s, x, y, h1, h2, rfl⟩ := rn_split h
    obtain ⟨e, he, e1, e2, o', ⟨rfl, rfl⟩, rfl⟩ := h2
    exact ⟨s, x, e, h1, he, e1, e2, rfl, by simp⟩
  · rintro ⟨s, x, e, h1, he, rfl, rfl, rfl, rfl⟩
    exact rn_app h1 (rn_one he)
theorem xo_al {m : mv_T} {q : Nat} {o : List Nat} (h : xo (tk m) q o) : (al m).testBit q = true := by
  obtain ⟨v, t, x, f, h1, h2, -⟩ := h
  cases v with
  | nil =>
    obtain ⟨rfl, -⟩ := h1
    have h2 : (if (al m).testBit q then m.2.2.1 q else none) = some f := h2
    cases c : (al m).testBit q with
    | true => rfl
    | false => rw [c] at h2; cases h2
  | cons l v =>
    obtain ⟨e, he, rfl, -⟩ := h1
    exact (tk_e he).2.1
theorem rn_alv {m : mv_T} : ∀ {u : List Nat} {p q : Nat} {x : List Nat}, rn (tk m) p u q x → (al m).testBit p = true → (al m).testBit q = true
  | [], p, q, x, h, hp => by obtain ⟨rfl, -⟩ := h; exact hp
  | l :: u, p, q, x, h, hp => by
    obtain ⟨e, he, -, -, o', h1, -⟩ := h
    exact rn_alv h1 (tk_e he).2.2
section PU
variable {m : mv_T} {H : Nat → List Nat}
theorem hd_18 (h : wf m) (hH : hd_is (tk m) H) {q : Nat} (hq : q < 6) : (H q).length ≤ 18 ∧ ∀ x ∈ H q, x < 8 := by
  by_cases c : ∃ o, xo (tk m) q o
  · obtain ⟨o, ho⟩ := c
    have ha := xo_al ho
    obtain ⟨h1, h2⟩ := bu_hd h (fun _ => []) hH
    obtain ⟨h3, h4⟩ := h2 q ha
    rw [← h4]
    exact hiv_l h1 hq h3
  · rw [(hH q hq).2.2 c]; simp
theorem pu_pre (h : wf m) (hH : hd_is (tk m) H) {e : xe_T} (he : e ∈ (tk m).2.1) : H e.1 <+: e.2.2.2 ++ H e.2.2.1 := by
  have hb := (tk_tw h).2.2.1 e he
  obtain ⟨o0, ho0⟩ := tk_o h e he
  have hxe : ∀ o, xo (tk m) e.2.2.1 o → H e.1 <+: e.2.2.2 ++ o := fun o ho => (hH e.1 hb.1).1 _ (xo_e he ho)
  by_cases cl : (H e.1).length ≤ e.2.2.2.length
  · exact (List.prefix_of_prefix_length_le (hxe o0 ho0) (List.prefix_append _ _) cl).trans (List.prefix_append _ _)
  · have hw : e.2.2.2 <+: H e.1 := List.prefix_of_prefix_length_le (List.prefix_append _ _) (hxe o0 ho0) (by omega)
    obtain ⟨t', ht⟩ := hw
    rw [← ht, List.prefix_append_right_inj]
    refine (hH _ hb.2.2.1).2.1 t' ⟨o0, ho0⟩ (fun o ho => ?_)
    have := hxe o ho
    rwa [← ht, List.prefix_append_right_inj] at this
theorem pre_drop {u v : List Nat} (h : u <+: v) : u ++ v.drop u.length = v := by
  obtain ⟨t, rfl⟩ := h
  rw [List.drop_left]
theorem pu_wd (h : wf m) (hH : hd_is (tk m) H) {e : xe_T} (he : e ∈ (tk m).2.1) : H e.1 ++ pu_w H e = e.2.2.2 ++ H e.2.2.1 := pre_drop (pu_pre h hH he)
theorem pu_e {T : mv_T} {x : xe_T} : x ∈ (pu T H).2.1 ↔ ∃ e ∈ T.2.1, x = (e.1, e.2.1, e.2.2.1, pu_w H e) := by
  show x ∈ T.2.1.map (fun e => (e.1, e.2.1, e.2.2.1, pu_w H e)) ↔ _
  rw [List.mem_map]
  exact ⟨fun ⟨e, h1, h2⟩ => ⟨e, h1, h2.symm⟩, fun ⟨e, h1, h2⟩ => ⟨e, h1, h2.symm⟩⟩
theorem pu_f (hH : hd_is (tk m) H) {q : Nat} (hq : q < 6) {f : List Nat} (hf : (pu (tk m) H).2.2.1 q = some f) : (tk m).2.2.1 q = some (H q ++ f) := by
  have e : (pu (tk m) H).2.2.1 q = ((tk m).2.2.1 q).map (fun f => f.drop (H q).length) := rfl
  rw [e] at hf
  obtain ⟨F, hF, rfl⟩ := Option.map_eq_some_iff.mp hf
  rw [pre_drop ((hH q hq).1 F (xo_f hF))]
  exact hF
theorem rn_up (h : wf m) (hH : hd_is (tk m) H) : ∀ {v : List Nat} {s q : Nat} {x' : List Nat}, rn (pu (tk m) H) s v q x' → ∃ x, rn (tk m) s v q x ∧ H s ++ x' = x ++ H q
  | [], s, q, x', hr => by
    obtain ⟨rfl, rfl⟩ := hr
    exact ⟨[], ⟨rfl, rfl⟩, by simp⟩
  | l :: v, s, q, x', hr => by
    obtain ⟨e', he', rfl, rfl, o', h1, rfl⟩ := hr
    obtain ⟨e, he, rfl⟩ := pu_e.mp he'
    obtain ⟨x, h2, h3⟩ := rn_up h hH h1
    refine ⟨e.2.2.2 ++ x, ⟨e, he, rfl, rfl, x, h2, rfl⟩, ?_⟩
    show H e.1 ++ (pu_w H e ++ o') = _
    rw [← List.append_assoc, pu_wd h hH he, List.append_assoc, List.append_assoc]
    have h3 : H e.2.2.1 ++ o' = x ++ H q := h3
    rw [h3]
theorem rn_dn (h : wf m) (hH : hd_is (tk m) H) : ∀ {v : List Nat} {s q : Nat} {x : List Nat}, rn (tk m) s v q x → ∃ x', rn (pu (tk m) H) s v q x'
  | [], s, q, x, hr => by
    obtain ⟨rfl, rfl⟩ := hr
    exact ⟨[], rfl, rfl⟩
  | l :: v, s, q, x, hr => by
    obtain ⟨e, he, rfl, rfl, o', h1, rfl⟩ := hr
    obtain ⟨x', h2⟩ := rn_dn h hH h1
    exact ⟨pu_w H e ++ x', ⟨(e.1, e.2.1, e.2.2.1, pu_w H e), pu_e.mpr ⟨e, he, rfl⟩, rfl, rfl, x', h2, rfl⟩⟩
theorem rn_pal (h : wf m) (hH : hd_is (tk m) H) (h0 : al m ≠ 0) {u : List Nat} {s : Nat} {x : List Nat} (hr : rn (pu (tk m) H) 0 u s x) : (al m).testBit s = true := by
  obtain ⟨y, hy, -⟩ := rn_up h hH hr
  refine rn_alv hy ?_
  cases c : (al m).testBit 0 with
  | true => rfl
  | false => exact absurd ((al_0 h).mpr c) h0
/-- all ways of reading a word to the end write the same -/
theorem fn_all (h : wf m) (hH : hd_is (tk m) H) (hf : ∀ v, ¬ df (tk m) (tk m) (xd_st (tk m) (tk m)) v) (h0 : al m ≠ 0) {u v : List Nat} {s t p q : Nat} {x y x2 y2 f g : List Nat} (h1 : rn (pu (tk m) H) 0 u s x) (h2 : rn (pu (tk m) H) 0 u t y) (h3 : rn (pu (tk m) H) s v p x2) (h4 : rn (pu (tk m) H) t v q y2) (h5 : (pu (tk m) H).2.2.1 p = some f) (h6 : (pu (tk m) H).2.2.1 q = some g) : x ++ (x2 ++ f) = y ++ (y2 ++ g) := by
  have ha0 : (al m).testBit 0 = true := by
    cases c : (al m).testBit 0 with
    | true => rfl
    | false => exact absurd ((al_0 h).mpr c) h0
  obtain ⟨X, a1, b1⟩ := rn_up h hH h1
  obtain ⟨Y, a2, b2⟩ := rn_up h hH h2
  obtain ⟨X2, a3, b3⟩ := rn_up h hH h3
  obtain ⟨Y2, a4, b4⟩ := rn_up h hH h4
  have hp := al_lt h (rn_alv a3 (rn_alv a1 ha0))
  have hq := al_lt h (rn_alv a4 (rn_alv a2 ha0))
  have h6' := h.2.1
  have F := pu_f hH (show p < 6 by omega) h5
  have G := pu_f hH (show q < 6 by omega) h6
  have hd := hf (u ++ v)
  have hst : xd_st (tk m) (tk m) = [xf_mk 0 0 false (tk m).2.2.2 (tk m).2.2.2] := if_pos ⟨ha0, ha0⟩
  rw [hst] at hd
  refine Classical.byContradiction fun hne => hd ⟨_, List.mem_singleton.mpr rfl, p, q, X ++ X2, Y ++ Y2, H p ++ f, H q ++ g, rn_app a1 a3, rn_app a2 a4, F, G, ?_⟩
  rw [mk_C]
  intro e
  have e := List.append_cancel_left e
  apply hne
  have e1 : H 0 ++ (x ++ (x2 ++ f)) = (X ++ X2) ++ (H p ++ f) := by
    rw [← List.append_assoc, b1, List.append_assoc, ← List.append_assoc (H s), b3]; simp only [List.append_assoc]
  have e2 : H 0 ++ (y ++ (y2 ++ g)) = (Y ++ Y2) ++ (H q ++ g) := by
    rw [← List.append_assoc, b2, List.append_assoc, ← List.append_assoc (H t), b4]; simp only [List.append_assoc]
  exact List.append_cancel_left (e1.trans (e.trans e2.symm))
theorem xo_pu (h : wf m) (hH : hd_is (tk m) H) {s : Nat} (hs : (al m).testBit s = true) : ∃ v q z f, rn (pu (tk m) H) s v q z ∧ (pu (tk m) H).2.2.1 q = some f := by
  obtain ⟨o, v, q, z, f, h1, h2, -⟩ := al_xo h hs
  obtain ⟨z', h3⟩ := rn_dn h hH h1
  refine ⟨v, q, z', f.drop (H q).length, h3, ?_⟩
  show ((tk m).2.2.1 q).map _ = _
  rw [h2]; rfl
/-- all ways to one state have written the same -/
theorem fn_one (h : wf m) (hH : hd_is (tk m) H) (hf : ∀ v, ¬ df (tk m) (tk m) (xd_st (tk m) (tk m)) v) (h0 : al m ≠ 0) {u : List Nat} {s : Nat} {x y : List Nat} (h1 : rn (pu (tk m) H) 0 u s x) (h2 : rn (pu (tk m) H) 0 u s y) : x = y := by
  obtain ⟨v, q, z, f, h3, h4⟩ := xo_pu h hH (rn_pal h hH h0 h1)
  exact List.append_cancel_right (fn_all h hH hf h0 h1 h2 h3 h3 h4 h4)
end PU
theorem lcpn_app : ∀ (c a b : List Nat), lcpn (c ++ a) (c ++ b) = c.length + lcpn a b
  | [], a, b => by simp
  | x :: c, a, b => by
    simp only [List.cons_append, lcpn, if_true, lcpn_app c a b, List.length_cons]; omega
theorem cut_app {p q : Nat} {x y w w' : List Nat} : pd_cut p q (x.drop (lcpn x y) ++ w) (y.drop (lcpn x y) ++ w') = pd_cut p q (x ++ w) (y ++ w') := by
  have e1 : x ++ w = x.take (lcpn x y) ++ (x.drop (lcpn x y) ++ w) := by rw [← List.append_assoc, List.take_append_drop]
  have e2 : y ++ w' = x.take (lcpn x y) ++ (y.drop (lcpn x y) ++ w') := by rw [lcp_take, ← List.append_assoc, List.take_append_drop]
  generalize x.drop (lcpn x y) ++ w = a at *
  generalize y.drop (lcpn x y) ++ w' = b at *
  generalize x.take (lcpn x y) = c at *
  unfold pd_cut
  rw [e1, e2, lcpn_app, List.drop_append, List.drop_append]
  have z : ∀ n, List.drop (c.length + n) c = [] := fun n => List.drop_eq_nil_of_le (by omega)
  rw [z, List.nil_append, List.nil_append, Nat.add_sub_cancel_left]
theorem lev_mono {T : mv_T} {most : Nat} : ∀ {k : Nat} {x : pd_T}, lev T most 0 x → lev T most k x
  | 0, x, h => h
  | k + 1, x, h => Or.inl (lev_mono h)
theorem lev_fr {T : mv_T} {most : Nat} : ∀ {k : Nat} {x : pd_T}, lev T most k x → ¬ pd_fr most x
  | 0, x, h => by
    have h : x = (0, 0, [], []) := h
    subst h; unfold pd_fr; simp
  | k + 1, x, h => by
    rcases h with h | ⟨y, -, -, h⟩
    · exact lev_fr h
    · exact h
/-- residuals of a steady function -/
theorem rs_all {T : mv_T} {most : Nat} (hv : vd T most 1) : ∃ k, ∀ (n : Nat) (u : List Nat) (s t : Nat) (x y : List Nat), u.length = n → rn T 0 u s x → rn T 0 u t y → lev T most k (pd_cut s t x y) := by
  obtain ⟨k, -, h⟩ := hv
  rcases h with ⟨h, -⟩ | ⟨h, -⟩ | ⟨-, h1, -, h2⟩
  · cases h
  · cases h
  refine ⟨k, fun n => ?_⟩
  induction n with
  | zero =>
    intro u s t x y hu hx hy
    have hu := List.length_eq_zero_iff.mp hu
    subst hu
    obtain ⟨rfl, rfl⟩ := hx
    obtain ⟨rfl, rfl⟩ := hy
    exact lev_mono rfl
  | succ n ih =>
    intro u s t x y hu hx hy
    rcases nil_or u with q | ⟨u', l, rfl⟩
    · subst q; simp at hu
    obtain ⟨s', x', e, a1, a2, a3, a4, a5, rfl⟩ := rn_snoc.mp hx
    obtain ⟨t', y', f, b1, b2, b3, b4, b5, rfl⟩ := rn_snoc.mp hy
    have hl := ih u' s' t' x' y' (by rw [List.length_append] at hu; simp at hu; omega) a1 b1
    have hst : pd_st T (pd_cut s' t' x' y') (pd_cut s t (x' ++ e.2.2.2) (y' ++ f.2.2.2)) := by
      refine ⟨e, a2, f, b2, a3, b3, a4.trans b4.symm, ?_⟩
      unfold pd_go
      rw [a5, b5]
      exact cut_app.symm
    by_cases c : pd_fr most (pd_cut s t (x' ++ e.2.2.2) (y' ++ f.2.2.2))
    · exact absurd ⟨_, _, hl, hst, c⟩ h1
    · exact h2 _ (Or.inr ⟨_, hl, hst, c⟩)
theorem rs_108 {m : mv_T} (h : wf m) (hs : sdv (tk m) 1) (h0 : al m ≠ 0) {u : List Nat} {s t : Nat} {x y : List Nat} (hx : rn (tk m) 0 u s x) (hy : rn (tk m) 0 u t y) : x.length ≤ lcpn x y + 108 := by
  unfold sdv at hs
  rw [if_neg] at hs
  · obtain ⟨k, hk⟩ := rs_all hs
    have h1 := lev_fr (hk _ u s t x y rfl hx hy)
    have h2 := lgm_le (tk_tw h)
    unfold pd_fr pd_cut at h1
    simp only [List.length_drop, not_or, Nat.not_lt] at h1
    omega
  · intro c
    apply h0
    have hlt : al m < 64 := (tk_tw h).1
    apply Nat.eq_of_testBit_eq
    intro q
    rw [Nat.zero_testBit]
    by_cases hq : q < 6
    · have c : (List.range 6).countP (fun q => (al m).testBit q) = 0 := c
      rw [List.countP_eq_zero] at c
      simpa using c q (by simpa using hq)
    · exact Nat.testBit_lt_two_pow (Nat.lt_of_lt_of_le hlt (show 2 ^ 6 ≤ 2 ^ q from Nat.pow_le_pow_right (by decide) (by omega)))
theorem lcpn_mono (x y a b : List Nat) : lcpn x y ≤ lcpn (x ++ a) (y ++ b) := by
  have e1 : x ++ a = x.take (lcpn x y) ++ (x.drop (lcpn x y) ++ a) := by rw [← List.append_assoc, List.take_append_drop]
  have e2 : y ++ b = x.take (lcpn x y) ++ (y.drop (lcpn x y) ++ b) := by rw [lcp_take, ← List.append_assoc, List.take_append_drop]
  have hl := (lcpn_le x y).1
  rw [e1, e2, lcpn_app, List.length_take]; omega
/-- what one way has written beyond another, in the machine that writes early -/
theorem rs_126 {m : mv_T} {H : Nat → List Nat} (h : wf m) (hH : hd_is (tk m) H) (hs : sdv (tk m) 1) (h0 : al m ≠ 0) {u : List Nat} {s t : Nat} {x y : List Nat} (hx : rn (pu (tk m) H) 0 u s x) (hy : rn (pu (tk m) H) 0 u t y) : x.length ≤ lcpn x y + 126 := by
  obtain ⟨X, a1, b1⟩ := rn_up h hH hx
  obtain ⟨Y, a2, b2⟩ := rn_up h hH hy
  have hp := al_lt h (rn_pal h hH h0 hx)
  have h6 := h.2.1
  have h18 := (hd_18 h hH (show s < 6 by omega)).1
  have h108 := rs_108 h hs h0 a1 a2
  have hm := lcpn_mono X Y (H s) (H t)
  rw [← b1, ← b2, lcpn_app] at hm
  have hl := congrArg List.length b1
  simp only [List.length_append] at hl
  omega
