/-! mathematics: smallest -/
theorem max_k {P : Nat → Prop} (h0 : P 0) : ∀ n, ∃ k, k ≤ n ∧ P k ∧ ∀ j, j ≤ n → P j → j ≤ k
  | 0 => ⟨0, Nat.le_refl _, h0, fun j hj _ => hj⟩
  | n + 1 => by
    by_cases c : P (n + 1)
    · exact ⟨n + 1, Nat.le_refl _, c, fun j hj _ => hj⟩
    · obtain ⟨k, h1, h2, h3⟩ := max_k h0 n
      refine ⟨k, by omega, h2, fun j hj hP => ?_⟩
      by_cases e : j = n + 1
      · subst e; exact absurd hP c
      · exact h3 j (by omega) hP
theorem hd_ex (T : mv_T) : ∃ H, hd_is T H := by
  have h1 : ∀ s, ∃ h : List Nat, (∀ o, xo T s o → h <+: o) ∧ (∀ h', (∃ o, xo T s o) → (∀ o, xo T s o → h' <+: o) → h' <+: h) ∧ ((¬ ∃ o, xo T s o) → h = []) := by
    intro s
    by_cases c : ∃ o, xo T s o
    · obtain ⟨o0, ho0⟩ := id c
      obtain ⟨k, a1, a2, a3⟩ := max_k (P := fun k => ∀ o, xo T s o → o0.take k <+: o) (fun o _ => by simp) o0.length
      refine ⟨o0.take k, a2, fun h' _ hp => ?_, fun q => absurd c q⟩
      have hp0 := hp o0 ho0
      have e : h' = o0.take h'.length := List.prefix_iff_eq_take.mp hp0
      have hl := a3 h'.length hp0.length_le (fun o ho => by rw [← e]; exact hp o ho)
      rw [e]
      exact List.take_prefix_take_left hl
    · exact ⟨[], fun o ho => absurd ⟨o, ho⟩ c, fun h' q => absurd q c, fun _ => rfl⟩
  exact ⟨fun s => (h1 s).choose, fun s _ => (h1 s).choose_spec⟩
theorem emx_bu {m : mv_T} (h : wf m) (hd : Nat → List Nat) {H : Nat → List Nat} (hH : hd_is (tk m) H) : emx m H (bu_e m (mk_cl m) hd) (bu_c m (mk_cl m)) := ⟨mrel_bu h hd hH, me_m_1 _ _ _, bu_al h hd hH⟩
def rok (H : Nat → List Nat) (k : Nat) (n : ps_nd) : Prop := xn_ok n ∧ n.2.2.2.1.length ≤ 126 + 3 * k + (H n.1).length ∧ n.2.2.2.2.length ≤ 126 + 3 * k + (H n.2.1).length
theorem xf_len {p q : Nat} {b : Bool} {u v : List Nat} : (xf_mk p q b u v).2.2.2.1.length ≤ u.length ∧ (xf_mk p q b u v).2.2.2.2.length ≤ v.length := by
  unfold xf_mk ps_cl ps_cr
  constructor
  · show (if b then [] else if ps_ap u v = true then [] else u.drop (wd_lcp u v)).length ≤ _
    split
    · simp
    · split
      · simp
      · rw [List.length_drop]; omega
  · show (if b then [] else if ps_ap u v = true then [] else v.drop (wd_lcp u v)).length ≤ _
    split
    · simp
    · split
      · simp
      · rw [List.length_drop]; omega
theorem rok_go {m : mv_T} {H : Nat → List Nat} (k : okm m H) {n : ps_nd} {j l : Nat} {e f : xe_T} (h : rok H j n) (he : e ∈ (pu (tk m) H).2.1) (hf : f ∈ (pu (tk m) H).2.1) (hst : xs_st n l e f) : rok H (j + 1) (xf_go n e f) := by
  have hw32 := tw_m k.tw (show 21 ≤ 32 by decide)
  refine ⟨xf_go_ok hw32 hw32 h.1 he hf, ?_⟩
  have hl := xf_len (p := e.2.2.1) (q := f.2.2.1) (b := n.2.2.1) (u := n.2.2.2.1 ++ e.2.2.2) (v := n.2.2.2.2 ++ f.2.2.2)
  have hx : xf_go n e f = xf_mk e.2.2.1 f.2.2.1 n.2.2.1 (n.2.2.2.1 ++ e.2.2.2) (n.2.2.2.2 ++ f.2.2.2) := rfl
  have h1 : (xf_go n e f).1 = e.2.2.1 := rfl
  have h2 : (xf_go n e f).2.1 = f.2.2.1 := rfl
  rw [h1, h2, hx]
  have key : ∀ e ∈ (pu (tk m) H).2.1, (H e.1).length + e.2.2.2.length ≤ 3 + (H e.2.2.1).length := fun e he => by
    obtain ⟨e0, he0, rfl⟩ := pu_e.mp he
    have := congrArg List.length (pu_wd k.1 k.2.1 he0)
    simp only [List.length_append] at this
    have h3 := ((tk_tw k.1).2.2.1 e0 he0).2.2.2.1
    show (H e0.1).length + (pu_w H e0).length ≤ 3 + (H e0.2.2.1).length
    omega
  have k1 := key e he
  have k2 := key f hf
  have r1 := h.2.1
  have r2 := h.2.2
  rw [← hst.1] at r1
  rw [← hst.2.1] at r2
  simp only [List.length_append] at hl
  omega
theorem rok_sh {m : mv_T} {H : Nat → List Nat} (k : okm m H) {n : ps_nd} {j : Nat} (hj : j ≤ 72) (h : rok H j n) : wd_ok 26 n.2.2.2.1 ∧ wd_ok 26 n.2.2.2.2 ∧ n.2.2.2.1.length ≤ 368 ∧ n.2.2.2.2.length ≤ 368 := by
  obtain ⟨⟨a1, a2, -, -, a5, a6⟩, h1, h2⟩ := h
  have b1 := (hd_18 k.1 k.2.1 a1).1
  have b2 := (hd_18 k.1 k.2.1 a2).1
  exact ⟨⟨by omega, fun x hx => by have := a5 x hx; omega, by decide⟩, ⟨by omega, fun x hx => by have := a6 x hx; omega, by decide⟩, by omega, by omega⟩
/-- the rooms are large enough -/
theorem bu_ok_all {m : mv_T} (h : wf m) (hf : ∀ v, ¬ df (tk m) (tk m) (xd_st (tk m) (tk m)) v) (hs : sdv (tk m) 1) (h0 : al m ≠ 0) (hd nr : Nat → List Nat) : bu_ok m (mk_cl m) hd nr := by
  obtain ⟨H, hH⟩ := hd_ex (tk m)
  have k : okm m H := ⟨h, hH, hf, hs, h0⟩
  have g := emx_bu h hd hH
  have hhs := bu_hs h hd hH
  have t := tk_tw h
  have h6 := h.2.1
  have ha0 : (al m).testBit 0 = true := by
    cases c : (al m).testBit 0 with
    | true => rfl
    | false => exact absurd ((al_0 h).mpr c) h0
  have hso : ∀ e ∈ mv_so m (mv_al m (mk_cl m)) 18, mv_e m e ∈ (tk m).2.1 := fun e he => (so_tk h (p := (mv_e m e).1) (l := (mv_e m e).2.1) (t := (mv_e m e).2.2.1) (w := (mv_e m e).2.2.2)).mp ⟨e, he, rfl⟩
  have h18 : ∀ q, (al m).testBit q = true → ((bu_S m (mk_cl m) hd).2 q).length ≤ 18 := fun q hq => by
    rw [hhs q hq]
    have := al_lt h hq
    exact (hd_18 h hH (show q < 6 by omega)).1
  have R1 : (∃ Inv : bh_T → Prop, (∀ S q, Inv S → q < 6 → (mv_al m (mk_cl m)).testBit q = true → Inv (bh_1 m (mk_cl m) S q).1) ∧ (∀ S, Inv S → ∀ q, q < 6 → S.1.testBit q = true → (S.2 q).length ≤ 45) ∧ Inv (0, hd)) :=
    ⟨hiv (tk m), fun S q hS hq _ => (bh_1_i (mrel_tk h) t (tk_o h) hS hq).1, fun S hS q hq hb => by have := (hiv_l hS hq hb).1; omega, hiv_0⟩
  have R2 : ((bu_S m (mk_cl m) hd).2 0).length ≤ 45 := by have := h18 0 ha0; omega
  have R3 : ∀ e ∈ mv_so m (mv_al m (mk_cl m)) 18, ((bu_S m (mk_cl m) hd).2 (mv_e m e).2.2.1).length ≤ 45 := fun e he => by
    have := h18 _ (tk_e (hso e he)).2.2; omega
  have R4 : ∀ q, q < 6 → (mk_cl m &&& mv_al m (mk_cl m)).testBit q = true → ((bu_S m (mk_cl m) hd).2 q).length ≤ (ps_fin m q).length := fun q hq hb => by
    obtain ⟨r1, r2⟩ := (mrel_tk h).2 q hq
    rw [hb] at r1
    obtain ⟨F, hF⟩ := Option.isSome_iff_exists.mp r1.symm
    rw [r2 F hF]
    have hal : (al m).testBit q = true := by
      rw [Nat.testBit_and, Bool.and_eq_true] at hb
      exact hb.2
    rw [hhs q hal]
    exact ((hH q hq).1 F (xo_f hF)).length_le
  have R5 : ∀ e ∈ mv_so m (mv_al m (mk_cl m)) 18, ((bu_S m (mk_cl m) hd).2 (mv_e m e).1).length ≤ ((mv_e m e).2.2.2 ++ (bu_S m (mk_cl m) hd).2 (mv_e m e).2.2.1).length := fun e he => by
    have he' := hso e he
    rw [hhs _ (tk_e he').2.1, hhs _ (tk_e he').2.2]
    exact (pu_pre h hH he').length_le
  unfold bu_ok
  refine ⟨R1, R2, R3, R4, R5, fun S => ∃ u c, kst (pu (tk m) H) u c S, rok H, ?_, ?_, ?_, ?_, ?_⟩
  · rintro S l nr ⟨u, c, hS⟩ hl
    obtain ⟨c', hc⟩ := kst_ct k (ksr_go k g hl hS.1 nr)
    exact ⟨_, c', hc⟩
  · rintro S ⟨u, c, hS⟩ q _ hb
    exact kst_126 k hS hb
  · intro j n hj hn l hl
    obtain ⟨r, -, -⟩ := g
    obtain ⟨s1, s2, s3, s4⟩ := rok_sh k (by omega) hn
    refine ⟨⟨s1, s2, s3, s4, fun e f he hf => ?_⟩, fun n' hn' => ?_⟩
    · obtain ⟨e', he', a1, a2, a3, a4⟩ := (r.1 n.1 l _ _ hl).mp ⟨e, he, rfl, rfl⟩
      obtain ⟨f', hf', b1, b2, b3, b4⟩ := (r.1 n.2.1 l _ _ hl).mp ⟨f, hf, rfl, rfl⟩
      rw [ps_go_xf hn.1 a3 a4 b3 b4]
      exact rok_sh k (by omega) (rok_go (l := l) k hn he' hf' ⟨a1, b1, a2, b2⟩)
    · obtain ⟨e', he', f', hf', hst, rfl⟩ := (ps_nx_mem r r hl hn.1).mp hn'
      exact rok_go k hn he' hf' hst
  · rintro S C ⟨u, c, hS⟩ ⟨u', c', hC⟩ n hn
    obtain ⟨p, q, a1, a2, a3, a4, rfl⟩ := bp_mem.mp hn
    have h1 := kst_126 k hS a3
    have h2 := kst_126 k hC a4
    have hl := xf_len (p := p) (q := q) (b := false) (u := S.2 p) (v := C.2 q)
    exact ⟨xf_ok a1 a2 (kst_8 k hS.1 a3) (kst_8 k hC.1 a4), by omega, by omega⟩
  · exact ⟨[], [], kst_0 nr⟩
/-- final words agree -/
theorem fw_kc {P em : mv_T} {ec : Nat} {S : bf_T} {X : kt_T} (r : mrel em ec P) (h : kq S X) : ad_fw em ec S = kcl P X := by
  have st : ∀ q, q < 6 → ∀ acc, kc_1 P X acc q = (if S.1.testBit q && (ec &&& mv_al em ec).testBit q then some (S.2 q ++ ps_fin em q) else acc) := by
    intro q hq acc
    obtain ⟨r1, r2⟩ := r.2 q hq
    unfold kc_1
    rw [h q hq, r1]
    cases c : S.1.testBit q with
    | false => simp
    | true =>
      cases cf : P.2.2.1 q with
      | none => simp
      | some f => simp [r2 f cf]
  unfold kcl ad_fw
  have e : List.range 6 = [0, 1, 2, 3, 4, 5] := rfl
  rw [e]
  simp only [List.foldl_cons, List.foldl_nil, ad_cl]
  rw [st 0 (by decide), st 1 (by decide), st 2 (by decide), st 3 (by decide), st 4 (by decide), st 5 (by decide)]
theorem bu_fin {m : mv_T} {H : Nat → List Nat} (k : okm m H) (hd nr : Nat → List Nat) : (∀ Ks gs, cls (pu (tk m) H) (3 * Ks.length) Ks gs → bu_v m (mk_cl m) hd nr = some (kfw (pu (tk m) H), Ks.map (kcl (pu (tk m) H)), gs)) ∧ (clf (pu (tk m) H) → bu_v m (mk_cl m) hd nr = none) := by
  have g := emx_bu k.1 hd k.2.1
  have ha0 : (al m).testBit 0 = true := by
    cases c : (al m).testBit 0 with
    | true => rfl
    | false => exact absurd ((al_0 k.1).mpr c) k.2.2.2.2
  have eop : (bu_e m (mk_cl m) hd).2.2.2 = kfw (pu (tk m) H) := by
    have e1 : (bu_e m (mk_cl m) hd).2.2.2 = m.2.2.2 ++ (bu_S m (mk_cl m) hd).2 0 := me_m_o _ _ _
    have e2 : kfw (pu (tk m) H) = if (al m).testBit 0 = true then (if (al m).testBit 0 = true then m.2.2.2 ++ H 0 else m.2.2.2) else [] := rfl
    rw [e1, e2, if_pos ha0, if_pos ha0, bu_hs k.1 hd k.2.1 0 ha0]
  have hbv : bu_v m (mk_cl m) hd nr = (bu_g m (mk_cl m) hd nr).map (fun U => ((bu_e m (mk_cl m) hd).2.2.2, U.1.map (ad_fw (bu_e m (mk_cl m) hd) (bu_c m (mk_cl m))), U.2.2)) := if_neg k.2.2.2.2
  have hbg : bu_g m (mk_cl m) hd nr = bb_go (bu_e m (mk_cl m) hd) (bu_c m (mk_cl m)) (bk_kd (bu_e m (mk_cl m) hd) (bu_c m (mk_cl m))) 120 ([bu_T0 nr], va_up nr 0 [], []) := rfl
  rw [hbv, hbg]
  generalize bu_e m (mk_cl m) hd = em at *
  generalize bu_c m (mk_cl m) = ec at *
  refine ⟨fun Ks gs hc => ?_, fun hc => ?_⟩
  · obtain ⟨hn, U, hU, hgo⟩ := bb_all k g nr _ Ks gs hc
    have hlen := cls_len hc
    obtain ⟨h1, h2, h3, h4, h5⟩ := hU
    have e : bb_go em ec (bk_kd em ec) (120 - 3 * Ks.length) U = some U := by
      cases 120 - 3 * Ks.length with
      | zero => rfl
      | succ j => simp only [bb_go]; rw [if_neg (by rw [h1]; omega)]
    rw [hgo, e]
    simp only [Option.map_some, Option.some.injEq, Prod.mk.injEq]
    refine ⟨eop, ?_, h1⟩
    apply List.ext_getElem?
    intro i
    rw [List.getElem?_map, List.getElem?_map]
    by_cases c : i < Ks.length
    · obtain ⟨S, hS⟩ : ∃ S, U.1[i]? = some S := ⟨_, List.getElem?_eq_getElem (by omega)⟩
      obtain ⟨Y, hY⟩ : ∃ Y, Ks[i]? = some Y := ⟨_, List.getElem?_eq_getElem c⟩
      rw [hS, hY, Option.map_some, Option.map_some, fw_kc g.1 (h4 i S Y hS hY).1]
    · rw [List.getElem?_eq_none (by omega), List.getElem?_eq_none (by omega)]; rfl
  · obtain ⟨n, Ks, gs, X, L, a1, a2, a3, a4, a5, a6⟩ := hc
    obtain ⟨hn, U, hU, hgo⟩ := bb_all k g nr n Ks gs a1
    have hlen := cls_len a1
    have hlt := (List.getElem?_eq_some_iff.mp a2).1
    rw [← hlen] at a2 a3 a4 a6
    have hst := bb_stop k g hU a2 a3 a4 a5 a6
    rw [hgo, show 120 - n = (120 - (n + 1)) + 1 by omega]
    simp only [bb_go]
    have e1 : U.2.2.length = n := by rw [hU.1]; exact hlen
    have e2 := hU.2.1
    rw [if_pos (by omega), hst]
    rfl
theorem cls_129 {m : mv_T} {H : Nat → List Nat} (h : wf m) (hf : ∀ v, ¬ df (tk m) (tk m) (xd_st (tk m) (tk m)) v) (hs : sdv (tk m) 1) (hH : hd_is (tk m) H) {n : Nat} {Ks : List kt_T} {gs : List g_T} (hc : cls (pu (tk m) H) n Ks gs) : ∀ X ∈ Ks, ∀ s, s < 6 → ((X s).getD []).length ≤ 129 := by
  by_cases h0 : al m = 0
  · have key : ∀ (n : Nat) (Ks : List kt_T) (gs : List g_T), cls (pu (tk m) H) n Ks gs → Ks = [k0 (pu (tk m) H)] := by
      intro n
      induction n with
      | zero => intro Ks gs h; exact h.1
      | succ n ih =>
        intro Ks' gs' h
        obtain ⟨Ks, gs, X, z, h1, h2, rfl, h4⟩ := h
        have := ih Ks gs h1
        subst this
        have hX : X = k0 (pu (tk m) H) := List.mem_singleton.mp (List.mem_of_getElem? h2)
        rcases h4 with ⟨-, -, q⟩ | ⟨⟨s, hs, q⟩, -⟩
        · exact q
        · exfalso
          have e : mx (pu (tk m) H) (n % 3) X s = (pu (tk m) H).2.1.foldl (mx_1 (n % 3) X) (fun _ => none) s := rfl
          rw [e, mx_n] at q
          rcases q with q | ⟨e, he, -⟩
          · exact q rfl
          · obtain ⟨e0, he0, -⟩ := pu_e.mp he
            have := (tk_e he0).2.1
            rw [h0, Nat.zero_testBit] at this; cases this
    have := key n Ks gs hc
    subst this
    intro X hX s hs
    have hX := List.mem_singleton.mp hX
    subst hX
    unfold k0
    split <;> simp
  · have k : okm m H := ⟨h, hH, hf, hs, h0⟩
    have g := emx_bu h (fun _ => []) hH
    obtain ⟨-, U, hU, -⟩ := bb_all k g (fun _ => []) n Ks gs hc
    intro X hX s hs
    obtain ⟨i, hi⟩ := List.mem_iff_getElem?.mp hX
    have hil := (List.getElem?_eq_some_iff.mp hi).1
    have h2 := hU.2.1
    obtain ⟨S, hS⟩ : ∃ S, U.1[i]? = some S := ⟨_, List.getElem?_eq_getElem (by omega)⟩
    obtain ⟨a1, u, c, a2⟩ := hU.2.2.2.1 i S X hS hi
    rw [a1 s hs]
    cases cb : S.1.testBit s with
    | false => simp
    | true =>
      have := kst_126 k a2 cb
      simp; omega
