/-! the law: what holds between its calls; its pieces -/
abbrev m_Law : rz_M := (code, 7, ret, 11, "law")
/-- the desk at n, the reference at n + 2002, the cell for answers at n + 2067; desk and reference hold the same value -/
def lw_i (n : Nat) (V : dk_V) (I : Nat → Int32) (A : Nat → Nat → Int32) (g : Nat → Int64) (G : rz_G) : Prop := dk G n V ∧ re_is G (n + 2002) I A ∧ rf I A V ∧ vb V ∧ G (n + 2067) = some (.inl (1, 1, .inr (.inl g)))
abbrev lw_L (b n j : Nat) (z5 z6 : Option Value) : rz_L := [some (.ref b), some (.ref n), some (.ref (n + 2002)), some (.ref (n + 2067)), some (.int (nI (7 * j))), z5, z6]
theorem lw_wf {n : Nat} {V : dk_V} {I : Nat → Int32} {A : Nat → Nat → Int32} {g : Nat → Int64} {G : rz_G} (h : lw_i n V I A g G) : ∀ k, k < 6 → wf (V.1 k) := fun k hk => re_m_wf (h.2.2.1.1 k hk)
/-- behind a wrapper with an answer -/
theorem lw_wo {t : Int32 → Int64} {cd : Nat → Nat} {n : Nat} {V : dk_V} {I : Nat → Int32} {A : Nat → Nat → Int32} {g : Nat → Int64} {G G1 : rz_G} {f : Option Value → dk_V → Prop} {e : Nat → Prop} {r : Option Value} (h : lw_i n V I A g G) (hr : wl_o t cd n (n + 2067) V G f e r G1) : ∃ k V1 g1, r = some (.int k) ∧ dk G1 n V1 ∧ re_is G1 (n + 2002) I A ∧ G1 (n + 2067) = some (.inl (1, 1, .inr (.inl g1))) ∧ ((k = 0 ∧ ∃ v, f (some (.int v)) V1 ∧ g1 0 = t v) ∨ ∃ c, e c ∧ k = nI (cd c) ∧ V1 = V) := by
  obtain ⟨h1, h2, h3, h4, h5⟩ := h
  have hre : wl_fr n (n + 2067) G G1 → re_is G1 (n + 2002) I A := fun hf o ho => by rw [hf (n + 2002 + o) (by omega) (by omega)]; exact h2 o ho
  rcases hr with ⟨v, g1, V1, rfl, hf, hd, hfr, hgo, hgv⟩ | ⟨c, he, rfl, hd, hfr, hgo⟩
  · exact ⟨0, V1, g1, rfl, hd, hre hfr, hgo, Or.inl ⟨rfl, v, hf, hgv⟩⟩
  · exact ⟨_, V, g, rfl, hd, hre hfr, hgo.trans h5, Or.inr ⟨c, he, rfl, rfl⟩⟩
/-- .. without one -/
theorem lw_wv {cd : Nat → Nat} {n : Nat} {V : dk_V} {I : Nat → Int32} {A : Nat → Nat → Int32} {g : Nat → Int64} {G G1 : rz_G} {f : Option Value → dk_V → Prop} {e : Nat → Prop} {r : Option Value} (h : lw_i n V I A g G) (hr : wl_v cd n V G f e r G1) : ∃ k V1, r = some (.int k) ∧ dk G1 n V1 ∧ re_is G1 (n + 2002) I A ∧ G1 (n + 2067) = some (.inl (1, 1, .inr (.inl g))) ∧ ((k = 0 ∧ f none V1) ∨ ∃ c, e c ∧ k = nI (cd c) ∧ V1 = V) := by
  obtain ⟨h1, h2, h3, h4, h5⟩ := h
  have hre : dk_fr n G G1 → re_is G1 (n + 2002) I A := fun hf o ho => by rw [hf (n + 2002 + o) (by omega)]; exact h2 o ho
  rcases hr with ⟨V1, rfl, hf, hd, hfr⟩ | ⟨c, he, rfl, hd, hfr⟩
  · exact ⟨0, V1, rfl, hd, hre hfr, (hfr _ (by omega)).trans h5, Or.inl ⟨rfl, hf⟩⟩
  · exact ⟨_, V, rfl, hd, hre hfr, (hfr _ (by omega)).trans h5, Or.inr ⟨c, he, rfl, rfl⟩⟩
theorem lw_put {n : Nat} {V : dk_V} {I' : Nat → Int32} {A' : Nat → Nat → Int32} {g : Nat → Int64} {G1 : rz_G} (hd : dk G1 n V) (hgo : G1 (n + 2067) = some (.inl (1, 1, .inr (.inl g)))) (hr : rf I' A' V) (hb : vb V) : lw_i n V I' A' g (re_put G1 (n + 2002) I' A') := ⟨dk_mv hd (fun x h1 h2 => re_out (by omega)), re_put_is, hr, hb, by rw [re_out (by omega)]; exact hgo⟩
theorem nI_n0 {c : Nat} (h : c < 4) (h0 : c ≠ 0) : ¬ nI c = 0 := fun e => h0 ((nI_eq (by omega) (by decide)).mp (show nI c = nI 0 from e))
/-- behind the reference's call -/
theorem lw_mo {t : Int32 → Int64} {cd : Nat → Nat} {n : Nat} {V V1 : dk_V} {g1 : Nat → Int64} {G1 G2 : rz_G} {f f' : Option Value → dk_V → Prop} {e e' : Nat → Prop} {k : Int32} {r : Option Value} (hm : mtw cd f e f' e') (hb : ∀ r V2, f' r V2 → vb V2) (hbV : vb V) (hd : dk G1 n V1) (hgo : G1 (n + 2067) = some (.inl (1, 1, .inr (.inl g1)))) (hk : (k = 0 ∧ ∃ v, f (some (.int v)) V1 ∧ g1 0 = t v) ∨ ∃ c, e c ∧ k = nI (cd c) ∧ V1 = V) (hr : (∃ v, r = some (.int v)) ∧ rv G1 (n + 2002) V f' e' r G2) : ∃ b' I' A', r = some (.int b') ∧ I' 0 = k ∧ lw_i n V1 I' A' g1 G2 ∧ (k = 0 → g1 0 = t b') := by
  obtain ⟨⟨b', rfl⟩, I', A', rfl, hh⟩ := hr
  rcases hk with ⟨rfl, v, hf, hv⟩ | ⟨c, he, rfl, rfl⟩ <;> rcases hh with ⟨h0, V2, hrf, hf'⟩ | ⟨hrf, c', h0, h4, hc0, he'⟩
  · obtain ⟨e1, e2⟩ := hm.1 _ _ _ _ hf hf'
    cases e1
    exact ⟨_, _, _, rfl, h0, lw_put hd hgo (vqw_rf e2 hrf) (vb_w e2 (hb _ _ hf')), fun _ => hv⟩
  · exact (hm.2.1 _ _ _ hf he').elim
  · exact (hm.2.2.1 _ _ _ he hf').elim
  · have e1 := hm.2.2.2 _ _ he he'
    subst e1
    exact ⟨_, _, _, rfl, h0, lw_put hd hgo hrf hbV, fun q => absurd q (nI_n0 h4 hc0)⟩
theorem lw_mv {cd : Nat → Nat} {n : Nat} {V V1 : dk_V} {g1 : Nat → Int64} {G1 G2 : rz_G} {f f0 f' : Option Value → dk_V → Prop} {e e' : Nat → Prop} {k : Int32} {r : Option Value} (hm : mtw cd f e f' e') (hb : ∀ r V2, f' r V2 → vb V2) (h0 : ∀ V2, f0 none V2 → f' none V2) (hbV : vb V) (hd : dk G1 n V1) (hgo : G1 (n + 2067) = some (.inl (1, 1, .inr (.inl g1)))) (hk : (k = 0 ∧ f none V1) ∨ ∃ c, e c ∧ k = nI (cd c) ∧ V1 = V) (hr : r = none ∧ rv G1 (n + 2002) V f0 e' r G2) : ∃ I' A', r = none ∧ I' 0 = k ∧ lw_i n V1 I' A' g1 G2 := by
  obtain ⟨rfl, I', A', rfl, hh⟩ := hr
  rcases hk with ⟨rfl, hf⟩ | ⟨c, he, rfl, rfl⟩ <;> rcases hh with ⟨hz, V2, hrf, hf'⟩ | ⟨hrf, c', hz, h4, hc0, he'⟩
  · obtain ⟨e1, e2⟩ := hm.1 _ _ _ _ hf (h0 _ hf')
    exact ⟨_, _, rfl, hz, lw_put hd hgo (vqw_rf e2 hrf) (vb_w e2 (hb _ _ (h0 _ hf')))⟩
  · exact (hm.2.1 _ _ _ hf he').elim
  · exact (hm.2.2.1 _ _ _ he (h0 _ hf')).elim
  · have e1 := hm.2.2.2 _ _ he he'
    subst e1
    exact ⟨_, _, rfl, hz, lw_put hd hgo hrf hbV⟩
section LWP
variable {w : rz_w} {kc kn pc : Nat} {S : List Value} {G : rz_G} {X : rl_P} {b L n j : Nat} {xs : Nat → Int32} {z5 z6 : Option Value}
theorem lw_ld {kk : Int} {k : Nat} (hkk : Int32.ofInt kk = nI k) (hX : X.2.2.1 = (b, L, xs)) (hj : 7 * j + 7 ≤ L) (hL : L ≤ 3584) (hk : k < 7) (hd : decode code pc = .ok (.aload_n 0, 1) ∧ decode code (pc + 1) = .ok (.iload 4, 2) ∧ decode code (pc + 1 + 2) = .ok (.iconst kk, 1) ∧ decode code (pc + 1 + 2 + 1) = .ok (.iadd, 1) ∧ decode code (pc + 1 + 2 + 1 + 1) = .ok (.iaload, 1)) (h : rl_T w 11 601024 7293033 m_Law kc kn (pc + 6) (lw_L b n j z5 z6) (.int (xs (7 * j + k)) :: S) G X) : rl_T w 11 601024 7293033 m_Law kc kn pc (lw_L b n j z5 z6) S G X := by
  obtain ⟨d0, d1, d2, d3, d4⟩ := hd
  refine rl_aload_n (j := 0) d0 rfl ?_
  refine rl_iload (j := 4) d1 rfl ?_
  refine rl_iconst d2 ?_
  refine rl_iadd d3 ?_
  rw [hkk, nI_add]
  refine rl_sld hX d4 (vp_in_nI (by omega) (by omega)) ?_
  rw [nI_clamp (by omega)]
  exact h
theorem lw_l6 (hX : X.2.2.1 = (b, L, xs)) (hj : 7 * j + 7 ≤ L) (hL : L ≤ 3584) (hd : decode code pc = .ok (.aload_n 0, 1) ∧ decode code (pc + 1) = .ok (.iload 4, 2) ∧ decode code (pc + 1 + 2) = .ok (.bipush 6, 2) ∧ decode code (pc + 1 + 2 + 2) = .ok (.iadd, 1) ∧ decode code (pc + 1 + 2 + 2 + 1) = .ok (.iaload, 1)) (h : rl_T w 11 601024 7293033 m_Law kc kn (pc + 7) (lw_L b n j z5 z6) (.int (xs (7 * j + 6)) :: S) G X) : rl_T w 11 601024 7293033 m_Law kc kn pc (lw_L b n j z5 z6) S G X := by
  obtain ⟨d0, d1, d2, d3, d4⟩ := hd
  refine rl_aload_n (j := 0) d0 rfl ?_
  refine rl_iload (j := 4) d1 rfl ?_
  refine rl_bipush d2 ?_
  refine rl_iadd d3 ?_
  rw [show (Int8.ofInt 6).toInt32 = nI 6 from by decide, nI_add]
  refine rl_sld hX d4 (vp_in_nI (by omega) (by omega)) ?_
  rw [nI_clamp (by omega)]
  exact h
/-- the codes are the same -/
theorem lw_thr {V : dk_V} {I : Nat → Int32} {A : Nat → Nat → Int32} {g : Nat → Int64} {k : Int32} (hd : decode code pc = .ok (.aload_n 2, 1) ∧ decode code (pc + 1) = .ok (.invokevirtual 75, 3) ∧ decode code (pc + 1 + 3) = .ok (.iload 5, 2) ∧ decode code (pc + 1 + 3 + 2) = .ok (.if_icmp .eq 5, 3)) (h : lw_i n V I A g G) (hI : I 0 = k) (hX1 : X.1 = true) (hkc : kc ≤ 601024) (hkn : kn ≤ 7293033) (hc : rl_T w 11 601024 7293033 m_Law kc kn (pc + 11) (lw_L b n j (some (.int k)) z6) [] G X) : rl_T w 11 601024 7293033 m_Law kc kn pc (lw_L b n j (some (.int k)) z6) [] G X := by
  obtain ⟨d0, d1, d2, d3⟩ := hd
  refine rl_aload_n (j := 2) d0 rfl ?_
  have hcon := c_Mod_thrown (w := w) (d := 10) (G := G) (a := n + 2002) (I := I) (A := A)
  rw [re_id h.2.1] at hcon
  refine rl_cV (As := []) (b := n + 2002) (S := []) l_Law_75 d1 rfl (h.2.1 0 (by decide)) rfl (Nat.le_of_ble_eq_true rfl) hX1 hkc hkn hcon (fun r G' hr => ?_)
  obtain ⟨rfl, rfl⟩ := hr
  simp only [Option.toList, List.cons_append, List.nil_append]
  refine rl_iload (j := 5) d2 rfl ?_
  exact rl_icmp_eq (off := 5) (t := pc + 11) d3 (by omega) (fun _ => hc) (fun q => absurd hI q)
theorem lg_same (x : Int64) : lg_cmp x x = 0 := by
  unfold lg_cmp
  rw [if_neg (fun q => Int64.lt_irrefl q), if_pos rfl]
/-- the answers are the same: ints -/
theorem lw_int {V : dk_V} {I : Nat → Int32} {A : Nat → Nat → Int32} {g : Nat → Int64} {k b' : Int32} (hd : decode code pc = .ok (.iload 5, 2) ∧ decode code (pc + 2) = .ok (.ifCond .ne 15, 3) ∧ decode code (pc + 2 + 3) = .ok (.aload_n 3, 1) ∧ decode code (pc + 2 + 3 + 1) = .ok (.iconst 0, 1) ∧ decode code (pc + 2 + 3 + 1 + 1) = .ok (.laload, 1) ∧ decode code (pc + 2 + 3 + 1 + 1 + 1) = .ok (.iload 6, 2) ∧ decode code (pc + 2 + 3 + 1 + 1 + 1 + 2) = .ok (.i2l, 1) ∧ decode code (pc + 2 + 3 + 1 + 1 + 1 + 2 + 1) = .ok (.lcmp, 1) ∧ decode code (pc + 2 + 3 + 1 + 1 + 1 + 2 + 1 + 1) = .ok (.ifCond .eq 5, 3)) (h : lw_i n V I A g G) (hg : k = 0 → g 0 = tI b') (hc : rl_T w 11 601024 7293033 m_Law kc kn (pc + 17) (lw_L b n j (some (.int k)) (some (.int b'))) [] G X) : rl_T w 11 601024 7293033 m_Law kc kn pc (lw_L b n j (some (.int k)) (some (.int b'))) [] G X := by
  obtain ⟨d0, d1, d2, d3, d4, d5, d6, d7, d8⟩ := hd
  refine rl_iload (j := 5) d0 rfl ?_
  refine rl_if_ne (off := 15) (t := pc + 17) d1 (by omega) (fun _ => hc) (fun q => ?_)
  refine rl_aload_n (j := 3) d2 rfl ?_
  refine rl_iconst d3 ?_
  refine rl_laload d4 h.2.2.2.2 vp_in0 ?_
  refine rl_iload (j := 6) d5 rfl ?_
  refine rl_i2l d6 ?_
  refine rl_lcmp d7 ?_
  have e : g (Int32.ofInt 0).toNatClampNeg = b'.toInt64 := hg q
  rw [e, lg_same]
  exact rl_if_eq (off := 5) (t := pc + 17) d8 (by omega) (fun _ => hc) (fun q => absurd rfl q)
/-- .. truths -/
theorem lw_tru {V : dk_V} {I : Nat → Int32} {A : Nat → Nat → Int32} {g : Nat → Int64} {k b' : Int32} (hd : decode code pc = .ok (.iload 5, 2) ∧ decode code (pc + 2) = .ok (.ifCond .ne 22, 3) ∧ decode code (pc + 2 + 3) = .ok (.aload_n 3, 1) ∧ decode code (pc + 2 + 3 + 1) = .ok (.iconst 0, 1) ∧ decode code (pc + 2 + 3 + 1 + 1) = .ok (.laload, 1) ∧ decode code (pc + 2 + 3 + 1 + 1 + 1) = .ok (.iload 6, 2) ∧ decode code (pc + 2 + 3 + 1 + 1 + 1 + 2) = .ok (.ifCond .eq 7, 3) ∧ decode code (pc + 2 + 3 + 1 + 1 + 1 + 2 + 3) = .ok (.lconst 1, 1) ∧ decode code (pc + 2 + 3 + 1 + 1 + 1 + 2 + 3 + 1) = .ok (.goto 4, 3) ∧ decode code (pc + 17) = .ok (.lconst 0, 1) ∧ decode code (pc + 18) = .ok (.lcmp, 1) ∧ decode code (pc + 18 + 1) = .ok (.ifCond .eq 5, 3)) (h : lw_i n V I A g G) (hg : k = 0 → g 0 = tB b') (hc : rl_T w 11 601024 7293033 m_Law kc kn (pc + 24) (lw_L b n j (some (.int k)) (some (.int b'))) [] G X) : rl_T w 11 601024 7293033 m_Law kc kn pc (lw_L b n j (some (.int k)) (some (.int b'))) [] G X := by
  obtain ⟨d0, d1, d2, d3, d4, d5, d6, d7, d8, d9, d10, d11⟩ := hd
  have fin : ∀ x : Int64, x = tB b' → k = 0 → rl_T w 11 601024 7293033 m_Law kc kn (pc + 18) (lw_L b n j (some (.int k)) (some (.int b'))) [.long x, .long (g (Int32.ofInt 0).toNatClampNeg)] G X := by
    intro x hx q
    refine rl_lcmp d10 ?_
    have e : g (Int32.ofInt 0).toNatClampNeg = tB b' := hg q
    rw [e, hx, lg_same]
    exact rl_if_eq (off := 5) (t := pc + 24) d11 (by omega) (fun _ => hc) (fun q => absurd rfl q)
  refine rl_iload (j := 5) d0 rfl ?_
  refine rl_if_ne (off := 22) (t := pc + 24) d1 (by omega) (fun _ => hc) (fun q => ?_)
  refine rl_aload_n (j := 3) d2 rfl ?_
  refine rl_iconst d3 ?_
  refine rl_laload d4 h.2.2.2.2 vp_in0 ?_
  refine rl_iload (j := 6) d5 rfl ?_
  refine rl_if_eq (off := 7) (t := pc + 17) d6 (by omega) (fun c => ?_) (fun c => ?_)
  · refine rl_lconst (n := 0) d9 ?_
    exact fin _ (by unfold tB; rw [if_pos c]; rfl) q
  · refine rl_lconst (n := 1) d7 ?_
    refine rl_goto (off := 4) (t := pc + 18) d8 (by omega) ?_
    exact fin _ (by unfold tB; rw [if_neg c]; rfl) q
end LWP
theorem rs_le {m : mv_T} (h : wf m) : rs_ver m (mk_cl m) ≤ 2 := by
  obtain ⟨v, -, q | q | q⟩ := rs_sdv h <;> omega
/-- the reference's machine, in the other methods' form -/
theorem rv_machine {G : rz_G} {a : Nat} {V : dk_V} {x y : Int32} {r : Option Value} {G' : rz_G} (h : r = none ∧ ∃ I' A', G' = re_put G a I' A' ∧ ((I' 0 = nI 0 ∧ ∃ k n, k < 6 ∧ 1 ≤ n ∧ n ≤ 6 ∧ x = nI k ∧ y = nI n ∧ rf I' A' (dk_um V k (dk_ms n))) ∨ (rf I' A' V ∧ ((I' 0 = nI 1 ∧ dk_no x) ∨ (I' 0 = nI 2 ∧ ¬ dk_no x ∧ ¬ dk_ok6 y))))) : r = none ∧ rv G a V (fun r V' => ∃ k n, k < 6 ∧ 1 ≤ n ∧ n ≤ 6 ∧ x = nI k ∧ y = nI n ∧ V' = dk_um V k (dk_ms n)) (fun c => (c = 1 ∧ dk_no x) ∨ (c = 2 ∧ ¬ dk_no x ∧ ¬ dk_ok6 y)) r G' := by
  obtain ⟨rfl, I', A', rfl, hh⟩ := h
  refine ⟨rfl, I', A', rfl, ?_⟩
  rcases hh with ⟨h0, k, n, h1, h2, h3, h4, h5, h6⟩ | ⟨hr, ⟨h0, hn⟩ | ⟨h0, hn, hk⟩⟩
  · exact Or.inl ⟨h0, _, h6, k, n, h1, h2, h3, h4, h5, rfl⟩
  · exact Or.inr ⟨hr, 1, h0, by decide, by decide, Or.inl ⟨rfl, hn⟩⟩
  · exact Or.inr ⟨hr, 2, h0, by decide, by decide, Or.inr ⟨rfl, hn, hk⟩⟩
