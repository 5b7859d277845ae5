/-! the law from its entry: the desk, the reference, the cell for answers -/
theorem vb_0 : vb dk_V0 := ⟨fun x hx => (by cases hx), fun x hx => (by cases hx), fun f hf => (by cases hf), fun i hi => absurd hi (Nat.not_lt_zero _)⟩
set_option maxRecDepth 100000 in
set_option maxHeartbeats 4000000 in
theorem law_main {w : rz_w} {b L n : Nat} {xs : Nat → Int32} (hw : w.2.2 = n) (hL : L ≤ 3584) : rl_T w 11 601024 7293033 m_Law 0 0 0 [some (.ref b), none, none, none, none, none, none] [] (fun _ => none) (false, n, (b, L, xs), fun r _ => r = some (.int 1)) := by
  refine rl_new (pc := 0) (ci := 9) (r := ("WriterDesk", F_Desk, 10)) (fs := [.null, .null, .null, .null, .null, .null, .null, .null, .null, .null]) rfl (rz_j1 23 rfl rfl) (rz_j1 24 rfl rfl) (rz_j1 1 rfl rfl) (by decide +kernel) (by decide) rfl (Or.inl rfl) (by decide) (by decide) ?_
  change rl_T w 11 601024 7293033 m_Law 1 10 3 [some (.ref b), none, none, none, none, none, none] [.ref n] (rz_up (fun _ => none) n (.inr (9, [.null, .null, .null, .null, .null, .null, .null, .null, .null, .null]))) (false, n, (b, L, xs), fun r _ => r = some (.int 1))
  refine rl_dup (pc := 3) (by decide +kernel) rfl ?_
  refine rl_cI (pc := 4) (As := []) (b := n) (S := [.ref n]) (mc' := 2001) (ms' := 88314) l_Law_65 (by decide +kernel) rfl (Nat.le_of_ble_eq_true rfl) rfl (Or.inr ⟨n, rfl, by rw [rz_up_s]; simp⟩) (by decide) (by decide) (c_Desk_init (w := w) (d := 6) (a := n) (rz_up_s _ _ _)) (fun r G1 hr => ?_)
  obtain ⟨rfl, -, hc1⟩ := hr
  change rl_T w 11 601024 7293033 m_Law 2002 88324 7 [some (.ref b), none, none, none, none, none, none] [.ref n] G1 (false, n, (b, L, xs), fun r _ => r = some (.int 1))
  refine rl_astore_n (pc := 7) (j := 1) (by decide +kernel) (by decide) ?_
  change rl_T w 11 601024 7293033 m_Law 2002 88324 8 [some (.ref b), some (.ref n), none, none, none, none, none] [] G1 (false, n, (b, L, xs), fun r _ => r = some (.int 1))
  refine rl_new (pc := 8) (ci := 10) (r := ("WriterDeskModel", F_Mod, 82)) (fs := [.int 0, .null, .null, .null, .null, .null, .null, .null, .null, .null, .null, .null, .int 0, .null, .null, .null, .null, .null, .null, .null, .null, .null, .null, .null, .null, .null, .int 0, .int 0, .null, .null, .int 0, .null, .null, .null, .null, .null, .null, .null, .int 0, .null, .null, .int 0, .int 0, .null, .null, .null, .int 0, .int 0, .null, .null, .int 0, .int 0, .null, .null, .null, .null, .null, .null, .int 0, .null, .null, .null, .null, .null, .int 0, .null, .null, .int 0, .int 0, .int 0, .null, .null, .null, .null, .null, .null, .int 0, .null, .null, .null, .null, .null]) rfl (rz_j5 87 rfl rfl) (rz_j5 88 rfl rfl) (rz_j1 11 rfl rfl) (by decide +kernel) (by decide) rfl (Or.inr ⟨n + 2001, rfl, by rw [hc1 2001 (by decide)]; simp⟩) (by decide) (by decide) ?_
  generalize hG2 : rz_up G1 ((false, n, (b, L, xs), fun (r : Option Value) (_ : rz_G) => r = some (.int 1)).2.1 + 2002) (.inr (10, [.int 0, .null, .null, .null, .null, .null, .null, .null, .null, .null, .null, .null, .int 0, .null, .null, .null, .null, .null, .null, .null, .null, .null, .null, .null, .null, .null, .int 0, .int 0, .null, .null, .int 0, .null, .null, .null, .null, .null, .null, .null, .int 0, .null, .null, .int 0, .int 0, .null, .null, .null, .int 0, .int 0, .null, .null, .int 0, .int 0, .null, .null, .null, .null, .null, .null, .int 0, .null, .null, .null, .null, .null, .int 0, .null, .null, .int 0, .int 0, .int 0, .null, .null, .null, .null, .null, .null, .int 0, .null, .null, .null, .null, .null])) = G2
  have hG2 : rz_up G1 (n + 2002) (.inr (10, [.int 0, .null, .null, .null, .null, .null, .null, .null, .null, .null, .null, .null, .int 0, .null, .null, .null, .null, .null, .null, .null, .null, .null, .null, .null, .null, .null, .int 0, .int 0, .null, .null, .int 0, .null, .null, .null, .null, .null, .null, .null, .int 0, .null, .null, .int 0, .int 0, .null, .null, .null, .int 0, .int 0, .null, .null, .int 0, .int 0, .null, .null, .null, .null, .null, .null, .int 0, .null, .null, .null, .null, .null, .int 0, .null, .null, .int 0, .int 0, .int 0, .null, .null, .null, .null, .null, .null, .int 0, .null, .null, .null, .null, .null])) = G2 := hG2
  change rl_T w 11 601024 7293033 m_Law 2003 88406 11 [some (.ref b), some (.ref n), none, none, none, none, none] [.ref (n + 2002)] G2 (false, n, (b, L, xs), fun r _ => r = some (.int 1))
  have e2 : G2 (n + 2002) = some (.inr (10, [.int 0, .null, .null, .null, .null, .null, .null, .null, .null, .null, .null, .null, .int 0, .null, .null, .null, .null, .null, .null, .null, .null, .null, .null, .null, .null, .null, .int 0, .int 0, .null, .null, .int 0, .null, .null, .null, .null, .null, .null, .null, .int 0, .null, .null, .int 0, .int 0, .null, .null, .null, .int 0, .int 0, .null, .null, .int 0, .int 0, .null, .null, .null, .null, .null, .null, .int 0, .null, .null, .null, .null, .null, .int 0, .null, .null, .int 0, .int 0, .int 0, .null, .null, .null, .null, .null, .null, .int 0, .null, .null, .null, .null, .null])) := by rw [← hG2]; exact rz_up_s _ _ _
  refine rl_dup (pc := 11) (by decide +kernel) rfl ?_
  refine rl_cI (pc := 12) (As := []) (b := n + 2002) (S := [.ref (n + 2002)]) (mc' := 64) (ms' := 1054628) l_Law_68 (by decide +kernel) rfl (Nat.le_of_ble_eq_true rfl) rfl (Or.inr ⟨n + 2002, rfl, by rw [e2]; simp⟩) (by decide) (by decide) (c_Mod_init (w := w) (d := 9) (a := n + 2002) e2) (fun r G3 hr => ?_)
  obtain ⟨rfl, hlow, hc3⟩ := hr
  change rl_T w 11 601024 7293033 m_Law 2067 1143034 15 [some (.ref b), some (.ref n), none, none, none, none, none] [.ref (n + 2002)] G3 (false, n, (b, L, xs), fun r _ => r = some (.int 1))
  refine rl_astore_n (pc := 15) (j := 2) (by decide +kernel) (by decide) ?_
  change rl_T w 11 601024 7293033 m_Law 2067 1143034 16 [some (.ref b), some (.ref n), some (.ref (n + 2002)), none, none, none, none] [] G3 (false, n, (b, L, xs), fun r _ => r = some (.int 1))
  refine rl_iconst (pc := 16) (n := 1) (by decide +kernel) ?_
  rw [show Int32.ofInt 1 = nI 1 from by decide]
  refine rl_newa (pc := 17) (atype := .long) (ti := 1) (N := 1) (a0 := (1, .inr (.inl (fun _ => 0)))) rfl rn_al (fun _ => rfl) (by decide) (by decide +kernel) rfl (Or.inr ⟨n + 2066, rfl, by rw [show n + 2066 = n + 2002 + 64 from rfl, hc3 64 (by decide)]; simp⟩) (by decide) (by decide) (fun _ _ h => h) (by decide) ?_
  change rl_T w 11 601024 7293033 m_Law 2068 1143035 19 [some (.ref b), some (.ref n), some (.ref (n + 2002)), none, none, none, none] [.ref (n + 2067)] (rz_up G3 (n + 2067) (.inl (1, 1, .inr (.inl (fun _ => 0))))) (false, n, (b, L, xs), fun r _ => r = some (.int 1))
  refine rl_astore_n (pc := 19) (j := 3) (by decide +kernel) (by decide) ?_
  refine rl_iconst (pc := 20) (n := 0) (by decide +kernel) ?_
  rw [show Int32.ofInt 0 = nI (7 * 0) from by decide]
  refine rl_istore (pc := 21) (j := 4) (by decide +kernel) (by decide) ?_
  change rl_T w 11 601024 7293033 m_Law 2068 1143035 23 (lw_L b n 0 none none) [] (rz_up G3 (n + 2067) (.inl (1, 1, .inr (.inl (fun _ => 0))))) (false, n, (b, L, xs), fun r _ => r = some (.int 1))
  have hd : ∀ o, o < 2002 → (rz_up G3 (n + 2067) (.inl (1, 1, .inr (.inl (fun _ => 0))))) (n + o) = some (dk_neu n o) := fun o ho => by
    rw [rz_up_n _ _ (by omega), hlow _ (by omega), ← hG2, rz_up_n _ _ (by omega)]
    exact hc1 o ho
  have hr : re_is (rz_up G3 (n + 2067) (.inl (1, 1, .inr (.inl (fun _ => 0))))) (n + 2002) re_I0 re_A0 := fun o ho => by
    rw [rz_up_n _ _ (by omega)]
    exact hc3 o ho
  refine rl_sw hw (fun q h1 h2 => ?_) (by decide) ?_
  · by_cases q1 : q < n + 2002
    · have := hd (q - n) (by omega)
      rw [show n + (q - n) = q by omega] at this
      rw [this]; simp
    · by_cases q2 : q < n + 2067
      · have := hr (q - (n + 2002)) (by omega)
        rw [show n + 2002 + (q - (n + 2002)) = q by omega] at this
        rw [this]; simp
      · have e : q = n + 2067 := by omega
        subst e
        rw [rz_up_s]; simp
  exact law_loop hL 512 0 none none dk_V0 re_I0 re_A0 (fun _ => 0) _ (by decide) (Nat.zero_le _) ⟨dk_neu_is hd, hr, re_new, vb_0, rz_up_s _ _ _⟩
