/-! a new WriterDesk holds the first value -/
def dk_V0 : dk_V := (fun _ => dk_ms 1, [], ([], [], []), false)
theorem dk_neu_is {G : rz_G} {z : Nat} (h : ∀ o, o < 2002 → G (z + o) = some (dk_neu z o)) : dk G z dk_V0 := by
  have hm : ∀ k, k < 6 → dk_mc G (z + (1582 + 70 * k)) (dk_ms 1) := fun k hk => by
    refine ⟨((upd (fun _ => 0) 0 (nI 1)), (fun _ _ => 0), (fun _ _ => 0), (fun _ => []), (fun _ => 0)), fun o ho => ?_, ⟨rfl, by decide, by decide, rfl, by decide, fun e he => absurd he (Nat.not_lt_zero _), rfl, by decide, by decide, fun _ _ => rfl, fun _ _ _ q => (by simp [dk_ms] at q), rfl, fun _ _ => wd_ok_nil (by decide)⟩, Or.inl rfl, fun e he => absurd he (Nat.not_lt_zero _), fun q xs e => (by simp [dk_ms] at e), by simp [dk_ms], by simp [dk_ms]⟩
    have := h (1582 + 70 * k + o) (by omega)
    rw [dk_nem ho, show z + (1582 + 70 * k + o) = z + (1582 + 70 * k) + o by omega] at this
    exact this
  have p0 : ∀ o, o < 12 → G (z + 6 + o) = some (rd_new (z + 6) o) := fun o ho => by
    have := h (6 + o) (by omega)
    rw [dk_neu, if_neg (by omega), if_pos (by omega), ← Nat.add_assoc, show 6 + o - 6 = o by omega] at this
    exact this
  have p1 : ∀ o, o < 304 → G (z + 18 + o) = some (ps_neu (z + 18) o) := fun o ho => by
    have := h (18 + o) (by omega)
    rw [dk_neu, if_neg (by omega), if_neg (by omega), if_pos (by omega), ← Nat.add_assoc, show 18 + o - 18 = o by omega] at this
    exact this
  have p2 : ∀ o, o < 5 → G (z + 322 + o) = some (dm_cell (z + 322) (fun _ => 0) (fun _ _ => 0) (fun _ _ => 0) (fun _ => []) (fun _ => 0) o) := fun o ho => by
    have := h (322 + o) (by omega)
    rw [dk_neu, if_neg (by omega), if_neg (by omega), if_neg (by omega), if_pos (by omega), ← Nat.add_assoc, show 322 + o - 322 = o by omega] at this
    exact this
  have p3 : ∀ o, o < 13 → G (z + 327 + o) = some (rs_new (z + 327) o) := fun o ho => by
    have := h (327 + o) (by omega)
    rw [dk_neu, if_neg (by omega), if_neg (by omega), if_neg (by omega), if_neg (by omega), if_pos (by omega), ← Nat.add_assoc, show 327 + o - 327 = o by omega] at this
    exact this
  have p4 : ∀ o, o < 588 → G (z + 340 + o) = some (bo_neu (z + 340) o) := fun o ho => by
    have := h (340 + o) (by omega)
    rw [dk_neu, if_neg (by omega), if_neg (by omega), if_neg (by omega), if_neg (by omega), if_neg (by omega), if_pos (by omega), ← Nat.add_assoc, show 340 + o - 340 = o by omega] at this
    exact this
  have p5 : ∀ o, o < 327 → G (z + 928 + o) = some (sm_cell (z + 928) (fun _ => 0) (fun _ _ => 0) (fun _ _ => 0) (fun _ => []) (fun _ => 0) o) := fun o ho => by
    have := h (928 + o) (by omega)
    rw [dk_neu, if_neg (by omega), if_neg (by omega), if_neg (by omega), if_neg (by omega), if_neg (by omega), if_neg (by omega), if_pos (by omega), ← Nat.add_assoc, show 928 + o - 928 = o by omega] at this
    exact this
  have p6 : ∀ o, o < 327 → G (z + 1255 + o) = some (sm_cell (z + 1255) (fun _ => 0) (fun _ _ => 0) (fun _ _ => 0) (fun _ => []) (fun _ => 0) o) := fun o ho => by
    have := h (1255 + o) (by omega)
    rw [dk_neu, if_neg (by omega), if_neg (by omega), if_neg (by omega), if_neg (by omega), if_neg (by omega), if_neg (by omega), if_neg (by omega), if_pos (by omega), ← Nat.add_assoc, show 1255 + o - 1255 = o by omega] at this
    exact this
  have q : ∀ o, o < 6 → G (z + o) = some (dk_ne0 z o) := fun o ho => by
    have := h o (by omega)
    rw [dk_neu, if_pos ho] at this
    exact this
  intro k hk
  match k, hk with
  | 0, _ => exact ⟨q 0 (by decide), q 1 (by decide)⟩
  | 1, _ => exact ⟨q 2 (by decide), q 3 (by decide), wd_ok_nil (by decide)⟩
  | 2, _ => exact ⟨[], q 4 (by decide), q 5 (by decide), wd_ok_nil (by decide)⟩
  | 3, _ => exact ⟨_, _, _, _, _, rd_new_is p0⟩
  | 4, _ => exact ⟨(fun _ => 0), (fun _ _ => 0), (fun _ _ => 0), (fun _ => []), .null, .null, ⟨fun o h1 h2 => by have := p1 o h2; rw [ps_neu, if_neg (by omega)] at this; exact this, p1 0 (by decide)⟩, fun _ _ => wd_ok_nil (by decide)⟩
  | 5, _ => exact ⟨_, _, _, _, _, p2⟩
  | 6, _ =>
    refine ⟨(fun _ => 0), (fun _ _ => 0), (fun _ _ => 0), (fun _ => []), .null, 0, ([], false, false), ⟨fun o h1 h2 => ?_, p3 0 (by decide)⟩, ⟨⟨rfl, fun i hi => absurd hi (Nat.not_lt_zero _), ⟨fun s _ => ⟨0, Nat.le_refl _, rfl⟩, fun i hi => absurd hi (Nat.not_lt_zero _), ?_⟩, by decide, List.nodup_nil, by simp⟩, rfl, rfl, rfl⟩, fun _ _ => wd_ok_nil (by decide)⟩
    · rw [p3 o h2]
      match o, h1, h2 with
      | 1, _, _ => rfl
      | 2, _, _ => rfl
      | 3, _, _ => rfl
      | 4, _, _ => rfl
      | 5, _, _ => rfl
      | 6, _, _ => rfl
      | 7, _, _ => rfl
      | 8, _, _ => rfl
      | 9, _, _ => rfl
      | 10, _, _ => rfl
      | 11, _, _ => rfl
      | 12, _, _ => rfl
      | n + 13, _, h => exact absurd h (by omega)
    · have : (List.range (2 ^ 13)).countP (fun s => decide ((fun _ => (0 : Int32)) s = nI 0)) = (List.range (2 ^ 13)).length := List.countP_eq_length.mpr (fun a _ => decide_eq_true (show (0 : Int32) = nI 0 by decide))
      rw [show (List.range (2 ^ 13)).countP (fun s => decide ((fun _ _ => (0 : Int32)) 0 s = nI 0)) = (List.range (2 ^ 13)).length from this, List.length_range]
      rfl
  | 7, _ =>
    refine ⟨(fun _ => 0), (fun _ _ => 0), (fun _ _ => 0), (fun _ => []), (fun i => z + 340 + (77 + i)), (upd (fun _ => 0) 0 (nI 1)), (fun _ _ => 0), (fun _ _ => 0), (fun _ => []), (fun _ => 0), false, ?_, ⟨fun _ _ => wd_ok_nil (by decide), fun _ _ => wd_ok_nil (by decide), wd_ok_nil (by decide), fun _ _ => wd_ok_nil (by decide), fun _ _ => wd_ok_nil (by decide)⟩, fun _ _ => wd_ok_nil (by decide), rfl, rfl⟩
    funext x
    by_cases c1 : z + 340 + 1 ≤ x ∧ x < z + 340 + 1 + 70
    · obtain ⟨o, rfl⟩ : ∃ o, x = z + 340 + 1 + o := ⟨x - (z + 340 + 1), by omega⟩
      rw [mc_at (by omega)]
      have := p4 (1 + o) (by omega)
      rw [bo_neu, if_pos (by omega), ← Nat.add_assoc, show 1 + o - 1 = o by omega] at this
      exact this.symm
    · rw [mc_out (by omega)]
      by_cases c2 : z + 340 ≤ x ∧ x < z + 340 + 588
      · obtain ⟨o, rfl⟩ : ∃ o, x = z + 340 + o := ⟨x - (z + 340), by omega⟩
        rw [bo_at (by omega)]
        have := p4 o (by omega)
        rw [bo_neu, if_neg (by omega)] at this
        exact this.symm
      · rw [bo_out (by omega)]
  | 8, _ => exact ⟨_, _, _, _, _, p5, fun _ _ => wd_ok_nil (by decide), fun u hu => by cases hu; exact ⟨rfl, by decide, fun _ _ => wd_ok_nil (by decide), rfl, fun i hi => absurd hi (Nat.not_lt_zero _), fun i f e => (by simp [dk_V0] at e)⟩⟩
  | 9, _ => exact ⟨_, _, _, _, _, p6, fun _ _ => wd_ok_nil (by decide), fun u hu => (by cases hu)⟩
  | k + 10, hk => exact hm k (by omega)
