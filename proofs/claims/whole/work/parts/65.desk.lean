/-! WriterDesk: its 2002 cells -/
/-- machines, what was told last, the machine made last, and whether made and spare have changed places -/
abbrev dk_V : Type := (Nat → mv_T) × List Nat × sv_T × Bool
def dk_lo (k : Nat) : Nat := ([0, 2, 4, 6, 18, 322, 327, 340, 928, 1255, 1582, 1652, 1722, 1792, 1862, 1932] : List Nat).getD k 0
def dk_n (k : Nat) : Nat := ([2, 2, 2, 12, 304, 5, 13, 588, 327, 327, 70, 70, 70, 70, 70, 70] : List Nat).getD k 0
theorem dk_apart : ∀ j, j < 16 → ∀ k, k < 16 → j ≠ k → dk_lo j + dk_n j ≤ dk_lo k ∨ dk_lo k + dk_n k ≤ dk_lo j := by decide +kernel
theorem dk_in : ∀ j, j < 16 → dk_lo j + dk_n j ≤ 2002 := by decide +kernel
def bl_is (G : rz_G) (a : Nat) (I : Nat → Int32) (A : Nat → Nat → Int32) (J : Nat → Nat → Int64) (X : Nat → List Nat) (P : Nat → Nat) (Im : Nat → Int32) (Am : Nat → Nat → Int32) (Jm : Nat → Nat → Int64) (Xm : Nat → List Nat) (Pm : Nat → Nat) : Prop := mc_put (bo_put G a I A J X P) (a + 1) Im Am Jm Xm Pm = G
def dk_fs (z : Nat) (sw : Bool) : List Value := [.ref (z + 1), .ref (z + 2), .ref (z + 4), .ref (z + 6), .ref (z + 18), .ref (z + 322), .ref (z + 327), .ref (z + 340), .ref (z + (if sw then 1255 else 928)), .ref (z + (if sw then 928 else 1255))]
def mk_cl (m : mv_T) : Nat := (List.range 6).foldl (fun s q => if (m.2.2.1 q).isSome then s ||| 2 ^ q else s) 0
def dk_mc (G : rz_G) (a : Nat) (m : mv_T) : Prop := ∃ S : mc_S, mc_is G a S.1 S.2.1 S.2.2.1 S.2.2.2.1 S.2.2.2.2 ∧ mv_is S.1 S.2.1 S.2.2.2.1 m (mk_cl m) ∧ (S.1 3 = nI 0 ∨ mv_set S.1 S.2.1 m (mk_cl m)) ∧ mv_w3 m
def dk_sm (G : rz_G) (a : Nat) (v : Option sv_T) : Prop := ∃ (I : Nat → Int32) (A : Nat → Nat → Int32) (J : Nat → Nat → Int64) (X : Nat → List Nat) (P : Nat → Nat), sm_is G a I A J X P ∧ sm_xo X ∧ ∀ u, v = some u → sv_is I A X u
def dk_c (V : dk_V) (G : rz_G) (z : Nat) : Nat → Prop
  | 0 => G z = some (.inr (9, dk_fs z V.2.2.2)) ∧ G (z + 1) = some (.inl (5, 6, .inr (.inr (.inr (.inr (fun i => some (z + (1582 + 70 * i))))))))
  | 1 => wd_is G (z + 2) 257 V.2.1
  | 2 => ∃ xs, wd_is G (z + 4) 5 xs
  | 3 => ∃ b wn wt xs ys, rd_is G (z + 6) b wn wt xs ys
  | 4 => ∃ (I : Nat → Int32) (A : Nat → Nat → Int32) (J : Nat → Nat → Int64) (X : Nat → List Nat) (v0 v1 : Value), ps_is0 G (z + 18) I A J X v0 v1 ∧ ps_xo X
  | 5 => ∃ (I : Nat → Int32) (A : Nat → Nat → Int32) (J : Nat → Nat → Int64) (X : Nat → List Nat) (P : Nat → Nat), dm_is G (z + 322) I A J X P
  | 6 => ∃ (I : Nat → Int32) (A : Nat → Nat → Int32) (J : Nat → Nat → Int64) (X : Nat → List Nat) (v0 : Value) (bd : Nat) (S : rs_sT), rs_is0 G (z + 327) I A J X v0 ∧ rs_st I A J bd S ∧ rs_xo X
  | 7 => ∃ (I : Nat → Int32) (A : Nat → Nat → Int32) (J : Nat → Nat → Int64) (X : Nat → List Nat) (P : Nat → Nat) (Im : Nat → Int32) (Am : Nat → Nat → Int32) (Jm : Nat → Nat → Int64) (Xm : Nat → List Nat) (Pm : Nat → Nat) (b : Bool), bl_is G (z + 340) I A J X P Im Am Jm Xm Pm ∧ bl_xo X ∧ mc_ww Xm ∧ P 0 = z + 340 + (76 + bk_a b) ∧ P 1 = z + 340 + (76 + bk_a (!b))
  | 8 => dk_sm G (z + 928) (if V.2.2.2 then none else some V.2.2.1)
  | 9 => dk_sm G (z + 1255) (if V.2.2.2 then some V.2.2.1 else none)
  | k + 10 => dk_mc G (z + (1582 + 70 * k)) (V.1 k)
def dk (G : rz_G) (z : Nat) (V : dk_V) : Prop := ∀ k, k < 16 → dk_c V G z k
def dk_fr (z : Nat) (G G' : rz_G) : Prop := ∀ x, x < z ∨ z + 2002 ≤ x → G' x = G x
theorem dk_fr.rf {z : Nat} {G : rz_G} : dk_fr z G G := fun _ _ => rfl
theorem dk_fr.trans {z : Nat} {G G1 G2 : rz_G} (h : dk_fr z G G1) (h2 : dk_fr z G1 G2) : dk_fr z G G2 := fun x hx => (h2 x hx).trans (h x hx)
theorem rd_is_keep {G G' : rz_G} {a : Nat} {b : Bool} {wn wt : List (Nat × List Nat)} {xs ys : List Nat} (h : rd_is G a b wn wt xs ys) (hk : ∀ x, a ≤ x → x < a + 12 → G' x = G x) : rd_is G' a b wn wt xs ys := by
  obtain ⟨⟨g, h1⟩, h2, h3, h4, h5, h6, h7, h8⟩ := h
  have hnt := rd_nt a b
  refine ⟨⟨g, by rw [hk _ (by omega) (by omega)]; exact h1⟩, by rw [hk _ (by omega) (by omega)]; exact h2, wd_is_keep h3 (hk _ (by omega) (by omega)) (hk _ (by omega) (by omega)), wd_is_keep h4 (hk _ (by omega) (by omega)) (hk _ (by omega) (by omega)), ?_, ?_, h7, h8⟩
  · refine rw_is_keep h5 (hk _ ?_ ?_) (hk _ ?_ ?_) (hk _ ?_ ?_) <;> omega
  · refine rw_is_keep h6 (hk _ ?_ ?_) (hk _ ?_ ?_) (hk _ ?_ ?_) <;> omega
theorem bl_is_keep {G G' : rz_G} {a : Nat} {I : Nat → Int32} {A : Nat → Nat → Int32} {J : Nat → Nat → Int64} {X : Nat → List Nat} {P : Nat → Nat} {Im : Nat → Int32} {Am : Nat → Nat → Int32} {Jm : Nat → Nat → Int64} {Xm : Nat → List Nat} {Pm : Nat → Nat} (h : bl_is G a I A J X P Im Am Jm Xm Pm) (hk : ∀ x, a ≤ x → x < a + 588 → G' x = G x) : bl_is G' a I A J X P Im Am Jm Xm Pm := by
  funext x
  by_cases c : x < a ∨ a + 588 ≤ x
  · rw [bl_out c]
  · rw [hk x (by omega) (by omega), ← congrFun h x]
    simp only [mc_put, bo_put]
    by_cases c2 : a + 1 ≤ x ∧ x < a + 1 + 70
    · rw [if_pos c2, if_pos c2]
    · rw [if_neg c2, if_neg c2, if_pos (by omega), if_pos (by omega)]
/-- a part of the desk speaks of its own cells alone -/
theorem dk_loc {V : dk_V} {G G' : rz_G} {z : Nat} : ∀ k, k < 16 → (∀ x, z + dk_lo k ≤ x → x < z + dk_lo k + dk_n k → G' x = G x) → dk_c V G z k → dk_c V G' z k := by
  have key : ∀ (a n : Nat), (∀ x, a ≤ x → x < a + n → G' x = G x) → ∀ o, o < n → G' (a + o) = G (a + o) := fun a n h o ho => h _ (by omega) (by omega)
  intro k hk h hc
  match k, hk, h, hc with
  | 0, _, h, hc => exact ⟨(h _ (by simp [dk_lo]) (by simp [dk_lo, dk_n])).trans hc.1, (h _ (by simp [dk_lo]) (by simp [dk_lo, dk_n])).trans hc.2⟩
  | 1, _, h, hc => exact wd_is_keep hc (h _ (by simp [dk_lo]) (by simp [dk_lo, dk_n])) (h _ (by simp [dk_lo]) (by simp [dk_lo, dk_n]))
  | 2, _, h, ⟨xs, hc⟩ => exact ⟨xs, wd_is_keep hc (h _ (by simp [dk_lo]) (by simp [dk_lo, dk_n])) (h _ (by simp [dk_lo]) (by simp [dk_lo, dk_n]))⟩
  | 3, _, h, ⟨b, wn, wt, xs, ys, hc⟩ => exact ⟨b, wn, wt, xs, ys, rd_is_keep hc h⟩
  | 4, _, h, ⟨I, A, J, X, v0, v1, hc, hx⟩ => exact ⟨I, A, J, X, v0, v1, ⟨fun o h0 ho => (key _ _ h o ho).trans (hc.1 o h0 ho), (h _ (by simp [dk_lo]) (by simp [dk_lo, dk_n])).trans hc.2⟩, hx⟩
  | 5, _, h, ⟨I, A, J, X, P, hc⟩ => exact ⟨I, A, J, X, P, fun o ho => (key _ _ h o ho).trans (hc o ho)⟩
  | 6, _, h, ⟨I, A, J, X, v0, bd, S, hc, hx⟩ => exact ⟨I, A, J, X, v0, bd, S, ⟨fun o h0 ho => (key _ _ h o ho).trans (hc.1 o h0 ho), (h _ (by simp [dk_lo]) (by simp [dk_lo, dk_n])).trans hc.2⟩, hx⟩
  | 7, _, h, ⟨I, A, J, X, P, Im, Am, Jm, Xm, Pm, b, hc, hx⟩ => exact ⟨I, A, J, X, P, Im, Am, Jm, Xm, Pm, b, bl_is_keep hc h, hx⟩
  | 8, _, h, ⟨I, A, J, X, P, hc, hx⟩ => exact ⟨I, A, J, X, P, fun o ho => (key _ _ h o ho).trans (hc o ho), hx⟩
  | 9, _, h, ⟨I, A, J, X, P, hc, hx⟩ => exact ⟨I, A, J, X, P, fun o ho => (key _ _ h o ho).trans (hc o ho), hx⟩
  | k + 10, hk, h, ⟨S, hc, hx⟩ =>
    have e1 : dk_lo (k + 10) = 1582 + 70 * k ∧ dk_n (k + 10) = 70 := by
      have : ∀ k, k < 6 → dk_lo (k + 10) = 1582 + 70 * k ∧ dk_n (k + 10) = 70 := by decide
      exact this k (by omega)
    rw [e1.1, e1.2] at h
    exact ⟨S, fun o ho => (key _ _ h o ho).trans (hc o ho), hx⟩
/-- one part changes -/
theorem dk_mod {V V' : dk_V} {G G' : rz_G} {z : Nat} (h : dk G z V) (k : Nat) (hk : k < 16) (ho : ∀ x, x < z + dk_lo k ∨ z + dk_lo k + dk_n k ≤ x → G' x = G x) (hc : dk_c V' G' z k) (hV : ∀ j, j < 16 → j ≠ k → dk_c V G z j → dk_c V' G z j) : dk G' z V' ∧ dk_fr z G G' := by
  refine ⟨fun j hj => ?_, fun x hx => ho x ?_⟩
  · by_cases c : j = k
    · subst c; exact hc
    · refine dk_loc j hj (fun x h1 h2 => ho x ?_) (hV j hj c (h j hj))
      have := dk_apart j hj k hk c
      omega
  · have := dk_in k hk
    omega
theorem dk_mod' {V : dk_V} {G G' : rz_G} {z : Nat} (h : dk G z V) (k : Nat) (hk : k < 16) (ho : ∀ x, x < z + dk_lo k ∨ z + dk_lo k + dk_n k ≤ x → G' x = G x) (hc : dk_c V G' z k) : dk G' z V ∧ dk_fr z G G' := dk_mod h k hk ho hc (fun _ _ _ q => q)
theorem mk_cl_tb : ∀ (m : mv_T) (q : Nat), q < 6 → ((mk_cl m).testBit q = true ↔ (m.2.2.1 q).isSome = true) := by
  intro m q hq
  have h0 : ∀ (f : Nat → Bool), ((List.range 6).foldl (fun s q => if f q = true then s ||| 2 ^ q else s) 0).testBit q = f q := by
    intro f
    have : List.range 6 = [0, 1, 2, 3, 4, 5] := rfl
    rw [this]
    have key : ∀ b0 b1 b2 b3 b4 b5 : Bool, ∀ q, q < 6 → ([(0, b0), (1, b1), (2, b2), (3, b3), (4, b4), (5, b5)].foldl (fun s (x : Nat × Bool) => if x.2 = true then s ||| 2 ^ x.1 else s) 0).testBit q = ([b0, b1, b2, b3, b4, b5] : List Bool).getD q false := by decide +kernel
    have := key (f 0) (f 1) (f 2) (f 3) (f 4) (f 5) q hq
    simp only [List.foldl_cons, List.foldl_nil] at this ⊢
    rw [this]
    match q, hq with
    | 0, _ => rfl
    | 1, _ => rfl
    | 2, _ => rfl
    | 3, _ => rfl
    | 4, _ => rfl
    | 5, _ => rfl
    | n + 6, h => omega
  have := h0 (fun q => (m.2.2.1 q).isSome)
  simp only [mk_cl]
  rw [this]
theorem mk_cl64 (m : mv_T) : mk_cl m < 64 := by
  have key : ∀ (l : List Nat) (s : Nat), s < 64 → (∀ q ∈ l, q < 6) → l.foldl (fun s q => if (m.2.2.1 q).isSome = true then s ||| 2 ^ q else s) s < 64 := by
    intro l
    induction l with
    | nil => intro s hs _; exact hs
    | cons q l ih =>
      intro s hs hq
      refine ih _ ?_ (fun x hx => hq x (List.mem_cons_of_mem _ hx))
      dsimp only
      split
      · exact Nat.or_lt_two_pow (n := 6) hs (Nat.pow_lt_pow_right (by decide) (hq q List.mem_cons_self))
      · exact hs
  exact key _ 0 (by decide) (fun q hq => List.mem_range.mp hq)
theorem mk_cl_eq {I : Nat → Int32} {A : Nat → Nat → Int32} {X : Nat → List Nat} {m : mv_T} {cl : Nat} (h : mv_is I A X m cl) : cl = mk_cl m := by
  apply Nat.eq_of_testBit_eq
  intro q
  by_cases hq : q < 6
  · have h1 := h.2.2.2.2.2.2.2.2.1 q hq
    have h2 := mk_cl_tb m q hq
    cases e1 : cl.testBit q <;> cases e2 : (mk_cl m).testBit q <;> simp_all
  · have big : ∀ n, n < 64 → n.testBit q = false := fun n hn => Nat.testBit_lt_two_pow (Nat.lt_of_lt_of_le hn (Nat.pow_le_pow_right (n := 2) (by decide) (show 6 ≤ q by omega)))
    rw [big cl h.2.2.2.2.2.2.2.1, big _ (mk_cl64 m)]

