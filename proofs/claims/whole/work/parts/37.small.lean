/-! WriterDesk$SmallMachine: 327 cells. Int: 0 states. Arrays: 0 targets, 1 closing. Words: 0 opening, 1 + i written[i], 121 + i closings[i]. -/
abbrev sm_fs (a : Nat) (I : Nat → Int32) (P : Nat → Nat) : List Value := [.int (I 0), .ref (a + 1), .ref (a + 2), .ref (a + 3), .ref (a + 4), .ref (a + 5)]
def sm_cell (a : Nat) (I : Nat → Int32) (A : Nat → Nat → Int32) (J : Nat → Nat → Int64) (X : Nat → List Nat) (P : Nat → Nat) (o : Nat) : rz_E := match o with
  | 0 => .inr (7, sm_fs a I P)
  | 1 => .inl (0, 120, .inl (A 0))
  | 2 => .inl (4, 120, .inr (.inr (.inr (.inr (fun i => some (a + (7 + 2 * i)))))))
  | 3 => .inl (3, 40, .inl (A 1))
  | 4 => .inl (4, 40, .inr (.inr (.inr (.inr (fun i => some (a + (7 + 2 * (120 + i))))))))
  | 5 => wd_o (a + 5) (X 0)
  | 6 => wd_a 11 (X 0)
  | o => if (o - 7) % 2 = 0 then wd_o (a + o) (X (1 + (o - 7) / 2)) else wd_a 11 (X (1 + (o - 7) / 2))
def sm_put (G : rz_G) (a : Nat) (I : Nat → Int32) (A : Nat → Nat → Int32) (J : Nat → Nat → Int64) (X : Nat → List Nat) (P : Nat → Nat) : rz_G := fun x => if a ≤ x ∧ x < a + 327 then some (sm_cell a I A J X P (x - a)) else G x
def sm_is (G : rz_G) (a : Nat) (I : Nat → Int32) (A : Nat → Nat → Int32) (J : Nat → Nat → Int64) (X : Nat → List Nat) (P : Nat → Nat) : Prop := ∀ o, o < 327 → G (a + o) = some (sm_cell a I A J X P o)
theorem sm_at {G : rz_G} {a : Nat} {I : Nat → Int32} {A : Nat → Nat → Int32} {J : Nat → Nat → Int64} {X : Nat → List Nat} {P : Nat → Nat} {o : Nat} (h : o < 327) : sm_put G a I A J X P (a + o) = some (sm_cell a I A J X P o) := by
  simp only [sm_put]; rw [if_pos (by omega), Nat.add_sub_cancel_left]
theorem sm_at0 {G : rz_G} {a : Nat} {I : Nat → Int32} {A : Nat → Nat → Int32} {J : Nat → Nat → Int64} {X : Nat → List Nat} {P : Nat → Nat} : sm_put G a I A J X P a = some (.inr (7, sm_fs a I P)) := sm_at (o := 0) (by decide)
theorem sm_out {G : rz_G} {a : Nat} {I : Nat → Int32} {A : Nat → Nat → Int32} {J : Nat → Nat → Int64} {X : Nat → List Nat} {P : Nat → Nat} {x : Nat} (h : x < a ∨ a + 327 ≤ x) : sm_put G a I A J X P x = G x := by simp only [sm_put]; rw [if_neg (by omega)]
theorem sm_id {G : rz_G} {a : Nat} {I : Nat → Int32} {A : Nat → Nat → Int32} {J : Nat → Nat → Int64} {X : Nat → List Nat} {P : Nat → Nat} (h : sm_is G a I A J X P) : sm_put G a I A J X P = G := by
  funext x
  simp only [sm_put]
  split
  · next q => rw [← h (x - a) (by omega)]; congr 1; omega
  · rfl
theorem sm_put_is {G : rz_G} {a : Nat} {I : Nat → Int32} {A : Nat → Nat → Int32} {J : Nat → Nat → Int64} {X : Nat → List Nat} {P : Nat → Nat} : sm_is (sm_put G a I A J X P) a I A J X P := fun o ho => sm_at ho
theorem sm_put2 {G : rz_G} {a : Nat} {I : Nat → Int32} {A : Nat → Nat → Int32} {J : Nat → Nat → Int64} {X : Nat → List Nat} {P : Nat → Nat} {I' : Nat → Int32} {A' : Nat → Nat → Int32} {J' : Nat → Nat → Int64} {X' : Nat → List Nat} {P' : Nat → Nat} : sm_put (sm_put G a I A J X P) a I' A' J' X' P' = sm_put G a I' A' J' X' P' := by
  funext x; simp only [sm_put]; split <;> simp_all
theorem sm_eq {G : rz_G} {a : Nat} {I : Nat → Int32} {A : Nat → Nat → Int32} {J : Nat → Nat → Int64} {X : Nat → List Nat} {P : Nat → Nat} {I' : Nat → Int32} {A' : Nat → Nat → Int32} {J' : Nat → Nat → Int64} {X' : Nat → List Nat} {P' : Nat → Nat} (h : ∀ o, o < 327 → sm_cell a I A J X P o = sm_cell a I' A' J' X' P' o) : sm_put G a I A J X P = sm_put G a I' A' J' X' P' := by
  funext x; simp only [sm_put]; split
  · next q => rw [h (x - a) (by omega)]
  · rfl
theorem sm_upc {G : rz_G} {a : Nat} {I : Nat → Int32} {A : Nat → Nat → Int32} {J : Nat → Nat → Int64} {X : Nat → List Nat} {P : Nat → Nat} {I' : Nat → Int32} {A' : Nat → Nat → Int32} {J' : Nat → Nat → Int64} {X' : Nat → List Nat} {P' : Nat → Nat} {k : Nat} {e : rz_E} (hk : k < 327) (he : sm_cell a I' A' J' X' P' k = e) (h : ∀ o, o < 327 → o ≠ k → sm_cell a I' A' J' X' P' o = sm_cell a I A J X P o) : rz_up (sm_put G a I A J X P) (a + k) e = sm_put G a I' A' J' X' P' := by
  funext x
  simp only [sm_put, rz_up]
  by_cases q : x = a + k
  · subst q; rw [if_pos rfl, if_pos (by omega), Nat.add_sub_cancel_left, he]
  · rw [if_neg q]
    split
    · next q2 => rw [h (x - a) (by omega) (by omega)]
    · rfl
theorem sm_ob {G : rz_G} {a : Nat} {I : Nat → Int32} {A : Nat → Nat → Int32} {J : Nat → Nat → Int64} {X : Nat → List Nat} {P : Nat → Nat} {f : List Value → Prop} : rz_ob (sm_put G a I A J X P) a 7 f = f (sm_fs a I P) := rh_ob sm_at0
theorem sm_i1 {G : rz_G} {a : Nat} {I : Nat → Int32} {A : Nat → Nat → Int32} {J : Nat → Nat → Int64} {X : Nat → List Nat} {P : Nat → Nat} {f : Nat → Nat → (Nat → Int32) → Prop} : rz_ia (sm_put G a I A J X P) (a + 1) f = f 0 120 (A 0) := rh_ia (sm_at (o := 1) (by decide))
theorem sm_n1 {G : rz_G} {a : Nat} {I : Nat → Int32} {A : Nat → Nat → Int32} {J : Nat → Nat → Int64} {X : Nat → List Nat} {P : Nat → Nat} {f : Nat → Nat → Prop} : rz_aa (sm_put G a I A J X P) (a + 1) f = f 0 120 := rh_aa (sm_at (o := 1) (by decide))
theorem sm_r2 {G : rz_G} {a : Nat} {I : Nat → Int32} {A : Nat → Nat → Int32} {J : Nat → Nat → Int64} {X : Nat → List Nat} {P : Nat → Nat} {f : Nat → Nat → (Nat → Option Nat) → Prop} : rz_ra (sm_put G a I A J X P) (a + 2) f = f 4 120 (fun i => some (a + (7 + 2 * i))) := rh_ra (sm_at (o := 2) (by decide))
theorem sm_i3 {G : rz_G} {a : Nat} {I : Nat → Int32} {A : Nat → Nat → Int32} {J : Nat → Nat → Int64} {X : Nat → List Nat} {P : Nat → Nat} {f : Nat → Nat → (Nat → Int32) → Prop} : rz_ia (sm_put G a I A J X P) (a + 3) f = f 3 40 (A 1) := rh_ia (sm_at (o := 3) (by decide))
theorem sm_n3 {G : rz_G} {a : Nat} {I : Nat → Int32} {A : Nat → Nat → Int32} {J : Nat → Nat → Int64} {X : Nat → List Nat} {P : Nat → Nat} {f : Nat → Nat → Prop} : rz_aa (sm_put G a I A J X P) (a + 3) f = f 3 40 := rh_aa (sm_at (o := 3) (by decide))
theorem sm_r4 {G : rz_G} {a : Nat} {I : Nat → Int32} {A : Nat → Nat → Int32} {J : Nat → Nat → Int64} {X : Nat → List Nat} {P : Nat → Nat} {f : Nat → Nat → (Nat → Option Nat) → Prop} : rz_ra (sm_put G a I A J X P) (a + 4) f = f 4 40 (fun i => some (a + (7 + 2 * (120 + i)))) := rh_ra (sm_at (o := 4) (by decide))
theorem sm_u0 {G : rz_G} {a : Nat} {I : Nat → Int32} {A : Nat → Nat → Int32} {J : Nat → Nat → Int64} {X : Nat → List Nat} {P : Nat → Nat} {v : Int32} : rz_up (sm_put G a I A J X P) a (.inr (7, [.int v, .ref (a + 1), .ref (a + 2), .ref (a + 3), .ref (a + 4), .ref (a + 5)])) = sm_put G a (upd I 0 v) A J X P := sm_upc (k := 0) (by decide) rfl (fun o ho hne => by match o, hne with | 0, h => exact absurd rfl h | 1, _ => rfl | 2, _ => rfl | 3, _ => rfl | 4, _ => rfl | 5, _ => rfl | 6, _ => rfl | o + 7, _ => rfl)
theorem sm_a1 {G : rz_G} {a : Nat} {I : Nat → Int32} {A : Nat → Nat → Int32} {J : Nat → Nat → Int64} {X : Nat → List Nat} {P : Nat → Nat} {g : Nat → Int32} : rz_up (sm_put G a I A J X P) (a + 1) (.inl (0, 120, .inl g)) = sm_put G a I (va_up A 0 g) J X P := sm_upc (k := 1) (by decide) rfl (fun o ho hne => by match o, hne with | 0, _ => rfl | 1, h => exact absurd rfl h | 2, _ => rfl | 3, _ => rfl | 4, _ => rfl | 5, _ => rfl | 6, _ => rfl | o + 7, _ => rfl)
theorem sm_a3 {G : rz_G} {a : Nat} {I : Nat → Int32} {A : Nat → Nat → Int32} {J : Nat → Nat → Int64} {X : Nat → List Nat} {P : Nat → Nat} {g : Nat → Int32} : rz_up (sm_put G a I A J X P) (a + 3) (.inl (3, 40, .inl g)) = sm_put G a I (va_up A 1 g) J X P := sm_upc (k := 3) (by decide) rfl (fun o ho hne => by match o, hne with | 0, _ => rfl | 1, _ => rfl | 2, _ => rfl | 3, h => exact absurd rfl h | 4, _ => rfl | 5, _ => rfl | 6, _ => rfl | o + 7, _ => rfl)
theorem sm_xc {G : rz_G} {a : Nat} {I : Nat → Int32} {A : Nat → Nat → Int32} {J : Nat → Nat → Int64} {X : Nat → List Nat} {P : Nat → Nat} {xs : List Nat} {k : Nat} {o : Nat} (ho : o < 327) (h5 : k = 0 → o ≠ 5 ∧ o ≠ 6) (hw : 1 ≤ k → o ≠ 7 + 2 * (k - 1) ∧ o ≠ 7 + 2 * (k - 1) + 1) : sm_cell a I A J (va_up X k xs) P o = sm_cell a I A J X P o := by
  by_cases c : o < 7
  · match o, c with
    | 0, _ => rfl
    | 1, _ => rfl
    | 2, _ => rfl
    | 3, _ => rfl
    | 4, _ => rfl
    | 5, _ =>
      have e : va_up X k xs 0 = X 0 := va_up_ne _ _ (fun q => (h5 q.symm).1 rfl)
      show wd_o (a + 5) (va_up X k xs 0) = wd_o (a + 5) (X 0)
      rw [e]
    | 6, _ =>
      have e : va_up X k xs 0 = X 0 := va_up_ne _ _ (fun q => (h5 q.symm).2 rfl)
      show wd_a 11 (va_up X k xs 0) = wd_a 11 (X 0)
      rw [e]
    | o + 7, c => exact absurd c (by omega)
  · obtain ⟨j, hj⟩ : ∃ j, o = j + 7 := ⟨o - 7, by omega⟩
    subst hj
    show (if (j + 7 - 7) % 2 = 0 then wd_o (a + (j + 7)) (va_up X k xs (1 + (j + 7 - 7) / 2)) else wd_a 11 (va_up X k xs (1 + (j + 7 - 7) / 2))) = (if (j + 7 - 7) % 2 = 0 then wd_o (a + (j + 7)) (X (1 + (j + 7 - 7) / 2)) else wd_a 11 (X (1 + (j + 7 - 7) / 2)))
    have e : va_up X k xs (1 + (j + 7 - 7) / 2) = X (1 + (j + 7 - 7) / 2) := va_up_ne _ _ (fun q => by have := hw (by omega); omega)
    rw [e]
theorem sm_wi5 {G : rz_G} {a : Nat} {I : Nat → Int32} {A : Nat → Nat → Int32} {J : Nat → Nat → Int64} {X : Nat → List Nat} {P : Nat → Nat} (hX : wd_ok 11 (X 0)) : wd_is (sm_put G a I A J X P) (a + 5) 11 (X 0) := ⟨sm_at (o := 5) (by decide), sm_at (o := 6) (by decide), hX⟩
theorem sm_wp5 {G : rz_G} {a : Nat} {I : Nat → Int32} {A : Nat → Nat → Int32} {J : Nat → Nat → Int64} {X : Nat → List Nat} {P : Nat → Nat} {xs : List Nat}  : wd_put (sm_put G a I A J X P) (a + 5) 11 xs = sm_put G a I A J (va_up X 0 xs) P := by
  funext x
  simp only [wd_put, rz_up]
  by_cases c1 : x = a + 5 + 1
  · rw [if_pos c1, c1, Nat.add_assoc, sm_at (by omega)]
    exact congrArg some ((show sm_cell a I A J (va_up X 0 xs) P (5 + 1) = wd_a 11 xs by show wd_a 11 (va_up X 0 xs 0) = _; rw [va_up_self])).symm
  · rw [if_neg c1]
    by_cases c2 : x = a + 5
    · rw [if_pos c2, c2, sm_at (by omega)]
      exact congrArg some ((show sm_cell a I A J (va_up X 0 xs) P 5 = wd_o (a + 5) xs by show wd_o (a + 5) (va_up X 0 xs 0) = _; rw [va_up_self])).symm
    · rw [if_neg c2]
      simp only [sm_put]
      split
      · next q => rw [sm_xc (G := G) (by omega) (fun q2 => by omega) (fun q2 => by omega)]
      · rfl
theorem sm_cj0 {G : rz_G} {a : Nat} {I : Nat → Int32} {A : Nat → Nat → Int32} {J : Nat → Nat → Int64} {X : Nat → List Nat} {P : Nat → Nat} {j : Nat} (hj : j < 160) : sm_cell a I A J X P (7 + 2 * j) = wd_o (a + (7 + 2 * j)) (X (1 + j)) := by
  rw [show 7 + 2 * j = (2 * j + 0) + 7 by omega]
  show (if (2 * j + 0 + 7 - 7) % 2 = 0 then _ else _) = _
  rw [if_pos (by omega)]
  simp only [show (2 * j + 0 + 7 - 7) / 2 = j by omega]
theorem sm_cj1 {G : rz_G} {a : Nat} {I : Nat → Int32} {A : Nat → Nat → Int32} {J : Nat → Nat → Int64} {X : Nat → List Nat} {P : Nat → Nat} {j : Nat} (hj : j < 160) : sm_cell a I A J X P (7 + 2 * j + 1) = wd_a 11 (X (1 + j)) := by
  rw [show 7 + 2 * j + 1 = (2 * j + 1 + 0) + 7 by omega]
  show (if (2 * j + 1 + 0 + 7 - 7) % 2 = 0 then _ else _) = _
  rw [if_neg (by omega)]
  simp only [show (2 * j + 1 + 0 + 7 - 7) / 2 = j by omega]
theorem sm_wi {G : rz_G} {a : Nat} {I : Nat → Int32} {A : Nat → Nat → Int32} {J : Nat → Nat → Int64} {X : Nat → List Nat} {P : Nat → Nat} {j : Nat} (hj : j < 160) (hX : wd_ok 11 (X (1 + j))) : wd_is (sm_put G a I A J X P) (a + (7 + 2 * j)) 11 (X (1 + j)) := by
  refine ⟨?_, ?_, hX⟩
  · rw [sm_at (by omega), sm_cj0 (G := G) hj]
  · rw [Nat.add_assoc, sm_at (by omega), sm_cj1 (G := G) hj]
theorem sm_wp {G : rz_G} {a : Nat} {I : Nat → Int32} {A : Nat → Nat → Int32} {J : Nat → Nat → Int64} {X : Nat → List Nat} {P : Nat → Nat} {xs : List Nat} {j : Nat} (hj : j < 160) : wd_put (sm_put G a I A J X P) (a + (7 + 2 * j)) 11 xs = sm_put G a I A J (va_up X (1 + j) xs) P := by
  funext x
  simp only [wd_put, rz_up]
  by_cases c1 : x = a + (7 + 2 * j) + 1
  · rw [if_pos c1, c1, Nat.add_assoc, sm_at (by omega)]
    exact congrArg some ((by rw [sm_cj1 (G := G) hj, va_up_self] : sm_cell a I A J (va_up X (1 + j) xs) P (7 + 2 * j + 1) = wd_a 11 xs)).symm
  · rw [if_neg c1]
    by_cases c2 : x = a + (7 + 2 * j)
    · rw [if_pos c2, c2, sm_at (by omega)]
      exact congrArg some ((by rw [sm_cj0 (G := G) hj, va_up_self] : sm_cell a I A J (va_up X (1 + j) xs) P (7 + 2 * j) = wd_o (a + (7 + 2 * j)) xs)).symm
    · rw [if_neg c2]
      simp only [sm_put]
      split
      · next q => rw [sm_xc (G := G) (by omega) (fun q2 => by omega) (fun q2 => by omega)]
      · rfl
set_option maxRecDepth 100000 in
set_option maxHeartbeats 4000000 in
/-- hasState(state) -/
theorem c_Small_hasState {w : rz_w} {d : Nat} {G : rz_G} {a : Nat} {I : Nat → Int32} {A : Nat → Nat → Int32} {J : Nat → Nat → Int64} {X : Nat → List Nat} {P : Nat → Nat} {n : Nat} (hI : I 0 = nI n) (hn : n ≤ 40) (x : Int32) : rz_C w d 0 0 y_Small_hasState m_Small_hasState [.ref a, .int x] (sm_put G a I A J X P) (fun r G' => G' = (sm_put G a I A J X P) ∧ ((∃ k : Nat, k < n ∧ x = nI k ∧ r = some (.int 1)) ∨ ((∀ k : Nat, k < n → x ≠ nI k) ∧ r = some (.int 0)))) := by
  refine rz_enter' [some (.ref a), some (.int x)] (by decide +kernel) rfl rfl (Nat.le_of_ble_eq_true rfl) rfl ?_
  have hno : (∀ k : Nat, k < n → x ≠ nI k) → rz_T w d 0 0 m_Small_hasState 0 0 16 [some (.ref a), some (.int x)] [] (sm_put G a I A J X P) (fun r G' => G' = (sm_put G a I A J X P) ∧ ((∃ k : Nat, k < n ∧ x = nI k ∧ r = some (.int 1)) ∨ ((∀ k : Nat, k < n → x ≠ nI k) ∧ r = some (.int 0)))) := by
    intro q
    refine rz_blk' [(.iconst 0, 1, 0, 0), (.ireturn, 1, 0, 0)] (by decide +kernel) (Nat.le_refl _) (Nat.le_refl _) (fun K R hK hR => ?_)
    simp only [rw_c0, ↓rx_iconst, ↓rx_ireturn, ↓rx_nil, ↓sm_ob, ↓sm_i1, ↓sm_n1, ↓sm_r2, ↓sm_i3, ↓sm_n3, ↓sm_r4, rz_set, rz_nol, rz_clr, List.set_cons_zero, List.set_cons_succ, rz_tr, Nat.reduceAdd, Int.reduceAdd, Int.reduceToNat, Int.reduceSub, Int.reduceNeg, Int.cast_ofNat_Int]
    exact hR _ _ rz_nb_0 ⟨rfl, Or.inr ⟨q, rfl⟩⟩
  refine rz_blk' [(.iload_n 1, 1, 0, 0), (.ifCond .lt 15, 3, 0, 0), (.iload_n 1, 1, 0, 0), (.aload_n 0, 1, 0, 0), (.getfield 9, 3, 7, 0), (.if_icmp .ge 7, 3, 0, 0), (.iconst 1, 1, 0, 0), (.goto 4, 3, 0, 0)] (by decide +kernel) (Nat.le_refl _) (Nat.le_refl _) (fun K R hK hR => ?_)
  simp only [rw_c1, ↓rx_aload_n0, ↓rx_getfield, ↓rx_goto, ↓rx_iconst, ↓rx_ifCond_lt, ↓rx_if_icmp_ge, ↓rx_iload_n1, ↓rx_nil, ↓ry_fvs, ↓ry_fvz, ↓ry_i1, ↓ry_i2, ↓ry_li0s, ↓ry_li0z, ↓ry_lr0s, ↓ry_lr0z, ↓ry_obu, ↓ry_r1, ↓sm_ob, ↓sm_i1, ↓sm_n1, ↓sm_r2, ↓sm_i3, ↓sm_n3, ↓sm_r4, hI, rz_set, rz_nol, rz_clr, List.set_cons_zero, List.set_cons_succ, rz_tr, Nat.reduceAdd, Int.reduceAdd, Int.reduceToNat, Int.reduceSub, Int.reduceNeg, Int.cast_ofNat_Int]
  refine ⟨fun c => hK _ _ _ _ (hno (fun k hk e => ?_)), fun c => ⟨fun c2 => hK _ _ _ _ (hno (fun k hk e => ?_)), fun c2 => hK _ _ _ _ ?_⟩⟩
  · rw [e] at c; exact nI_pos (by omega) c
  · rw [e, nI_leI (by omega) (by omega)] at c2; omega
  obtain ⟨k, hk, rfl⟩ := nI_of c
  rw [nI_leI (by omega) (by omega)] at c2
  refine rz_blk' [(.ireturn, 1, 0, 0)] (by decide +kernel) (Nat.le_refl _) (Nat.le_refl _) (fun K R hK hR => ?_)
  simp only [↓rx_ireturn, ↓rx_nil, ↓sm_ob, ↓sm_i1, ↓sm_n1, ↓sm_r2, ↓sm_i3, ↓sm_n3, ↓sm_r4, rz_set, rz_nol, rz_clr, List.set_cons_zero, List.set_cons_succ, rz_tr, Nat.reduceAdd, Int.reduceAdd, Int.reduceToNat, Int.reduceSub, Int.reduceNeg, Int.cast_ofNat_Int]
  exact hR _ _ rz_nb_1 ⟨rfl, Or.inl ⟨k, by omega, rfl, rfl⟩⟩
def sm_xo (X : Nat → List Nat) : Prop := ∀ j, j < 161 → wd_ok 11 (X j)

set_option maxRecDepth 100000 in
set_option maxHeartbeats 4000000 in
theorem sm_as_l {w : rz_w} {d : Nat} {G : rz_G} {a n : Nat} {I : Nat → Int32} {J : Nat → Nat → Int64} {P : Nat → Nat} (hn : n < 40) {Q : Option Value → rz_G → Prop} :
    ∀ (k l : Nat) (A : Nat → Nat → Int32) (X : Nat → List Nat), l + k = 3 → sm_xo X →
      (∀ A' X' z, A' 1 = A 1 → (∀ i, A' 0 i = if n * 3 + l ≤ i ∧ i < n * 3 + 3 then -1 else A 0 i) → (∀ j, X' j = if 1 + n * 3 + l ≤ j ∧ j < 1 + n * 3 + 3 then [] else X j) → rz_T w (d + 1) 0 0 m_Small_addState 0 0 58 [some (.ref a), some (.int (nI n)), z] [] (sm_put G a I A' J X' P) Q) →
      rz_T w (d + 1) 0 0 m_Small_addState 0 0 23 [some (.ref a), some (.int (nI n)), some (.int (nI l))] [] (sm_put G a I A J X P) Q := by
  intro k
  induction k with
  | zero =>
    intro l A X hk hX hc
    refine rz_blk' [(.iload_n 2, 1, 0, 0), (.iconst 3, 1, 0, 0), (.if_icmp .ge 33, 3, 0, 0)] (by decide +kernel) (Nat.le_refl _) (Nat.le_refl _) (fun K R hK hR => ?_)
    simp only [rw_c3, ↓rx_iconst, ↓rx_if_icmp_ge, ↓rx_iload_n2, ↓rx_nil, ↓ry_i2, ↓ry_li0s, ↓ry_li0z, ↓sm_ob, ↓sm_i1, ↓sm_n1, ↓sm_r2, ↓sm_i3, ↓sm_n3, ↓sm_r4, rz_set, rz_nol, rz_clr, List.set_cons_zero, List.set_cons_succ, rz_tr, Nat.reduceAdd, Int.reduceAdd, Int.reduceToNat, Int.reduceSub, Int.reduceNeg, Int.cast_ofNat_Int]
    rw [nI_leI (by omega) (by omega)]
    exact ⟨fun q => hK _ _ _ _ (hc A X _ rfl (fun i => by rw [if_neg (by omega)]) (fun j => by rw [if_neg (by omega)])), fun q => by omega⟩
  | succ k ih =>
    intro l A X hk hX hc
    have w1 := fun A => sm_wi (G := G) (a := a) (I := I) (A := A) (J := J) (X := X) (P := P) (j := n * 3 + l) (by omega) (hX _ (by omega))
    refine rz_blk' [(.iload_n 2, 1, 0, 0), (.iconst 3, 1, 0, 0), (.if_icmp .ge 33, 3, 0, 0), (.aload_n 0, 1, 0, 0), (.getfield 15, 3, 7, 1), (.iload_n 1, 1, 0, 0), (.iconst 3, 1, 0, 0), (.imul, 1, 0, 0), (.iload_n 2, 1, 0, 0), (.iadd, 1, 0, 0), (.iconst (-1), 1, 0, 0), (.iastore, 1, 0, 0)] (by decide +kernel) (Nat.le_refl _) (Nat.le_refl _) (fun K R hK hR => ?_)
    simp only [rw_c3, rw_cm1, ↓rx_aload_n0, ↓rx_getfield, ↓rx_iadd, ↓rx_iastore, ↓rx_iconst, ↓rx_if_icmp_ge, ↓rx_iload_n1, ↓rx_iload_n2, ↓rx_imul, ↓rx_nil, ↓ry_fvs, ↓ry_fvz, ↓ry_i2, ↓ry_iau, ↓ry_li0s, ↓ry_li0z, ↓ry_lr0s, ↓ry_lr0z, ↓ry_obu, ↓ry_r1, ↓ry_rii, true_and, ↓sm_ob, ↓sm_i1, ↓sm_n1, ↓sm_r2, ↓sm_i3, ↓sm_n3, ↓sm_r4, pk_mul, nI_add, sm_a1, rz_set, rz_nol, rz_clr, List.set_cons_zero, List.set_cons_succ, rz_tr, Nat.reduceAdd, Int.reduceAdd, Int.reduceToNat, Int.reduceSub, Int.reduceNeg, Int.cast_ofNat_Int]
    rw [nI_leI (by omega) (by omega), nI_clamp (by omega)]
    refine ⟨fun q => by omega, fun q => ⟨vp_in_nI (by omega) (by decide), hK _ _ _ _ ?_⟩⟩
    refine rz_blk' [(.aload_n 0, 1, 0, 0), (.getfield 21, 3, 7, 2), (.iload_n 1, 1, 0, 0), (.iconst 3, 1, 0, 0), (.imul, 1, 0, 0), (.iload_n 2, 1, 0, 0), (.iadd, 1, 0, 0), (.aaload, 1, 0, 0)] (by decide +kernel) (Nat.le_refl _) (Nat.le_refl _) (fun K R hK hR => ?_)
    simp only [Nat.reduceEqDiff, false_or, or_false, or_true, reduceIte, rw_c3, ↓rx_aaload, ↓rx_aload_n0, ↓rx_getfield, ↓rx_iadd, ↓rx_iconst, ↓rx_iload_n1, ↓rx_iload_n2, ↓rx_imul, ↓rx_nil, ↓ry_fvs, ↓ry_fvz, ↓ry_i2, ↓ry_li0s, ↓ry_li0z, ↓ry_lr0s, ↓ry_lr0z, ↓ry_obu, ↓ry_r1, ↓ry_ri, true_and, true_or, ↓sm_ob, ↓sm_i1, ↓sm_n1, ↓sm_r2, ↓sm_i3, ↓sm_n3, ↓sm_r4, pk_mul, nI_add, va_rfs, rz_set, rz_nol, rz_clr, List.set_cons_zero, List.set_cons_succ, rz_tr, Nat.reduceAdd, Int.reduceAdd, Int.reduceToNat, Int.reduceSub, Int.reduceNeg, Int.cast_ofNat_Int]
    rw [nI_clamp (by omega)]
    refine ⟨vp_in_nI (by omega) (by decide), hK _ _ _ _ ?_⟩
    refine rz_cV (As := []) (b := a + (7 + 2 * (n * 3 + l))) (S := []) l_Small_39 (by decide +kernel) rfl (w1 _).1 rfl (Nat.le_of_ble_eq_true rfl) (Nat.le_refl _) (Nat.le_refl _) (c_Word_clear (w1 _)) (fun r G' hr => ?_)
    obtain ⟨rfl, rfl⟩ := hr
    rw [sm_wp (by omega)]
    simp only [Option.toList, List.nil_append]
    refine rz_blk' [(.iinc 2 1, 3, 0, 0), (.goto (-32), 3, 0, 0)] (by decide +kernel) (Nat.le_refl _) (Nat.le_refl _) (fun K R hK hR => ?_)
    simp only [rw_c1, ↓rx_goto, ↓rx_iinc, ↓rx_nil, ↓ry_li0s, ↓ry_li0z, ↓sm_ob, ↓sm_i1, ↓sm_n1, ↓sm_r2, ↓sm_i3, ↓sm_n3, ↓sm_r4, nI_add, rz_set, rz_nol, rz_clr, List.set_cons_zero, List.set_cons_succ, rz_tr, Nat.reduceAdd, Int.reduceAdd, Int.reduceToNat, Int.reduceSub, Int.reduceNeg, Int.cast_ofNat_Int]
    refine hK _ _ _ _ (ih (l + 1) _ _ (by omega) ?_ (fun A' X' z t1 t2 t3 => hc A' X' z (t1.trans (va_up_ne _ _ (by decide))) (fun i => ?_) (fun j => ?_)))
    · intro j hj
      simp only [va_up]
      split
      · exact wd_ok_nil (by decide)
      · exact hX j hj
    · rw [t2 i, va_up_self]
      by_cases c : i = n * 3 + l
      · subst c; rw [if_neg (by omega), pk_us, if_pos (by omega)]
      · rw [pk_un c]
        by_cases c2 : n * 3 + (l + 1) ≤ i ∧ i < n * 3 + 3
        · rw [if_pos c2, if_pos (by omega)]
        · rw [if_neg c2, if_neg (by omega)]
    · rw [t3 j]
      by_cases c : j = 1 + (n * 3 + l)
      · subst c; rw [if_neg (by omega), va_up_self, if_pos (by omega)]
      · rw [va_up_ne _ _ c]
        by_cases c2 : 1 + n * 3 + (l + 1) ≤ j ∧ j < 1 + n * 3 + 3
        · rw [if_pos c2, if_pos (by omega)]
        · rw [if_neg c2, if_neg (by omega)]

set_option maxRecDepth 100000 in
set_option maxHeartbeats 4000000 in
/-- addState() -/
theorem c_Small_addState {w : rz_w} {d : Nat} {G : rz_G} {a : Nat} {I : Nat → Int32} {A : Nat → Nat → Int32} {J : Nat → Nat → Int64} {X : Nat → List Nat} {P : Nat → Nat} {n : Nat} (hI : I 0 = nI n) (hn : n < 40) (hX : sm_xo X) : rz_C w (d + 1) 0 0 y_Small_addState m_Small_addState [.ref a] (sm_put G a I A J X P) (fun r G' => r = some (.int (nI n)) ∧ ∃ A' X', G' = sm_put G a (upd I 0 (nI (n + 1))) A' J X' P ∧ A' 1 = upd (A 1) n (nI 0) ∧ (∀ i, A' 0 i = if n * 3 ≤ i ∧ i < n * 3 + 3 then -1 else A 0 i) ∧ ∀ j, X' j = if j = 121 + n ∨ (1 + n * 3 ≤ j ∧ j < 1 + n * 3 + 3) then [] else X j) := by
  have w1 := fun A => sm_wi (G := G) (a := a) (I := I) (A := A) (J := J) (X := X) (P := P) (j := 120 + n) (by omega) (hX _ (by omega))
  refine rz_enter' [some (.ref a), none, none] (by decide +kernel) rfl rfl (Nat.le_of_ble_eq_true rfl) rfl ?_
  refine rz_blk' [(.aload_n 0, 1, 0, 0), (.getfield 9, 3, 7, 0), (.istore_n 1, 1, 0, 0)] (by decide +kernel) (Nat.le_refl _) (Nat.le_refl _) (fun K R hK hR => ?_)
  simp only [↓rx_aload_n0, ↓rx_getfield, ↓rx_istore_n1, ↓rx_nil, ↓ry_fvs, ↓ry_fvz, ↓ry_i1, ↓ry_lr0s, ↓ry_lr0z, ↓ry_obu, ↓ry_r1, ↓sm_ob, ↓sm_i1, ↓sm_n1, ↓sm_r2, ↓sm_i3, ↓sm_n3, ↓sm_r4, hI, rz_set, rz_nol, rz_clr, List.set_cons_zero, List.set_cons_succ, rz_tr, Nat.reduceAdd, Int.reduceAdd, Int.reduceToNat, Int.reduceSub, Int.reduceNeg, Int.cast_ofNat_Int]
  refine hK _ _ _ _ ?_
  refine rz_blk' [(.aload_n 0, 1, 0, 0), (.getfield 25, 3, 7, 3), (.iload_n 1, 1, 0, 0), (.iconst 0, 1, 0, 0), (.bastore, 1, 0, 0)] (by decide +kernel) (Nat.le_refl _) (Nat.le_refl _) (fun K R hK hR => ?_)
  simp only [Nat.reduceEqDiff, false_or, or_false, or_true, reduceIte, rw_c0, ↓rx_aload_n0, ↓rx_bastore, ↓rx_getfield, ↓rx_iconst, ↓rx_iload_n1, ↓rx_nil, ↓ry_fvs, ↓ry_fvz, ↓ry_iau, ↓ry_li0s, ↓ry_li0z, ↓ry_lr0s, ↓ry_lr0z, ↓ry_obu, ↓ry_r1, ↓ry_rii, true_and, true_or, ↓sm_ob, ↓sm_i1, ↓sm_n1, ↓sm_r2, ↓sm_i3, ↓sm_n3, ↓sm_r4, sm_a3, rz_set, rz_nol, rz_clr, List.set_cons_zero, List.set_cons_succ, rz_tr, Nat.reduceAdd, Int.reduceAdd, Int.reduceToNat, Int.reduceSub, Int.reduceNeg, Int.cast_ofNat_Int]
  rw [nI_clamp (by omega)]
  refine ⟨vp_in_nI (by omega) (by decide), hK _ _ _ _ ?_⟩
  refine rz_blk' [(.aload_n 0, 1, 0, 0), (.getfield 29, 3, 7, 4), (.iload_n 1, 1, 0, 0), (.aaload, 1, 0, 0)] (by decide +kernel) (Nat.le_refl _) (Nat.le_refl _) (fun K R hK hR => ?_)
  simp only [Nat.reduceEqDiff, false_or, or_false, or_true, reduceIte, ↓rx_aaload, ↓rx_aload_n0, ↓rx_getfield, ↓rx_iload_n1, ↓rx_nil, ↓ry_fvs, ↓ry_fvz, ↓ry_li0s, ↓ry_li0z, ↓ry_lr0s, ↓ry_lr0z, ↓ry_obu, ↓ry_r1, ↓ry_ri, true_and, true_or, ↓sm_ob, ↓sm_i1, ↓sm_n1, ↓sm_r2, ↓sm_i3, ↓sm_n3, ↓sm_r4, va_rfs, rz_set, rz_nol, rz_clr, List.set_cons_zero, List.set_cons_succ, rz_tr, Nat.reduceAdd, Int.reduceAdd, Int.reduceToNat, Int.reduceSub, Int.reduceNeg, Int.cast_ofNat_Int]
  rw [nI_clamp (by omega)]
  refine ⟨vp_in_nI (by omega) (by decide), hK _ _ _ _ ?_⟩
  refine rz_cV (As := []) (b := a + (7 + 2 * (120 + n))) (S := []) l_Small_39 (by decide +kernel) rfl (w1 _).1 rfl (Nat.le_of_ble_eq_true rfl) (Nat.le_refl _) (Nat.le_refl _) (c_Word_clear (w1 _)) (fun r G' hr => ?_)
  obtain ⟨rfl, rfl⟩ := hr
  rw [sm_wp (by omega)]
  simp only [Option.toList, List.nil_append]
  refine rz_blk' [(.iconst 0, 1, 0, 0), (.istore_n 2, 1, 0, 0)] (by decide +kernel) (Nat.le_refl _) (Nat.le_refl _) (fun K R hK hR => ?_)
  simp only [rw_c0, ↓rx_iconst, ↓rx_istore_n2, ↓rx_nil, ↓ry_i1, ↓sm_ob, ↓sm_i1, ↓sm_n1, ↓sm_r2, ↓sm_i3, ↓sm_n3, ↓sm_r4, rz_set, rz_nol, rz_clr, List.set_cons_zero, List.set_cons_succ, rz_tr, Nat.reduceAdd, Int.reduceAdd, Int.reduceToNat, Int.reduceSub, Int.reduceNeg, Int.cast_ofNat_Int]
  refine hK _ _ _ _ (sm_as_l hn 3 0 _ _ rfl ?_ (fun A' X' z t1 t2 t3 => ?_))
  · intro j hj
    simp only [va_up]
    split
    · exact wd_ok_nil (by decide)
    · exact hX j hj
  refine rz_blk' [(.aload_n 0, 1, 0, 0), (.dup, 1, 0, 0), (.getfield 9, 3, 7, 0), (.iconst 1, 1, 0, 0), (.iadd, 1, 0, 0), (.putfield 9, 3, 7, 0)] (by decide +kernel) (Nat.le_refl _) (Nat.le_refl _) (fun K R hK hR => ?_)
  simp only [List.length_cons, List.length_nil, Nat.reduceLT, rf_7_0, rw_c1, ↓rx_aload_n0, ↓rx_dup, ↓rx_getfield, ↓rx_iadd, ↓rx_iconst, ↓rx_nil, ↓rx_putfield, ↓ry_fvs, ↓ry_fvz, ↓ry_i2, ↓ry_lr0s, ↓ry_lr0z, ↓ry_obu, ↓ry_r1, ↓ry_v1i, ↓ry_v1r, ↓ry_vr, true_and, ↓sm_ob, ↓sm_i1, ↓sm_n1, ↓sm_r2, ↓sm_i3, ↓sm_n3, ↓sm_r4, hI, nI_add, sm_u0, rz_set, rz_nol, rz_clr, List.set_cons_zero, List.set_cons_succ, rz_tr, Nat.reduceAdd, Int.reduceAdd, Int.reduceToNat, Int.reduceSub, Int.reduceNeg, Int.cast_ofNat_Int]
  refine hK _ _ _ _ ?_
  refine rz_blk' [(.iload_n 1, 1, 0, 0), (.ireturn, 1, 0, 0)] (by decide +kernel) (Nat.le_refl _) (Nat.le_refl _) (fun K R hK hR => ?_)
  simp only [↓rx_iload_n1, ↓rx_ireturn, ↓rx_nil, ↓ry_li0s, ↓ry_li0z, ↓sm_ob, ↓sm_i1, ↓sm_n1, ↓sm_r2, ↓sm_i3, ↓sm_n3, ↓sm_r4, rz_set, rz_nol, rz_clr, List.set_cons_zero, List.set_cons_succ, rz_tr, Nat.reduceAdd, Int.reduceAdd, Int.reduceToNat, Int.reduceSub, Int.reduceNeg, Int.cast_ofNat_Int]
  refine hR _ _ (rz_nb_i (by decide)) ⟨rfl, A', X', rfl, by rw [t1, va_up_self]; rfl, fun i => by rw [t2 i, va_up_ne _ _ (by decide), Nat.add_zero], fun j => ?_⟩
  rw [t3 j]
  by_cases c : j = 1 + (120 + n)
  · subst c; rw [if_neg (by omega), va_up_self, if_pos (by omega)]
  · rw [va_up_ne _ _ c, Nat.add_zero]
    by_cases c2 : 1 + n * 3 ≤ j ∧ j < 1 + n * 3 + 3
    · rw [if_pos c2, if_pos (Or.inr c2)]
    · rw [if_neg c2, if_neg (by omega)]

