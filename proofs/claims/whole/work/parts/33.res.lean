/-! WriterDesk$ResidualSearch: 13 cells. Ints: 0 bound, 1 tooLong, 2 tooMany, 3 seen.size. Reference: 0 machine. Long rows: 0 row, 1 seen.cells. Ints row: 0 seen.slots. Words: 0 leftBase, 1 rightBase, 2 leftWord, 3 rightWord. -/
abbrev rs_fs (a : Nat) (I : Nat → Int32) (P : Nat → Nat) : List Value := [.ref (a + 1), .ref (a + 4), .ref (a + 5), .ref (a + 7), .ref (a + 9), .ref (a + 11), .ref (P 0), .int (I 0), .int (I 1), .int (I 2)]
def rs_cell (a : Nat) (I : Nat → Int32) (A : Nat → Nat → Int32) (J : Nat → Nat → Int64) (X : Nat → List Nat) (P : Nat → Nat) (o : Nat) : rz_E := match o with
  | 0 => .inr (6, rs_fs a I P)
  | 1 => .inr (1, [.ref (a + 2), .int (nI 15), .int (nI 3000), .ref (a + 3), .int (I 3)])
  | 2 => .inl (1, 45000, .inr (.inl (J 1)))
  | 3 => .inl (0, 8192, .inl (A 0))
  | 4 => .inl (1, 15, .inr (.inl (J 0)))
  | 5 => wd_o (a + 5) (X 0)
  | 6 => wd_a 8 (X 0)
  | 7 => wd_o (a + 7) (X 1)
  | 8 => wd_a 8 (X 1)
  | 9 => wd_o (a + 9) (X 2)
  | 10 => wd_a 8 (X 2)
  | 11 => wd_o (a + 11) (X 3)
  | 12 => wd_a 8 (X 3)
  | _ => .inr (0, [])
def rs_put (G : rz_G) (a : Nat) (I : Nat → Int32) (A : Nat → Nat → Int32) (J : Nat → Nat → Int64) (X : Nat → List Nat) (P : Nat → Nat) : rz_G := fun x => if a ≤ x ∧ x < a + 13 then some (rs_cell a I A J X P (x - a)) else G x
def rs_is (G : rz_G) (a : Nat) (I : Nat → Int32) (A : Nat → Nat → Int32) (J : Nat → Nat → Int64) (X : Nat → List Nat) (P : Nat → Nat) : Prop := ∀ o, o < 13 → G (a + o) = some (rs_cell a I A J X P o)
theorem rs_at {G : rz_G} {a : Nat} {I : Nat → Int32} {A : Nat → Nat → Int32} {J : Nat → Nat → Int64} {X : Nat → List Nat} {P : Nat → Nat} {o : Nat} (h : o < 13) : rs_put G a I A J X P (a + o) = some (rs_cell a I A J X P o) := by
  simp only [rs_put]; rw [if_pos (by omega), Nat.add_sub_cancel_left]
theorem rs_at0 {G : rz_G} {a : Nat} {I : Nat → Int32} {A : Nat → Nat → Int32} {J : Nat → Nat → Int64} {X : Nat → List Nat} {P : Nat → Nat} : rs_put G a I A J X P a = some (.inr (6, rs_fs a I P)) := rs_at (o := 0) (by decide)
theorem rs_out {G : rz_G} {a : Nat} {I : Nat → Int32} {A : Nat → Nat → Int32} {J : Nat → Nat → Int64} {X : Nat → List Nat} {P : Nat → Nat} {x : Nat} (h : x < a ∨ a + 13 ≤ x) : rs_put G a I A J X P x = G x := by simp only [rs_put]; rw [if_neg (by omega)]
theorem rs_id {G : rz_G} {a : Nat} {I : Nat → Int32} {A : Nat → Nat → Int32} {J : Nat → Nat → Int64} {X : Nat → List Nat} {P : Nat → Nat} (h : rs_is G a I A J X P) : rs_put G a I A J X P = G := by
  funext x
  simp only [rs_put]
  split
  · next q => rw [← h (x - a) (by omega)]; congr 1; omega
  · rfl
theorem rs_put_is {G : rz_G} {a : Nat} {I : Nat → Int32} {A : Nat → Nat → Int32} {J : Nat → Nat → Int64} {X : Nat → List Nat} {P : Nat → Nat} : rs_is (rs_put G a I A J X P) a I A J X P := fun o ho => rs_at ho
theorem rs_put2 {G : rz_G} {a : Nat} {I : Nat → Int32} {A : Nat → Nat → Int32} {J : Nat → Nat → Int64} {X : Nat → List Nat} {P : Nat → Nat} {I' : Nat → Int32} {A' : Nat → Nat → Int32} {J' : Nat → Nat → Int64} {X' : Nat → List Nat} {P' : Nat → Nat} : rs_put (rs_put G a I A J X P) a I' A' J' X' P' = rs_put G a I' A' J' X' P' := by
  funext x; simp only [rs_put]; split <;> simp_all
theorem rs_eq {G : rz_G} {a : Nat} {I : Nat → Int32} {A : Nat → Nat → Int32} {J : Nat → Nat → Int64} {X : Nat → List Nat} {P : Nat → Nat} {I' : Nat → Int32} {A' : Nat → Nat → Int32} {J' : Nat → Nat → Int64} {X' : Nat → List Nat} {P' : Nat → Nat} (h : ∀ o, o < 13 → rs_cell a I A J X P o = rs_cell a I' A' J' X' P' o) : rs_put G a I A J X P = rs_put G a I' A' J' X' P' := by
  funext x; simp only [rs_put]; split
  · next q => rw [h (x - a) (by omega)]
  · rfl
theorem rs_upc {G : rz_G} {a : Nat} {I : Nat → Int32} {A : Nat → Nat → Int32} {J : Nat → Nat → Int64} {X : Nat → List Nat} {P : Nat → Nat} {I' : Nat → Int32} {A' : Nat → Nat → Int32} {J' : Nat → Nat → Int64} {X' : Nat → List Nat} {P' : Nat → Nat} {k : Nat} {e : rz_E} (hk : k < 13) (he : rs_cell a I' A' J' X' P' k = e) (h : ∀ o, o < 13 → o ≠ k → rs_cell a I' A' J' X' P' o = rs_cell a I A J X P o) : rz_up (rs_put G a I A J X P) (a + k) e = rs_put G a I' A' J' X' P' := by
  funext x
  simp only [rs_put, rz_up]
  by_cases q : x = a + k
  · subst q; rw [if_pos rfl, if_pos (by omega), Nat.add_sub_cancel_left, he]
  · rw [if_neg q]
    split
    · next q2 => rw [h (x - a) (by omega) (by omega)]
    · rfl
theorem rs_ob {G : rz_G} {a : Nat} {I : Nat → Int32} {A : Nat → Nat → Int32} {J : Nat → Nat → Int64} {X : Nat → List Nat} {P : Nat → Nat} {f : List Value → Prop} : rz_ob (rs_put G a I A J X P) a 6 f = f (rs_fs a I P) := rh_ob rs_at0
theorem rs_l2 {G : rz_G} {a : Nat} {I : Nat → Int32} {A : Nat → Nat → Int32} {J : Nat → Nat → Int64} {X : Nat → List Nat} {P : Nat → Nat} {f : Nat → (Nat → Int64) → Prop} : rz_la (rs_put G a I A J X P) (a + 2) f = f 45000 (J 1) := rh_la (rs_at (o := 2) (by decide))
theorem rs_i3 {G : rz_G} {a : Nat} {I : Nat → Int32} {A : Nat → Nat → Int32} {J : Nat → Nat → Int64} {X : Nat → List Nat} {P : Nat → Nat} {f : Nat → Nat → (Nat → Int32) → Prop} : rz_ia (rs_put G a I A J X P) (a + 3) f = f 0 8192 (A 0) := rh_ia (rs_at (o := 3) (by decide))
theorem rs_n3 {G : rz_G} {a : Nat} {I : Nat → Int32} {A : Nat → Nat → Int32} {J : Nat → Nat → Int64} {X : Nat → List Nat} {P : Nat → Nat} {f : Nat → Nat → Prop} : rz_aa (rs_put G a I A J X P) (a + 3) f = f 0 8192 := rh_aa (rs_at (o := 3) (by decide))
theorem rs_l4 {G : rz_G} {a : Nat} {I : Nat → Int32} {A : Nat → Nat → Int32} {J : Nat → Nat → Int64} {X : Nat → List Nat} {P : Nat → Nat} {f : Nat → (Nat → Int64) → Prop} : rz_la (rs_put G a I A J X P) (a + 4) f = f 15 (J 0) := rh_la (rs_at (o := 4) (by decide))
theorem rs_ob1 {G : rz_G} {a : Nat} {I : Nat → Int32} {A : Nat → Nat → Int32} {J : Nat → Nat → Int64} {X : Nat → List Nat} {P : Nat → Nat} {f : List Value → Prop} : rz_ob (rs_put G a I A J X P) (a + 1) 1 f = f [.ref (a + 2), .int (nI 15), .int (nI 3000), .ref (a + 3), .int (I 3)] := rh_ob (rs_at (o := 1) (by decide))
theorem rs_u6 {G : rz_G} {a : Nat} {I : Nat → Int32} {A : Nat → Nat → Int32} {J : Nat → Nat → Int64} {X : Nat → List Nat} {P : Nat → Nat} {v : Nat} : rz_up (rs_put G a I A J X P) a (.inr (6, [.ref (a + 1), .ref (a + 4), .ref (a + 5), .ref (a + 7), .ref (a + 9), .ref (a + 11), .ref v, .int (I 0), .int (I 1), .int (I 2)])) = rs_put G a I A J X (va_up P 0 v) := rs_upc (k := 0) (by decide) rfl (fun o ho hne => by match o, hne with | 0, h => exact absurd rfl h | 1, _ => rfl | 2, _ => rfl | 3, _ => rfl | 4, _ => rfl | 5, _ => rfl | 6, _ => rfl | 7, _ => rfl | 8, _ => rfl | 9, _ => rfl | 10, _ => rfl | 11, _ => rfl | 12, _ => rfl | o + 13, _ => rfl)
theorem rs_u7 {G : rz_G} {a : Nat} {I : Nat → Int32} {A : Nat → Nat → Int32} {J : Nat → Nat → Int64} {X : Nat → List Nat} {P : Nat → Nat} {v : Int32} : rz_up (rs_put G a I A J X P) a (.inr (6, [.ref (a + 1), .ref (a + 4), .ref (a + 5), .ref (a + 7), .ref (a + 9), .ref (a + 11), .ref (P 0), .int v, .int (I 1), .int (I 2)])) = rs_put G a (upd I 0 v) A J X P := rs_upc (k := 0) (by decide) rfl (fun o ho hne => by match o, hne with | 0, h => exact absurd rfl h | 1, _ => rfl | 2, _ => rfl | 3, _ => rfl | 4, _ => rfl | 5, _ => rfl | 6, _ => rfl | 7, _ => rfl | 8, _ => rfl | 9, _ => rfl | 10, _ => rfl | 11, _ => rfl | 12, _ => rfl | o + 13, _ => rfl)
theorem rs_u8 {G : rz_G} {a : Nat} {I : Nat → Int32} {A : Nat → Nat → Int32} {J : Nat → Nat → Int64} {X : Nat → List Nat} {P : Nat → Nat} {v : Int32} : rz_up (rs_put G a I A J X P) a (.inr (6, [.ref (a + 1), .ref (a + 4), .ref (a + 5), .ref (a + 7), .ref (a + 9), .ref (a + 11), .ref (P 0), .int (I 0), .int v, .int (I 2)])) = rs_put G a (upd I 1 v) A J X P := rs_upc (k := 0) (by decide) rfl (fun o ho hne => by match o, hne with | 0, h => exact absurd rfl h | 1, _ => rfl | 2, _ => rfl | 3, _ => rfl | 4, _ => rfl | 5, _ => rfl | 6, _ => rfl | 7, _ => rfl | 8, _ => rfl | 9, _ => rfl | 10, _ => rfl | 11, _ => rfl | 12, _ => rfl | o + 13, _ => rfl)
theorem rs_u9 {G : rz_G} {a : Nat} {I : Nat → Int32} {A : Nat → Nat → Int32} {J : Nat → Nat → Int64} {X : Nat → List Nat} {P : Nat → Nat} {v : Int32} : rz_up (rs_put G a I A J X P) a (.inr (6, [.ref (a + 1), .ref (a + 4), .ref (a + 5), .ref (a + 7), .ref (a + 9), .ref (a + 11), .ref (P 0), .int (I 0), .int (I 1), .int v])) = rs_put G a (upd I 2 v) A J X P := rs_upc (k := 0) (by decide) rfl (fun o ho hne => by match o, hne with | 0, h => exact absurd rfl h | 1, _ => rfl | 2, _ => rfl | 3, _ => rfl | 4, _ => rfl | 5, _ => rfl | 6, _ => rfl | 7, _ => rfl | 8, _ => rfl | 9, _ => rfl | 10, _ => rfl | 11, _ => rfl | 12, _ => rfl | o + 13, _ => rfl)
theorem rs_a2 {G : rz_G} {a : Nat} {I : Nat → Int32} {A : Nat → Nat → Int32} {J : Nat → Nat → Int64} {X : Nat → List Nat} {P : Nat → Nat} {g : Nat → Int64} : rz_up (rs_put G a I A J X P) (a + 2) (.inl (1, 45000, .inr (.inl g))) = rs_put G a I A (va_up J 1 g) X P := rs_upc (k := 2) (by decide) rfl (fun o ho hne => by match o, hne with | 0, _ => rfl | 1, _ => rfl | 2, h => exact absurd rfl h | 3, _ => rfl | 4, _ => rfl | 5, _ => rfl | 6, _ => rfl | 7, _ => rfl | 8, _ => rfl | 9, _ => rfl | 10, _ => rfl | 11, _ => rfl | 12, _ => rfl | o + 13, _ => rfl)
theorem rs_a3 {G : rz_G} {a : Nat} {I : Nat → Int32} {A : Nat → Nat → Int32} {J : Nat → Nat → Int64} {X : Nat → List Nat} {P : Nat → Nat} {g : Nat → Int32} : rz_up (rs_put G a I A J X P) (a + 3) (.inl (0, 8192, .inl g)) = rs_put G a I (va_up A 0 g) J X P := rs_upc (k := 3) (by decide) rfl (fun o ho hne => by match o, hne with | 0, _ => rfl | 1, _ => rfl | 2, _ => rfl | 3, h => exact absurd rfl h | 4, _ => rfl | 5, _ => rfl | 6, _ => rfl | 7, _ => rfl | 8, _ => rfl | 9, _ => rfl | 10, _ => rfl | 11, _ => rfl | 12, _ => rfl | o + 13, _ => rfl)
theorem rs_a4 {G : rz_G} {a : Nat} {I : Nat → Int32} {A : Nat → Nat → Int32} {J : Nat → Nat → Int64} {X : Nat → List Nat} {P : Nat → Nat} {g : Nat → Int64} : rz_up (rs_put G a I A J X P) (a + 4) (.inl (1, 15, .inr (.inl g))) = rs_put G a I A (va_up J 0 g) X P := rs_upc (k := 4) (by decide) rfl (fun o ho hne => by match o, hne with | 0, _ => rfl | 1, _ => rfl | 2, _ => rfl | 3, _ => rfl | 4, h => exact absurd rfl h | 5, _ => rfl | 6, _ => rfl | 7, _ => rfl | 8, _ => rfl | 9, _ => rfl | 10, _ => rfl | 11, _ => rfl | 12, _ => rfl | o + 13, _ => rfl)
theorem rs_xc {G : rz_G} {a : Nat} {I : Nat → Int32} {A : Nat → Nat → Int32} {J : Nat → Nat → Int64} {X : Nat → List Nat} {P : Nat → Nat} {xs : List Nat} {k : Nat} {o : Nat} (ho : o < 13) (h5 : k = 0 → o ≠ 5 ∧ o ≠ 6) (h7 : k = 1 → o ≠ 7 ∧ o ≠ 8) (h9 : k = 2 → o ≠ 9 ∧ o ≠ 10) (h11 : k = 3 → o ≠ 11 ∧ o ≠ 12) : rs_cell a I A J (va_up X k xs) P o = rs_cell a I A J X P o := by
  match o with
  | 0 => rfl
  | 1 => rfl
  | 2 => rfl
  | 3 => rfl
  | 4 => rfl
  | 5 =>
    have e : va_up X k xs 0 = X 0 := va_up_ne _ _ (fun q => (h5 q.symm).1 rfl)
    show wd_o (a + 5) (va_up X k xs 0) = wd_o (a + 5) (X 0)
    rw [e]
  | 6 =>
    have e : va_up X k xs 0 = X 0 := va_up_ne _ _ (fun q => (h5 q.symm).2 rfl)
    show wd_a 8 (va_up X k xs 0) = wd_a 8 (X 0)
    rw [e]
  | 7 =>
    have e : va_up X k xs 1 = X 1 := va_up_ne _ _ (fun q => (h7 q.symm).1 rfl)
    show wd_o (a + 7) (va_up X k xs 1) = wd_o (a + 7) (X 1)
    rw [e]
  | 8 =>
    have e : va_up X k xs 1 = X 1 := va_up_ne _ _ (fun q => (h7 q.symm).2 rfl)
    show wd_a 8 (va_up X k xs 1) = wd_a 8 (X 1)
    rw [e]
  | 9 =>
    have e : va_up X k xs 2 = X 2 := va_up_ne _ _ (fun q => (h9 q.symm).1 rfl)
    show wd_o (a + 9) (va_up X k xs 2) = wd_o (a + 9) (X 2)
    rw [e]
  | 10 =>
    have e : va_up X k xs 2 = X 2 := va_up_ne _ _ (fun q => (h9 q.symm).2 rfl)
    show wd_a 8 (va_up X k xs 2) = wd_a 8 (X 2)
    rw [e]
  | 11 =>
    have e : va_up X k xs 3 = X 3 := va_up_ne _ _ (fun q => (h11 q.symm).1 rfl)
    show wd_o (a + 11) (va_up X k xs 3) = wd_o (a + 11) (X 3)
    rw [e]
  | 12 =>
    have e : va_up X k xs 3 = X 3 := va_up_ne _ _ (fun q => (h11 q.symm).2 rfl)
    show wd_a 8 (va_up X k xs 3) = wd_a 8 (X 3)
    rw [e]
  | o + 13 => rfl
theorem rs_wi5 {G : rz_G} {a : Nat} {I : Nat → Int32} {A : Nat → Nat → Int32} {J : Nat → Nat → Int64} {X : Nat → List Nat} {P : Nat → Nat} (hX : wd_ok 8 (X 0)) : wd_is (rs_put G a I A J X P) (a + 5) 8 (X 0) := ⟨rs_at (o := 5) (by decide), rs_at (o := 6) (by decide), hX⟩
theorem rs_wp5 {G : rz_G} {a : Nat} {I : Nat → Int32} {A : Nat → Nat → Int32} {J : Nat → Nat → Int64} {X : Nat → List Nat} {P : Nat → Nat} {xs : List Nat}  : wd_put (rs_put G a I A J X P) (a + 5) 8 xs = rs_put G a I A J (va_up X 0 xs) P := by
  funext x
  simp only [wd_put, rz_up]
  by_cases c1 : x = a + 5 + 1
  · rw [if_pos c1, c1, Nat.add_assoc, rs_at (by omega)]
    exact congrArg some ((show rs_cell a I A J (va_up X 0 xs) P (5 + 1) = wd_a 8 xs by show wd_a 8 (va_up X 0 xs 0) = _; rw [va_up_self])).symm
  · rw [if_neg c1]
    by_cases c2 : x = a + 5
    · rw [if_pos c2, c2, rs_at (by omega)]
      exact congrArg some ((show rs_cell a I A J (va_up X 0 xs) P 5 = wd_o (a + 5) xs by show wd_o (a + 5) (va_up X 0 xs 0) = _; rw [va_up_self])).symm
    · rw [if_neg c2]
      simp only [rs_put]
      split
      · next q => rw [rs_xc (G := G) (by omega) (fun q2 => by omega) (fun q2 => by omega) (fun q2 => by omega) (fun q2 => by omega)]
      · rfl
theorem rs_wi7 {G : rz_G} {a : Nat} {I : Nat → Int32} {A : Nat → Nat → Int32} {J : Nat → Nat → Int64} {X : Nat → List Nat} {P : Nat → Nat} (hX : wd_ok 8 (X 1)) : wd_is (rs_put G a I A J X P) (a + 7) 8 (X 1) := ⟨rs_at (o := 7) (by decide), rs_at (o := 8) (by decide), hX⟩
theorem rs_wp7 {G : rz_G} {a : Nat} {I : Nat → Int32} {A : Nat → Nat → Int32} {J : Nat → Nat → Int64} {X : Nat → List Nat} {P : Nat → Nat} {xs : List Nat}  : wd_put (rs_put G a I A J X P) (a + 7) 8 xs = rs_put G a I A J (va_up X 1 xs) P := by
  funext x
  simp only [wd_put, rz_up]
  by_cases c1 : x = a + 7 + 1
  · rw [if_pos c1, c1, Nat.add_assoc, rs_at (by omega)]
    exact congrArg some ((show rs_cell a I A J (va_up X 1 xs) P (7 + 1) = wd_a 8 xs by show wd_a 8 (va_up X 1 xs 1) = _; rw [va_up_self])).symm
  · rw [if_neg c1]
    by_cases c2 : x = a + 7
    · rw [if_pos c2, c2, rs_at (by omega)]
      exact congrArg some ((show rs_cell a I A J (va_up X 1 xs) P 7 = wd_o (a + 7) xs by show wd_o (a + 7) (va_up X 1 xs 1) = _; rw [va_up_self])).symm
    · rw [if_neg c2]
      simp only [rs_put]
      split
      · next q => rw [rs_xc (G := G) (by omega) (fun q2 => by omega) (fun q2 => by omega) (fun q2 => by omega) (fun q2 => by omega)]
      · rfl
theorem rs_wi9 {G : rz_G} {a : Nat} {I : Nat → Int32} {A : Nat → Nat → Int32} {J : Nat → Nat → Int64} {X : Nat → List Nat} {P : Nat → Nat} (hX : wd_ok 8 (X 2)) : wd_is (rs_put G a I A J X P) (a + 9) 8 (X 2) := ⟨rs_at (o := 9) (by decide), rs_at (o := 10) (by decide), hX⟩
theorem rs_wp9 {G : rz_G} {a : Nat} {I : Nat → Int32} {A : Nat → Nat → Int32} {J : Nat → Nat → Int64} {X : Nat → List Nat} {P : Nat → Nat} {xs : List Nat}  : wd_put (rs_put G a I A J X P) (a + 9) 8 xs = rs_put G a I A J (va_up X 2 xs) P := by
  funext x
  simp only [wd_put, rz_up]
  by_cases c1 : x = a + 9 + 1
  · rw [if_pos c1, c1, Nat.add_assoc, rs_at (by omega)]
    exact congrArg some ((show rs_cell a I A J (va_up X 2 xs) P (9 + 1) = wd_a 8 xs by show wd_a 8 (va_up X 2 xs 2) = _; rw [va_up_self])).symm
  · rw [if_neg c1]
    by_cases c2 : x = a + 9
    · rw [if_pos c2, c2, rs_at (by omega)]
      exact congrArg some ((show rs_cell a I A J (va_up X 2 xs) P 9 = wd_o (a + 9) xs by show wd_o (a + 9) (va_up X 2 xs 2) = _; rw [va_up_self])).symm
    · rw [if_neg c2]
      simp only [rs_put]
      split
      · next q => rw [rs_xc (G := G) (by omega) (fun q2 => by omega) (fun q2 => by omega) (fun q2 => by omega) (fun q2 => by omega)]
      · rfl
theorem rs_wi11 {G : rz_G} {a : Nat} {I : Nat → Int32} {A : Nat → Nat → Int32} {J : Nat → Nat → Int64} {X : Nat → List Nat} {P : Nat → Nat} (hX : wd_ok 8 (X 3)) : wd_is (rs_put G a I A J X P) (a + 11) 8 (X 3) := ⟨rs_at (o := 11) (by decide), rs_at (o := 12) (by decide), hX⟩
theorem rs_wp11 {G : rz_G} {a : Nat} {I : Nat → Int32} {A : Nat → Nat → Int32} {J : Nat → Nat → Int64} {X : Nat → List Nat} {P : Nat → Nat} {xs : List Nat}  : wd_put (rs_put G a I A J X P) (a + 11) 8 xs = rs_put G a I A J (va_up X 3 xs) P := by
  funext x
  simp only [wd_put, rz_up]
  by_cases c1 : x = a + 11 + 1
  · rw [if_pos c1, c1, Nat.add_assoc, rs_at (by omega)]
    exact congrArg some ((show rs_cell a I A J (va_up X 3 xs) P (11 + 1) = wd_a 8 xs by show wd_a 8 (va_up X 3 xs 3) = _; rw [va_up_self])).symm
  · rw [if_neg c1]
    by_cases c2 : x = a + 11
    · rw [if_pos c2, c2, rs_at (by omega)]
      exact congrArg some ((show rs_cell a I A J (va_up X 3 xs) P 11 = wd_o (a + 11) xs by show wd_o (a + 11) (va_up X 3 xs 3) = _; rw [va_up_self])).symm
    · rw [if_neg c2]
      simp only [rs_put]
      split
      · next q => rw [rs_xc (G := G) (by omega) (fun q2 => by omega) (fun q2 => by omega) (fun q2 => by omega) (fun q2 => by omega)]
      · rfl
theorem rs_mc {G : rz_G} {a : Nat} {I : Nat → Int32} {A : Nat → Nat → Int32} {J : Nat → Nat → Int64} {X : Nat → List Nat} {P : Nat → Nat} {am : Nat} {S : mc_S} {m : mv_T} {cl : Nat} (h : mc_at' G am a 13 S m cl) : mc_is (rs_put G a I A J X P) am S.1 S.2.1 S.2.2.1 S.2.2.2.1 S.2.2.2.2 := mc_is_keep h.1 (fun o ho => rs_out (by have := h.2.2.2; unfold mc_ap at this; omega))
/-- a residual: two states, two rests -/
abbrev rs_nd : Type := Nat × Nat × List Nat × List Nat
def rs_hd (n : rs_nd) : Nat := n.1 * 2 ^ 24 + n.2.1 * 2 ^ 16 + n.2.2.1.length * 2 ^ 8 + n.2.2.2.length
def rs_enc (n : rs_nd) : List Int64 := lN (rs_hd n) :: ((List.range 7).map (wd_f n.2.2.1) ++ (List.range 7).map (wd_f n.2.2.2))
def rs_wok (n : rs_nd) : Prop := n.1 < 6 ∧ n.2.1 < 6 ∧ n.2.2.1.length ≤ 108 ∧ n.2.2.2.length ≤ 108 ∧ (∀ x ∈ n.2.2.1, x < 8) ∧ ∀ x ∈ n.2.2.2, x < 8
theorem rs_enc_inj {v w : rs_nd} (hv : rs_wok v) (hw : rs_wok w) (h : rs_enc v = rs_enc w) : v = w := by
  obtain ⟨v1, v2, v3, v4⟩ := v
  obtain ⟨w1, w2, w3, w4⟩ := w
  obtain ⟨a1, a2, a3, a4, a5, a6⟩ := hv
  obtain ⟨b1, b2, b3, b4, b5, b6⟩ := hw
  dsimp only at a1 a2 a3 a4 a5 a6 b1 b2 b3 b4 b5 b6
  simp only [rs_enc, List.cons.injEq] at h
  obtain ⟨h0, h1⟩ := h
  simp only [rs_hd] at h0
  have e := lN_inj (by omega) (by omega) h0
  have e1 : v1 = w1 := by omega
  have e2 : v2 = w2 := by omega
  have e3 : v3.length = w3.length := by omega
  have e4 : v4.length = w4.length := by omega
  have h2 := List.append_inj h1 (by simp)
  have g1 : v3 = w3 := by
    refine wd_f_eq (fun x hx => by have := a5 x hx; omega) (fun x hx => by have := b5 x hx; omega) e3 (fun j hj => ?_)
    have := congrArg (fun l => l[j]?) h2.1
    simpa [show j < 7 by omega] using this
  have g2 : v4 = w4 := by
    refine wd_f_eq (fun x hx => by have := a6 x hx; omega) (fun x hx => by have := b6 x hx; omega) e4 (fun j hj => ?_)
    have := congrArg (fun l => l[j]?) h2.2
    simpa [show j < 7 by omega] using this
  rw [e1, e2, g1, g2]
theorem rs_mem {ws : List rs_nd} {w : rs_nd} (hws : ∀ v ∈ ws, rs_wok v) (hw : rs_wok w) : rs_enc w ∈ ws.map rs_enc ↔ w ∈ ws := by
  rw [List.mem_map]
  constructor
  · rintro ⟨v, hv, e⟩
    rw [← rs_enc_inj (hws v hv) hw e]; exact hv
  · exact fun h => ⟨w, h, rfl⟩
/-- the rows hold the residuals -/
def rs_rw (I : Nat → Int32) (A : Nat → Nat → Int32) (J : Nat → Nat → Int64) (ps : List rs_nd) : Prop :=
  I 3 = nI ps.length ∧ (∀ i (hi : i < (ps.map rs_enc).length), rw_l (fun k => J 1 (i * 15 + k)) 15 = (ps.map rs_enc)[i]) ∧ rw_ok 13 (A 0) (ps.map rs_enc) ∧ ps.length ≤ 3000 ∧ (ps.map rs_enc).Nodup ∧ ∀ v ∈ ps, rs_wok v
theorem rs_rw_is {G : rz_G} {a : Nat} {I : Nat → Int32} {A : Nat → Nat → Int32} {J : Nat → Nat → Int64} {X : Nat → List Nat} {P : Nat → Nat} {ps : List rs_nd} (h : rs_rw I A J ps) : rw_is (rs_put G a I A J X P) (a + 1) 15 3000 13 (ps.map rs_enc) := by
  obtain ⟨h1, h2, h3, h4, h5, h6⟩ := h
  refine ⟨J 1, A 0, ?_, rs_at (o := 2) (by decide), rs_at (o := 3) (by decide), h2, h3, by simpa using h4, by decide, by decide, by decide, h5⟩
  rw [rs_at (o := 1) (by decide), List.length_map, ← h1]
  rfl
theorem rs_rw_put {G : rz_G} {a : Nat} {I : Nat → Int32} {A : Nat → Nat → Int32} {J : Nat → Nat → Int64} {X : Nat → List Nat} {P : Nat → Nat} {G' : rz_G} {ps : List rs_nd} (hw : ∀ v ∈ ps, rs_wok v) (h : rw_is G' (a + 1) 15 3000 13 (ps.map rs_enc)) (hf : rw_fr (a + 1) (rs_put G a I A J X P) G') : ∃ A' J1, G' = rs_put G a (upd I 3 (nI ps.length)) A' (va_up J 1 J1) X P ∧ rs_rw (upd I 3 (nI ps.length)) A' (va_up J 1 J1) ps := by
  obtain ⟨f, sl, h1, h2, h3, h4, h5, h6, -, -, -, h7⟩ := h
  refine ⟨va_up A 0 sl, f, ?_, pk_us, ?_, ?_, by simpa using h6, h7, hw⟩
  · funext x
    by_cases q1 : x = a + 1
    · subst q1; rw [h1, rs_at (o := 1) (by decide), List.length_map]; rfl
    · by_cases q2 : x = a + 1 + 1
      · subst q2; rw [h2, Nat.add_assoc, rs_at (o := 2) (by decide)]; rfl
      · by_cases q3 : x = a + 1 + 2
        · subst q3; rw [h3, Nat.add_assoc, rs_at (o := 3) (by decide)]; rfl
        · rw [hf x q1 q2 q3]
          simp only [rs_put]
          split
          · next q =>
            obtain ⟨o, ho⟩ : ∃ o, x = a + o := ⟨x - a, by omega⟩
            subst ho
            rw [Nat.add_sub_cancel_left]
            congr 1
            match o, q1, q2, q3, q with
            | 0, _, _, _, _ => rfl
            | 1, q, _, _, _ => exact absurd rfl q
            | 2, _, q, _, _ => exact absurd rfl q
            | 3, _, _, q, _ => exact absurd rfl q
            | 4, _, _, _, _ => rfl
            | 5, _, _, _, _ => rfl
            | 6, _, _, _, _ => rfl
            | 7, _, _, _, _ => rfl
            | 8, _, _, _, _ => rfl
            | 9, _, _, _, _ => rfl
            | 10, _, _, _, _ => rfl
            | 11, _, _, _, _ => rfl
            | 12, _, _, _, _ => rfl
            | o + 13, _, _, _, q => omega
          · rfl
  · intro i hi; rw [va_up_self]; exact h4 i hi
  · rw [va_up_self]; exact h5
/-- what keep does -/
def rs_k (S : List rs_nd × Bool) (n : rs_nd) : List rs_nd × Bool := if n ∈ S.1 then (S.1, false) else if S.1.length < 3000 then (S.1 ++ [n], false) else (S.1, true)
set_option maxRecDepth 100000 in
set_option maxHeartbeats 4000000 in
/-- keep(p, q) -/
theorem c_Res_keep {w : rz_w} {d : Nat} {G : rz_G} {a : Nat} {I : Nat → Int32} {A : Nat → Nat → Int32} {J : Nat → Nat → Int64} {X : Nat → List Nat} {P : Nat → Nat} {p q : Nat} {ps : List rs_nd} {tm : Bool} (hr : rs_rw I A J ps) (h2 : wd_ok 8 (X 2)) (h3 : wd_ok 8 (X 3)) (hw : rs_wok (p, q, X 2, X 3)) :
    rz_C w (d + 3) 0 0 y_Res_keep m_Res_keep [.ref a, .int (nI p), .int (nI q)] (rs_put G a I A J X P) (fun r G' => r = none ∧ ∃ I' A' J', G' = rs_put G a I' A' J' X P ∧ rs_rw I' A' J' (rs_k (ps, tm) (p, q, X 2, X 3)).1 ∧ I' 0 = I 0 ∧ I' 1 = I 1 ∧ I' 2 = rz_b (rs_k (ps, tm) (p, q, X 2, X 3)).2) := by
  obtain ⟨k1, k2, k3, k4, k5, k6⟩ := id hw
  dsimp only at k1 k2 k3 k4 k5 k6
  have w2 := (rs_wi9 (G := G) (a := a) (I := I) (A := A) (J := J) (P := P) h2).1
  have w3 := (rs_wi11 (G := G) (a := a) (I := I) (A := A) (J := J) (P := P) h3).1
  refine rz_enter' [some (.ref a), some (.int (nI p)), some (.int (nI q))] (by decide +kernel) rfl rfl (Nat.le_of_ble_eq_true rfl) rfl ?_
  refine rz_blk' [(.aload_n 0, 1, 0, 0), (.getfield 20, 3, 6, 1), (.iconst 0, 1, 0, 0), (.iload_n 1, 1, 0, 0), (.i2l, 1, 0, 0), (.bipush 24, 2, 0, 0), (.lshl, 1, 0, 0), (.iload_n 2, 1, 0, 0), (.i2l, 1, 0, 0), (.bipush 16, 2, 0, 0), (.lshl, 1, 0, 0), (.lor, 1, 0, 0), (.aload_n 0, 1, 0, 0), (.getfield 36, 3, 6, 4), (.getfield 126, 3, 0, 1), (.i2l, 1, 0, 0), (.bipush 8, 2, 0, 0), (.lshl, 1, 0, 0), (.lor, 1, 0, 0), (.aload_n 0, 1, 0, 0), (.getfield 39, 3, 6, 5), (.getfield 126, 3, 0, 1), (.i2l, 1, 0, 0), (.lor, 1, 0, 0), (.lastore, 1, 0, 0)] (by decide +kernel) (Nat.le_refl _) (Nat.le_refl _) (fun K R hK hR => ?_)
  simp only [rw_b16, rw_b24, rw_b8, rw_c0, ↓rx_aload_n0, ↓rx_bipush, ↓rx_getfield, ↓rx_i2l, ↓rx_iconst, ↓rx_iload_n1, ↓rx_iload_n2, ↓rx_lastore, ↓rx_lor, ↓rx_lshl, ↓rx_nil, ↓ry_fvs, ↓ry_fvz, ↓ry_i1, ↓ry_l2, ↓ry_lau, ↓ry_li, ↓ry_li0s, ↓ry_li0z, ↓ry_lr0s, ↓ry_lr0z, ↓ry_obu, ↓ry_r1, ↓ry_ril, ↓rs_ob, ↓rs_l2, ↓rs_i3, ↓rs_n3, ↓rs_l4, ↓rs_ob1, ↓rh_ob w2, ↓rh_ob w3, rs_a4, rz_set, rz_nol, rz_clr, List.set_cons_zero, List.set_cons_succ, rz_tr, Nat.reduceAdd, Int.reduceAdd, Int.reduceToNat, Int.reduceSub, Int.reduceNeg, Int.cast_ofNat_Int]
  have e0 : ((p * 2 ^ 24 ||| q * 2 ^ 16) ||| (X 2).length * 2 ^ 8) ||| (X 3).length = rs_hd (p, q, X 2, X 3) := by
    simp only [rs_hd]
    rw [show p * 2 ^ 24 = 2 ^ 24 * p by omega, ← Nat.two_pow_add_eq_or_of_lt (show q * 2 ^ 16 < 2 ^ 24 by omega), show 2 ^ 24 * p + q * 2 ^ 16 = 2 ^ 16 * (2 ^ 8 * p + q) by omega, ← Nat.two_pow_add_eq_or_of_lt (show (X 2).length * 2 ^ 8 < 2 ^ 16 by omega), show 2 ^ 16 * (2 ^ 8 * p + q) + (X 2).length * 2 ^ 8 = 2 ^ 8 * (2 ^ 16 * p + 2 ^ 8 * q + (X 2).length) by omega, ← Nat.two_pow_add_eq_or_of_lt (show (X 3).length < 2 ^ 8 by omega)]
    try omega
  have bb : (p * 2 ^ 24 ||| q * 2 ^ 16) < 2 ^ 64 := by
    rw [show p * 2 ^ 24 = 2 ^ 24 * p by omega, ← Nat.two_pow_add_eq_or_of_lt (show q * 2 ^ 16 < 2 ^ 24 by omega)]; omega
  have bb2 : (p * 2 ^ 24 ||| q * 2 ^ 16) ||| (X 2).length * 2 ^ 8 < 2 ^ 64 := Nat.or_lt_two_pow bb (by omega)
  rw [nI_l (n := p) (by omega), nI_l (n := q) (by omega), nI_l (n := (X 2).length) (by omega), nI_l (n := (X 3).length) (by omega), wb_shl _ (by decide), wb_shl _ (by decide), wb_shl _ (by decide), wb_or (by omega) (by omega), wb_or (by exact bb) (by omega), wb_or (by exact bb2) (by omega), nI_clamp (by decide), e0]
  refine ⟨vp_in_nI (by decide) (by decide), hK _ _ _ _ ?_⟩
  generalize hJ1 : va_up J 0 _ = J1
  refine rz_blk' [(.aload_n 0, 1, 0, 0), (.getfield 36, 3, 6, 4), (.aload_n 0, 1, 0, 0), (.getfield 20, 3, 6, 1), (.iconst 1, 1, 0, 0), (.bipush 7, 2, 0, 0)] (by decide +kernel) (Nat.le_refl _) (Nat.le_refl _) (fun K R hK hR => ?_)
  simp only [rw_b7, rw_c1, ↓rx_aload_n0, ↓rx_bipush, ↓rx_getfield, ↓rx_iconst, ↓rx_nil, ↓ry_fvs, ↓ry_fvz, ↓ry_lr0s, ↓ry_lr0z, ↓ry_obu, ↓ry_r1, ↓rs_ob, ↓rs_l2, ↓rs_i3, ↓rs_n3, ↓rs_l4, ↓rs_ob1, rz_set, rz_nol, rz_clr, List.set_cons_zero, List.set_cons_succ, rz_tr, Nat.reduceAdd, Int.reduceAdd, Int.reduceToNat, Int.reduceSub, Int.reduceNeg, Int.cast_ofNat_Int]
  refine hK _ _ _ _ ?_
  refine rz_cV (As := [.ref (a + 4), .int (nI 1), .int (nI 7)]) (b := a + 9) (S := []) l_Res_132 (by decide +kernel) rfl (rs_wi9 h2).1 rfl (Nat.le_of_ble_eq_true rfl) (Nat.le_refl _) (Nat.le_refl _) (c_Word_store (f0 := 1) (wt := 7) (n0 := 15) (rs_wi9 h2) (rs_at (o := 4) (by decide)) (by decide) (by omega) (by decide)) (fun r G' hr2 => ?_)
  obtain ⟨rfl, rfl⟩ := hr2
  simp only [Option.toList, List.nil_append]
  rw [rs_a4]
  generalize hJ2 : va_up J1 0 _ = J2
  refine rz_blk' [(.aload_n 0, 1, 0, 0), (.getfield 39, 3, 6, 5), (.aload_n 0, 1, 0, 0), (.getfield 20, 3, 6, 1), (.bipush 8, 2, 0, 0), (.bipush 7, 2, 0, 0)] (by decide +kernel) (Nat.le_refl _) (Nat.le_refl _) (fun K R hK hR => ?_)
  simp only [rw_b7, rw_b8, ↓rx_aload_n0, ↓rx_bipush, ↓rx_getfield, ↓rx_nil, ↓ry_fvs, ↓ry_fvz, ↓ry_lr0s, ↓ry_lr0z, ↓ry_obu, ↓ry_r1, ↓rs_ob, ↓rs_l2, ↓rs_i3, ↓rs_n3, ↓rs_l4, ↓rs_ob1, rz_set, rz_nol, rz_clr, List.set_cons_zero, List.set_cons_succ, rz_tr, Nat.reduceAdd, Int.reduceAdd, Int.reduceToNat, Int.reduceSub, Int.reduceNeg, Int.cast_ofNat_Int]
  refine hK _ _ _ _ ?_
  refine rz_cV (As := [.ref (a + 4), .int (nI 8), .int (nI 7)]) (b := a + 11) (S := []) l_Res_132 (by decide +kernel) rfl (rs_wi11 h3).1 rfl (Nat.le_of_ble_eq_true rfl) (Nat.le_refl _) (Nat.le_refl _) (c_Word_store (f0 := 8) (wt := 7) (n0 := 15) (rs_wi11 h3) (rs_at (o := 4) (by decide)) (by decide) (by omega) (by decide)) (fun r G' hr2 => ?_)
  obtain ⟨rfl, rfl⟩ := hr2
  simp only [Option.toList, List.nil_append]
  rw [rs_a4]
  have erow : rw_l (wd_row (J2 0) 8 7 (X 3)) 15 = rs_enc (p, q, X 2, X 3) := by
    rw [← hJ2, va_up_self, ← hJ1, va_up_self]
    simp [rw_l, rs_enc, wd_row, vp_updL, List.range_succ]
  generalize hJ3 : va_up J2 0 _ = J3
  have j30 : J3 0 = wd_row (J2 0) 8 7 (X 3) := by rw [← hJ3, va_up_self]
  have hr3 : rs_rw I A J3 ps := by
    have : J3 1 = J 1 := by rw [← hJ3, va_up_ne _ _ (by decide), ← hJ2, va_up_ne _ _ (by decide), ← hJ1, va_up_ne _ _ (by decide)]
    obtain ⟨r1, r2, r3⟩ := hr
    exact ⟨r1, by rw [this]; exact r2, r3⟩
  rw [← j30] at erow
  have cadd := c_Rows_add (w := w) (d := d) (rs_rw_is (G := G) (a := a) (X := X) (P := P) hr3) (rs_at (o := 4) (by decide)) (by decide) (by decide) (by omega)
  rw [erow] at cadd
  refine rz_blk' [(.aload_n 0, 1, 0, 0), (.aload_n 0, 1, 0, 0), (.getfield 14, 3, 6, 0), (.aload_n 0, 1, 0, 0), (.getfield 20, 3, 6, 1)] (by decide +kernel) (Nat.le_refl _) (Nat.le_refl _) (fun K R hK hR => ?_)
  simp only [↓rx_aload_n0, ↓rx_getfield, ↓rx_nil, ↓ry_fvs, ↓ry_fvz, ↓ry_lr0s, ↓ry_lr0z, ↓ry_obu, ↓ry_r1, ↓rs_ob, ↓rs_l2, ↓rs_i3, ↓rs_n3, ↓rs_l4, ↓rs_ob1, rz_set, rz_nol, rz_clr, List.set_cons_zero, List.set_cons_succ, rz_tr, Nat.reduceAdd, Int.reduceAdd, Int.reduceToNat, Int.reduceSub, Int.reduceNeg, Int.cast_ofNat_Int]
  refine hK _ _ _ _ ?_
  refine rz_cV (As := [.ref (a + 4)]) (b := a + 1) (S := [.ref a]) l_Res_136 (by decide +kernel) rfl (rs_at (o := 1) (by decide)) rfl (Nat.le_of_ble_eq_true rfl) (Nat.le_refl _) (Nat.le_refl _) (cadd) (fun r1 G' hr2 => ?_)
  have hfin : ∀ (I2 : Nat → Int32) (A2 : Nat → Nat → Int32) (J2 : Nat → Nat → Int64) (bb : Bool), rs_rw I2 A2 J2 (rs_k (ps, tm) (p, q, X 2, X 3)).1 → I2 0 = I 0 → I2 1 = I 1 → bb = !(rs_k (ps, tm) (p, q, X 2, X 3)).2 → rz_T w (d + 3) 0 0 m_Res_keep 0 0 79 [some (.ref a), some (.int (nI p)), some (.int (nI q))] [.int (rz_b bb), .ref a] (rs_put G a I2 A2 J2 X P) (fun r G' => r = none ∧ ∃ I' A' J', G' = rs_put G a I' A' J' X P ∧ rs_rw I' A' J' (rs_k (ps, tm) (p, q, X 2, X 3)).1 ∧ I' 0 = I 0 ∧ I' 1 = I 1 ∧ I' 2 = rz_b (rs_k (ps, tm) (p, q, X 2, X 3)).2) := by
    intro I2 A2 J2 bb t1 t2 t3 t4
    have hout : ∀ v : Int32, v = rz_b (rs_k (ps, tm) (p, q, X 2, X 3)).2 → rz_T w (d + 3) 0 0 m_Res_keep 0 0 87 [some (.ref a), some (.int (nI p)), some (.int (nI q))] [.int v, .ref a] (rs_put G a I2 A2 J2 X P) (fun r G' => r = none ∧ ∃ I' A' J', G' = rs_put G a I' A' J' X P ∧ rs_rw I' A' J' (rs_k (ps, tm) (p, q, X 2, X 3)).1 ∧ I' 0 = I 0 ∧ I' 1 = I 1 ∧ I' 2 = rz_b (rs_k (ps, tm) (p, q, X 2, X 3)).2) := by
      intro v hv
      refine rz_blk' [(.putfield 69, 3, 6, 9)] (by decide +kernel) (Nat.le_refl _) (Nat.le_refl _) (fun K R hK hR => ?_)
      simp only [List.length_cons, List.length_nil, Nat.reduceLT, rf_6_9, rf_6_9t, ↓rx_nil, ↓rx_putfield, ↓ry_obu, ↓ry_vr, true_and, ↓rs_ob, ↓rs_l2, ↓rs_i3, ↓rs_n3, ↓rs_l4, ↓rs_ob1, rs_u9, rz_set, rz_nol, rz_clr, List.set_cons_zero, List.set_cons_succ, rz_tr, Nat.reduceAdd, Int.reduceAdd, Int.reduceToNat, Int.reduceSub, Int.reduceNeg, Int.cast_ofNat_Int]
      refine ⟨?_, hK _ _ _ _ ?_⟩
      · rw [hv]; cases (rs_k (ps, tm) (p, q, X 2, X 3)).2
        · exact of_eq_true rf_6_9
        · exact of_eq_true rf_6_9t
      refine rz_blk' [(.return_, 1, 0, 0)] (by decide +kernel) (Nat.le_refl _) (Nat.le_refl _) (fun K R hK hR => ?_)
      simp only [↓rx_nil, ↓rx_return_, ↓rs_ob, ↓rs_l2, ↓rs_i3, ↓rs_n3, ↓rs_l4, ↓rs_ob1, rz_set, rz_nol, rz_clr, List.set_cons_zero, List.set_cons_succ, rz_tr, Nat.reduceAdd, Int.reduceAdd, Int.reduceToNat, Int.reduceSub, Int.reduceNeg, Int.cast_ofNat_Int]
      exact hR _ _ (rz_nb_i (by decide)) ⟨rfl, _, A2, J2, rfl, ⟨(pk_un (by decide)).trans t1.1, t1.2⟩, (pk_un (by decide)).trans t2, (pk_un (by decide)).trans t3, by rw [pk_us, hv]⟩
    refine rz_blk' [(.ifCond .ne 7, 3, 0, 0), (.iconst 1, 1, 0, 0), (.goto 4, 3, 0, 0), (.iconst 0, 1, 0, 0)] (by decide +kernel) (Nat.le_refl _) (Nat.le_refl _) (fun K R hK hR => ?_)
    simp only [rw_c0, rw_c1, ↓rx_goto, ↓rx_iconst, ↓rx_ifCond_ne, ↓rx_nil, ↓ry_i1, ↓rs_ob, ↓rs_l2, ↓rs_i3, ↓rs_n3, ↓rs_l4, ↓rs_ob1, rz_set, rz_nol, rz_clr, List.set_cons_zero, List.set_cons_succ, rz_tr, Nat.reduceAdd, Int.reduceAdd, Int.reduceToNat, Int.reduceSub, Int.reduceNeg, Int.cast_ofNat_Int]
    rw [rz_b_0]
    refine ⟨fun c => hK _ _ _ _ ?_, fun c => hK _ _ _ _ (hout _ ?_)⟩
    rotate_left
    · rw [c] at t4
      cases e : (rs_k (ps, tm) (p, q, X 2, X 3)).2 with
      | false => rw [e] at t4; cases t4
      | true => rfl
    refine rz_blk' [(.iconst 0, 1, 0, 0)] (by decide +kernel) (Nat.le_refl _) (Nat.le_refl _) (fun K R hK hR => ?_)
    simp only [rw_c0, ↓rx_iconst, ↓rx_nil, ↓rs_ob, ↓rs_l2, ↓rs_i3, ↓rs_n3, ↓rs_l4, ↓rs_ob1, rz_set, rz_nol, rz_clr, List.set_cons_zero, List.set_cons_succ, rz_tr, Nat.reduceAdd, Int.reduceAdd, Int.reduceToNat, Int.reduceSub, Int.reduceNeg, Int.cast_ofNat_Int]
    refine hK _ _ _ _ (hout _ ?_)
    cases e : (rs_k (ps, tm) (p, q, X 2, X 3)).2 with
    | false => rfl
    | true => rw [e] at t4; exact absurd t4 c
  have hml := rs_mem hr.2.2.2.2.2 hw
  rcases hr2 with ⟨q1, rfl, hg⟩ | ⟨q1, q2, rfl, hg⟩ | ⟨q1, q2, rfl, q4, q5⟩
  · have hg := hg.symm
    subst hg
    have e : rs_k (ps, tm) (p, q, X 2, X 3) = (ps, false) := by simp only [rs_k]; rw [if_pos (hml.mp q1)]
    exact hfin I A J3 true (by rw [e]; exact hr3) rfl rfl (by rw [e]; rfl)
  · have hg := hg.symm
    subst hg
    rw [List.length_map] at q2
    have e : rs_k (ps, tm) (p, q, X 2, X 3) = (ps, true) := by simp only [rs_k]; rw [if_neg (fun z => q1 (hml.mpr z)), if_neg (by omega)]
    exact hfin I A J3 false (by rw [e]; exact hr3) rfl rfl (by rw [e]; rfl)
  · rw [List.length_map] at q2
    have e : rs_k (ps, tm) (p, q, X 2, X 3) = (ps ++ [(p, q, X 2, X 3)], false) := by simp only [rs_k]; rw [if_neg (fun z => q1 (hml.mpr z)), if_pos q2]
    have q4' : rw_is G' (a + 1) 15 3000 13 ((ps ++ [(p, q, X 2, X 3)]).map rs_enc) := by rw [List.map_append]; exact q4
    obtain ⟨A2, J1', hg, hrw⟩ := rs_rw_put (fun v hv => by
      rcases List.mem_append.mp hv with z | z
      · exact hr.2.2.2.2.2 v z
      · simp at z; rw [z]; exact hw) q4' q5
    subst hg
    exact hfin _ _ _ true (by rw [e]; exact hrw) (pk_un (by decide)) (pk_un (by decide)) (by rw [e]; rfl)

