/-! WriterDesk$PairSearch: 304 cells. Ints: 0 nodes, 1 groups, 2 found. References that change: 0 left, 1 right. Arrays: 0 leftState, 1 rightState, 2 clash, 3 kept, 4 keptFirst, 5 groupBegin, 6 groupBefore, 7 groupLetter, 8 groupLength. Words: 0 leftWord, 1 rightWord, 2 + 2 i leftRest[i], 3 + 2 i rightRest[i]. -/
abbrev ps_fs (a : Nat) (I : Nat → Int32) (P : Nat → Nat) : List Value := [.ref (P 0), .ref (P 1), .int (I 0), .ref (a + 1), .ref (a + 2), .ref (a + 3), .ref (a + 4), .ref (a + 5), .ref (a + 6), .ref (a + 7), .int (I 1), .ref (a + 8), .ref (a + 9), .ref (a + 10), .ref (a + 11), .int (I 2), .ref (a + 12), .ref (a + 14)]
def ps_cell (a : Nat) (I : Nat → Int32) (A : Nat → Nat → Int32) (J : Nat → Nat → Int64) (X : Nat → List Nat) (P : Nat → Nat) (o : Nat) : rz_E := match o with
  | 0 => .inr (4, ps_fs a I P)
  | 1 => .inl (0, 72, .inl (A 0))
  | 2 => .inl (0, 72, .inl (A 1))
  | 3 => .inl (3, 72, .inl (A 2))
  | 4 => .inl (4, 72, .inr (.inr (.inr (.inr (fun i => some (a + (16 + 2 * (2 * i))))))))
  | 5 => .inl (4, 72, .inr (.inr (.inr (.inr (fun i => some (a + (16 + 2 * (2 * i + 1))))))))
  | 6 => .inl (0, 36, .inl (A 3))
  | 7 => .inl (0, 36, .inl (A 4))
  | 8 => .inl (0, 73, .inl (A 5))
  | 9 => .inl (0, 73, .inl (A 6))
  | 10 => .inl (0, 73, .inl (A 7))
  | 11 => .inl (0, 73, .inl (A 8))
  | 12 => wd_o (a + 12) (X 0)
  | 13 => wd_a 26 (X 0)
  | 14 => wd_o (a + 14) (X 1)
  | 15 => wd_a 26 (X 1)
  | o => if (o - 16) % 2 = 0 then wd_o (a + o) (X (2 + (o - 16) / 2)) else wd_a 26 (X (2 + (o - 16) / 2))
def ps_put (G : rz_G) (a : Nat) (I : Nat → Int32) (A : Nat → Nat → Int32) (J : Nat → Nat → Int64) (X : Nat → List Nat) (P : Nat → Nat) : rz_G := fun x => if a ≤ x ∧ x < a + 304 then some (ps_cell a I A J X P (x - a)) else G x
def ps_is (G : rz_G) (a : Nat) (I : Nat → Int32) (A : Nat → Nat → Int32) (J : Nat → Nat → Int64) (X : Nat → List Nat) (P : Nat → Nat) : Prop := ∀ o, o < 304 → G (a + o) = some (ps_cell a I A J X P o)
theorem ps_at {G : rz_G} {a : Nat} {I : Nat → Int32} {A : Nat → Nat → Int32} {J : Nat → Nat → Int64} {X : Nat → List Nat} {P : Nat → Nat} {o : Nat} (h : o < 304) : ps_put G a I A J X P (a + o) = some (ps_cell a I A J X P o) := by
  simp only [ps_put]; rw [if_pos (by omega), Nat.add_sub_cancel_left]
theorem ps_at0 {G : rz_G} {a : Nat} {I : Nat → Int32} {A : Nat → Nat → Int32} {J : Nat → Nat → Int64} {X : Nat → List Nat} {P : Nat → Nat} : ps_put G a I A J X P a = some (.inr (4, ps_fs a I P)) := ps_at (o := 0) (by decide)
theorem ps_out {G : rz_G} {a : Nat} {I : Nat → Int32} {A : Nat → Nat → Int32} {J : Nat → Nat → Int64} {X : Nat → List Nat} {P : Nat → Nat} {x : Nat} (h : x < a ∨ a + 304 ≤ x) : ps_put G a I A J X P x = G x := by simp only [ps_put]; rw [if_neg (by omega)]
theorem ps_id {G : rz_G} {a : Nat} {I : Nat → Int32} {A : Nat → Nat → Int32} {J : Nat → Nat → Int64} {X : Nat → List Nat} {P : Nat → Nat} (h : ps_is G a I A J X P) : ps_put G a I A J X P = G := by
  funext x
  simp only [ps_put]
  split
  · next q => rw [← h (x - a) (by omega)]; congr 1; omega
  · rfl
theorem ps_put_is {G : rz_G} {a : Nat} {I : Nat → Int32} {A : Nat → Nat → Int32} {J : Nat → Nat → Int64} {X : Nat → List Nat} {P : Nat → Nat} : ps_is (ps_put G a I A J X P) a I A J X P := fun o ho => ps_at ho
theorem ps_put2 {G : rz_G} {a : Nat} {I : Nat → Int32} {A : Nat → Nat → Int32} {J : Nat → Nat → Int64} {X : Nat → List Nat} {P : Nat → Nat} {I' : Nat → Int32} {A' : Nat → Nat → Int32} {J' : Nat → Nat → Int64} {X' : Nat → List Nat} {P' : Nat → Nat} : ps_put (ps_put G a I A J X P) a I' A' J' X' P' = ps_put G a I' A' J' X' P' := by
  funext x; simp only [ps_put]; split <;> simp_all
theorem ps_eq {G : rz_G} {a : Nat} {I : Nat → Int32} {A : Nat → Nat → Int32} {J : Nat → Nat → Int64} {X : Nat → List Nat} {P : Nat → Nat} {I' : Nat → Int32} {A' : Nat → Nat → Int32} {J' : Nat → Nat → Int64} {X' : Nat → List Nat} {P' : Nat → Nat} (h : ∀ o, o < 304 → ps_cell a I A J X P o = ps_cell a I' A' J' X' P' o) : ps_put G a I A J X P = ps_put G a I' A' J' X' P' := by
  funext x; simp only [ps_put]; split
  · next q => rw [h (x - a) (by omega)]
  · rfl
theorem ps_upc {G : rz_G} {a : Nat} {I : Nat → Int32} {A : Nat → Nat → Int32} {J : Nat → Nat → Int64} {X : Nat → List Nat} {P : Nat → Nat} {I' : Nat → Int32} {A' : Nat → Nat → Int32} {J' : Nat → Nat → Int64} {X' : Nat → List Nat} {P' : Nat → Nat} {k : Nat} {e : rz_E} (hk : k < 304) (he : ps_cell a I' A' J' X' P' k = e) (h : ∀ o, o < 304 → o ≠ k → ps_cell a I' A' J' X' P' o = ps_cell a I A J X P o) : rz_up (ps_put G a I A J X P) (a + k) e = ps_put G a I' A' J' X' P' := by
  funext x
  simp only [ps_put, rz_up]
  by_cases q : x = a + k
  · subst q; rw [if_pos rfl, if_pos (by omega), Nat.add_sub_cancel_left, he]
  · rw [if_neg q]
    split
    · next q2 => rw [h (x - a) (by omega) (by omega)]
    · rfl
theorem ps_ob {G : rz_G} {a : Nat} {I : Nat → Int32} {A : Nat → Nat → Int32} {J : Nat → Nat → Int64} {X : Nat → List Nat} {P : Nat → Nat} {f : List Value → Prop} : rz_ob (ps_put G a I A J X P) a 4 f = f (ps_fs a I P) := rh_ob ps_at0
theorem ps_i1 {G : rz_G} {a : Nat} {I : Nat → Int32} {A : Nat → Nat → Int32} {J : Nat → Nat → Int64} {X : Nat → List Nat} {P : Nat → Nat} {f : Nat → Nat → (Nat → Int32) → Prop} : rz_ia (ps_put G a I A J X P) (a + 1) f = f 0 72 (A 0) := rh_ia (ps_at (o := 1) (by decide))
theorem ps_n1 {G : rz_G} {a : Nat} {I : Nat → Int32} {A : Nat → Nat → Int32} {J : Nat → Nat → Int64} {X : Nat → List Nat} {P : Nat → Nat} {f : Nat → Nat → Prop} : rz_aa (ps_put G a I A J X P) (a + 1) f = f 0 72 := rh_aa (ps_at (o := 1) (by decide))
theorem ps_i2 {G : rz_G} {a : Nat} {I : Nat → Int32} {A : Nat → Nat → Int32} {J : Nat → Nat → Int64} {X : Nat → List Nat} {P : Nat → Nat} {f : Nat → Nat → (Nat → Int32) → Prop} : rz_ia (ps_put G a I A J X P) (a + 2) f = f 0 72 (A 1) := rh_ia (ps_at (o := 2) (by decide))
theorem ps_n2 {G : rz_G} {a : Nat} {I : Nat → Int32} {A : Nat → Nat → Int32} {J : Nat → Nat → Int64} {X : Nat → List Nat} {P : Nat → Nat} {f : Nat → Nat → Prop} : rz_aa (ps_put G a I A J X P) (a + 2) f = f 0 72 := rh_aa (ps_at (o := 2) (by decide))
theorem ps_i3 {G : rz_G} {a : Nat} {I : Nat → Int32} {A : Nat → Nat → Int32} {J : Nat → Nat → Int64} {X : Nat → List Nat} {P : Nat → Nat} {f : Nat → Nat → (Nat → Int32) → Prop} : rz_ia (ps_put G a I A J X P) (a + 3) f = f 3 72 (A 2) := rh_ia (ps_at (o := 3) (by decide))
theorem ps_n3 {G : rz_G} {a : Nat} {I : Nat → Int32} {A : Nat → Nat → Int32} {J : Nat → Nat → Int64} {X : Nat → List Nat} {P : Nat → Nat} {f : Nat → Nat → Prop} : rz_aa (ps_put G a I A J X P) (a + 3) f = f 3 72 := rh_aa (ps_at (o := 3) (by decide))
theorem ps_r4 {G : rz_G} {a : Nat} {I : Nat → Int32} {A : Nat → Nat → Int32} {J : Nat → Nat → Int64} {X : Nat → List Nat} {P : Nat → Nat} {f : Nat → Nat → (Nat → Option Nat) → Prop} : rz_ra (ps_put G a I A J X P) (a + 4) f = f 4 72 (fun i => some (a + (16 + 2 * (2 * i)))) := rh_ra (ps_at (o := 4) (by decide))
theorem ps_r5 {G : rz_G} {a : Nat} {I : Nat → Int32} {A : Nat → Nat → Int32} {J : Nat → Nat → Int64} {X : Nat → List Nat} {P : Nat → Nat} {f : Nat → Nat → (Nat → Option Nat) → Prop} : rz_ra (ps_put G a I A J X P) (a + 5) f = f 4 72 (fun i => some (a + (16 + 2 * (2 * i + 1)))) := rh_ra (ps_at (o := 5) (by decide))
theorem ps_i6 {G : rz_G} {a : Nat} {I : Nat → Int32} {A : Nat → Nat → Int32} {J : Nat → Nat → Int64} {X : Nat → List Nat} {P : Nat → Nat} {f : Nat → Nat → (Nat → Int32) → Prop} : rz_ia (ps_put G a I A J X P) (a + 6) f = f 0 36 (A 3) := rh_ia (ps_at (o := 6) (by decide))
theorem ps_n6 {G : rz_G} {a : Nat} {I : Nat → Int32} {A : Nat → Nat → Int32} {J : Nat → Nat → Int64} {X : Nat → List Nat} {P : Nat → Nat} {f : Nat → Nat → Prop} : rz_aa (ps_put G a I A J X P) (a + 6) f = f 0 36 := rh_aa (ps_at (o := 6) (by decide))
theorem ps_i7 {G : rz_G} {a : Nat} {I : Nat → Int32} {A : Nat → Nat → Int32} {J : Nat → Nat → Int64} {X : Nat → List Nat} {P : Nat → Nat} {f : Nat → Nat → (Nat → Int32) → Prop} : rz_ia (ps_put G a I A J X P) (a + 7) f = f 0 36 (A 4) := rh_ia (ps_at (o := 7) (by decide))
theorem ps_n7 {G : rz_G} {a : Nat} {I : Nat → Int32} {A : Nat → Nat → Int32} {J : Nat → Nat → Int64} {X : Nat → List Nat} {P : Nat → Nat} {f : Nat → Nat → Prop} : rz_aa (ps_put G a I A J X P) (a + 7) f = f 0 36 := rh_aa (ps_at (o := 7) (by decide))
theorem ps_i8 {G : rz_G} {a : Nat} {I : Nat → Int32} {A : Nat → Nat → Int32} {J : Nat → Nat → Int64} {X : Nat → List Nat} {P : Nat → Nat} {f : Nat → Nat → (Nat → Int32) → Prop} : rz_ia (ps_put G a I A J X P) (a + 8) f = f 0 73 (A 5) := rh_ia (ps_at (o := 8) (by decide))
theorem ps_n8 {G : rz_G} {a : Nat} {I : Nat → Int32} {A : Nat → Nat → Int32} {J : Nat → Nat → Int64} {X : Nat → List Nat} {P : Nat → Nat} {f : Nat → Nat → Prop} : rz_aa (ps_put G a I A J X P) (a + 8) f = f 0 73 := rh_aa (ps_at (o := 8) (by decide))
theorem ps_i9 {G : rz_G} {a : Nat} {I : Nat → Int32} {A : Nat → Nat → Int32} {J : Nat → Nat → Int64} {X : Nat → List Nat} {P : Nat → Nat} {f : Nat → Nat → (Nat → Int32) → Prop} : rz_ia (ps_put G a I A J X P) (a + 9) f = f 0 73 (A 6) := rh_ia (ps_at (o := 9) (by decide))
theorem ps_n9 {G : rz_G} {a : Nat} {I : Nat → Int32} {A : Nat → Nat → Int32} {J : Nat → Nat → Int64} {X : Nat → List Nat} {P : Nat → Nat} {f : Nat → Nat → Prop} : rz_aa (ps_put G a I A J X P) (a + 9) f = f 0 73 := rh_aa (ps_at (o := 9) (by decide))
theorem ps_i10 {G : rz_G} {a : Nat} {I : Nat → Int32} {A : Nat → Nat → Int32} {J : Nat → Nat → Int64} {X : Nat → List Nat} {P : Nat → Nat} {f : Nat → Nat → (Nat → Int32) → Prop} : rz_ia (ps_put G a I A J X P) (a + 10) f = f 0 73 (A 7) := rh_ia (ps_at (o := 10) (by decide))
theorem ps_n10 {G : rz_G} {a : Nat} {I : Nat → Int32} {A : Nat → Nat → Int32} {J : Nat → Nat → Int64} {X : Nat → List Nat} {P : Nat → Nat} {f : Nat → Nat → Prop} : rz_aa (ps_put G a I A J X P) (a + 10) f = f 0 73 := rh_aa (ps_at (o := 10) (by decide))
theorem ps_i11 {G : rz_G} {a : Nat} {I : Nat → Int32} {A : Nat → Nat → Int32} {J : Nat → Nat → Int64} {X : Nat → List Nat} {P : Nat → Nat} {f : Nat → Nat → (Nat → Int32) → Prop} : rz_ia (ps_put G a I A J X P) (a + 11) f = f 0 73 (A 8) := rh_ia (ps_at (o := 11) (by decide))
theorem ps_n11 {G : rz_G} {a : Nat} {I : Nat → Int32} {A : Nat → Nat → Int32} {J : Nat → Nat → Int64} {X : Nat → List Nat} {P : Nat → Nat} {f : Nat → Nat → Prop} : rz_aa (ps_put G a I A J X P) (a + 11) f = f 0 73 := rh_aa (ps_at (o := 11) (by decide))
theorem ps_u0 {G : rz_G} {a : Nat} {I : Nat → Int32} {A : Nat → Nat → Int32} {J : Nat → Nat → Int64} {X : Nat → List Nat} {P : Nat → Nat} {v : Nat} : rz_up (ps_put G a I A J X P) a (.inr (4, [.ref v, .ref (P 1), .int (I 0), .ref (a + 1), .ref (a + 2), .ref (a + 3), .ref (a + 4), .ref (a + 5), .ref (a + 6), .ref (a + 7), .int (I 1), .ref (a + 8), .ref (a + 9), .ref (a + 10), .ref (a + 11), .int (I 2), .ref (a + 12), .ref (a + 14)])) = ps_put G a I A J X (va_up P 0 v) := ps_upc (k := 0) (by decide) rfl (fun o ho hne => by match o, hne with | 0, h => exact absurd rfl h | 1, _ => rfl | 2, _ => rfl | 3, _ => rfl | 4, _ => rfl | 5, _ => rfl | 6, _ => rfl | 7, _ => rfl | 8, _ => rfl | 9, _ => rfl | 10, _ => rfl | 11, _ => rfl | 12, _ => rfl | 13, _ => rfl | 14, _ => rfl | 15, _ => rfl | o + 16, _ => rfl)
theorem ps_u1 {G : rz_G} {a : Nat} {I : Nat → Int32} {A : Nat → Nat → Int32} {J : Nat → Nat → Int64} {X : Nat → List Nat} {P : Nat → Nat} {v : Nat} : rz_up (ps_put G a I A J X P) a (.inr (4, [.ref (P 0), .ref v, .int (I 0), .ref (a + 1), .ref (a + 2), .ref (a + 3), .ref (a + 4), .ref (a + 5), .ref (a + 6), .ref (a + 7), .int (I 1), .ref (a + 8), .ref (a + 9), .ref (a + 10), .ref (a + 11), .int (I 2), .ref (a + 12), .ref (a + 14)])) = ps_put G a I A J X (va_up P 1 v) := ps_upc (k := 0) (by decide) rfl (fun o ho hne => by match o, hne with | 0, h => exact absurd rfl h | 1, _ => rfl | 2, _ => rfl | 3, _ => rfl | 4, _ => rfl | 5, _ => rfl | 6, _ => rfl | 7, _ => rfl | 8, _ => rfl | 9, _ => rfl | 10, _ => rfl | 11, _ => rfl | 12, _ => rfl | 13, _ => rfl | 14, _ => rfl | 15, _ => rfl | o + 16, _ => rfl)
theorem ps_u2 {G : rz_G} {a : Nat} {I : Nat → Int32} {A : Nat → Nat → Int32} {J : Nat → Nat → Int64} {X : Nat → List Nat} {P : Nat → Nat} {v : Int32} : rz_up (ps_put G a I A J X P) a (.inr (4, [.ref (P 0), .ref (P 1), .int v, .ref (a + 1), .ref (a + 2), .ref (a + 3), .ref (a + 4), .ref (a + 5), .ref (a + 6), .ref (a + 7), .int (I 1), .ref (a + 8), .ref (a + 9), .ref (a + 10), .ref (a + 11), .int (I 2), .ref (a + 12), .ref (a + 14)])) = ps_put G a (upd I 0 v) A J X P := ps_upc (k := 0) (by decide) rfl (fun o ho hne => by match o, hne with | 0, h => exact absurd rfl h | 1, _ => rfl | 2, _ => rfl | 3, _ => rfl | 4, _ => rfl | 5, _ => rfl | 6, _ => rfl | 7, _ => rfl | 8, _ => rfl | 9, _ => rfl | 10, _ => rfl | 11, _ => rfl | 12, _ => rfl | 13, _ => rfl | 14, _ => rfl | 15, _ => rfl | o + 16, _ => rfl)
theorem ps_u10 {G : rz_G} {a : Nat} {I : Nat → Int32} {A : Nat → Nat → Int32} {J : Nat → Nat → Int64} {X : Nat → List Nat} {P : Nat → Nat} {v : Int32} : rz_up (ps_put G a I A J X P) a (.inr (4, [.ref (P 0), .ref (P 1), .int (I 0), .ref (a + 1), .ref (a + 2), .ref (a + 3), .ref (a + 4), .ref (a + 5), .ref (a + 6), .ref (a + 7), .int v, .ref (a + 8), .ref (a + 9), .ref (a + 10), .ref (a + 11), .int (I 2), .ref (a + 12), .ref (a + 14)])) = ps_put G a (upd I 1 v) A J X P := ps_upc (k := 0) (by decide) rfl (fun o ho hne => by match o, hne with | 0, h => exact absurd rfl h | 1, _ => rfl | 2, _ => rfl | 3, _ => rfl | 4, _ => rfl | 5, _ => rfl | 6, _ => rfl | 7, _ => rfl | 8, _ => rfl | 9, _ => rfl | 10, _ => rfl | 11, _ => rfl | 12, _ => rfl | 13, _ => rfl | 14, _ => rfl | 15, _ => rfl | o + 16, _ => rfl)
theorem ps_u15 {G : rz_G} {a : Nat} {I : Nat → Int32} {A : Nat → Nat → Int32} {J : Nat → Nat → Int64} {X : Nat → List Nat} {P : Nat → Nat} {v : Int32} : rz_up (ps_put G a I A J X P) a (.inr (4, [.ref (P 0), .ref (P 1), .int (I 0), .ref (a + 1), .ref (a + 2), .ref (a + 3), .ref (a + 4), .ref (a + 5), .ref (a + 6), .ref (a + 7), .int (I 1), .ref (a + 8), .ref (a + 9), .ref (a + 10), .ref (a + 11), .int v, .ref (a + 12), .ref (a + 14)])) = ps_put G a (upd I 2 v) A J X P := ps_upc (k := 0) (by decide) rfl (fun o ho hne => by match o, hne with | 0, h => exact absurd rfl h | 1, _ => rfl | 2, _ => rfl | 3, _ => rfl | 4, _ => rfl | 5, _ => rfl | 6, _ => rfl | 7, _ => rfl | 8, _ => rfl | 9, _ => rfl | 10, _ => rfl | 11, _ => rfl | 12, _ => rfl | 13, _ => rfl | 14, _ => rfl | 15, _ => rfl | o + 16, _ => rfl)
theorem ps_a1 {G : rz_G} {a : Nat} {I : Nat → Int32} {A : Nat → Nat → Int32} {J : Nat → Nat → Int64} {X : Nat → List Nat} {P : Nat → Nat} {g : Nat → Int32} : rz_up (ps_put G a I A J X P) (a + 1) (.inl (0, 72, .inl g)) = ps_put G a I (va_up A 0 g) J X P := ps_upc (k := 1) (by decide) rfl (fun o ho hne => by match o, hne with | 0, _ => rfl | 1, h => exact absurd rfl h | 2, _ => rfl | 3, _ => rfl | 4, _ => rfl | 5, _ => rfl | 6, _ => rfl | 7, _ => rfl | 8, _ => rfl | 9, _ => rfl | 10, _ => rfl | 11, _ => rfl | 12, _ => rfl | 13, _ => rfl | 14, _ => rfl | 15, _ => rfl | o + 16, _ => rfl)
theorem ps_a2 {G : rz_G} {a : Nat} {I : Nat → Int32} {A : Nat → Nat → Int32} {J : Nat → Nat → Int64} {X : Nat → List Nat} {P : Nat → Nat} {g : Nat → Int32} : rz_up (ps_put G a I A J X P) (a + 2) (.inl (0, 72, .inl g)) = ps_put G a I (va_up A 1 g) J X P := ps_upc (k := 2) (by decide) rfl (fun o ho hne => by match o, hne with | 0, _ => rfl | 1, _ => rfl | 2, h => exact absurd rfl h | 3, _ => rfl | 4, _ => rfl | 5, _ => rfl | 6, _ => rfl | 7, _ => rfl | 8, _ => rfl | 9, _ => rfl | 10, _ => rfl | 11, _ => rfl | 12, _ => rfl | 13, _ => rfl | 14, _ => rfl | 15, _ => rfl | o + 16, _ => rfl)
theorem ps_a3 {G : rz_G} {a : Nat} {I : Nat → Int32} {A : Nat → Nat → Int32} {J : Nat → Nat → Int64} {X : Nat → List Nat} {P : Nat → Nat} {g : Nat → Int32} : rz_up (ps_put G a I A J X P) (a + 3) (.inl (3, 72, .inl g)) = ps_put G a I (va_up A 2 g) J X P := ps_upc (k := 3) (by decide) rfl (fun o ho hne => by match o, hne with | 0, _ => rfl | 1, _ => rfl | 2, _ => rfl | 3, h => exact absurd rfl h | 4, _ => rfl | 5, _ => rfl | 6, _ => rfl | 7, _ => rfl | 8, _ => rfl | 9, _ => rfl | 10, _ => rfl | 11, _ => rfl | 12, _ => rfl | 13, _ => rfl | 14, _ => rfl | 15, _ => rfl | o + 16, _ => rfl)
theorem ps_a6 {G : rz_G} {a : Nat} {I : Nat → Int32} {A : Nat → Nat → Int32} {J : Nat → Nat → Int64} {X : Nat → List Nat} {P : Nat → Nat} {g : Nat → Int32} : rz_up (ps_put G a I A J X P) (a + 6) (.inl (0, 36, .inl g)) = ps_put G a I (va_up A 3 g) J X P := ps_upc (k := 6) (by decide) rfl (fun o ho hne => by match o, hne with | 0, _ => rfl | 1, _ => rfl | 2, _ => rfl | 3, _ => rfl | 4, _ => rfl | 5, _ => rfl | 6, h => exact absurd rfl h | 7, _ => rfl | 8, _ => rfl | 9, _ => rfl | 10, _ => rfl | 11, _ => rfl | 12, _ => rfl | 13, _ => rfl | 14, _ => rfl | 15, _ => rfl | o + 16, _ => rfl)
theorem ps_a7 {G : rz_G} {a : Nat} {I : Nat → Int32} {A : Nat → Nat → Int32} {J : Nat → Nat → Int64} {X : Nat → List Nat} {P : Nat → Nat} {g : Nat → Int32} : rz_up (ps_put G a I A J X P) (a + 7) (.inl (0, 36, .inl g)) = ps_put G a I (va_up A 4 g) J X P := ps_upc (k := 7) (by decide) rfl (fun o ho hne => by match o, hne with | 0, _ => rfl | 1, _ => rfl | 2, _ => rfl | 3, _ => rfl | 4, _ => rfl | 5, _ => rfl | 6, _ => rfl | 7, h => exact absurd rfl h | 8, _ => rfl | 9, _ => rfl | 10, _ => rfl | 11, _ => rfl | 12, _ => rfl | 13, _ => rfl | 14, _ => rfl | 15, _ => rfl | o + 16, _ => rfl)
theorem ps_a8 {G : rz_G} {a : Nat} {I : Nat → Int32} {A : Nat → Nat → Int32} {J : Nat → Nat → Int64} {X : Nat → List Nat} {P : Nat → Nat} {g : Nat → Int32} : rz_up (ps_put G a I A J X P) (a + 8) (.inl (0, 73, .inl g)) = ps_put G a I (va_up A 5 g) J X P := ps_upc (k := 8) (by decide) rfl (fun o ho hne => by match o, hne with | 0, _ => rfl | 1, _ => rfl | 2, _ => rfl | 3, _ => rfl | 4, _ => rfl | 5, _ => rfl | 6, _ => rfl | 7, _ => rfl | 8, h => exact absurd rfl h | 9, _ => rfl | 10, _ => rfl | 11, _ => rfl | 12, _ => rfl | 13, _ => rfl | 14, _ => rfl | 15, _ => rfl | o + 16, _ => rfl)
theorem ps_a9 {G : rz_G} {a : Nat} {I : Nat → Int32} {A : Nat → Nat → Int32} {J : Nat → Nat → Int64} {X : Nat → List Nat} {P : Nat → Nat} {g : Nat → Int32} : rz_up (ps_put G a I A J X P) (a + 9) (.inl (0, 73, .inl g)) = ps_put G a I (va_up A 6 g) J X P := ps_upc (k := 9) (by decide) rfl (fun o ho hne => by match o, hne with | 0, _ => rfl | 1, _ => rfl | 2, _ => rfl | 3, _ => rfl | 4, _ => rfl | 5, _ => rfl | 6, _ => rfl | 7, _ => rfl | 8, _ => rfl | 9, h => exact absurd rfl h | 10, _ => rfl | 11, _ => rfl | 12, _ => rfl | 13, _ => rfl | 14, _ => rfl | 15, _ => rfl | o + 16, _ => rfl)
theorem ps_a10 {G : rz_G} {a : Nat} {I : Nat → Int32} {A : Nat → Nat → Int32} {J : Nat → Nat → Int64} {X : Nat → List Nat} {P : Nat → Nat} {g : Nat → Int32} : rz_up (ps_put G a I A J X P) (a + 10) (.inl (0, 73, .inl g)) = ps_put G a I (va_up A 7 g) J X P := ps_upc (k := 10) (by decide) rfl (fun o ho hne => by match o, hne with | 0, _ => rfl | 1, _ => rfl | 2, _ => rfl | 3, _ => rfl | 4, _ => rfl | 5, _ => rfl | 6, _ => rfl | 7, _ => rfl | 8, _ => rfl | 9, _ => rfl | 10, h => exact absurd rfl h | 11, _ => rfl | 12, _ => rfl | 13, _ => rfl | 14, _ => rfl | 15, _ => rfl | o + 16, _ => rfl)
theorem ps_a11 {G : rz_G} {a : Nat} {I : Nat → Int32} {A : Nat → Nat → Int32} {J : Nat → Nat → Int64} {X : Nat → List Nat} {P : Nat → Nat} {g : Nat → Int32} : rz_up (ps_put G a I A J X P) (a + 11) (.inl (0, 73, .inl g)) = ps_put G a I (va_up A 8 g) J X P := ps_upc (k := 11) (by decide) rfl (fun o ho hne => by match o, hne with | 0, _ => rfl | 1, _ => rfl | 2, _ => rfl | 3, _ => rfl | 4, _ => rfl | 5, _ => rfl | 6, _ => rfl | 7, _ => rfl | 8, _ => rfl | 9, _ => rfl | 10, _ => rfl | 11, h => exact absurd rfl h | 12, _ => rfl | 13, _ => rfl | 14, _ => rfl | 15, _ => rfl | o + 16, _ => rfl)
theorem ps_xc {G : rz_G} {a : Nat} {I : Nat → Int32} {A : Nat → Nat → Int32} {J : Nat → Nat → Int64} {X : Nat → List Nat} {P : Nat → Nat} {xs : List Nat} {k : Nat} {o : Nat} (ho : o < 304) (h12 : k = 0 → o ≠ 12 ∧ o ≠ 13) (h14 : k = 1 → o ≠ 14 ∧ o ≠ 15) (hw : 2 ≤ k → o ≠ 16 + 2 * (k - 2) ∧ o ≠ 16 + 2 * (k - 2) + 1) : ps_cell a I A J (va_up X k xs) P o = ps_cell a I A J X P o := by
  by_cases c : o < 16
  · match o, c with
    | 0, _ => rfl
    | 1, _ => rfl
    | 2, _ => rfl
    | 3, _ => rfl
    | 4, _ => rfl
    | 5, _ => rfl
    | 6, _ => rfl
    | 7, _ => rfl
    | 8, _ => rfl
    | 9, _ => rfl
    | 10, _ => rfl
    | 11, _ => rfl
    | 12, _ =>
      have e : va_up X k xs 0 = X 0 := va_up_ne _ _ (fun q => (h12 q.symm).1 rfl)
      show wd_o (a + 12) (va_up X k xs 0) = wd_o (a + 12) (X 0)
      rw [e]
    | 13, _ =>
      have e : va_up X k xs 0 = X 0 := va_up_ne _ _ (fun q => (h12 q.symm).2 rfl)
      show wd_a 26 (va_up X k xs 0) = wd_a 26 (X 0)
      rw [e]
    | 14, _ =>
      have e : va_up X k xs 1 = X 1 := va_up_ne _ _ (fun q => (h14 q.symm).1 rfl)
      show wd_o (a + 14) (va_up X k xs 1) = wd_o (a + 14) (X 1)
      rw [e]
    | 15, _ =>
      have e : va_up X k xs 1 = X 1 := va_up_ne _ _ (fun q => (h14 q.symm).2 rfl)
      show wd_a 26 (va_up X k xs 1) = wd_a 26 (X 1)
      rw [e]
    | o + 16, c => exact absurd c (by omega)
  · obtain ⟨j, hj⟩ : ∃ j, o = j + 16 := ⟨o - 16, by omega⟩
    subst hj
    show (if (j + 16 - 16) % 2 = 0 then wd_o (a + (j + 16)) (va_up X k xs (2 + (j + 16 - 16) / 2)) else wd_a 26 (va_up X k xs (2 + (j + 16 - 16) / 2))) = (if (j + 16 - 16) % 2 = 0 then wd_o (a + (j + 16)) (X (2 + (j + 16 - 16) / 2)) else wd_a 26 (X (2 + (j + 16 - 16) / 2)))
    have e : va_up X k xs (2 + (j + 16 - 16) / 2) = X (2 + (j + 16 - 16) / 2) := va_up_ne _ _ (fun q => by have := hw (by omega); omega)
    rw [e]
theorem ps_wi12 {G : rz_G} {a : Nat} {I : Nat → Int32} {A : Nat → Nat → Int32} {J : Nat → Nat → Int64} {X : Nat → List Nat} {P : Nat → Nat} (hX : wd_ok 26 (X 0)) : wd_is (ps_put G a I A J X P) (a + 12) 26 (X 0) := ⟨ps_at (o := 12) (by decide), ps_at (o := 13) (by decide), hX⟩
theorem ps_wp12 {G : rz_G} {a : Nat} {I : Nat → Int32} {A : Nat → Nat → Int32} {J : Nat → Nat → Int64} {X : Nat → List Nat} {P : Nat → Nat} {xs : List Nat}  : wd_put (ps_put G a I A J X P) (a + 12) 26 xs = ps_put G a I A J (va_up X 0 xs) P := by
  funext x
  simp only [wd_put, rz_up]
  by_cases c1 : x = a + 12 + 1
  · rw [if_pos c1, c1, Nat.add_assoc, ps_at (by omega)]
    exact congrArg some ((show ps_cell a I A J (va_up X 0 xs) P (12 + 1) = wd_a 26 xs by show wd_a 26 (va_up X 0 xs 0) = _; rw [va_up_self])).symm
  · rw [if_neg c1]
    by_cases c2 : x = a + 12
    · rw [if_pos c2, c2, ps_at (by omega)]
      exact congrArg some ((show ps_cell a I A J (va_up X 0 xs) P 12 = wd_o (a + 12) xs by show wd_o (a + 12) (va_up X 0 xs 0) = _; rw [va_up_self])).symm
    · rw [if_neg c2]
      simp only [ps_put]
      split
      · next q => rw [ps_xc (G := G) (by omega) (fun q2 => by omega) (fun q2 => by omega) (fun q2 => by omega)]
      · rfl
theorem ps_wi14 {G : rz_G} {a : Nat} {I : Nat → Int32} {A : Nat → Nat → Int32} {J : Nat → Nat → Int64} {X : Nat → List Nat} {P : Nat → Nat} (hX : wd_ok 26 (X 1)) : wd_is (ps_put G a I A J X P) (a + 14) 26 (X 1) := ⟨ps_at (o := 14) (by decide), ps_at (o := 15) (by decide), hX⟩
theorem ps_wp14 {G : rz_G} {a : Nat} {I : Nat → Int32} {A : Nat → Nat → Int32} {J : Nat → Nat → Int64} {X : Nat → List Nat} {P : Nat → Nat} {xs : List Nat}  : wd_put (ps_put G a I A J X P) (a + 14) 26 xs = ps_put G a I A J (va_up X 1 xs) P := by
  funext x
  simp only [wd_put, rz_up]
  by_cases c1 : x = a + 14 + 1
  · rw [if_pos c1, c1, Nat.add_assoc, ps_at (by omega)]
    exact congrArg some ((show ps_cell a I A J (va_up X 1 xs) P (14 + 1) = wd_a 26 xs by show wd_a 26 (va_up X 1 xs 1) = _; rw [va_up_self])).symm
  · rw [if_neg c1]
    by_cases c2 : x = a + 14
    · rw [if_pos c2, c2, ps_at (by omega)]
      exact congrArg some ((show ps_cell a I A J (va_up X 1 xs) P 14 = wd_o (a + 14) xs by show wd_o (a + 14) (va_up X 1 xs 1) = _; rw [va_up_self])).symm
    · rw [if_neg c2]
      simp only [ps_put]
      split
      · next q => rw [ps_xc (G := G) (by omega) (fun q2 => by omega) (fun q2 => by omega) (fun q2 => by omega)]
      · rfl
theorem ps_cj0 {G : rz_G} {a : Nat} {I : Nat → Int32} {A : Nat → Nat → Int32} {J : Nat → Nat → Int64} {X : Nat → List Nat} {P : Nat → Nat} {j : Nat} (hj : j < 144) : ps_cell a I A J X P (16 + 2 * j) = wd_o (a + (16 + 2 * j)) (X (2 + j)) := by
  rw [show 16 + 2 * j = (2 * j + 0) + 16 by omega]
  show (if (2 * j + 0 + 16 - 16) % 2 = 0 then _ else _) = _
  rw [if_pos (by omega)]
  simp only [show (2 * j + 0 + 16 - 16) / 2 = j by omega]
theorem ps_cj1 {G : rz_G} {a : Nat} {I : Nat → Int32} {A : Nat → Nat → Int32} {J : Nat → Nat → Int64} {X : Nat → List Nat} {P : Nat → Nat} {j : Nat} (hj : j < 144) : ps_cell a I A J X P (16 + 2 * j + 1) = wd_a 26 (X (2 + j)) := by
  rw [show 16 + 2 * j + 1 = (2 * j + 1 + 0) + 16 by omega]
  show (if (2 * j + 1 + 0 + 16 - 16) % 2 = 0 then _ else _) = _
  rw [if_neg (by omega)]
  simp only [show (2 * j + 1 + 0 + 16 - 16) / 2 = j by omega]
theorem ps_wi {G : rz_G} {a : Nat} {I : Nat → Int32} {A : Nat → Nat → Int32} {J : Nat → Nat → Int64} {X : Nat → List Nat} {P : Nat → Nat} {j : Nat} (hj : j < 144) (hX : wd_ok 26 (X (2 + j))) : wd_is (ps_put G a I A J X P) (a + (16 + 2 * j)) 26 (X (2 + j)) := by
  refine ⟨?_, ?_, hX⟩
  · rw [ps_at (by omega), ps_cj0 (G := G) hj]
  · rw [Nat.add_assoc, ps_at (by omega), ps_cj1 (G := G) hj]
theorem ps_wp {G : rz_G} {a : Nat} {I : Nat → Int32} {A : Nat → Nat → Int32} {J : Nat → Nat → Int64} {X : Nat → List Nat} {P : Nat → Nat} {xs : List Nat} {j : Nat} (hj : j < 144) : wd_put (ps_put G a I A J X P) (a + (16 + 2 * j)) 26 xs = ps_put G a I A J (va_up X (2 + j) xs) P := by
  funext x
  simp only [wd_put, rz_up]
  by_cases c1 : x = a + (16 + 2 * j) + 1
  · rw [if_pos c1, c1, Nat.add_assoc, ps_at (by omega)]
    exact congrArg some ((by rw [ps_cj1 (G := G) hj, va_up_self] : ps_cell a I A J (va_up X (2 + j) xs) P (16 + 2 * j + 1) = wd_a 26 xs)).symm
  · rw [if_neg c1]
    by_cases c2 : x = a + (16 + 2 * j)
    · rw [if_pos c2, c2, ps_at (by omega)]
      exact congrArg some ((by rw [ps_cj0 (G := G) hj, va_up_self] : ps_cell a I A J (va_up X (2 + j) xs) P (16 + 2 * j) = wd_o (a + (16 + 2 * j)) xs)).symm
    · rw [if_neg c2]
      simp only [ps_put]
      split
      · next q => rw [ps_xc (G := G) (by omega) (fun q2 => by omega) (fun q2 => by omega) (fun q2 => by omega)]
      · rfl
