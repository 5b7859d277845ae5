/-! WriterDesk$Builder: 588 cells, the machine early in cells 1 to 70. Ints: 0 headsKnown, 1 newSet. References that change: 0 kind, 1 finer. Arrays: 0 after, 1 and 2 kind and finer, 3 sets. Words: 0 head, 1 part, 2 lead, 3 + q heads[q], 9 + q newRests[q], 15 + i rests[i]. -/
abbrev bo_fs (a : Nat) (I : Nat → Int32) (P : Nat → Nat) : List Value := [.ref (a + 1), .ref (a + 71), .int (I 0), .ref (a + 72), .ref (a + 74), .ref (a + 76), .ref (P 0), .ref (P 1), .ref (a + 79), .ref (a + 80), .int (I 1), .ref (a + 81), .ref (a + 82)]
def bo_cell (a : Nat) (I : Nat → Int32) (A : Nat → Nat → Int32) (J : Nat → Nat → Int64) (X : Nat → List Nat) (P : Nat → Nat) (o : Nat) : rz_E := match o with
  | 0 => .inr (8, bo_fs a I P)
  | 1 => .inr (0, [])
  | 2 => .inr (0, [])
  | 3 => .inr (0, [])
  | 4 => .inr (0, [])
  | 5 => .inr (0, [])
  | 6 => .inr (0, [])
  | 7 => .inr (0, [])
  | 8 => .inr (0, [])
  | 9 => .inr (0, [])
  | 10 => .inr (0, [])
  | 11 => .inr (0, [])
  | 12 => .inr (0, [])
  | 13 => .inr (0, [])
  | 14 => .inr (0, [])
  | 15 => .inr (0, [])
  | 16 => .inr (0, [])
  | 17 => .inr (0, [])
  | 18 => .inr (0, [])
  | 19 => .inr (0, [])
  | 20 => .inr (0, [])
  | 21 => .inr (0, [])
  | 22 => .inr (0, [])
  | 23 => .inr (0, [])
  | 24 => .inr (0, [])
  | 25 => .inr (0, [])
  | 26 => .inr (0, [])
  | 27 => .inr (0, [])
  | 28 => .inr (0, [])
  | 29 => .inr (0, [])
  | 30 => .inr (0, [])
  | 31 => .inr (0, [])
  | 32 => .inr (0, [])
  | 33 => .inr (0, [])
  | 34 => .inr (0, [])
  | 35 => .inr (0, [])
  | 36 => .inr (0, [])
  | 37 => .inr (0, [])
  | 38 => .inr (0, [])
  | 39 => .inr (0, [])
  | 40 => .inr (0, [])
  | 41 => .inr (0, [])
  | 42 => .inr (0, [])
  | 43 => .inr (0, [])
  | 44 => .inr (0, [])
  | 45 => .inr (0, [])
  | 46 => .inr (0, [])
  | 47 => .inr (0, [])
  | 48 => .inr (0, [])
  | 49 => .inr (0, [])
  | 50 => .inr (0, [])
  | 51 => .inr (0, [])
  | 52 => .inr (0, [])
  | 53 => .inr (0, [])
  | 54 => .inr (0, [])
  | 55 => .inr (0, [])
  | 56 => .inr (0, [])
  | 57 => .inr (0, [])
  | 58 => .inr (0, [])
  | 59 => .inr (0, [])
  | 60 => .inr (0, [])
  | 61 => .inr (0, [])
  | 62 => .inr (0, [])
  | 63 => .inr (0, [])
  | 64 => .inr (0, [])
  | 65 => .inr (0, [])
  | 66 => .inr (0, [])
  | 67 => .inr (0, [])
  | 68 => .inr (0, [])
  | 69 => .inr (0, [])
  | 70 => .inr (0, [])
  | 71 => .inl (4, 6, .inr (.inr (.inr (.inr (fun q => some (a + (84 + 4 * q)))))))
  | 72 => wd_o (a + 72) (X 0)
  | 73 => wd_a 3 (X 0)
  | 74 => wd_o (a + 74) (X 1)
  | 75 => wd_a 3 (X 1)
  | 76 => .inl (0, 192, .inl (A 0))
  | 77 => .inl (0, 64, .inl (A 1))
  | 78 => .inl (0, 64, .inl (A 2))
  | 79 => .inl (0, 40, .inl (A 3))
  | 80 => .inl (4, 240, .inr (.inr (.inr (.inr (fun i => some (a + (108 + 2 * i)))))))
  | 81 => .inl (4, 6, .inr (.inr (.inr (.inr (fun q => some (a + (86 + 4 * q)))))))
  | 82 => wd_o (a + 82) (X 2)
  | 83 => wd_a 11 (X 2)
  | 84 => wd_o (a + 84) (X 3)
  | 85 => wd_a 3 (X 3)
  | 86 => wd_o (a + 86) (X 9)
  | 87 => wd_a 11 (X 9)
  | 88 => wd_o (a + 88) (X 4)
  | 89 => wd_a 3 (X 4)
  | 90 => wd_o (a + 90) (X 10)
  | 91 => wd_a 11 (X 10)
  | 92 => wd_o (a + 92) (X 5)
  | 93 => wd_a 3 (X 5)
  | 94 => wd_o (a + 94) (X 11)
  | 95 => wd_a 11 (X 11)
  | 96 => wd_o (a + 96) (X 6)
  | 97 => wd_a 3 (X 6)
  | 98 => wd_o (a + 98) (X 12)
  | 99 => wd_a 11 (X 12)
  | 100 => wd_o (a + 100) (X 7)
  | 101 => wd_a 3 (X 7)
  | 102 => wd_o (a + 102) (X 13)
  | 103 => wd_a 11 (X 13)
  | 104 => wd_o (a + 104) (X 8)
  | 105 => wd_a 3 (X 8)
  | 106 => wd_o (a + 106) (X 14)
  | 107 => wd_a 11 (X 14)
  | o => if (o - 108) % 2 = 0 then wd_o (a + o) (X (15 + (o - 108) / 2)) else wd_a 11 (X (15 + (o - 108) / 2))
def bo_put (G : rz_G) (a : Nat) (I : Nat → Int32) (A : Nat → Nat → Int32) (J : Nat → Nat → Int64) (X : Nat → List Nat) (P : Nat → Nat) : rz_G := fun x => if a ≤ x ∧ x < a + 588 then some (bo_cell a I A J X P (x - a)) else G x
def bo_is (G : rz_G) (a : Nat) (I : Nat → Int32) (A : Nat → Nat → Int32) (J : Nat → Nat → Int64) (X : Nat → List Nat) (P : Nat → Nat) : Prop := ∀ o, o < 588 → G (a + o) = some (bo_cell a I A J X P o)
theorem bo_at {G : rz_G} {a : Nat} {I : Nat → Int32} {A : Nat → Nat → Int32} {J : Nat → Nat → Int64} {X : Nat → List Nat} {P : Nat → Nat} {o : Nat} (h : o < 588) : bo_put G a I A J X P (a + o) = some (bo_cell a I A J X P o) := by
  simp only [bo_put]; rw [if_pos (by omega), Nat.add_sub_cancel_left]
theorem bo_at0 {G : rz_G} {a : Nat} {I : Nat → Int32} {A : Nat → Nat → Int32} {J : Nat → Nat → Int64} {X : Nat → List Nat} {P : Nat → Nat} : bo_put G a I A J X P a = some (.inr (8, bo_fs a I P)) := bo_at (o := 0) (by decide)
theorem bo_out {G : rz_G} {a : Nat} {I : Nat → Int32} {A : Nat → Nat → Int32} {J : Nat → Nat → Int64} {X : Nat → List Nat} {P : Nat → Nat} {x : Nat} (h : x < a ∨ a + 588 ≤ x) : bo_put G a I A J X P x = G x := by simp only [bo_put]; rw [if_neg (by omega)]
theorem bo_id {G : rz_G} {a : Nat} {I : Nat → Int32} {A : Nat → Nat → Int32} {J : Nat → Nat → Int64} {X : Nat → List Nat} {P : Nat → Nat} (h : bo_is G a I A J X P) : bo_put G a I A J X P = G := by
  funext x
  simp only [bo_put]
  split
  · next q => rw [← h (x - a) (by omega)]; congr 1; omega
  · rfl
theorem bo_put_is {G : rz_G} {a : Nat} {I : Nat → Int32} {A : Nat → Nat → Int32} {J : Nat → Nat → Int64} {X : Nat → List Nat} {P : Nat → Nat} : bo_is (bo_put G a I A J X P) a I A J X P := fun o ho => bo_at ho
theorem bo_put2 {G : rz_G} {a : Nat} {I : Nat → Int32} {A : Nat → Nat → Int32} {J : Nat → Nat → Int64} {X : Nat → List Nat} {P : Nat → Nat} {I' : Nat → Int32} {A' : Nat → Nat → Int32} {J' : Nat → Nat → Int64} {X' : Nat → List Nat} {P' : Nat → Nat} : bo_put (bo_put G a I A J X P) a I' A' J' X' P' = bo_put G a I' A' J' X' P' := by
  funext x; simp only [bo_put]; split <;> simp_all
theorem bo_eq {G : rz_G} {a : Nat} {I : Nat → Int32} {A : Nat → Nat → Int32} {J : Nat → Nat → Int64} {X : Nat → List Nat} {P : Nat → Nat} {I' : Nat → Int32} {A' : Nat → Nat → Int32} {J' : Nat → Nat → Int64} {X' : Nat → List Nat} {P' : Nat → Nat} (h : ∀ o, o < 588 → bo_cell a I A J X P o = bo_cell a I' A' J' X' P' o) : bo_put G a I A J X P = bo_put G a I' A' J' X' P' := by
  funext x; simp only [bo_put]; split
  · next q => rw [h (x - a) (by omega)]
  · rfl
theorem bo_upc {G : rz_G} {a : Nat} {I : Nat → Int32} {A : Nat → Nat → Int32} {J : Nat → Nat → Int64} {X : Nat → List Nat} {P : Nat → Nat} {I' : Nat → Int32} {A' : Nat → Nat → Int32} {J' : Nat → Nat → Int64} {X' : Nat → List Nat} {P' : Nat → Nat} {k : Nat} {e : rz_E} (hk : k < 588) (he : bo_cell a I' A' J' X' P' k = e) (h : ∀ o, o < 588 → o ≠ k → bo_cell a I' A' J' X' P' o = bo_cell a I A J X P o) : rz_up (bo_put G a I A J X P) (a + k) e = bo_put G a I' A' J' X' P' := by
  funext x
  simp only [bo_put, rz_up]
  by_cases q : x = a + k
  · subst q; rw [if_pos rfl, if_pos (by omega), Nat.add_sub_cancel_left, he]
  · rw [if_neg q]
    split
    · next q2 => rw [h (x - a) (by omega) (by omega)]
    · rfl
theorem bo_ob {G : rz_G} {a : Nat} {I : Nat → Int32} {A : Nat → Nat → Int32} {J : Nat → Nat → Int64} {X : Nat → List Nat} {P : Nat → Nat} {f : List Value → Prop} : rz_ob (bo_put G a I A J X P) a 8 f = f (bo_fs a I P) := rh_ob bo_at0
theorem bo_r71 {G : rz_G} {a : Nat} {I : Nat → Int32} {A : Nat → Nat → Int32} {J : Nat → Nat → Int64} {X : Nat → List Nat} {P : Nat → Nat} {f : Nat → Nat → (Nat → Option Nat) → Prop} : rz_ra (bo_put G a I A J X P) (a + 71) f = f 4 6 (fun q => some (a + (84 + 4 * q))) := rh_ra (bo_at (o := 71) (by decide))
theorem bo_i76 {G : rz_G} {a : Nat} {I : Nat → Int32} {A : Nat → Nat → Int32} {J : Nat → Nat → Int64} {X : Nat → List Nat} {P : Nat → Nat} {f : Nat → Nat → (Nat → Int32) → Prop} : rz_ia (bo_put G a I A J X P) (a + 76) f = f 0 192 (A 0) := rh_ia (bo_at (o := 76) (by decide))
theorem bo_n76 {G : rz_G} {a : Nat} {I : Nat → Int32} {A : Nat → Nat → Int32} {J : Nat → Nat → Int64} {X : Nat → List Nat} {P : Nat → Nat} {f : Nat → Nat → Prop} : rz_aa (bo_put G a I A J X P) (a + 76) f = f 0 192 := rh_aa (bo_at (o := 76) (by decide))
theorem bo_i77 {G : rz_G} {a : Nat} {I : Nat → Int32} {A : Nat → Nat → Int32} {J : Nat → Nat → Int64} {X : Nat → List Nat} {P : Nat → Nat} {f : Nat → Nat → (Nat → Int32) → Prop} : rz_ia (bo_put G a I A J X P) (a + 77) f = f 0 64 (A 1) := rh_ia (bo_at (o := 77) (by decide))
theorem bo_n77 {G : rz_G} {a : Nat} {I : Nat → Int32} {A : Nat → Nat → Int32} {J : Nat → Nat → Int64} {X : Nat → List Nat} {P : Nat → Nat} {f : Nat → Nat → Prop} : rz_aa (bo_put G a I A J X P) (a + 77) f = f 0 64 := rh_aa (bo_at (o := 77) (by decide))
theorem bo_i78 {G : rz_G} {a : Nat} {I : Nat → Int32} {A : Nat → Nat → Int32} {J : Nat → Nat → Int64} {X : Nat → List Nat} {P : Nat → Nat} {f : Nat → Nat → (Nat → Int32) → Prop} : rz_ia (bo_put G a I A J X P) (a + 78) f = f 0 64 (A 2) := rh_ia (bo_at (o := 78) (by decide))
theorem bo_n78 {G : rz_G} {a : Nat} {I : Nat → Int32} {A : Nat → Nat → Int32} {J : Nat → Nat → Int64} {X : Nat → List Nat} {P : Nat → Nat} {f : Nat → Nat → Prop} : rz_aa (bo_put G a I A J X P) (a + 78) f = f 0 64 := rh_aa (bo_at (o := 78) (by decide))
theorem bo_i79 {G : rz_G} {a : Nat} {I : Nat → Int32} {A : Nat → Nat → Int32} {J : Nat → Nat → Int64} {X : Nat → List Nat} {P : Nat → Nat} {f : Nat → Nat → (Nat → Int32) → Prop} : rz_ia (bo_put G a I A J X P) (a + 79) f = f 0 40 (A 3) := rh_ia (bo_at (o := 79) (by decide))
theorem bo_n79 {G : rz_G} {a : Nat} {I : Nat → Int32} {A : Nat → Nat → Int32} {J : Nat → Nat → Int64} {X : Nat → List Nat} {P : Nat → Nat} {f : Nat → Nat → Prop} : rz_aa (bo_put G a I A J X P) (a + 79) f = f 0 40 := rh_aa (bo_at (o := 79) (by decide))
theorem bo_r80 {G : rz_G} {a : Nat} {I : Nat → Int32} {A : Nat → Nat → Int32} {J : Nat → Nat → Int64} {X : Nat → List Nat} {P : Nat → Nat} {f : Nat → Nat → (Nat → Option Nat) → Prop} : rz_ra (bo_put G a I A J X P) (a + 80) f = f 4 240 (fun i => some (a + (108 + 2 * i))) := rh_ra (bo_at (o := 80) (by decide))
theorem bo_r81 {G : rz_G} {a : Nat} {I : Nat → Int32} {A : Nat → Nat → Int32} {J : Nat → Nat → Int64} {X : Nat → List Nat} {P : Nat → Nat} {f : Nat → Nat → (Nat → Option Nat) → Prop} : rz_ra (bo_put G a I A J X P) (a + 81) f = f 4 6 (fun q => some (a + (86 + 4 * q))) := rh_ra (bo_at (o := 81) (by decide))
theorem bo_u2 {G : rz_G} {a : Nat} {I : Nat → Int32} {A : Nat → Nat → Int32} {J : Nat → Nat → Int64} {X : Nat → List Nat} {P : Nat → Nat} {v : Int32} : rz_up (bo_put G a I A J X P) a (.inr (8, [.ref (a + 1), .ref (a + 71), .int v, .ref (a + 72), .ref (a + 74), .ref (a + 76), .ref (P 0), .ref (P 1), .ref (a + 79), .ref (a + 80), .int (I 1), .ref (a + 81), .ref (a + 82)])) = bo_put G a (upd I 0 v) A J X P := bo_upc (k := 0) (by decide) rfl (fun o ho hne => by match o, hne with | 0, h => exact absurd rfl h | 1, _ => rfl | 2, _ => rfl | 3, _ => rfl | 4, _ => rfl | 5, _ => rfl | 6, _ => rfl | 7, _ => rfl | 8, _ => rfl | 9, _ => rfl | 10, _ => rfl | 11, _ => rfl | 12, _ => rfl | 13, _ => rfl | 14, _ => rfl | 15, _ => rfl | 16, _ => rfl | 17, _ => rfl | 18, _ => rfl | 19, _ => rfl | 20, _ => rfl | 21, _ => rfl | 22, _ => rfl | 23, _ => rfl | 24, _ => rfl | 25, _ => rfl | 26, _ => rfl | 27, _ => rfl | 28, _ => rfl | 29, _ => rfl | 30, _ => rfl | 31, _ => rfl | 32, _ => rfl | 33, _ => rfl | 34, _ => rfl | 35, _ => rfl | 36, _ => rfl | 37, _ => rfl | 38, _ => rfl | 39, _ => rfl | 40, _ => rfl | 41, _ => rfl | 42, _ => rfl | 43, _ => rfl | 44, _ => rfl | 45, _ => rfl | 46, _ => rfl | 47, _ => rfl | 48, _ => rfl | 49, _ => rfl | 50, _ => rfl | 51, _ => rfl | 52, _ => rfl | 53, _ => rfl | 54, _ => rfl | 55, _ => rfl | 56, _ => rfl | 57, _ => rfl | 58, _ => rfl | 59, _ => rfl | 60, _ => rfl | 61, _ => rfl | 62, _ => rfl | 63, _ => rfl | 64, _ => rfl | 65, _ => rfl | 66, _ => rfl | 67, _ => rfl | 68, _ => rfl | 69, _ => rfl | 70, _ => rfl | 71, _ => rfl | 72, _ => rfl | 73, _ => rfl | 74, _ => rfl | 75, _ => rfl | 76, _ => rfl | 77, _ => rfl | 78, _ => rfl | 79, _ => rfl | 80, _ => rfl | 81, _ => rfl | 82, _ => rfl | 83, _ => rfl | 84, _ => rfl | 85, _ => rfl | 86, _ => rfl | 87, _ => rfl | 88, _ => rfl | 89, _ => rfl | 90, _ => rfl | 91, _ => rfl | 92, _ => rfl | 93, _ => rfl | 94, _ => rfl | 95, _ => rfl | 96, _ => rfl | 97, _ => rfl | 98, _ => rfl | 99, _ => rfl | 100, _ => rfl | 101, _ => rfl | 102, _ => rfl | 103, _ => rfl | 104, _ => rfl | 105, _ => rfl | 106, _ => rfl | 107, _ => rfl | o + 108, _ => rfl)
theorem bo_u6 {G : rz_G} {a : Nat} {I : Nat → Int32} {A : Nat → Nat → Int32} {J : Nat → Nat → Int64} {X : Nat → List Nat} {P : Nat → Nat} {v : Nat} : rz_up (bo_put G a I A J X P) a (.inr (8, [.ref (a + 1), .ref (a + 71), .int (I 0), .ref (a + 72), .ref (a + 74), .ref (a + 76), .ref v, .ref (P 1), .ref (a + 79), .ref (a + 80), .int (I 1), .ref (a + 81), .ref (a + 82)])) = bo_put G a I A J X (va_up P 0 v) := bo_upc (k := 0) (by decide) rfl (fun o ho hne => by match o, hne with | 0, h => exact absurd rfl h | 1, _ => rfl | 2, _ => rfl | 3, _ => rfl | 4, _ => rfl | 5, _ => rfl | 6, _ => rfl | 7, _ => rfl | 8, _ => rfl | 9, _ => rfl | 10, _ => rfl | 11, _ => rfl | 12, _ => rfl | 13, _ => rfl | 14, _ => rfl | 15, _ => rfl | 16, _ => rfl | 17, _ => rfl | 18, _ => rfl | 19, _ => rfl | 20, _ => rfl | 21, _ => rfl | 22, _ => rfl | 23, _ => rfl | 24, _ => rfl | 25, _ => rfl | 26, _ => rfl | 27, _ => rfl | 28, _ => rfl | 29, _ => rfl | 30, _ => rfl | 31, _ => rfl | 32, _ => rfl | 33, _ => rfl | 34, _ => rfl | 35, _ => rfl | 36, _ => rfl | 37, _ => rfl | 38, _ => rfl | 39, _ => rfl | 40, _ => rfl | 41, _ => rfl | 42, _ => rfl | 43, _ => rfl | 44, _ => rfl | 45, _ => rfl | 46, _ => rfl | 47, _ => rfl | 48, _ => rfl | 49, _ => rfl | 50, _ => rfl | 51, _ => rfl | 52, _ => rfl | 53, _ => rfl | 54, _ => rfl | 55, _ => rfl | 56, _ => rfl | 57, _ => rfl | 58, _ => rfl | 59, _ => rfl | 60, _ => rfl | 61, _ => rfl | 62, _ => rfl | 63, _ => rfl | 64, _ => rfl | 65, _ => rfl | 66, _ => rfl | 67, _ => rfl | 68, _ => rfl | 69, _ => rfl | 70, _ => rfl | 71, _ => rfl | 72, _ => rfl | 73, _ => rfl | 74, _ => rfl | 75, _ => rfl | 76, _ => rfl | 77, _ => rfl | 78, _ => rfl | 79, _ => rfl | 80, _ => rfl | 81, _ => rfl | 82, _ => rfl | 83, _ => rfl | 84, _ => rfl | 85, _ => rfl | 86, _ => rfl | 87, _ => rfl | 88, _ => rfl | 89, _ => rfl | 90, _ => rfl | 91, _ => rfl | 92, _ => rfl | 93, _ => rfl | 94, _ => rfl | 95, _ => rfl | 96, _ => rfl | 97, _ => rfl | 98, _ => rfl | 99, _ => rfl | 100, _ => rfl | 101, _ => rfl | 102, _ => rfl | 103, _ => rfl | 104, _ => rfl | 105, _ => rfl | 106, _ => rfl | 107, _ => rfl | o + 108, _ => rfl)
theorem bo_u7 {G : rz_G} {a : Nat} {I : Nat → Int32} {A : Nat → Nat → Int32} {J : Nat → Nat → Int64} {X : Nat → List Nat} {P : Nat → Nat} {v : Nat} : rz_up (bo_put G a I A J X P) a (.inr (8, [.ref (a + 1), .ref (a + 71), .int (I 0), .ref (a + 72), .ref (a + 74), .ref (a + 76), .ref (P 0), .ref v, .ref (a + 79), .ref (a + 80), .int (I 1), .ref (a + 81), .ref (a + 82)])) = bo_put G a I A J X (va_up P 1 v) := bo_upc (k := 0) (by decide) rfl (fun o ho hne => by match o, hne with | 0, h => exact absurd rfl h | 1, _ => rfl | 2, _ => rfl | 3, _ => rfl | 4, _ => rfl | 5, _ => rfl | 6, _ => rfl | 7, _ => rfl | 8, _ => rfl | 9, _ => rfl | 10, _ => rfl | 11, _ => rfl | 12, _ => rfl | 13, _ => rfl | 14, _ => rfl | 15, _ => rfl | 16, _ => rfl | 17, _ => rfl | 18, _ => rfl | 19, _ => rfl | 20, _ => rfl | 21, _ => rfl | 22, _ => rfl | 23, _ => rfl | 24, _ => rfl | 25, _ => rfl | 26, _ => rfl | 27, _ => rfl | 28, _ => rfl | 29, _ => rfl | 30, _ => rfl | 31, _ => rfl | 32, _ => rfl | 33, _ => rfl | 34, _ => rfl | 35, _ => rfl | 36, _ => rfl | 37, _ => rfl | 38, _ => rfl | 39, _ => rfl | 40, _ => rfl | 41, _ => rfl | 42, _ => rfl | 43, _ => rfl | 44, _ => rfl | 45, _ => rfl | 46, _ => rfl | 47, _ => rfl | 48, _ => rfl | 49, _ => rfl | 50, _ => rfl | 51, _ => rfl | 52, _ => rfl | 53, _ => rfl | 54, _ => rfl | 55, _ => rfl | 56, _ => rfl | 57, _ => rfl | 58, _ => rfl | 59, _ => rfl | 60, _ => rfl | 61, _ => rfl | 62, _ => rfl | 63, _ => rfl | 64, _ => rfl | 65, _ => rfl | 66, _ => rfl | 67, _ => rfl | 68, _ => rfl | 69, _ => rfl | 70, _ => rfl | 71, _ => rfl | 72, _ => rfl | 73, _ => rfl | 74, _ => rfl | 75, _ => rfl | 76, _ => rfl | 77, _ => rfl | 78, _ => rfl | 79, _ => rfl | 80, _ => rfl | 81, _ => rfl | 82, _ => rfl | 83, _ => rfl | 84, _ => rfl | 85, _ => rfl | 86, _ => rfl | 87, _ => rfl | 88, _ => rfl | 89, _ => rfl | 90, _ => rfl | 91, _ => rfl | 92, _ => rfl | 93, _ => rfl | 94, _ => rfl | 95, _ => rfl | 96, _ => rfl | 97, _ => rfl | 98, _ => rfl | 99, _ => rfl | 100, _ => rfl | 101, _ => rfl | 102, _ => rfl | 103, _ => rfl | 104, _ => rfl | 105, _ => rfl | 106, _ => rfl | 107, _ => rfl | o + 108, _ => rfl)
theorem bo_u10 {G : rz_G} {a : Nat} {I : Nat → Int32} {A : Nat → Nat → Int32} {J : Nat → Nat → Int64} {X : Nat → List Nat} {P : Nat → Nat} {v : Int32} : rz_up (bo_put G a I A J X P) a (.inr (8, [.ref (a + 1), .ref (a + 71), .int (I 0), .ref (a + 72), .ref (a + 74), .ref (a + 76), .ref (P 0), .ref (P 1), .ref (a + 79), .ref (a + 80), .int v, .ref (a + 81), .ref (a + 82)])) = bo_put G a (upd I 1 v) A J X P := bo_upc (k := 0) (by decide) rfl (fun o ho hne => by match o, hne with | 0, h => exact absurd rfl h | 1, _ => rfl | 2, _ => rfl | 3, _ => rfl | 4, _ => rfl | 5, _ => rfl | 6, _ => rfl | 7, _ => rfl | 8, _ => rfl | 9, _ => rfl | 10, _ => rfl | 11, _ => rfl | 12, _ => rfl | 13, _ => rfl | 14, _ => rfl | 15, _ => rfl | 16, _ => rfl | 17, _ => rfl | 18, _ => rfl | 19, _ => rfl | 20, _ => rfl | 21, _ => rfl | 22, _ => rfl | 23, _ => rfl | 24, _ => rfl | 25, _ => rfl | 26, _ => rfl | 27, _ => rfl | 28, _ => rfl | 29, _ => rfl | 30, _ => rfl | 31, _ => rfl | 32, _ => rfl | 33, _ => rfl | 34, _ => rfl | 35, _ => rfl | 36, _ => rfl | 37, _ => rfl | 38, _ => rfl | 39, _ => rfl | 40, _ => rfl | 41, _ => rfl | 42, _ => rfl | 43, _ => rfl | 44, _ => rfl | 45, _ => rfl | 46, _ => rfl | 47, _ => rfl | 48, _ => rfl | 49, _ => rfl | 50, _ => rfl | 51, _ => rfl | 52, _ => rfl | 53, _ => rfl | 54, _ => rfl | 55, _ => rfl | 56, _ => rfl | 57, _ => rfl | 58, _ => rfl | 59, _ => rfl | 60, _ => rfl | 61, _ => rfl | 62, _ => rfl | 63, _ => rfl | 64, _ => rfl | 65, _ => rfl | 66, _ => rfl | 67, _ => rfl | 68, _ => rfl | 69, _ => rfl | 70, _ => rfl | 71, _ => rfl | 72, _ => rfl | 73, _ => rfl | 74, _ => rfl | 75, _ => rfl | 76, _ => rfl | 77, _ => rfl | 78, _ => rfl | 79, _ => rfl | 80, _ => rfl | 81, _ => rfl | 82, _ => rfl | 83, _ => rfl | 84, _ => rfl | 85, _ => rfl | 86, _ => rfl | 87, _ => rfl | 88, _ => rfl | 89, _ => rfl | 90, _ => rfl | 91, _ => rfl | 92, _ => rfl | 93, _ => rfl | 94, _ => rfl | 95, _ => rfl | 96, _ => rfl | 97, _ => rfl | 98, _ => rfl | 99, _ => rfl | 100, _ => rfl | 101, _ => rfl | 102, _ => rfl | 103, _ => rfl | 104, _ => rfl | 105, _ => rfl | 106, _ => rfl | 107, _ => rfl | o + 108, _ => rfl)
theorem bo_a76 {G : rz_G} {a : Nat} {I : Nat → Int32} {A : Nat → Nat → Int32} {J : Nat → Nat → Int64} {X : Nat → List Nat} {P : Nat → Nat} {g : Nat → Int32} : rz_up (bo_put G a I A J X P) (a + 76) (.inl (0, 192, .inl g)) = bo_put G a I (va_up A 0 g) J X P := bo_upc (k := 76) (by decide) rfl (fun o ho hne => by match o, hne with | 0, _ => rfl | 1, _ => rfl | 2, _ => rfl | 3, _ => rfl | 4, _ => rfl | 5, _ => rfl | 6, _ => rfl | 7, _ => rfl | 8, _ => rfl | 9, _ => rfl | 10, _ => rfl | 11, _ => rfl | 12, _ => rfl | 13, _ => rfl | 14, _ => rfl | 15, _ => rfl | 16, _ => rfl | 17, _ => rfl | 18, _ => rfl | 19, _ => rfl | 20, _ => rfl | 21, _ => rfl | 22, _ => rfl | 23, _ => rfl | 24, _ => rfl | 25, _ => rfl | 26, _ => rfl | 27, _ => rfl | 28, _ => rfl | 29, _ => rfl | 30, _ => rfl | 31, _ => rfl | 32, _ => rfl | 33, _ => rfl | 34, _ => rfl | 35, _ => rfl | 36, _ => rfl | 37, _ => rfl | 38, _ => rfl | 39, _ => rfl | 40, _ => rfl | 41, _ => rfl | 42, _ => rfl | 43, _ => rfl | 44, _ => rfl | 45, _ => rfl | 46, _ => rfl | 47, _ => rfl | 48, _ => rfl | 49, _ => rfl | 50, _ => rfl | 51, _ => rfl | 52, _ => rfl | 53, _ => rfl | 54, _ => rfl | 55, _ => rfl | 56, _ => rfl | 57, _ => rfl | 58, _ => rfl | 59, _ => rfl | 60, _ => rfl | 61, _ => rfl | 62, _ => rfl | 63, _ => rfl | 64, _ => rfl | 65, _ => rfl | 66, _ => rfl | 67, _ => rfl | 68, _ => rfl | 69, _ => rfl | 70, _ => rfl | 71, _ => rfl | 72, _ => rfl | 73, _ => rfl | 74, _ => rfl | 75, _ => rfl | 76, h => exact absurd rfl h | 77, _ => rfl | 78, _ => rfl | 79, _ => rfl | 80, _ => rfl | 81, _ => rfl | 82, _ => rfl | 83, _ => rfl | 84, _ => rfl | 85, _ => rfl | 86, _ => rfl | 87, _ => rfl | 88, _ => rfl | 89, _ => rfl | 90, _ => rfl | 91, _ => rfl | 92, _ => rfl | 93, _ => rfl | 94, _ => rfl | 95, _ => rfl | 96, _ => rfl | 97, _ => rfl | 98, _ => rfl | 99, _ => rfl | 100, _ => rfl | 101, _ => rfl | 102, _ => rfl | 103, _ => rfl | 104, _ => rfl | 105, _ => rfl | 106, _ => rfl | 107, _ => rfl | o + 108, _ => rfl)
theorem bo_a77 {G : rz_G} {a : Nat} {I : Nat → Int32} {A : Nat → Nat → Int32} {J : Nat → Nat → Int64} {X : Nat → List Nat} {P : Nat → Nat} {g : Nat → Int32} : rz_up (bo_put G a I A J X P) (a + 77) (.inl (0, 64, .inl g)) = bo_put G a I (va_up A 1 g) J X P := bo_upc (k := 77) (by decide) rfl (fun o ho hne => by match o, hne with | 0, _ => rfl | 1, _ => rfl | 2, _ => rfl | 3, _ => rfl | 4, _ => rfl | 5, _ => rfl | 6, _ => rfl | 7, _ => rfl | 8, _ => rfl | 9, _ => rfl | 10, _ => rfl | 11, _ => rfl | 12, _ => rfl | 13, _ => rfl | 14, _ => rfl | 15, _ => rfl | 16, _ => rfl | 17, _ => rfl | 18, _ => rfl | 19, _ => rfl | 20, _ => rfl | 21, _ => rfl | 22, _ => rfl | 23, _ => rfl | 24, _ => rfl | 25, _ => rfl | 26, _ => rfl | 27, _ => rfl | 28, _ => rfl | 29, _ => rfl | 30, _ => rfl | 31, _ => rfl | 32, _ => rfl | 33, _ => rfl | 34, _ => rfl | 35, _ => rfl | 36, _ => rfl | 37, _ => rfl | 38, _ => rfl | 39, _ => rfl | 40, _ => rfl | 41, _ => rfl | 42, _ => rfl | 43, _ => rfl | 44, _ => rfl | 45, _ => rfl | 46, _ => rfl | 47, _ => rfl | 48, _ => rfl | 49, _ => rfl | 50, _ => rfl | 51, _ => rfl | 52, _ => rfl | 53, _ => rfl | 54, _ => rfl | 55, _ => rfl | 56, _ => rfl | 57, _ => rfl | 58, _ => rfl | 59, _ => rfl | 60, _ => rfl | 61, _ => rfl | 62, _ => rfl | 63, _ => rfl | 64, _ => rfl | 65, _ => rfl | 66, _ => rfl | 67, _ => rfl | 68, _ => rfl | 69, _ => rfl | 70, _ => rfl | 71, _ => rfl | 72, _ => rfl | 73, _ => rfl | 74, _ => rfl | 75, _ => rfl | 76, _ => rfl | 77, h => exact absurd rfl h | 78, _ => rfl | 79, _ => rfl | 80, _ => rfl | 81, _ => rfl | 82, _ => rfl | 83, _ => rfl | 84, _ => rfl | 85, _ => rfl | 86, _ => rfl | 87, _ => rfl | 88, _ => rfl | 89, _ => rfl | 90, _ => rfl | 91, _ => rfl | 92, _ => rfl | 93, _ => rfl | 94, _ => rfl | 95, _ => rfl | 96, _ => rfl | 97, _ => rfl | 98, _ => rfl | 99, _ => rfl | 100, _ => rfl | 101, _ => rfl | 102, _ => rfl | 103, _ => rfl | 104, _ => rfl | 105, _ => rfl | 106, _ => rfl | 107, _ => rfl | o + 108, _ => rfl)
theorem bo_a78 {G : rz_G} {a : Nat} {I : Nat → Int32} {A : Nat → Nat → Int32} {J : Nat → Nat → Int64} {X : Nat → List Nat} {P : Nat → Nat} {g : Nat → Int32} : rz_up (bo_put G a I A J X P) (a + 78) (.inl (0, 64, .inl g)) = bo_put G a I (va_up A 2 g) J X P := bo_upc (k := 78) (by decide) rfl (fun o ho hne => by match o, hne with | 0, _ => rfl | 1, _ => rfl | 2, _ => rfl | 3, _ => rfl | 4, _ => rfl | 5, _ => rfl | 6, _ => rfl | 7, _ => rfl | 8, _ => rfl | 9, _ => rfl | 10, _ => rfl | 11, _ => rfl | 12, _ => rfl | 13, _ => rfl | 14, _ => rfl | 15, _ => rfl | 16, _ => rfl | 17, _ => rfl | 18, _ => rfl | 19, _ => rfl | 20, _ => rfl | 21, _ => rfl | 22, _ => rfl | 23, _ => rfl | 24, _ => rfl | 25, _ => rfl | 26, _ => rfl | 27, _ => rfl | 28, _ => rfl | 29, _ => rfl | 30, _ => rfl | 31, _ => rfl | 32, _ => rfl | 33, _ => rfl | 34, _ => rfl | 35, _ => rfl | 36, _ => rfl | 37, _ => rfl | 38, _ => rfl | 39, _ => rfl | 40, _ => rfl | 41, _ => rfl | 42, _ => rfl | 43, _ => rfl | 44, _ => rfl | 45, _ => rfl | 46, _ => rfl | 47, _ => rfl | 48, _ => rfl | 49, _ => rfl | 50, _ => rfl | 51, _ => rfl | 52, _ => rfl | 53, _ => rfl | 54, _ => rfl | 55, _ => rfl | 56, _ => rfl | 57, _ => rfl | 58, _ => rfl | 59, _ => rfl | 60, _ => rfl | 61, _ => rfl | 62, _ => rfl | 63, _ => rfl | 64, _ => rfl | 65, _ => rfl | 66, _ => rfl | 67, _ => rfl | 68, _ => rfl | 69, _ => rfl | 70, _ => rfl | 71, _ => rfl | 72, _ => rfl | 73, _ => rfl | 74, _ => rfl | 75, _ => rfl | 76, _ => rfl | 77, _ => rfl | 78, h => exact absurd rfl h | 79, _ => rfl | 80, _ => rfl | 81, _ => rfl | 82, _ => rfl | 83, _ => rfl | 84, _ => rfl | 85, _ => rfl | 86, _ => rfl | 87, _ => rfl | 88, _ => rfl | 89, _ => rfl | 90, _ => rfl | 91, _ => rfl | 92, _ => rfl | 93, _ => rfl | 94, _ => rfl | 95, _ => rfl | 96, _ => rfl | 97, _ => rfl | 98, _ => rfl | 99, _ => rfl | 100, _ => rfl | 101, _ => rfl | 102, _ => rfl | 103, _ => rfl | 104, _ => rfl | 105, _ => rfl | 106, _ => rfl | 107, _ => rfl | o + 108, _ => rfl)
theorem bo_a79 {G : rz_G} {a : Nat} {I : Nat → Int32} {A : Nat → Nat → Int32} {J : Nat → Nat → Int64} {X : Nat → List Nat} {P : Nat → Nat} {g : Nat → Int32} : rz_up (bo_put G a I A J X P) (a + 79) (.inl (0, 40, .inl g)) = bo_put G a I (va_up A 3 g) J X P := bo_upc (k := 79) (by decide) rfl (fun o ho hne => by match o, hne with | 0, _ => rfl | 1, _ => rfl | 2, _ => rfl | 3, _ => rfl | 4, _ => rfl | 5, _ => rfl | 6, _ => rfl | 7, _ => rfl | 8, _ => rfl | 9, _ => rfl | 10, _ => rfl | 11, _ => rfl | 12, _ => rfl | 13, _ => rfl | 14, _ => rfl | 15, _ => rfl | 16, _ => rfl | 17, _ => rfl | 18, _ => rfl | 19, _ => rfl | 20, _ => rfl | 21, _ => rfl | 22, _ => rfl | 23, _ => rfl | 24, _ => rfl | 25, _ => rfl | 26, _ => rfl | 27, _ => rfl | 28, _ => rfl | 29, _ => rfl | 30, _ => rfl | 31, _ => rfl | 32, _ => rfl | 33, _ => rfl | 34, _ => rfl | 35, _ => rfl | 36, _ => rfl | 37, _ => rfl | 38, _ => rfl | 39, _ => rfl | 40, _ => rfl | 41, _ => rfl | 42, _ => rfl | 43, _ => rfl | 44, _ => rfl | 45, _ => rfl | 46, _ => rfl | 47, _ => rfl | 48, _ => rfl | 49, _ => rfl | 50, _ => rfl | 51, _ => rfl | 52, _ => rfl | 53, _ => rfl | 54, _ => rfl | 55, _ => rfl | 56, _ => rfl | 57, _ => rfl | 58, _ => rfl | 59, _ => rfl | 60, _ => rfl | 61, _ => rfl | 62, _ => rfl | 63, _ => rfl | 64, _ => rfl | 65, _ => rfl | 66, _ => rfl | 67, _ => rfl | 68, _ => rfl | 69, _ => rfl | 70, _ => rfl | 71, _ => rfl | 72, _ => rfl | 73, _ => rfl | 74, _ => rfl | 75, _ => rfl | 76, _ => rfl | 77, _ => rfl | 78, _ => rfl | 79, h => exact absurd rfl h | 80, _ => rfl | 81, _ => rfl | 82, _ => rfl | 83, _ => rfl | 84, _ => rfl | 85, _ => rfl | 86, _ => rfl | 87, _ => rfl | 88, _ => rfl | 89, _ => rfl | 90, _ => rfl | 91, _ => rfl | 92, _ => rfl | 93, _ => rfl | 94, _ => rfl | 95, _ => rfl | 96, _ => rfl | 97, _ => rfl | 98, _ => rfl | 99, _ => rfl | 100, _ => rfl | 101, _ => rfl | 102, _ => rfl | 103, _ => rfl | 104, _ => rfl | 105, _ => rfl | 106, _ => rfl | 107, _ => rfl | o + 108, _ => rfl)
theorem bo_xc {G : rz_G} {a : Nat} {I : Nat → Int32} {A : Nat → Nat → Int32} {J : Nat → Nat → Int64} {X : Nat → List Nat} {P : Nat → Nat} {xs : List Nat} {k : Nat} {o : Nat} (ho : o < 588) (h72 : k = 0 → o ≠ 72 ∧ o ≠ 73) (h74 : k = 1 → o ≠ 74 ∧ o ≠ 75) (h82 : k = 2 → o ≠ 82 ∧ o ≠ 83) (h84 : k = 3 → o ≠ 84 ∧ o ≠ 85) (h86 : k = 9 → o ≠ 86 ∧ o ≠ 87) (h88 : k = 4 → o ≠ 88 ∧ o ≠ 89) (h90 : k = 10 → o ≠ 90 ∧ o ≠ 91) (h92 : k = 5 → o ≠ 92 ∧ o ≠ 93) (h94 : k = 11 → o ≠ 94 ∧ o ≠ 95) (h96 : k = 6 → o ≠ 96 ∧ o ≠ 97) (h98 : k = 12 → o ≠ 98 ∧ o ≠ 99) (h100 : k = 7 → o ≠ 100 ∧ o ≠ 101) (h102 : k = 13 → o ≠ 102 ∧ o ≠ 103) (h104 : k = 8 → o ≠ 104 ∧ o ≠ 105) (h106 : k = 14 → o ≠ 106 ∧ o ≠ 107) (hw : 15 ≤ k → o ≠ 108 + 2 * (k - 15) ∧ o ≠ 108 + 2 * (k - 15) + 1) : bo_cell a I A J (va_up X k xs) P o = bo_cell a I A J X P o := by
  by_cases c : o < 108
  · match o, c with
    | 0, _ => rfl
    | 1, _ => rfl
    | 2, _ => rfl
    | 3, _ => rfl
    | 4, _ => rfl
    | 5, _ => rfl
    | 6, _ => rfl
    | 7, _ => rfl
    | 8, _ => rfl
    | 9, _ => rfl
    | 10, _ => rfl
    | 11, _ => rfl
    | 12, _ => rfl
    | 13, _ => rfl
    | 14, _ => rfl
    | 15, _ => rfl
    | 16, _ => rfl
    | 17, _ => rfl
    | 18, _ => rfl
    | 19, _ => rfl
    | 20, _ => rfl
    | 21, _ => rfl
    | 22, _ => rfl
    | 23, _ => rfl
    | 24, _ => rfl
    | 25, _ => rfl
    | 26, _ => rfl
    | 27, _ => rfl
    | 28, _ => rfl
    | 29, _ => rfl
    | 30, _ => rfl
    | 31, _ => rfl
    | 32, _ => rfl
    | 33, _ => rfl
    | 34, _ => rfl
    | 35, _ => rfl
    | 36, _ => rfl
    | 37, _ => rfl
    | 38, _ => rfl
    | 39, _ => rfl
    | 40, _ => rfl
    | 41, _ => rfl
    | 42, _ => rfl
    | 43, _ => rfl
    | 44, _ => rfl
    | 45, _ => rfl
    | 46, _ => rfl
    | 47, _ => rfl
    | 48, _ => rfl
    | 49, _ => rfl
    | 50, _ => rfl
    | 51, _ => rfl
    | 52, _ => rfl
    | 53, _ => rfl
    | 54, _ => rfl
    | 55, _ => rfl
    | 56, _ => rfl
    | 57, _ => rfl
    | 58, _ => rfl
    | 59, _ => rfl
    | 60, _ => rfl
    | 61, _ => rfl
    | 62, _ => rfl
    | 63, _ => rfl
    | 64, _ => rfl
    | 65, _ => rfl
    | 66, _ => rfl
    | 67, _ => rfl
    | 68, _ => rfl
    | 69, _ => rfl
    | 70, _ => rfl
    | 71, _ => rfl
    | 72, _ =>
      have e : va_up X k xs 0 = X 0 := va_up_ne _ _ (fun q => (h72 q.symm).1 rfl)
      show wd_o (a + 72) (va_up X k xs 0) = wd_o (a + 72) (X 0)
      rw [e]
    | 73, _ =>
      have e : va_up X k xs 0 = X 0 := va_up_ne _ _ (fun q => (h72 q.symm).2 rfl)
      show wd_a 3 (va_up X k xs 0) = wd_a 3 (X 0)
      rw [e]
    | 74, _ =>
      have e : va_up X k xs 1 = X 1 := va_up_ne _ _ (fun q => (h74 q.symm).1 rfl)
      show wd_o (a + 74) (va_up X k xs 1) = wd_o (a + 74) (X 1)
      rw [e]
    | 75, _ =>
      have e : va_up X k xs 1 = X 1 := va_up_ne _ _ (fun q => (h74 q.symm).2 rfl)
      show wd_a 3 (va_up X k xs 1) = wd_a 3 (X 1)
      rw [e]
    | 76, _ => rfl
    | 77, _ => rfl
    | 78, _ => rfl
    | 79, _ => rfl
    | 80, _ => rfl
    | 81, _ => rfl
    | 82, _ =>
      have e : va_up X k xs 2 = X 2 := va_up_ne _ _ (fun q => (h82 q.symm).1 rfl)
      show wd_o (a + 82) (va_up X k xs 2) = wd_o (a + 82) (X 2)
      rw [e]
    | 83, _ =>
      have e : va_up X k xs 2 = X 2 := va_up_ne _ _ (fun q => (h82 q.symm).2 rfl)
      show wd_a 11 (va_up X k xs 2) = wd_a 11 (X 2)
      rw [e]
    | 84, _ =>
      have e : va_up X k xs 3 = X 3 := va_up_ne _ _ (fun q => (h84 q.symm).1 rfl)
      show wd_o (a + 84) (va_up X k xs 3) = wd_o (a + 84) (X 3)
      rw [e]
    | 85, _ =>
      have e : va_up X k xs 3 = X 3 := va_up_ne _ _ (fun q => (h84 q.symm).2 rfl)
      show wd_a 3 (va_up X k xs 3) = wd_a 3 (X 3)
      rw [e]
    | 86, _ =>
      have e : va_up X k xs 9 = X 9 := va_up_ne _ _ (fun q => (h86 q.symm).1 rfl)
      show wd_o (a + 86) (va_up X k xs 9) = wd_o (a + 86) (X 9)
      rw [e]
    | 87, _ =>
      have e : va_up X k xs 9 = X 9 := va_up_ne _ _ (fun q => (h86 q.symm).2 rfl)
      show wd_a 11 (va_up X k xs 9) = wd_a 11 (X 9)
      rw [e]
    | 88, _ =>
      have e : va_up X k xs 4 = X 4 := va_up_ne _ _ (fun q => (h88 q.symm).1 rfl)
      show wd_o (a + 88) (va_up X k xs 4) = wd_o (a + 88) (X 4)
      rw [e]
    | 89, _ =>
      have e : va_up X k xs 4 = X 4 := va_up_ne _ _ (fun q => (h88 q.symm).2 rfl)
      show wd_a 3 (va_up X k xs 4) = wd_a 3 (X 4)
      rw [e]
    | 90, _ =>
      have e : va_up X k xs 10 = X 10 := va_up_ne _ _ (fun q => (h90 q.symm).1 rfl)
      show wd_o (a + 90) (va_up X k xs 10) = wd_o (a + 90) (X 10)
      rw [e]
    | 91, _ =>
      have e : va_up X k xs 10 = X 10 := va_up_ne _ _ (fun q => (h90 q.symm).2 rfl)
      show wd_a 11 (va_up X k xs 10) = wd_a 11 (X 10)
      rw [e]
    | 92, _ =>
      have e : va_up X k xs 5 = X 5 := va_up_ne _ _ (fun q => (h92 q.symm).1 rfl)
      show wd_o (a + 92) (va_up X k xs 5) = wd_o (a + 92) (X 5)
      rw [e]
    | 93, _ =>
      have e : va_up X k xs 5 = X 5 := va_up_ne _ _ (fun q => (h92 q.symm).2 rfl)
      show wd_a 3 (va_up X k xs 5) = wd_a 3 (X 5)
      rw [e]
    | 94, _ =>
      have e : va_up X k xs 11 = X 11 := va_up_ne _ _ (fun q => (h94 q.symm).1 rfl)
      show wd_o (a + 94) (va_up X k xs 11) = wd_o (a + 94) (X 11)
      rw [e]
    | 95, _ =>
      have e : va_up X k xs 11 = X 11 := va_up_ne _ _ (fun q => (h94 q.symm).2 rfl)
      show wd_a 11 (va_up X k xs 11) = wd_a 11 (X 11)
      rw [e]
    | 96, _ =>
      have e : va_up X k xs 6 = X 6 := va_up_ne _ _ (fun q => (h96 q.symm).1 rfl)
      show wd_o (a + 96) (va_up X k xs 6) = wd_o (a + 96) (X 6)
      rw [e]
    | 97, _ =>
      have e : va_up X k xs 6 = X 6 := va_up_ne _ _ (fun q => (h96 q.symm).2 rfl)
      show wd_a 3 (va_up X k xs 6) = wd_a 3 (X 6)
      rw [e]
    | 98, _ =>
      have e : va_up X k xs 12 = X 12 := va_up_ne _ _ (fun q => (h98 q.symm).1 rfl)
      show wd_o (a + 98) (va_up X k xs 12) = wd_o (a + 98) (X 12)
      rw [e]
    | 99, _ =>
      have e : va_up X k xs 12 = X 12 := va_up_ne _ _ (fun q => (h98 q.symm).2 rfl)
      show wd_a 11 (va_up X k xs 12) = wd_a 11 (X 12)
      rw [e]
    | 100, _ =>
      have e : va_up X k xs 7 = X 7 := va_up_ne _ _ (fun q => (h100 q.symm).1 rfl)
      show wd_o (a + 100) (va_up X k xs 7) = wd_o (a + 100) (X 7)
      rw [e]
    | 101, _ =>
      have e : va_up X k xs 7 = X 7 := va_up_ne _ _ (fun q => (h100 q.symm).2 rfl)
      show wd_a 3 (va_up X k xs 7) = wd_a 3 (X 7)
      rw [e]
    | 102, _ =>
      have e : va_up X k xs 13 = X 13 := va_up_ne _ _ (fun q => (h102 q.symm).1 rfl)
      show wd_o (a + 102) (va_up X k xs 13) = wd_o (a + 102) (X 13)
      rw [e]
    | 103, _ =>
      have e : va_up X k xs 13 = X 13 := va_up_ne _ _ (fun q => (h102 q.symm).2 rfl)
      show wd_a 11 (va_up X k xs 13) = wd_a 11 (X 13)
      rw [e]
    | 104, _ =>
      have e : va_up X k xs 8 = X 8 := va_up_ne _ _ (fun q => (h104 q.symm).1 rfl)
      show wd_o (a + 104) (va_up X k xs 8) = wd_o (a + 104) (X 8)
      rw [e]
    | 105, _ =>
      have e : va_up X k xs 8 = X 8 := va_up_ne _ _ (fun q => (h104 q.symm).2 rfl)
      show wd_a 3 (va_up X k xs 8) = wd_a 3 (X 8)
      rw [e]
    | 106, _ =>
      have e : va_up X k xs 14 = X 14 := va_up_ne _ _ (fun q => (h106 q.symm).1 rfl)
      show wd_o (a + 106) (va_up X k xs 14) = wd_o (a + 106) (X 14)
      rw [e]
    | 107, _ =>
      have e : va_up X k xs 14 = X 14 := va_up_ne _ _ (fun q => (h106 q.symm).2 rfl)
      show wd_a 11 (va_up X k xs 14) = wd_a 11 (X 14)
      rw [e]
    | o + 108, c => exact absurd c (by omega)
  · obtain ⟨j, hj⟩ : ∃ j, o = j + 108 := ⟨o - 108, by omega⟩
    subst hj
    show (if (j + 108 - 108) % 2 = 0 then wd_o (a + (j + 108)) (va_up X k xs (15 + (j + 108 - 108) / 2)) else wd_a 11 (va_up X k xs (15 + (j + 108 - 108) / 2))) = (if (j + 108 - 108) % 2 = 0 then wd_o (a + (j + 108)) (X (15 + (j + 108 - 108) / 2)) else wd_a 11 (X (15 + (j + 108 - 108) / 2)))
    have e : va_up X k xs (15 + (j + 108 - 108) / 2) = X (15 + (j + 108 - 108) / 2) := va_up_ne _ _ (fun q => by have := hw (by omega); omega)
    rw [e]
theorem bo_wi72 {G : rz_G} {a : Nat} {I : Nat → Int32} {A : Nat → Nat → Int32} {J : Nat → Nat → Int64} {X : Nat → List Nat} {P : Nat → Nat} (hX : wd_ok 3 (X 0)) : wd_is (bo_put G a I A J X P) (a + 72) 3 (X 0) := ⟨bo_at (o := 72) (by decide), bo_at (o := 73) (by decide), hX⟩
theorem bo_wp72 {G : rz_G} {a : Nat} {I : Nat → Int32} {A : Nat → Nat → Int32} {J : Nat → Nat → Int64} {X : Nat → List Nat} {P : Nat → Nat} {xs : List Nat}  : wd_put (bo_put G a I A J X P) (a + 72) 3 xs = bo_put G a I A J (va_up X 0 xs) P := by
  funext x
  simp only [wd_put, rz_up]
  by_cases c1 : x = a + 72 + 1
  · rw [if_pos c1, c1, Nat.add_assoc, bo_at (by omega)]
    exact congrArg some ((show bo_cell a I A J (va_up X 0 xs) P (72 + 1) = wd_a 3 xs by show wd_a 3 (va_up X 0 xs 0) = _; rw [va_up_self])).symm
  · rw [if_neg c1]
    by_cases c2 : x = a + 72
    · rw [if_pos c2, c2, bo_at (by omega)]
      exact congrArg some ((show bo_cell a I A J (va_up X 0 xs) P 72 = wd_o (a + 72) xs by show wd_o (a + 72) (va_up X 0 xs 0) = _; rw [va_up_self])).symm
    · rw [if_neg c2]
      simp only [bo_put]
      split
      · next q => rw [bo_xc (G := G) (by omega) (fun q2 => by omega) (fun q2 => by omega) (fun q2 => by omega) (fun q2 => by omega) (fun q2 => by omega) (fun q2 => by omega) (fun q2 => by omega) (fun q2 => by omega) (fun q2 => by omega) (fun q2 => by omega) (fun q2 => by omega) (fun q2 => by omega) (fun q2 => by omega) (fun q2 => by omega) (fun q2 => by omega) (fun q2 => by omega)]
      · rfl
theorem bo_wi74 {G : rz_G} {a : Nat} {I : Nat → Int32} {A : Nat → Nat → Int32} {J : Nat → Nat → Int64} {X : Nat → List Nat} {P : Nat → Nat} (hX : wd_ok 3 (X 1)) : wd_is (bo_put G a I A J X P) (a + 74) 3 (X 1) := ⟨bo_at (o := 74) (by decide), bo_at (o := 75) (by decide), hX⟩
theorem bo_wp74 {G : rz_G} {a : Nat} {I : Nat → Int32} {A : Nat → Nat → Int32} {J : Nat → Nat → Int64} {X : Nat → List Nat} {P : Nat → Nat} {xs : List Nat}  : wd_put (bo_put G a I A J X P) (a + 74) 3 xs = bo_put G a I A J (va_up X 1 xs) P := by
  funext x
  simp only [wd_put, rz_up]
  by_cases c1 : x = a + 74 + 1
  · rw [if_pos c1, c1, Nat.add_assoc, bo_at (by omega)]
    exact congrArg some ((show bo_cell a I A J (va_up X 1 xs) P (74 + 1) = wd_a 3 xs by show wd_a 3 (va_up X 1 xs 1) = _; rw [va_up_self])).symm
  · rw [if_neg c1]
    by_cases c2 : x = a + 74
    · rw [if_pos c2, c2, bo_at (by omega)]
      exact congrArg some ((show bo_cell a I A J (va_up X 1 xs) P 74 = wd_o (a + 74) xs by show wd_o (a + 74) (va_up X 1 xs 1) = _; rw [va_up_self])).symm
    · rw [if_neg c2]
      simp only [bo_put]
      split
      · next q => rw [bo_xc (G := G) (by omega) (fun q2 => by omega) (fun q2 => by omega) (fun q2 => by omega) (fun q2 => by omega) (fun q2 => by omega) (fun q2 => by omega) (fun q2 => by omega) (fun q2 => by omega) (fun q2 => by omega) (fun q2 => by omega) (fun q2 => by omega) (fun q2 => by omega) (fun q2 => by omega) (fun q2 => by omega) (fun q2 => by omega) (fun q2 => by omega)]
      · rfl
theorem bo_wi82 {G : rz_G} {a : Nat} {I : Nat → Int32} {A : Nat → Nat → Int32} {J : Nat → Nat → Int64} {X : Nat → List Nat} {P : Nat → Nat} (hX : wd_ok 11 (X 2)) : wd_is (bo_put G a I A J X P) (a + 82) 11 (X 2) := ⟨bo_at (o := 82) (by decide), bo_at (o := 83) (by decide), hX⟩
theorem bo_wp82 {G : rz_G} {a : Nat} {I : Nat → Int32} {A : Nat → Nat → Int32} {J : Nat → Nat → Int64} {X : Nat → List Nat} {P : Nat → Nat} {xs : List Nat}  : wd_put (bo_put G a I A J X P) (a + 82) 11 xs = bo_put G a I A J (va_up X 2 xs) P := by
  funext x
  simp only [wd_put, rz_up]
  by_cases c1 : x = a + 82 + 1
  · rw [if_pos c1, c1, Nat.add_assoc, bo_at (by omega)]
    exact congrArg some ((show bo_cell a I A J (va_up X 2 xs) P (82 + 1) = wd_a 11 xs by show wd_a 11 (va_up X 2 xs 2) = _; rw [va_up_self])).symm
  · rw [if_neg c1]
    by_cases c2 : x = a + 82
    · rw [if_pos c2, c2, bo_at (by omega)]
      exact congrArg some ((show bo_cell a I A J (va_up X 2 xs) P 82 = wd_o (a + 82) xs by show wd_o (a + 82) (va_up X 2 xs 2) = _; rw [va_up_self])).symm
    · rw [if_neg c2]
      simp only [bo_put]
      split
      · next q => rw [bo_xc (G := G) (by omega) (fun q2 => by omega) (fun q2 => by omega) (fun q2 => by omega) (fun q2 => by omega) (fun q2 => by omega) (fun q2 => by omega) (fun q2 => by omega) (fun q2 => by omega) (fun q2 => by omega) (fun q2 => by omega) (fun q2 => by omega) (fun q2 => by omega) (fun q2 => by omega) (fun q2 => by omega) (fun q2 => by omega) (fun q2 => by omega)]
      · rfl
theorem bo_wi84 {G : rz_G} {a : Nat} {I : Nat → Int32} {A : Nat → Nat → Int32} {J : Nat → Nat → Int64} {X : Nat → List Nat} {P : Nat → Nat} (hX : wd_ok 3 (X 3)) : wd_is (bo_put G a I A J X P) (a + 84) 3 (X 3) := ⟨bo_at (o := 84) (by decide), bo_at (o := 85) (by decide), hX⟩
theorem bo_wp84 {G : rz_G} {a : Nat} {I : Nat → Int32} {A : Nat → Nat → Int32} {J : Nat → Nat → Int64} {X : Nat → List Nat} {P : Nat → Nat} {xs : List Nat}  : wd_put (bo_put G a I A J X P) (a + 84) 3 xs = bo_put G a I A J (va_up X 3 xs) P := by
  funext x
  simp only [wd_put, rz_up]
  by_cases c1 : x = a + 84 + 1
  · rw [if_pos c1, c1, Nat.add_assoc, bo_at (by omega)]
    exact congrArg some ((show bo_cell a I A J (va_up X 3 xs) P (84 + 1) = wd_a 3 xs by show wd_a 3 (va_up X 3 xs 3) = _; rw [va_up_self])).symm
  · rw [if_neg c1]
    by_cases c2 : x = a + 84
    · rw [if_pos c2, c2, bo_at (by omega)]
      exact congrArg some ((show bo_cell a I A J (va_up X 3 xs) P 84 = wd_o (a + 84) xs by show wd_o (a + 84) (va_up X 3 xs 3) = _; rw [va_up_self])).symm
    · rw [if_neg c2]
      simp only [bo_put]
      split
      · next q => rw [bo_xc (G := G) (by omega) (fun q2 => by omega) (fun q2 => by omega) (fun q2 => by omega) (fun q2 => by omega) (fun q2 => by omega) (fun q2 => by omega) (fun q2 => by omega) (fun q2 => by omega) (fun q2 => by omega) (fun q2 => by omega) (fun q2 => by omega) (fun q2 => by omega) (fun q2 => by omega) (fun q2 => by omega) (fun q2 => by omega) (fun q2 => by omega)]
      · rfl
theorem bo_wi86 {G : rz_G} {a : Nat} {I : Nat → Int32} {A : Nat → Nat → Int32} {J : Nat → Nat → Int64} {X : Nat → List Nat} {P : Nat → Nat} (hX : wd_ok 11 (X 9)) : wd_is (bo_put G a I A J X P) (a + 86) 11 (X 9) := ⟨bo_at (o := 86) (by decide), bo_at (o := 87) (by decide), hX⟩
theorem bo_wp86 {G : rz_G} {a : Nat} {I : Nat → Int32} {A : Nat → Nat → Int32} {J : Nat → Nat → Int64} {X : Nat → List Nat} {P : Nat → Nat} {xs : List Nat}  : wd_put (bo_put G a I A J X P) (a + 86) 11 xs = bo_put G a I A J (va_up X 9 xs) P := by
  funext x
  simp only [wd_put, rz_up]
  by_cases c1 : x = a + 86 + 1
  · rw [if_pos c1, c1, Nat.add_assoc, bo_at (by omega)]
    exact congrArg some ((show bo_cell a I A J (va_up X 9 xs) P (86 + 1) = wd_a 11 xs by show wd_a 11 (va_up X 9 xs 9) = _; rw [va_up_self])).symm
  · rw [if_neg c1]
    by_cases c2 : x = a + 86
    · rw [if_pos c2, c2, bo_at (by omega)]
      exact congrArg some ((show bo_cell a I A J (va_up X 9 xs) P 86 = wd_o (a + 86) xs by show wd_o (a + 86) (va_up X 9 xs 9) = _; rw [va_up_self])).symm
    · rw [if_neg c2]
      simp only [bo_put]
      split
      · next q => rw [bo_xc (G := G) (by omega) (fun q2 => by omega) (fun q2 => by omega) (fun q2 => by omega) (fun q2 => by omega) (fun q2 => by omega) (fun q2 => by omega) (fun q2 => by omega) (fun q2 => by omega) (fun q2 => by omega) (fun q2 => by omega) (fun q2 => by omega) (fun q2 => by omega) (fun q2 => by omega) (fun q2 => by omega) (fun q2 => by omega) (fun q2 => by omega)]
      · rfl
theorem bo_wi88 {G : rz_G} {a : Nat} {I : Nat → Int32} {A : Nat → Nat → Int32} {J : Nat → Nat → Int64} {X : Nat → List Nat} {P : Nat → Nat} (hX : wd_ok 3 (X 4)) : wd_is (bo_put G a I A J X P) (a + 88) 3 (X 4) := ⟨bo_at (o := 88) (by decide), bo_at (o := 89) (by decide), hX⟩
theorem bo_wp88 {G : rz_G} {a : Nat} {I : Nat → Int32} {A : Nat → Nat → Int32} {J : Nat → Nat → Int64} {X : Nat → List Nat} {P : Nat → Nat} {xs : List Nat}  : wd_put (bo_put G a I A J X P) (a + 88) 3 xs = bo_put G a I A J (va_up X 4 xs) P := by
  funext x
  simp only [wd_put, rz_up]
  by_cases c1 : x = a + 88 + 1
  · rw [if_pos c1, c1, Nat.add_assoc, bo_at (by omega)]
    exact congrArg some ((show bo_cell a I A J (va_up X 4 xs) P (88 + 1) = wd_a 3 xs by show wd_a 3 (va_up X 4 xs 4) = _; rw [va_up_self])).symm
  · rw [if_neg c1]
    by_cases c2 : x = a + 88
    · rw [if_pos c2, c2, bo_at (by omega)]
      exact congrArg some ((show bo_cell a I A J (va_up X 4 xs) P 88 = wd_o (a + 88) xs by show wd_o (a + 88) (va_up X 4 xs 4) = _; rw [va_up_self])).symm
    · rw [if_neg c2]
      simp only [bo_put]
      split
      · next q => rw [bo_xc (G := G) (by omega) (fun q2 => by omega) (fun q2 => by omega) (fun q2 => by omega) (fun q2 => by omega) (fun q2 => by omega) (fun q2 => by omega) (fun q2 => by omega) (fun q2 => by omega) (fun q2 => by omega) (fun q2 => by omega) (fun q2 => by omega) (fun q2 => by omega) (fun q2 => by omega) (fun q2 => by omega) (fun q2 => by omega) (fun q2 => by omega)]
      · rfl
theorem bo_wi90 {G : rz_G} {a : Nat} {I : Nat → Int32} {A : Nat → Nat → Int32} {J : Nat → Nat → Int64} {X : Nat → List Nat} {P : Nat → Nat} (hX : wd_ok 11 (X 10)) : wd_is (bo_put G a I A J X P) (a + 90) 11 (X 10) := ⟨bo_at (o := 90) (by decide), bo_at (o := 91) (by decide), hX⟩
theorem bo_wp90 {G : rz_G} {a : Nat} {I : Nat → Int32} {A : Nat → Nat → Int32} {J : Nat → Nat → Int64} {X : Nat → List Nat} {P : Nat → Nat} {xs : List Nat}  : wd_put (bo_put G a I A J X P) (a + 90) 11 xs = bo_put G a I A J (va_up X 10 xs) P := by
  funext x
  simp only [wd_put, rz_up]
  by_cases c1 : x = a + 90 + 1
  · rw [if_pos c1, c1, Nat.add_assoc, bo_at (by omega)]
    exact congrArg some ((show bo_cell a I A J (va_up X 10 xs) P (90 + 1) = wd_a 11 xs by show wd_a 11 (va_up X 10 xs 10) = _; rw [va_up_self])).symm
  · rw [if_neg c1]
    by_cases c2 : x = a + 90
    · rw [if_pos c2, c2, bo_at (by omega)]
      exact congrArg some ((show bo_cell a I A J (va_up X 10 xs) P 90 = wd_o (a + 90) xs by show wd_o (a + 90) (va_up X 10 xs 10) = _; rw [va_up_self])).symm
    · rw [if_neg c2]
      simp only [bo_put]
      split
      · next q => rw [bo_xc (G := G) (by omega) (fun q2 => by omega) (fun q2 => by omega) (fun q2 => by omega) (fun q2 => by omega) (fun q2 => by omega) (fun q2 => by omega) (fun q2 => by omega) (fun q2 => by omega) (fun q2 => by omega) (fun q2 => by omega) (fun q2 => by omega) (fun q2 => by omega) (fun q2 => by omega) (fun q2 => by omega) (fun q2 => by omega) (fun q2 => by omega)]
      · rfl
theorem bo_wi92 {G : rz_G} {a : Nat} {I : Nat → Int32} {A : Nat → Nat → Int32} {J : Nat → Nat → Int64} {X : Nat → List Nat} {P : Nat → Nat} (hX : wd_ok 3 (X 5)) : wd_is (bo_put G a I A J X P) (a + 92) 3 (X 5) := ⟨bo_at (o := 92) (by decide), bo_at (o := 93) (by decide), hX⟩
theorem bo_wp92 {G : rz_G} {a : Nat} {I : Nat → Int32} {A : Nat → Nat → Int32} {J : Nat → Nat → Int64} {X : Nat → List Nat} {P : Nat → Nat} {xs : List Nat}  : wd_put (bo_put G a I A J X P) (a + 92) 3 xs = bo_put G a I A J (va_up X 5 xs) P := by
  funext x
  simp only [wd_put, rz_up]
  by_cases c1 : x = a + 92 + 1
  · rw [if_pos c1, c1, Nat.add_assoc, bo_at (by omega)]
    exact congrArg some ((show bo_cell a I A J (va_up X 5 xs) P (92 + 1) = wd_a 3 xs by show wd_a 3 (va_up X 5 xs 5) = _; rw [va_up_self])).symm
  · rw [if_neg c1]
    by_cases c2 : x = a + 92
    · rw [if_pos c2, c2, bo_at (by omega)]
      exact congrArg some ((show bo_cell a I A J (va_up X 5 xs) P 92 = wd_o (a + 92) xs by show wd_o (a + 92) (va_up X 5 xs 5) = _; rw [va_up_self])).symm
    · rw [if_neg c2]
      simp only [bo_put]
      split
      · next q => rw [bo_xc (G := G) (by omega) (fun q2 => by omega) (fun q2 => by omega) (fun q2 => by omega) (fun q2 => by omega) (fun q2 => by omega) (fun q2 => by omega) (fun q2 => by omega) (fun q2 => by omega) (fun q2 => by omega) (fun q2 => by omega) (fun q2 => by omega) (fun q2 => by omega) (fun q2 => by omega) (fun q2 => by omega) (fun q2 => by omega) (fun q2 => by omega)]
      · rfl
theorem bo_wi94 {G : rz_G} {a : Nat} {I : Nat → Int32} {A : Nat → Nat → Int32} {J : Nat → Nat → Int64} {X : Nat → List Nat} {P : Nat → Nat} (hX : wd_ok 11 (X 11)) : wd_is (bo_put G a I A J X P) (a + 94) 11 (X 11) := ⟨bo_at (o := 94) (by decide), bo_at (o := 95) (by decide), hX⟩
theorem bo_wp94 {G : rz_G} {a : Nat} {I : Nat → Int32} {A : Nat → Nat → Int32} {J : Nat → Nat → Int64} {X : Nat → List Nat} {P : Nat → Nat} {xs : List Nat}  : wd_put (bo_put G a I A J X P) (a + 94) 11 xs = bo_put G a I A J (va_up X 11 xs) P := by
  funext x
  simp only [wd_put, rz_up]
  by_cases c1 : x = a + 94 + 1
  · rw [if_pos c1, c1, Nat.add_assoc, bo_at (by omega)]
    exact congrArg some ((show bo_cell a I A J (va_up X 11 xs) P (94 + 1) = wd_a 11 xs by show wd_a 11 (va_up X 11 xs 11) = _; rw [va_up_self])).symm
  · rw [if_neg c1]
    by_cases c2 : x = a + 94
    · rw [if_pos c2, c2, bo_at (by omega)]
      exact congrArg some ((show bo_cell a I A J (va_up X 11 xs) P 94 = wd_o (a + 94) xs by show wd_o (a + 94) (va_up X 11 xs 11) = _; rw [va_up_self])).symm
    · rw [if_neg c2]
      simp only [bo_put]
      split
      · next q => rw [bo_xc (G := G) (by omega) (fun q2 => by omega) (fun q2 => by omega) (fun q2 => by omega) (fun q2 => by omega) (fun q2 => by omega) (fun q2 => by omega) (fun q2 => by omega) (fun q2 => by omega) (fun q2 => by omega) (fun q2 => by omega) (fun q2 => by omega) (fun q2 => by omega) (fun q2 => by omega) (fun q2 => by omega) (fun q2 => by omega) (fun q2 => by omega)]
      · rfl
theorem bo_wi96 {G : rz_G} {a : Nat} {I : Nat → Int32} {A : Nat → Nat → Int32} {J : Nat → Nat → Int64} {X : Nat → List Nat} {P : Nat → Nat} (hX : wd_ok 3 (X 6)) : wd_is (bo_put G a I A J X P) (a + 96) 3 (X 6) := ⟨bo_at (o := 96) (by decide), bo_at (o := 97) (by decide), hX⟩
theorem bo_wp96 {G : rz_G} {a : Nat} {I : Nat → Int32} {A : Nat → Nat → Int32} {J : Nat → Nat → Int64} {X : Nat → List Nat} {P : Nat → Nat} {xs : List Nat}  : wd_put (bo_put G a I A J X P) (a + 96) 3 xs = bo_put G a I A J (va_up X 6 xs) P := by
  funext x
  simp only [wd_put, rz_up]
  by_cases c1 : x = a + 96 + 1
  · rw [if_pos c1, c1, Nat.add_assoc, bo_at (by omega)]
    exact congrArg some ((show bo_cell a I A J (va_up X 6 xs) P (96 + 1) = wd_a 3 xs by show wd_a 3 (va_up X 6 xs 6) = _; rw [va_up_self])).symm
  · rw [if_neg c1]
    by_cases c2 : x = a + 96
    · rw [if_pos c2, c2, bo_at (by omega)]
      exact congrArg some ((show bo_cell a I A J (va_up X 6 xs) P 96 = wd_o (a + 96) xs by show wd_o (a + 96) (va_up X 6 xs 6) = _; rw [va_up_self])).symm
    · rw [if_neg c2]
      simp only [bo_put]
      split
      · next q => rw [bo_xc (G := G) (by omega) (fun q2 => by omega) (fun q2 => by omega) (fun q2 => by omega) (fun q2 => by omega) (fun q2 => by omega) (fun q2 => by omega) (fun q2 => by omega) (fun q2 => by omega) (fun q2 => by omega) (fun q2 => by omega) (fun q2 => by omega) (fun q2 => by omega) (fun q2 => by omega) (fun q2 => by omega) (fun q2 => by omega) (fun q2 => by omega)]
      · rfl
theorem bo_wi98 {G : rz_G} {a : Nat} {I : Nat → Int32} {A : Nat → Nat → Int32} {J : Nat → Nat → Int64} {X : Nat → List Nat} {P : Nat → Nat} (hX : wd_ok 11 (X 12)) : wd_is (bo_put G a I A J X P) (a + 98) 11 (X 12) := ⟨bo_at (o := 98) (by decide), bo_at (o := 99) (by decide), hX⟩
theorem bo_wp98 {G : rz_G} {a : Nat} {I : Nat → Int32} {A : Nat → Nat → Int32} {J : Nat → Nat → Int64} {X : Nat → List Nat} {P : Nat → Nat} {xs : List Nat}  : wd_put (bo_put G a I A J X P) (a + 98) 11 xs = bo_put G a I A J (va_up X 12 xs) P := by
  funext x
  simp only [wd_put, rz_up]
  by_cases c1 : x = a + 98 + 1
  · rw [if_pos c1, c1, Nat.add_assoc, bo_at (by omega)]
    exact congrArg some ((show bo_cell a I A J (va_up X 12 xs) P (98 + 1) = wd_a 11 xs by show wd_a 11 (va_up X 12 xs 12) = _; rw [va_up_self])).symm
  · rw [if_neg c1]
    by_cases c2 : x = a + 98
    · rw [if_pos c2, c2, bo_at (by omega)]
      exact congrArg some ((show bo_cell a I A J (va_up X 12 xs) P 98 = wd_o (a + 98) xs by show wd_o (a + 98) (va_up X 12 xs 12) = _; rw [va_up_self])).symm
    · rw [if_neg c2]
      simp only [bo_put]
      split
      · next q => rw [bo_xc (G := G) (by omega) (fun q2 => by omega) (fun q2 => by omega) (fun q2 => by omega) (fun q2 => by omega) (fun q2 => by omega) (fun q2 => by omega) (fun q2 => by omega) (fun q2 => by omega) (fun q2 => by omega) (fun q2 => by omega) (fun q2 => by omega) (fun q2 => by omega) (fun q2 => by omega) (fun q2 => by omega) (fun q2 => by omega) (fun q2 => by omega)]
      · rfl
theorem bo_wi100 {G : rz_G} {a : Nat} {I : Nat → Int32} {A : Nat → Nat → Int32} {J : Nat → Nat → Int64} {X : Nat → List Nat} {P : Nat → Nat} (hX : wd_ok 3 (X 7)) : wd_is (bo_put G a I A J X P) (a + 100) 3 (X 7) := ⟨bo_at (o := 100) (by decide), bo_at (o := 101) (by decide), hX⟩
theorem bo_wp100 {G : rz_G} {a : Nat} {I : Nat → Int32} {A : Nat → Nat → Int32} {J : Nat → Nat → Int64} {X : Nat → List Nat} {P : Nat → Nat} {xs : List Nat}  : wd_put (bo_put G a I A J X P) (a + 100) 3 xs = bo_put G a I A J (va_up X 7 xs) P := by
  funext x
  simp only [wd_put, rz_up]
  by_cases c1 : x = a + 100 + 1
  · rw [if_pos c1, c1, Nat.add_assoc, bo_at (by omega)]
    exact congrArg some ((show bo_cell a I A J (va_up X 7 xs) P (100 + 1) = wd_a 3 xs by show wd_a 3 (va_up X 7 xs 7) = _; rw [va_up_self])).symm
  · rw [if_neg c1]
    by_cases c2 : x = a + 100
    · rw [if_pos c2, c2, bo_at (by omega)]
      exact congrArg some ((show bo_cell a I A J (va_up X 7 xs) P 100 = wd_o (a + 100) xs by show wd_o (a + 100) (va_up X 7 xs 7) = _; rw [va_up_self])).symm
    · rw [if_neg c2]
      simp only [bo_put]
      split
      · next q => rw [bo_xc (G := G) (by omega) (fun q2 => by omega) (fun q2 => by omega) (fun q2 => by omega) (fun q2 => by omega) (fun q2 => by omega) (fun q2 => by omega) (fun q2 => by omega) (fun q2 => by omega) (fun q2 => by omega) (fun q2 => by omega) (fun q2 => by omega) (fun q2 => by omega) (fun q2 => by omega) (fun q2 => by omega) (fun q2 => by omega) (fun q2 => by omega)]
      · rfl
theorem bo_wi102 {G : rz_G} {a : Nat} {I : Nat → Int32} {A : Nat → Nat → Int32} {J : Nat → Nat → Int64} {X : Nat → List Nat} {P : Nat → Nat} (hX : wd_ok 11 (X 13)) : wd_is (bo_put G a I A J X P) (a + 102) 11 (X 13) := ⟨bo_at (o := 102) (by decide), bo_at (o := 103) (by decide), hX⟩
theorem bo_wp102 {G : rz_G} {a : Nat} {I : Nat → Int32} {A : Nat → Nat → Int32} {J : Nat → Nat → Int64} {X : Nat → List Nat} {P : Nat → Nat} {xs : List Nat}  : wd_put (bo_put G a I A J X P) (a + 102) 11 xs = bo_put G a I A J (va_up X 13 xs) P := by
  funext x
  simp only [wd_put, rz_up]
  by_cases c1 : x = a + 102 + 1
  · rw [if_pos c1, c1, Nat.add_assoc, bo_at (by omega)]
    exact congrArg some ((show bo_cell a I A J (va_up X 13 xs) P (102 + 1) = wd_a 11 xs by show wd_a 11 (va_up X 13 xs 13) = _; rw [va_up_self])).symm
  · rw [if_neg c1]
    by_cases c2 : x = a + 102
    · rw [if_pos c2, c2, bo_at (by omega)]
      exact congrArg some ((show bo_cell a I A J (va_up X 13 xs) P 102 = wd_o (a + 102) xs by show wd_o (a + 102) (va_up X 13 xs 13) = _; rw [va_up_self])).symm
    · rw [if_neg c2]
      simp only [bo_put]
      split
      · next q => rw [bo_xc (G := G) (by omega) (fun q2 => by omega) (fun q2 => by omega) (fun q2 => by omega) (fun q2 => by omega) (fun q2 => by omega) (fun q2 => by omega) (fun q2 => by omega) (fun q2 => by omega) (fun q2 => by omega) (fun q2 => by omega) (fun q2 => by omega) (fun q2 => by omega) (fun q2 => by omega) (fun q2 => by omega) (fun q2 => by omega) (fun q2 => by omega)]
      · rfl
theorem bo_wi104 {G : rz_G} {a : Nat} {I : Nat → Int32} {A : Nat → Nat → Int32} {J : Nat → Nat → Int64} {X : Nat → List Nat} {P : Nat → Nat} (hX : wd_ok 3 (X 8)) : wd_is (bo_put G a I A J X P) (a + 104) 3 (X 8) := ⟨bo_at (o := 104) (by decide), bo_at (o := 105) (by decide), hX⟩
theorem bo_wp104 {G : rz_G} {a : Nat} {I : Nat → Int32} {A : Nat → Nat → Int32} {J : Nat → Nat → Int64} {X : Nat → List Nat} {P : Nat → Nat} {xs : List Nat}  : wd_put (bo_put G a I A J X P) (a + 104) 3 xs = bo_put G a I A J (va_up X 8 xs) P := by
  funext x
  simp only [wd_put, rz_up]
  by_cases c1 : x = a + 104 + 1
  · rw [if_pos c1, c1, Nat.add_assoc, bo_at (by omega)]
    exact congrArg some ((show bo_cell a I A J (va_up X 8 xs) P (104 + 1) = wd_a 3 xs by show wd_a 3 (va_up X 8 xs 8) = _; rw [va_up_self])).symm
  · rw [if_neg c1]
    by_cases c2 : x = a + 104
    · rw [if_pos c2, c2, bo_at (by omega)]
      exact congrArg some ((show bo_cell a I A J (va_up X 8 xs) P 104 = wd_o (a + 104) xs by show wd_o (a + 104) (va_up X 8 xs 8) = _; rw [va_up_self])).symm
    · rw [if_neg c2]
      simp only [bo_put]
      split
      · next q => rw [bo_xc (G := G) (by omega) (fun q2 => by omega) (fun q2 => by omega) (fun q2 => by omega) (fun q2 => by omega) (fun q2 => by omega) (fun q2 => by omega) (fun q2 => by omega) (fun q2 => by omega) (fun q2 => by omega) (fun q2 => by omega) (fun q2 => by omega) (fun q2 => by omega) (fun q2 => by omega) (fun q2 => by omega) (fun q2 => by omega) (fun q2 => by omega)]
      · rfl
theorem bo_wi106 {G : rz_G} {a : Nat} {I : Nat → Int32} {A : Nat → Nat → Int32} {J : Nat → Nat → Int64} {X : Nat → List Nat} {P : Nat → Nat} (hX : wd_ok 11 (X 14)) : wd_is (bo_put G a I A J X P) (a + 106) 11 (X 14) := ⟨bo_at (o := 106) (by decide), bo_at (o := 107) (by decide), hX⟩
theorem bo_wp106 {G : rz_G} {a : Nat} {I : Nat → Int32} {A : Nat → Nat → Int32} {J : Nat → Nat → Int64} {X : Nat → List Nat} {P : Nat → Nat} {xs : List Nat}  : wd_put (bo_put G a I A J X P) (a + 106) 11 xs = bo_put G a I A J (va_up X 14 xs) P := by
  funext x
  simp only [wd_put, rz_up]
  by_cases c1 : x = a + 106 + 1
  · rw [if_pos c1, c1, Nat.add_assoc, bo_at (by omega)]
    exact congrArg some ((show bo_cell a I A J (va_up X 14 xs) P (106 + 1) = wd_a 11 xs by show wd_a 11 (va_up X 14 xs 14) = _; rw [va_up_self])).symm
  · rw [if_neg c1]
    by_cases c2 : x = a + 106
    · rw [if_pos c2, c2, bo_at (by omega)]
      exact congrArg some ((show bo_cell a I A J (va_up X 14 xs) P 106 = wd_o (a + 106) xs by show wd_o (a + 106) (va_up X 14 xs 14) = _; rw [va_up_self])).symm
    · rw [if_neg c2]
      simp only [bo_put]
      split
      · next q => rw [bo_xc (G := G) (by omega) (fun q2 => by omega) (fun q2 => by omega) (fun q2 => by omega) (fun q2 => by omega) (fun q2 => by omega) (fun q2 => by omega) (fun q2 => by omega) (fun q2 => by omega) (fun q2 => by omega) (fun q2 => by omega) (fun q2 => by omega) (fun q2 => by omega) (fun q2 => by omega) (fun q2 => by omega) (fun q2 => by omega) (fun q2 => by omega)]
      · rfl
theorem bo_cj0 {G : rz_G} {a : Nat} {I : Nat → Int32} {A : Nat → Nat → Int32} {J : Nat → Nat → Int64} {X : Nat → List Nat} {P : Nat → Nat} {j : Nat} (hj : j < 240) : bo_cell a I A J X P (108 + 2 * j) = wd_o (a + (108 + 2 * j)) (X (15 + j)) := by
  rw [show 108 + 2 * j = (2 * j + 0) + 108 by omega]
  show (if (2 * j + 0 + 108 - 108) % 2 = 0 then _ else _) = _
  rw [if_pos (by omega)]
  simp only [show (2 * j + 0 + 108 - 108) / 2 = j by omega]
theorem bo_cj1 {G : rz_G} {a : Nat} {I : Nat → Int32} {A : Nat → Nat → Int32} {J : Nat → Nat → Int64} {X : Nat → List Nat} {P : Nat → Nat} {j : Nat} (hj : j < 240) : bo_cell a I A J X P (108 + 2 * j + 1) = wd_a 11 (X (15 + j)) := by
  rw [show 108 + 2 * j + 1 = (2 * j + 1 + 0) + 108 by omega]
  show (if (2 * j + 1 + 0 + 108 - 108) % 2 = 0 then _ else _) = _
  rw [if_neg (by omega)]
  simp only [show (2 * j + 1 + 0 + 108 - 108) / 2 = j by omega]
theorem bo_wi {G : rz_G} {a : Nat} {I : Nat → Int32} {A : Nat → Nat → Int32} {J : Nat → Nat → Int64} {X : Nat → List Nat} {P : Nat → Nat} {j : Nat} (hj : j < 240) (hX : wd_ok 11 (X (15 + j))) : wd_is (bo_put G a I A J X P) (a + (108 + 2 * j)) 11 (X (15 + j)) := by
  refine ⟨?_, ?_, hX⟩
  · rw [bo_at (by omega), bo_cj0 (G := G) hj]
  · rw [Nat.add_assoc, bo_at (by omega), bo_cj1 (G := G) hj]
theorem bo_wp {G : rz_G} {a : Nat} {I : Nat → Int32} {A : Nat → Nat → Int32} {J : Nat → Nat → Int64} {X : Nat → List Nat} {P : Nat → Nat} {xs : List Nat} {j : Nat} (hj : j < 240) : wd_put (bo_put G a I A J X P) (a + (108 + 2 * j)) 11 xs = bo_put G a I A J (va_up X (15 + j) xs) P := by
  funext x
  simp only [wd_put, rz_up]
  by_cases c1 : x = a + (108 + 2 * j) + 1
  · rw [if_pos c1, c1, Nat.add_assoc, bo_at (by omega)]
    exact congrArg some ((by rw [bo_cj1 (G := G) hj, va_up_self] : bo_cell a I A J (va_up X (15 + j) xs) P (108 + 2 * j + 1) = wd_a 11 xs)).symm
  · rw [if_neg c1]
    by_cases c2 : x = a + (108 + 2 * j)
    · rw [if_pos c2, c2, bo_at (by omega)]
      exact congrArg some ((by rw [bo_cj0 (G := G) hj, va_up_self] : bo_cell a I A J (va_up X (15 + j) xs) P (108 + 2 * j) = wd_o (a + (108 + 2 * j)) xs)).symm
    · rw [if_neg c2]
      simp only [bo_put]
      split
      · next q => rw [bo_xc (G := G) (by omega) (fun q2 => by omega) (fun q2 => by omega) (fun q2 => by omega) (fun q2 => by omega) (fun q2 => by omega) (fun q2 => by omega) (fun q2 => by omega) (fun q2 => by omega) (fun q2 => by omega) (fun q2 => by omega) (fun q2 => by omega) (fun q2 => by omega) (fun q2 => by omega) (fun q2 => by omega) (fun q2 => by omega) (fun q2 => by omega)]
      · rfl
theorem mc_rup {G : rz_G} {a b : Nat} {e : rz_E} {Im : Nat → Int32} {Am : Nat → Nat → Int32} {Jm : Nat → Nat → Int64} {Xm : Nat → List Nat} {Pm : Nat → Nat} (h : b < a ∨ a + 70 ≤ b) : rz_up (mc_put G a Im Am Jm Xm Pm) b e = mc_put (rz_up G b e) a Im Am Jm Xm Pm := by
  funext x
  simp only [rz_up, mc_put]
  by_cases q : x = b
  · subst q; rw [if_pos rfl, if_neg (by omega), if_pos rfl]
  · rw [if_neg q, if_neg q]
theorem mc_rwd {G : rz_G} {a b c : Nat} {xs : List Nat} {Im : Nat → Int32} {Am : Nat → Nat → Int32} {Jm : Nat → Nat → Int64} {Xm : Nat → List Nat} {Pm : Nat → Nat} (h : b + 1 < a ∨ a + 70 ≤ b) : wd_put (mc_put G a Im Am Jm Xm Pm) b c xs = mc_put (wd_put G b c xs) a Im Am Jm Xm Pm := by
  simp only [wd_put]
  rw [mc_rup (by omega), mc_rup (by omega)]
theorem mc_rwi {G : rz_G} {a b c : Nat} {xs : List Nat} {Im : Nat → Int32} {Am : Nat → Nat → Int32} {Jm : Nat → Nat → Int64} {Xm : Nat → List Nat} {Pm : Nat → Nat} (h : b + 1 < a ∨ a + 70 ≤ b) (hw : wd_is G b c xs) : wd_is (mc_put G a Im Am Jm Xm Pm) b c xs := wd_is_keep hw (mc_out (by omega)) (mc_out (by omega))
theorem bl_out {G : rz_G} {a : Nat} {I : Nat → Int32} {A : Nat → Nat → Int32} {J : Nat → Nat → Int64} {X : Nat → List Nat} {P : Nat → Nat} {Im : Nat → Int32} {Am : Nat → Nat → Int32} {Jm : Nat → Nat → Int64} {Xm : Nat → List Nat} {Pm : Nat → Nat} {x : Nat} (h : x < a ∨ a + 588 ≤ x) : (mc_put (bo_put G a I A J X P) (a + 1) Im Am Jm Xm Pm) x = G x := by rw [mc_out (by omega)]; exact bo_out h
theorem bl_at0 {G : rz_G} {a : Nat} {I : Nat → Int32} {A : Nat → Nat → Int32} {J : Nat → Nat → Int64} {X : Nat → List Nat} {P : Nat → Nat} {Im : Nat → Int32} {Am : Nat → Nat → Int32} {Jm : Nat → Nat → Int64} {Xm : Nat → List Nat} {Pm : Nat → Nat} : (mc_put (bo_put G a I A J X P) (a + 1) Im Am Jm Xm Pm) a = some (.inr (8, bo_fs a I P)) := by rw [mc_out (by omega)]; exact bo_at0
theorem bl_ob {G : rz_G} {a : Nat} {I : Nat → Int32} {A : Nat → Nat → Int32} {J : Nat → Nat → Int64} {X : Nat → List Nat} {P : Nat → Nat} {Im : Nat → Int32} {Am : Nat → Nat → Int32} {Jm : Nat → Nat → Int64} {Xm : Nat → List Nat} {Pm : Nat → Nat} {f : List Value → Prop} : rz_ob (mc_put (bo_put G a I A J X P) (a + 1) Im Am Jm Xm Pm) a 8 f = f (bo_fs a I P) := rh_ob bl_at0
theorem bl_r71 {G : rz_G} {a : Nat} {I : Nat → Int32} {A : Nat → Nat → Int32} {J : Nat → Nat → Int64} {X : Nat → List Nat} {P : Nat → Nat} {Im : Nat → Int32} {Am : Nat → Nat → Int32} {Jm : Nat → Nat → Int64} {Xm : Nat → List Nat} {Pm : Nat → Nat} {f : Nat → Nat → (Nat → Option Nat) → Prop} : rz_ra (mc_put (bo_put G a I A J X P) (a + 1) Im Am Jm Xm Pm) (a + 71) f = f 4 6 (fun q => some (a + (84 + 4 * q))) := rh_ra (by rw [mc_out (by omega)]; exact bo_at (o := 71) (by decide))
theorem bl_wi72 {G : rz_G} {a : Nat} {I : Nat → Int32} {A : Nat → Nat → Int32} {J : Nat → Nat → Int64} {X : Nat → List Nat} {P : Nat → Nat} {Im : Nat → Int32} {Am : Nat → Nat → Int32} {Jm : Nat → Nat → Int64} {Xm : Nat → List Nat} {Pm : Nat → Nat} (hX : wd_ok 3 (X 0)) : wd_is (mc_put (bo_put G a I A J X P) (a + 1) Im Am Jm Xm Pm) (a + 72) 3 (X 0) := mc_rwi (by omega) (bo_wi72 hX)
theorem bl_wp72 {G : rz_G} {a : Nat} {I : Nat → Int32} {A : Nat → Nat → Int32} {J : Nat → Nat → Int64} {X : Nat → List Nat} {P : Nat → Nat} {Im : Nat → Int32} {Am : Nat → Nat → Int32} {Jm : Nat → Nat → Int64} {Xm : Nat → List Nat} {Pm : Nat → Nat} {xs : List Nat} : wd_put (mc_put (bo_put G a I A J X P) (a + 1) Im Am Jm Xm Pm) (a + 72) 3 xs = mc_put (bo_put G a I A J (va_up X 0 xs) P) (a + 1) Im Am Jm Xm Pm := by rw [mc_rwd (by omega), bo_wp72]
theorem bl_wi74 {G : rz_G} {a : Nat} {I : Nat → Int32} {A : Nat → Nat → Int32} {J : Nat → Nat → Int64} {X : Nat → List Nat} {P : Nat → Nat} {Im : Nat → Int32} {Am : Nat → Nat → Int32} {Jm : Nat → Nat → Int64} {Xm : Nat → List Nat} {Pm : Nat → Nat} (hX : wd_ok 3 (X 1)) : wd_is (mc_put (bo_put G a I A J X P) (a + 1) Im Am Jm Xm Pm) (a + 74) 3 (X 1) := mc_rwi (by omega) (bo_wi74 hX)
theorem bl_wp74 {G : rz_G} {a : Nat} {I : Nat → Int32} {A : Nat → Nat → Int32} {J : Nat → Nat → Int64} {X : Nat → List Nat} {P : Nat → Nat} {Im : Nat → Int32} {Am : Nat → Nat → Int32} {Jm : Nat → Nat → Int64} {Xm : Nat → List Nat} {Pm : Nat → Nat} {xs : List Nat} : wd_put (mc_put (bo_put G a I A J X P) (a + 1) Im Am Jm Xm Pm) (a + 74) 3 xs = mc_put (bo_put G a I A J (va_up X 1 xs) P) (a + 1) Im Am Jm Xm Pm := by rw [mc_rwd (by omega), bo_wp74]
theorem bl_c76 {G : rz_G} {a : Nat} {I : Nat → Int32} {A : Nat → Nat → Int32} {J : Nat → Nat → Int64} {X : Nat → List Nat} {P : Nat → Nat} {Im : Nat → Int32} {Am : Nat → Nat → Int32} {Jm : Nat → Nat → Int64} {Xm : Nat → List Nat} {Pm : Nat → Nat} : (mc_put (bo_put G a I A J X P) (a + 1) Im Am Jm Xm Pm) (a + 76) = some (.inl (0, 192, .inl (A 0))) := by rw [mc_out (by omega)]; exact bo_at (o := 76) (by decide)
theorem bl_i76 {G : rz_G} {a : Nat} {I : Nat → Int32} {A : Nat → Nat → Int32} {J : Nat → Nat → Int64} {X : Nat → List Nat} {P : Nat → Nat} {Im : Nat → Int32} {Am : Nat → Nat → Int32} {Jm : Nat → Nat → Int64} {Xm : Nat → List Nat} {Pm : Nat → Nat} {f : Nat → Nat → (Nat → Int32) → Prop} : rz_ia (mc_put (bo_put G a I A J X P) (a + 1) Im Am Jm Xm Pm) (a + 76) f = f 0 192 (A 0) := rh_ia bl_c76
theorem bl_a76 {G : rz_G} {a : Nat} {I : Nat → Int32} {A : Nat → Nat → Int32} {J : Nat → Nat → Int64} {X : Nat → List Nat} {P : Nat → Nat} {Im : Nat → Int32} {Am : Nat → Nat → Int32} {Jm : Nat → Nat → Int64} {Xm : Nat → List Nat} {Pm : Nat → Nat} {g : Nat → Int32} : rz_up (mc_put (bo_put G a I A J X P) (a + 1) Im Am Jm Xm Pm) (a + 76) (.inl (0, 192, .inl g)) = mc_put (bo_put G a I (va_up A 0 g) J X P) (a + 1) Im Am Jm Xm Pm := by rw [mc_rup (by omega), bo_a76]
theorem bl_c77 {G : rz_G} {a : Nat} {I : Nat → Int32} {A : Nat → Nat → Int32} {J : Nat → Nat → Int64} {X : Nat → List Nat} {P : Nat → Nat} {Im : Nat → Int32} {Am : Nat → Nat → Int32} {Jm : Nat → Nat → Int64} {Xm : Nat → List Nat} {Pm : Nat → Nat} : (mc_put (bo_put G a I A J X P) (a + 1) Im Am Jm Xm Pm) (a + 77) = some (.inl (0, 64, .inl (A 1))) := by rw [mc_out (by omega)]; exact bo_at (o := 77) (by decide)
theorem bl_i77 {G : rz_G} {a : Nat} {I : Nat → Int32} {A : Nat → Nat → Int32} {J : Nat → Nat → Int64} {X : Nat → List Nat} {P : Nat → Nat} {Im : Nat → Int32} {Am : Nat → Nat → Int32} {Jm : Nat → Nat → Int64} {Xm : Nat → List Nat} {Pm : Nat → Nat} {f : Nat → Nat → (Nat → Int32) → Prop} : rz_ia (mc_put (bo_put G a I A J X P) (a + 1) Im Am Jm Xm Pm) (a + 77) f = f 0 64 (A 1) := rh_ia bl_c77
theorem bl_a77 {G : rz_G} {a : Nat} {I : Nat → Int32} {A : Nat → Nat → Int32} {J : Nat → Nat → Int64} {X : Nat → List Nat} {P : Nat → Nat} {Im : Nat → Int32} {Am : Nat → Nat → Int32} {Jm : Nat → Nat → Int64} {Xm : Nat → List Nat} {Pm : Nat → Nat} {g : Nat → Int32} : rz_up (mc_put (bo_put G a I A J X P) (a + 1) Im Am Jm Xm Pm) (a + 77) (.inl (0, 64, .inl g)) = mc_put (bo_put G a I (va_up A 1 g) J X P) (a + 1) Im Am Jm Xm Pm := by rw [mc_rup (by omega), bo_a77]
theorem bl_c78 {G : rz_G} {a : Nat} {I : Nat → Int32} {A : Nat → Nat → Int32} {J : Nat → Nat → Int64} {X : Nat → List Nat} {P : Nat → Nat} {Im : Nat → Int32} {Am : Nat → Nat → Int32} {Jm : Nat → Nat → Int64} {Xm : Nat → List Nat} {Pm : Nat → Nat} : (mc_put (bo_put G a I A J X P) (a + 1) Im Am Jm Xm Pm) (a + 78) = some (.inl (0, 64, .inl (A 2))) := by rw [mc_out (by omega)]; exact bo_at (o := 78) (by decide)
theorem bl_i78 {G : rz_G} {a : Nat} {I : Nat → Int32} {A : Nat → Nat → Int32} {J : Nat → Nat → Int64} {X : Nat → List Nat} {P : Nat → Nat} {Im : Nat → Int32} {Am : Nat → Nat → Int32} {Jm : Nat → Nat → Int64} {Xm : Nat → List Nat} {Pm : Nat → Nat} {f : Nat → Nat → (Nat → Int32) → Prop} : rz_ia (mc_put (bo_put G a I A J X P) (a + 1) Im Am Jm Xm Pm) (a + 78) f = f 0 64 (A 2) := rh_ia bl_c78
theorem bl_a78 {G : rz_G} {a : Nat} {I : Nat → Int32} {A : Nat → Nat → Int32} {J : Nat → Nat → Int64} {X : Nat → List Nat} {P : Nat → Nat} {Im : Nat → Int32} {Am : Nat → Nat → Int32} {Jm : Nat → Nat → Int64} {Xm : Nat → List Nat} {Pm : Nat → Nat} {g : Nat → Int32} : rz_up (mc_put (bo_put G a I A J X P) (a + 1) Im Am Jm Xm Pm) (a + 78) (.inl (0, 64, .inl g)) = mc_put (bo_put G a I (va_up A 2 g) J X P) (a + 1) Im Am Jm Xm Pm := by rw [mc_rup (by omega), bo_a78]
theorem bl_c79 {G : rz_G} {a : Nat} {I : Nat → Int32} {A : Nat → Nat → Int32} {J : Nat → Nat → Int64} {X : Nat → List Nat} {P : Nat → Nat} {Im : Nat → Int32} {Am : Nat → Nat → Int32} {Jm : Nat → Nat → Int64} {Xm : Nat → List Nat} {Pm : Nat → Nat} : (mc_put (bo_put G a I A J X P) (a + 1) Im Am Jm Xm Pm) (a + 79) = some (.inl (0, 40, .inl (A 3))) := by rw [mc_out (by omega)]; exact bo_at (o := 79) (by decide)
theorem bl_i79 {G : rz_G} {a : Nat} {I : Nat → Int32} {A : Nat → Nat → Int32} {J : Nat → Nat → Int64} {X : Nat → List Nat} {P : Nat → Nat} {Im : Nat → Int32} {Am : Nat → Nat → Int32} {Jm : Nat → Nat → Int64} {Xm : Nat → List Nat} {Pm : Nat → Nat} {f : Nat → Nat → (Nat → Int32) → Prop} : rz_ia (mc_put (bo_put G a I A J X P) (a + 1) Im Am Jm Xm Pm) (a + 79) f = f 0 40 (A 3) := rh_ia bl_c79
theorem bl_a79 {G : rz_G} {a : Nat} {I : Nat → Int32} {A : Nat → Nat → Int32} {J : Nat → Nat → Int64} {X : Nat → List Nat} {P : Nat → Nat} {Im : Nat → Int32} {Am : Nat → Nat → Int32} {Jm : Nat → Nat → Int64} {Xm : Nat → List Nat} {Pm : Nat → Nat} {g : Nat → Int32} : rz_up (mc_put (bo_put G a I A J X P) (a + 1) Im Am Jm Xm Pm) (a + 79) (.inl (0, 40, .inl g)) = mc_put (bo_put G a I (va_up A 3 g) J X P) (a + 1) Im Am Jm Xm Pm := by rw [mc_rup (by omega), bo_a79]
theorem bl_r80 {G : rz_G} {a : Nat} {I : Nat → Int32} {A : Nat → Nat → Int32} {J : Nat → Nat → Int64} {X : Nat → List Nat} {P : Nat → Nat} {Im : Nat → Int32} {Am : Nat → Nat → Int32} {Jm : Nat → Nat → Int64} {Xm : Nat → List Nat} {Pm : Nat → Nat} {f : Nat → Nat → (Nat → Option Nat) → Prop} : rz_ra (mc_put (bo_put G a I A J X P) (a + 1) Im Am Jm Xm Pm) (a + 80) f = f 4 240 (fun i => some (a + (108 + 2 * i))) := rh_ra (by rw [mc_out (by omega)]; exact bo_at (o := 80) (by decide))
theorem bl_r81 {G : rz_G} {a : Nat} {I : Nat → Int32} {A : Nat → Nat → Int32} {J : Nat → Nat → Int64} {X : Nat → List Nat} {P : Nat → Nat} {Im : Nat → Int32} {Am : Nat → Nat → Int32} {Jm : Nat → Nat → Int64} {Xm : Nat → List Nat} {Pm : Nat → Nat} {f : Nat → Nat → (Nat → Option Nat) → Prop} : rz_ra (mc_put (bo_put G a I A J X P) (a + 1) Im Am Jm Xm Pm) (a + 81) f = f 4 6 (fun q => some (a + (86 + 4 * q))) := rh_ra (by rw [mc_out (by omega)]; exact bo_at (o := 81) (by decide))
theorem bl_wi82 {G : rz_G} {a : Nat} {I : Nat → Int32} {A : Nat → Nat → Int32} {J : Nat → Nat → Int64} {X : Nat → List Nat} {P : Nat → Nat} {Im : Nat → Int32} {Am : Nat → Nat → Int32} {Jm : Nat → Nat → Int64} {Xm : Nat → List Nat} {Pm : Nat → Nat} (hX : wd_ok 11 (X 2)) : wd_is (mc_put (bo_put G a I A J X P) (a + 1) Im Am Jm Xm Pm) (a + 82) 11 (X 2) := mc_rwi (by omega) (bo_wi82 hX)
theorem bl_wp82 {G : rz_G} {a : Nat} {I : Nat → Int32} {A : Nat → Nat → Int32} {J : Nat → Nat → Int64} {X : Nat → List Nat} {P : Nat → Nat} {Im : Nat → Int32} {Am : Nat → Nat → Int32} {Jm : Nat → Nat → Int64} {Xm : Nat → List Nat} {Pm : Nat → Nat} {xs : List Nat} : wd_put (mc_put (bo_put G a I A J X P) (a + 1) Im Am Jm Xm Pm) (a + 82) 11 xs = mc_put (bo_put G a I A J (va_up X 2 xs) P) (a + 1) Im Am Jm Xm Pm := by rw [mc_rwd (by omega), bo_wp82]
theorem bl_wi84 {G : rz_G} {a : Nat} {I : Nat → Int32} {A : Nat → Nat → Int32} {J : Nat → Nat → Int64} {X : Nat → List Nat} {P : Nat → Nat} {Im : Nat → Int32} {Am : Nat → Nat → Int32} {Jm : Nat → Nat → Int64} {Xm : Nat → List Nat} {Pm : Nat → Nat} (hX : wd_ok 3 (X 3)) : wd_is (mc_put (bo_put G a I A J X P) (a + 1) Im Am Jm Xm Pm) (a + 84) 3 (X 3) := mc_rwi (by omega) (bo_wi84 hX)
theorem bl_wp84 {G : rz_G} {a : Nat} {I : Nat → Int32} {A : Nat → Nat → Int32} {J : Nat → Nat → Int64} {X : Nat → List Nat} {P : Nat → Nat} {Im : Nat → Int32} {Am : Nat → Nat → Int32} {Jm : Nat → Nat → Int64} {Xm : Nat → List Nat} {Pm : Nat → Nat} {xs : List Nat} : wd_put (mc_put (bo_put G a I A J X P) (a + 1) Im Am Jm Xm Pm) (a + 84) 3 xs = mc_put (bo_put G a I A J (va_up X 3 xs) P) (a + 1) Im Am Jm Xm Pm := by rw [mc_rwd (by omega), bo_wp84]
theorem bl_wi86 {G : rz_G} {a : Nat} {I : Nat → Int32} {A : Nat → Nat → Int32} {J : Nat → Nat → Int64} {X : Nat → List Nat} {P : Nat → Nat} {Im : Nat → Int32} {Am : Nat → Nat → Int32} {Jm : Nat → Nat → Int64} {Xm : Nat → List Nat} {Pm : Nat → Nat} (hX : wd_ok 11 (X 9)) : wd_is (mc_put (bo_put G a I A J X P) (a + 1) Im Am Jm Xm Pm) (a + 86) 11 (X 9) := mc_rwi (by omega) (bo_wi86 hX)
theorem bl_wp86 {G : rz_G} {a : Nat} {I : Nat → Int32} {A : Nat → Nat → Int32} {J : Nat → Nat → Int64} {X : Nat → List Nat} {P : Nat → Nat} {Im : Nat → Int32} {Am : Nat → Nat → Int32} {Jm : Nat → Nat → Int64} {Xm : Nat → List Nat} {Pm : Nat → Nat} {xs : List Nat} : wd_put (mc_put (bo_put G a I A J X P) (a + 1) Im Am Jm Xm Pm) (a + 86) 11 xs = mc_put (bo_put G a I A J (va_up X 9 xs) P) (a + 1) Im Am Jm Xm Pm := by rw [mc_rwd (by omega), bo_wp86]
theorem bl_wi88 {G : rz_G} {a : Nat} {I : Nat → Int32} {A : Nat → Nat → Int32} {J : Nat → Nat → Int64} {X : Nat → List Nat} {P : Nat → Nat} {Im : Nat → Int32} {Am : Nat → Nat → Int32} {Jm : Nat → Nat → Int64} {Xm : Nat → List Nat} {Pm : Nat → Nat} (hX : wd_ok 3 (X 4)) : wd_is (mc_put (bo_put G a I A J X P) (a + 1) Im Am Jm Xm Pm) (a + 88) 3 (X 4) := mc_rwi (by omega) (bo_wi88 hX)
theorem bl_wp88 {G : rz_G} {a : Nat} {I : Nat → Int32} {A : Nat → Nat → Int32} {J : Nat → Nat → Int64} {X : Nat → List Nat} {P : Nat → Nat} {Im : Nat → Int32} {Am : Nat → Nat → Int32} {Jm : Nat → Nat → Int64} {Xm : Nat → List Nat} {Pm : Nat → Nat} {xs : List Nat} : wd_put (mc_put (bo_put G a I A J X P) (a + 1) Im Am Jm Xm Pm) (a + 88) 3 xs = mc_put (bo_put G a I A J (va_up X 4 xs) P) (a + 1) Im Am Jm Xm Pm := by rw [mc_rwd (by omega), bo_wp88]
theorem bl_wi90 {G : rz_G} {a : Nat} {I : Nat → Int32} {A : Nat → Nat → Int32} {J : Nat → Nat → Int64} {X : Nat → List Nat} {P : Nat → Nat} {Im : Nat → Int32} {Am : Nat → Nat → Int32} {Jm : Nat → Nat → Int64} {Xm : Nat → List Nat} {Pm : Nat → Nat} (hX : wd_ok 11 (X 10)) : wd_is (mc_put (bo_put G a I A J X P) (a + 1) Im Am Jm Xm Pm) (a + 90) 11 (X 10) := mc_rwi (by omega) (bo_wi90 hX)
theorem bl_wp90 {G : rz_G} {a : Nat} {I : Nat → Int32} {A : Nat → Nat → Int32} {J : Nat → Nat → Int64} {X : Nat → List Nat} {P : Nat → Nat} {Im : Nat → Int32} {Am : Nat → Nat → Int32} {Jm : Nat → Nat → Int64} {Xm : Nat → List Nat} {Pm : Nat → Nat} {xs : List Nat} : wd_put (mc_put (bo_put G a I A J X P) (a + 1) Im Am Jm Xm Pm) (a + 90) 11 xs = mc_put (bo_put G a I A J (va_up X 10 xs) P) (a + 1) Im Am Jm Xm Pm := by rw [mc_rwd (by omega), bo_wp90]
theorem bl_wi92 {G : rz_G} {a : Nat} {I : Nat → Int32} {A : Nat → Nat → Int32} {J : Nat → Nat → Int64} {X : Nat → List Nat} {P : Nat → Nat} {Im : Nat → Int32} {Am : Nat → Nat → Int32} {Jm : Nat → Nat → Int64} {Xm : Nat → List Nat} {Pm : Nat → Nat} (hX : wd_ok 3 (X 5)) : wd_is (mc_put (bo_put G a I A J X P) (a + 1) Im Am Jm Xm Pm) (a + 92) 3 (X 5) := mc_rwi (by omega) (bo_wi92 hX)
theorem bl_wp92 {G : rz_G} {a : Nat} {I : Nat → Int32} {A : Nat → Nat → Int32} {J : Nat → Nat → Int64} {X : Nat → List Nat} {P : Nat → Nat} {Im : Nat → Int32} {Am : Nat → Nat → Int32} {Jm : Nat → Nat → Int64} {Xm : Nat → List Nat} {Pm : Nat → Nat} {xs : List Nat} : wd_put (mc_put (bo_put G a I A J X P) (a + 1) Im Am Jm Xm Pm) (a + 92) 3 xs = mc_put (bo_put G a I A J (va_up X 5 xs) P) (a + 1) Im Am Jm Xm Pm := by rw [mc_rwd (by omega), bo_wp92]
theorem bl_wi94 {G : rz_G} {a : Nat} {I : Nat → Int32} {A : Nat → Nat → Int32} {J : Nat → Nat → Int64} {X : Nat → List Nat} {P : Nat → Nat} {Im : Nat → Int32} {Am : Nat → Nat → Int32} {Jm : Nat → Nat → Int64} {Xm : Nat → List Nat} {Pm : Nat → Nat} (hX : wd_ok 11 (X 11)) : wd_is (mc_put (bo_put G a I A J X P) (a + 1) Im Am Jm Xm Pm) (a + 94) 11 (X 11) := mc_rwi (by omega) (bo_wi94 hX)
theorem bl_wp94 {G : rz_G} {a : Nat} {I : Nat → Int32} {A : Nat → Nat → Int32} {J : Nat → Nat → Int64} {X : Nat → List Nat} {P : Nat → Nat} {Im : Nat → Int32} {Am : Nat → Nat → Int32} {Jm : Nat → Nat → Int64} {Xm : Nat → List Nat} {Pm : Nat → Nat} {xs : List Nat} : wd_put (mc_put (bo_put G a I A J X P) (a + 1) Im Am Jm Xm Pm) (a + 94) 11 xs = mc_put (bo_put G a I A J (va_up X 11 xs) P) (a + 1) Im Am Jm Xm Pm := by rw [mc_rwd (by omega), bo_wp94]
theorem bl_wi96 {G : rz_G} {a : Nat} {I : Nat → Int32} {A : Nat → Nat → Int32} {J : Nat → Nat → Int64} {X : Nat → List Nat} {P : Nat → Nat} {Im : Nat → Int32} {Am : Nat → Nat → Int32} {Jm : Nat → Nat → Int64} {Xm : Nat → List Nat} {Pm : Nat → Nat} (hX : wd_ok 3 (X 6)) : wd_is (mc_put (bo_put G a I A J X P) (a + 1) Im Am Jm Xm Pm) (a + 96) 3 (X 6) := mc_rwi (by omega) (bo_wi96 hX)
theorem bl_wp96 {G : rz_G} {a : Nat} {I : Nat → Int32} {A : Nat → Nat → Int32} {J : Nat → Nat → Int64} {X : Nat → List Nat} {P : Nat → Nat} {Im : Nat → Int32} {Am : Nat → Nat → Int32} {Jm : Nat → Nat → Int64} {Xm : Nat → List Nat} {Pm : Nat → Nat} {xs : List Nat} : wd_put (mc_put (bo_put G a I A J X P) (a + 1) Im Am Jm Xm Pm) (a + 96) 3 xs = mc_put (bo_put G a I A J (va_up X 6 xs) P) (a + 1) Im Am Jm Xm Pm := by rw [mc_rwd (by omega), bo_wp96]
theorem bl_wi98 {G : rz_G} {a : Nat} {I : Nat → Int32} {A : Nat → Nat → Int32} {J : Nat → Nat → Int64} {X : Nat → List Nat} {P : Nat → Nat} {Im : Nat → Int32} {Am : Nat → Nat → Int32} {Jm : Nat → Nat → Int64} {Xm : Nat → List Nat} {Pm : Nat → Nat} (hX : wd_ok 11 (X 12)) : wd_is (mc_put (bo_put G a I A J X P) (a + 1) Im Am Jm Xm Pm) (a + 98) 11 (X 12) := mc_rwi (by omega) (bo_wi98 hX)
theorem bl_wp98 {G : rz_G} {a : Nat} {I : Nat → Int32} {A : Nat → Nat → Int32} {J : Nat → Nat → Int64} {X : Nat → List Nat} {P : Nat → Nat} {Im : Nat → Int32} {Am : Nat → Nat → Int32} {Jm : Nat → Nat → Int64} {Xm : Nat → List Nat} {Pm : Nat → Nat} {xs : List Nat} : wd_put (mc_put (bo_put G a I A J X P) (a + 1) Im Am Jm Xm Pm) (a + 98) 11 xs = mc_put (bo_put G a I A J (va_up X 12 xs) P) (a + 1) Im Am Jm Xm Pm := by rw [mc_rwd (by omega), bo_wp98]
theorem bl_wi100 {G : rz_G} {a : Nat} {I : Nat → Int32} {A : Nat → Nat → Int32} {J : Nat → Nat → Int64} {X : Nat → List Nat} {P : Nat → Nat} {Im : Nat → Int32} {Am : Nat → Nat → Int32} {Jm : Nat → Nat → Int64} {Xm : Nat → List Nat} {Pm : Nat → Nat} (hX : wd_ok 3 (X 7)) : wd_is (mc_put (bo_put G a I A J X P) (a + 1) Im Am Jm Xm Pm) (a + 100) 3 (X 7) := mc_rwi (by omega) (bo_wi100 hX)
theorem bl_wp100 {G : rz_G} {a : Nat} {I : Nat → Int32} {A : Nat → Nat → Int32} {J : Nat → Nat → Int64} {X : Nat → List Nat} {P : Nat → Nat} {Im : Nat → Int32} {Am : Nat → Nat → Int32} {Jm : Nat → Nat → Int64} {Xm : Nat → List Nat} {Pm : Nat → Nat} {xs : List Nat} : wd_put (mc_put (bo_put G a I A J X P) (a + 1) Im Am Jm Xm Pm) (a + 100) 3 xs = mc_put (bo_put G a I A J (va_up X 7 xs) P) (a + 1) Im Am Jm Xm Pm := by rw [mc_rwd (by omega), bo_wp100]
theorem bl_wi102 {G : rz_G} {a : Nat} {I : Nat → Int32} {A : Nat → Nat → Int32} {J : Nat → Nat → Int64} {X : Nat → List Nat} {P : Nat → Nat} {Im : Nat → Int32} {Am : Nat → Nat → Int32} {Jm : Nat → Nat → Int64} {Xm : Nat → List Nat} {Pm : Nat → Nat} (hX : wd_ok 11 (X 13)) : wd_is (mc_put (bo_put G a I A J X P) (a + 1) Im Am Jm Xm Pm) (a + 102) 11 (X 13) := mc_rwi (by omega) (bo_wi102 hX)
theorem bl_wp102 {G : rz_G} {a : Nat} {I : Nat → Int32} {A : Nat → Nat → Int32} {J : Nat → Nat → Int64} {X : Nat → List Nat} {P : Nat → Nat} {Im : Nat → Int32} {Am : Nat → Nat → Int32} {Jm : Nat → Nat → Int64} {Xm : Nat → List Nat} {Pm : Nat → Nat} {xs : List Nat} : wd_put (mc_put (bo_put G a I A J X P) (a + 1) Im Am Jm Xm Pm) (a + 102) 11 xs = mc_put (bo_put G a I A J (va_up X 13 xs) P) (a + 1) Im Am Jm Xm Pm := by rw [mc_rwd (by omega), bo_wp102]
theorem bl_wi104 {G : rz_G} {a : Nat} {I : Nat → Int32} {A : Nat → Nat → Int32} {J : Nat → Nat → Int64} {X : Nat → List Nat} {P : Nat → Nat} {Im : Nat → Int32} {Am : Nat → Nat → Int32} {Jm : Nat → Nat → Int64} {Xm : Nat → List Nat} {Pm : Nat → Nat} (hX : wd_ok 3 (X 8)) : wd_is (mc_put (bo_put G a I A J X P) (a + 1) Im Am Jm Xm Pm) (a + 104) 3 (X 8) := mc_rwi (by omega) (bo_wi104 hX)
theorem bl_wp104 {G : rz_G} {a : Nat} {I : Nat → Int32} {A : Nat → Nat → Int32} {J : Nat → Nat → Int64} {X : Nat → List Nat} {P : Nat → Nat} {Im : Nat → Int32} {Am : Nat → Nat → Int32} {Jm : Nat → Nat → Int64} {Xm : Nat → List Nat} {Pm : Nat → Nat} {xs : List Nat} : wd_put (mc_put (bo_put G a I A J X P) (a + 1) Im Am Jm Xm Pm) (a + 104) 3 xs = mc_put (bo_put G a I A J (va_up X 8 xs) P) (a + 1) Im Am Jm Xm Pm := by rw [mc_rwd (by omega), bo_wp104]
theorem bl_wi106 {G : rz_G} {a : Nat} {I : Nat → Int32} {A : Nat → Nat → Int32} {J : Nat → Nat → Int64} {X : Nat → List Nat} {P : Nat → Nat} {Im : Nat → Int32} {Am : Nat → Nat → Int32} {Jm : Nat → Nat → Int64} {Xm : Nat → List Nat} {Pm : Nat → Nat} (hX : wd_ok 11 (X 14)) : wd_is (mc_put (bo_put G a I A J X P) (a + 1) Im Am Jm Xm Pm) (a + 106) 11 (X 14) := mc_rwi (by omega) (bo_wi106 hX)
theorem bl_wp106 {G : rz_G} {a : Nat} {I : Nat → Int32} {A : Nat → Nat → Int32} {J : Nat → Nat → Int64} {X : Nat → List Nat} {P : Nat → Nat} {Im : Nat → Int32} {Am : Nat → Nat → Int32} {Jm : Nat → Nat → Int64} {Xm : Nat → List Nat} {Pm : Nat → Nat} {xs : List Nat} : wd_put (mc_put (bo_put G a I A J X P) (a + 1) Im Am Jm Xm Pm) (a + 106) 11 xs = mc_put (bo_put G a I A J (va_up X 14 xs) P) (a + 1) Im Am Jm Xm Pm := by rw [mc_rwd (by omega), bo_wp106]
theorem bl_wi {G : rz_G} {a : Nat} {I : Nat → Int32} {A : Nat → Nat → Int32} {J : Nat → Nat → Int64} {X : Nat → List Nat} {P : Nat → Nat} {Im : Nat → Int32} {Am : Nat → Nat → Int32} {Jm : Nat → Nat → Int64} {Xm : Nat → List Nat} {Pm : Nat → Nat} {j : Nat} (hj : j < 240) (hX : wd_ok 11 (X (15 + j))) : wd_is (mc_put (bo_put G a I A J X P) (a + 1) Im Am Jm Xm Pm) (a + (108 + 2 * j)) 11 (X (15 + j)) := mc_rwi (by omega) (bo_wi hj hX)
theorem bl_wp {G : rz_G} {a : Nat} {I : Nat → Int32} {A : Nat → Nat → Int32} {J : Nat → Nat → Int64} {X : Nat → List Nat} {P : Nat → Nat} {Im : Nat → Int32} {Am : Nat → Nat → Int32} {Jm : Nat → Nat → Int64} {Xm : Nat → List Nat} {Pm : Nat → Nat} {xs : List Nat} {j : Nat} (hj : j < 240) : wd_put (mc_put (bo_put G a I A J X P) (a + 1) Im Am Jm Xm Pm) (a + (108 + 2 * j)) 11 xs = mc_put (bo_put G a I A J (va_up X (15 + j) xs) P) (a + 1) Im Am Jm Xm Pm := by rw [mc_rwd (by omega), bo_wp hj]
theorem bl_wiH {G : rz_G} {a : Nat} {I : Nat → Int32} {A : Nat → Nat → Int32} {J : Nat → Nat → Int64} {X : Nat → List Nat} {P : Nat → Nat} {Im : Nat → Int32} {Am : Nat → Nat → Int32} {Jm : Nat → Nat → Int64} {Xm : Nat → List Nat} {Pm : Nat → Nat} {q : Nat} (hq : q < 6) (hX : wd_ok 3 (X (3 + q))) : wd_is (mc_put (bo_put G a I A J X P) (a + 1) Im Am Jm Xm Pm) (a + (84 + 4 * q)) 3 (X (3 + q)) := by
  have : q = 0 ∨ q = 1 ∨ q = 2 ∨ q = 3 ∨ q = 4 ∨ q = 5 := by omega
  rcases this with rfl | rfl | rfl | rfl | rfl | rfl
  · exact bl_wi84 hX
  · exact bl_wi88 hX
  · exact bl_wi92 hX
  · exact bl_wi96 hX
  · exact bl_wi100 hX
  · exact bl_wi104 hX
theorem bl_wpH {G : rz_G} {a : Nat} {I : Nat → Int32} {A : Nat → Nat → Int32} {J : Nat → Nat → Int64} {X : Nat → List Nat} {P : Nat → Nat} {Im : Nat → Int32} {Am : Nat → Nat → Int32} {Jm : Nat → Nat → Int64} {Xm : Nat → List Nat} {Pm : Nat → Nat} {xs : List Nat} {q : Nat} (hq : q < 6) : wd_put (mc_put (bo_put G a I A J X P) (a + 1) Im Am Jm Xm Pm) (a + (84 + 4 * q)) 3 xs = mc_put (bo_put G a I A J (va_up X (3 + q) xs) P) (a + 1) Im Am Jm Xm Pm := by
  have : q = 0 ∨ q = 1 ∨ q = 2 ∨ q = 3 ∨ q = 4 ∨ q = 5 := by omega
  rcases this with rfl | rfl | rfl | rfl | rfl | rfl
  · exact bl_wp84
  · exact bl_wp88
  · exact bl_wp92
  · exact bl_wp96
  · exact bl_wp100
  · exact bl_wp104
theorem bl_wiN {G : rz_G} {a : Nat} {I : Nat → Int32} {A : Nat → Nat → Int32} {J : Nat → Nat → Int64} {X : Nat → List Nat} {P : Nat → Nat} {Im : Nat → Int32} {Am : Nat → Nat → Int32} {Jm : Nat → Nat → Int64} {Xm : Nat → List Nat} {Pm : Nat → Nat} {q : Nat} (hq : q < 6) (hX : wd_ok 11 (X (9 + q))) : wd_is (mc_put (bo_put G a I A J X P) (a + 1) Im Am Jm Xm Pm) (a + (86 + 4 * q)) 11 (X (9 + q)) := by
  have : q = 0 ∨ q = 1 ∨ q = 2 ∨ q = 3 ∨ q = 4 ∨ q = 5 := by omega
  rcases this with rfl | rfl | rfl | rfl | rfl | rfl
  · exact bl_wi86 hX
  · exact bl_wi90 hX
  · exact bl_wi94 hX
  · exact bl_wi98 hX
  · exact bl_wi102 hX
  · exact bl_wi106 hX
theorem bl_wpN {G : rz_G} {a : Nat} {I : Nat → Int32} {A : Nat → Nat → Int32} {J : Nat → Nat → Int64} {X : Nat → List Nat} {P : Nat → Nat} {Im : Nat → Int32} {Am : Nat → Nat → Int32} {Jm : Nat → Nat → Int64} {Xm : Nat → List Nat} {Pm : Nat → Nat} {xs : List Nat} {q : Nat} (hq : q < 6) : wd_put (mc_put (bo_put G a I A J X P) (a + 1) Im Am Jm Xm Pm) (a + (86 + 4 * q)) 11 xs = mc_put (bo_put G a I A J (va_up X (9 + q) xs) P) (a + 1) Im Am Jm Xm Pm := by
  have : q = 0 ∨ q = 1 ∨ q = 2 ∨ q = 3 ∨ q = 4 ∨ q = 5 := by omega
  rcases this with rfl | rfl | rfl | rfl | rfl | rfl
  · exact bl_wp86
  · exact bl_wp90
  · exact bl_wp94
  · exact bl_wp98
  · exact bl_wp102
  · exact bl_wp106
theorem bl_u2 {G : rz_G} {a : Nat} {I : Nat → Int32} {A : Nat → Nat → Int32} {J : Nat → Nat → Int64} {X : Nat → List Nat} {P : Nat → Nat} {Im : Nat → Int32} {Am : Nat → Nat → Int32} {Jm : Nat → Nat → Int64} {Xm : Nat → List Nat} {Pm : Nat → Nat} {v : Int32} : rz_up (mc_put (bo_put G a I A J X P) (a + 1) Im Am Jm Xm Pm) a (.inr (8, [.ref (a + 1), .ref (a + 71), .int v, .ref (a + 72), .ref (a + 74), .ref (a + 76), .ref (P 0), .ref (P 1), .ref (a + 79), .ref (a + 80), .int (I 1), .ref (a + 81), .ref (a + 82)])) = mc_put (bo_put G a (upd I 0 v) A J X P) (a + 1) Im Am Jm Xm Pm := by rw [mc_rup (by omega), bo_u2]
theorem bl_u6 {G : rz_G} {a : Nat} {I : Nat → Int32} {A : Nat → Nat → Int32} {J : Nat → Nat → Int64} {X : Nat → List Nat} {P : Nat → Nat} {Im : Nat → Int32} {Am : Nat → Nat → Int32} {Jm : Nat → Nat → Int64} {Xm : Nat → List Nat} {Pm : Nat → Nat} {v : Nat} : rz_up (mc_put (bo_put G a I A J X P) (a + 1) Im Am Jm Xm Pm) a (.inr (8, [.ref (a + 1), .ref (a + 71), .int (I 0), .ref (a + 72), .ref (a + 74), .ref (a + 76), .ref v, .ref (P 1), .ref (a + 79), .ref (a + 80), .int (I 1), .ref (a + 81), .ref (a + 82)])) = mc_put (bo_put G a I A J X (va_up P 0 v)) (a + 1) Im Am Jm Xm Pm := by rw [mc_rup (by omega), bo_u6]
theorem bl_u7 {G : rz_G} {a : Nat} {I : Nat → Int32} {A : Nat → Nat → Int32} {J : Nat → Nat → Int64} {X : Nat → List Nat} {P : Nat → Nat} {Im : Nat → Int32} {Am : Nat → Nat → Int32} {Jm : Nat → Nat → Int64} {Xm : Nat → List Nat} {Pm : Nat → Nat} {v : Nat} : rz_up (mc_put (bo_put G a I A J X P) (a + 1) Im Am Jm Xm Pm) a (.inr (8, [.ref (a + 1), .ref (a + 71), .int (I 0), .ref (a + 72), .ref (a + 74), .ref (a + 76), .ref (P 0), .ref v, .ref (a + 79), .ref (a + 80), .int (I 1), .ref (a + 81), .ref (a + 82)])) = mc_put (bo_put G a I A J X (va_up P 1 v)) (a + 1) Im Am Jm Xm Pm := by rw [mc_rup (by omega), bo_u7]
theorem bl_u10 {G : rz_G} {a : Nat} {I : Nat → Int32} {A : Nat → Nat → Int32} {J : Nat → Nat → Int64} {X : Nat → List Nat} {P : Nat → Nat} {Im : Nat → Int32} {Am : Nat → Nat → Int32} {Jm : Nat → Nat → Int64} {Xm : Nat → List Nat} {Pm : Nat → Nat} {v : Int32} : rz_up (mc_put (bo_put G a I A J X P) (a + 1) Im Am Jm Xm Pm) a (.inr (8, [.ref (a + 1), .ref (a + 71), .int (I 0), .ref (a + 72), .ref (a + 74), .ref (a + 76), .ref (P 0), .ref (P 1), .ref (a + 79), .ref (a + 80), .int v, .ref (a + 81), .ref (a + 82)])) = mc_put (bo_put G a (upd I 1 v) A J X P) (a + 1) Im Am Jm Xm Pm := by rw [mc_rup (by omega), bo_u10]
theorem bl_mc {G : rz_G} {a : Nat} {I : Nat → Int32} {A : Nat → Nat → Int32} {J : Nat → Nat → Int64} {X : Nat → List Nat} {P : Nat → Nat} {Im : Nat → Int32} {Am : Nat → Nat → Int32} {Jm : Nat → Nat → Int64} {Xm : Nat → List Nat} {Pm : Nat → Nat} {am : Nat} {S : mc_S} {m : mv_T} {cl : Nat} (h : mc_at' G am a 588 S m cl) : mc_is (mc_put (bo_put G a I A J X P) (a + 1) Im Am Jm Xm Pm) am S.1 S.2.1 S.2.2.1 S.2.2.2.1 S.2.2.2.2 := mc_is_keep h.1 (fun o ho => bl_out (by have := h.2.2.2; unfold mc_ap at this; omega))

