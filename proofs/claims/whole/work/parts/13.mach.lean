/-! WriterDesk$Machine: 70 cells. Ints: 0 states, 1 edges, 2 closing, 3 settled, 4 alive. Arrays: 0 from, 1 letter, 2 to, 3 sorted, 4 begin. Words: 0 to 23 written, 24 to 29 closings, 30 opening. -/
abbrev mc_fs (a : Nat) (I : Nat → Int32) (P : Nat → Nat) : List Value := [.int (I 0), .int (I 1), .ref (a + 1), .ref (a + 2), .ref (a + 3), .ref (a + 4), .ref (a + 5), .ref (a + 7), .int (I 2), .int (I 3), .int (I 4), .ref (a + 8), .ref (a + 9)]
def mc_cell (a : Nat) (I : Nat → Int32) (A : Nat → Nat → Int32) (J : Nat → Nat → Int64) (X : Nat → List Nat) (P : Nat → Nat) (o : Nat) : rz_E := match o with
  | 0 => .inr (2, mc_fs a I P)
  | 1 => .inl (0, 24, .inl (A 0))
  | 2 => .inl (0, 24, .inl (A 1))
  | 3 => .inl (0, 24, .inl (A 2))
  | 4 => .inl (4, 24, .inr (.inr (.inr (.inr (fun e => some (a + 10 + 2 * e))))))
  | 5 => wd_o (a + 5) (X 30)
  | 6 => wd_a 3 (X 30)
  | 7 => .inl (4, 6, .inr (.inr (.inr (.inr (fun q => some (a + 58 + 2 * q))))))
  | 8 => .inl (0, 24, .inl (A 3))
  | 9 => .inl (0, 19, .inl (A 4))
  | o => if (o - 10) % 2 = 0 then wd_o (a + o) (X (0 + (o - 10) / 2)) else wd_a 3 (X (0 + (o - 10) / 2))
def mc_put (G : rz_G) (a : Nat) (I : Nat → Int32) (A : Nat → Nat → Int32) (J : Nat → Nat → Int64) (X : Nat → List Nat) (P : Nat → Nat) : rz_G := fun x => if a ≤ x ∧ x < a + 70 then some (mc_cell a I A J X P (x - a)) else G x
def mc_is (G : rz_G) (a : Nat) (I : Nat → Int32) (A : Nat → Nat → Int32) (J : Nat → Nat → Int64) (X : Nat → List Nat) (P : Nat → Nat) : Prop := ∀ o, o < 70 → G (a + o) = some (mc_cell a I A J X P o)
theorem mc_at {G : rz_G} {a : Nat} {I : Nat → Int32} {A : Nat → Nat → Int32} {J : Nat → Nat → Int64} {X : Nat → List Nat} {P : Nat → Nat} {o : Nat} (h : o < 70) : mc_put G a I A J X P (a + o) = some (mc_cell a I A J X P o) := by
  simp only [mc_put]; rw [if_pos (by omega), Nat.add_sub_cancel_left]
theorem mc_at0 {G : rz_G} {a : Nat} {I : Nat → Int32} {A : Nat → Nat → Int32} {J : Nat → Nat → Int64} {X : Nat → List Nat} {P : Nat → Nat} : mc_put G a I A J X P a = some (.inr (2, mc_fs a I P)) := mc_at (o := 0) (by decide)
theorem mc_out {G : rz_G} {a : Nat} {I : Nat → Int32} {A : Nat → Nat → Int32} {J : Nat → Nat → Int64} {X : Nat → List Nat} {P : Nat → Nat} {x : Nat} (h : x < a ∨ a + 70 ≤ x) : mc_put G a I A J X P x = G x := by simp only [mc_put]; rw [if_neg (by omega)]
theorem mc_id {G : rz_G} {a : Nat} {I : Nat → Int32} {A : Nat → Nat → Int32} {J : Nat → Nat → Int64} {X : Nat → List Nat} {P : Nat → Nat} (h : mc_is G a I A J X P) : mc_put G a I A J X P = G := by
  funext x
  simp only [mc_put]
  split
  · next q => rw [← h (x - a) (by omega)]; congr 1; omega
  · rfl
theorem mc_put_is {G : rz_G} {a : Nat} {I : Nat → Int32} {A : Nat → Nat → Int32} {J : Nat → Nat → Int64} {X : Nat → List Nat} {P : Nat → Nat} : mc_is (mc_put G a I A J X P) a I A J X P := fun o ho => mc_at ho
theorem mc_put2 {G : rz_G} {a : Nat} {I : Nat → Int32} {A : Nat → Nat → Int32} {J : Nat → Nat → Int64} {X : Nat → List Nat} {P : Nat → Nat} {I' : Nat → Int32} {A' : Nat → Nat → Int32} {J' : Nat → Nat → Int64} {X' : Nat → List Nat} {P' : Nat → Nat} : mc_put (mc_put G a I A J X P) a I' A' J' X' P' = mc_put G a I' A' J' X' P' := by
  funext x; simp only [mc_put]; split <;> simp_all
theorem mc_eq {G : rz_G} {a : Nat} {I : Nat → Int32} {A : Nat → Nat → Int32} {J : Nat → Nat → Int64} {X : Nat → List Nat} {P : Nat → Nat} {I' : Nat → Int32} {A' : Nat → Nat → Int32} {J' : Nat → Nat → Int64} {X' : Nat → List Nat} {P' : Nat → Nat} (h : ∀ o, o < 70 → mc_cell a I A J X P o = mc_cell a I' A' J' X' P' o) : mc_put G a I A J X P = mc_put G a I' A' J' X' P' := by
  funext x; simp only [mc_put]; split
  · next q => rw [h (x - a) (by omega)]
  · rfl
theorem mc_upc {G : rz_G} {a : Nat} {I : Nat → Int32} {A : Nat → Nat → Int32} {J : Nat → Nat → Int64} {X : Nat → List Nat} {P : Nat → Nat} {I' : Nat → Int32} {A' : Nat → Nat → Int32} {J' : Nat → Nat → Int64} {X' : Nat → List Nat} {P' : Nat → Nat} {k : Nat} {e : rz_E} (hk : k < 70) (he : mc_cell a I' A' J' X' P' k = e) (h : ∀ o, o < 70 → o ≠ k → mc_cell a I' A' J' X' P' o = mc_cell a I A J X P o) : rz_up (mc_put G a I A J X P) (a + k) e = mc_put G a I' A' J' X' P' := by
  funext x
  simp only [mc_put, rz_up]
  by_cases q : x = a + k
  · subst q; rw [if_pos rfl, if_pos (by omega), Nat.add_sub_cancel_left, he]
  · rw [if_neg q]
    split
    · next q2 => rw [h (x - a) (by omega) (by omega)]
    · rfl
theorem mc_ob {G : rz_G} {a : Nat} {I : Nat → Int32} {A : Nat → Nat → Int32} {J : Nat → Nat → Int64} {X : Nat → List Nat} {P : Nat → Nat} {f : List Value → Prop} : rz_ob (mc_put G a I A J X P) a 2 f = f (mc_fs a I P) := rh_ob mc_at0
theorem mc_i1 {G : rz_G} {a : Nat} {I : Nat → Int32} {A : Nat → Nat → Int32} {J : Nat → Nat → Int64} {X : Nat → List Nat} {P : Nat → Nat} {f : Nat → Nat → (Nat → Int32) → Prop} : rz_ia (mc_put G a I A J X P) (a + 1) f = f 0 24 (A 0) := rh_ia (mc_at (o := 1) (by decide))
theorem mc_n1 {G : rz_G} {a : Nat} {I : Nat → Int32} {A : Nat → Nat → Int32} {J : Nat → Nat → Int64} {X : Nat → List Nat} {P : Nat → Nat} {f : Nat → Nat → Prop} : rz_aa (mc_put G a I A J X P) (a + 1) f = f 0 24 := rh_aa (mc_at (o := 1) (by decide))
theorem mc_i2 {G : rz_G} {a : Nat} {I : Nat → Int32} {A : Nat → Nat → Int32} {J : Nat → Nat → Int64} {X : Nat → List Nat} {P : Nat → Nat} {f : Nat → Nat → (Nat → Int32) → Prop} : rz_ia (mc_put G a I A J X P) (a + 2) f = f 0 24 (A 1) := rh_ia (mc_at (o := 2) (by decide))
theorem mc_n2 {G : rz_G} {a : Nat} {I : Nat → Int32} {A : Nat → Nat → Int32} {J : Nat → Nat → Int64} {X : Nat → List Nat} {P : Nat → Nat} {f : Nat → Nat → Prop} : rz_aa (mc_put G a I A J X P) (a + 2) f = f 0 24 := rh_aa (mc_at (o := 2) (by decide))
theorem mc_i3 {G : rz_G} {a : Nat} {I : Nat → Int32} {A : Nat → Nat → Int32} {J : Nat → Nat → Int64} {X : Nat → List Nat} {P : Nat → Nat} {f : Nat → Nat → (Nat → Int32) → Prop} : rz_ia (mc_put G a I A J X P) (a + 3) f = f 0 24 (A 2) := rh_ia (mc_at (o := 3) (by decide))
theorem mc_n3 {G : rz_G} {a : Nat} {I : Nat → Int32} {A : Nat → Nat → Int32} {J : Nat → Nat → Int64} {X : Nat → List Nat} {P : Nat → Nat} {f : Nat → Nat → Prop} : rz_aa (mc_put G a I A J X P) (a + 3) f = f 0 24 := rh_aa (mc_at (o := 3) (by decide))
theorem mc_r4 {G : rz_G} {a : Nat} {I : Nat → Int32} {A : Nat → Nat → Int32} {J : Nat → Nat → Int64} {X : Nat → List Nat} {P : Nat → Nat} {f : Nat → Nat → (Nat → Option Nat) → Prop} : rz_ra (mc_put G a I A J X P) (a + 4) f = f 4 24 (fun e => some (a + 10 + 2 * e)) := rh_ra (mc_at (o := 4) (by decide))
theorem mc_r7 {G : rz_G} {a : Nat} {I : Nat → Int32} {A : Nat → Nat → Int32} {J : Nat → Nat → Int64} {X : Nat → List Nat} {P : Nat → Nat} {f : Nat → Nat → (Nat → Option Nat) → Prop} : rz_ra (mc_put G a I A J X P) (a + 7) f = f 4 6 (fun q => some (a + 58 + 2 * q)) := rh_ra (mc_at (o := 7) (by decide))
theorem mc_i8 {G : rz_G} {a : Nat} {I : Nat → Int32} {A : Nat → Nat → Int32} {J : Nat → Nat → Int64} {X : Nat → List Nat} {P : Nat → Nat} {f : Nat → Nat → (Nat → Int32) → Prop} : rz_ia (mc_put G a I A J X P) (a + 8) f = f 0 24 (A 3) := rh_ia (mc_at (o := 8) (by decide))
theorem mc_n8 {G : rz_G} {a : Nat} {I : Nat → Int32} {A : Nat → Nat → Int32} {J : Nat → Nat → Int64} {X : Nat → List Nat} {P : Nat → Nat} {f : Nat → Nat → Prop} : rz_aa (mc_put G a I A J X P) (a + 8) f = f 0 24 := rh_aa (mc_at (o := 8) (by decide))
theorem mc_i9 {G : rz_G} {a : Nat} {I : Nat → Int32} {A : Nat → Nat → Int32} {J : Nat → Nat → Int64} {X : Nat → List Nat} {P : Nat → Nat} {f : Nat → Nat → (Nat → Int32) → Prop} : rz_ia (mc_put G a I A J X P) (a + 9) f = f 0 19 (A 4) := rh_ia (mc_at (o := 9) (by decide))
theorem mc_n9 {G : rz_G} {a : Nat} {I : Nat → Int32} {A : Nat → Nat → Int32} {J : Nat → Nat → Int64} {X : Nat → List Nat} {P : Nat → Nat} {f : Nat → Nat → Prop} : rz_aa (mc_put G a I A J X P) (a + 9) f = f 0 19 := rh_aa (mc_at (o := 9) (by decide))
theorem mc_u0 {G : rz_G} {a : Nat} {I : Nat → Int32} {A : Nat → Nat → Int32} {J : Nat → Nat → Int64} {X : Nat → List Nat} {P : Nat → Nat} {v : Int32} : rz_up (mc_put G a I A J X P) a (.inr (2, [.int v, .int (I 1), .ref (a + 1), .ref (a + 2), .ref (a + 3), .ref (a + 4), .ref (a + 5), .ref (a + 7), .int (I 2), .int (I 3), .int (I 4), .ref (a + 8), .ref (a + 9)])) = mc_put G a (upd I 0 v) A J X P := mc_upc (k := 0) (by decide) rfl (fun o ho hne => by match o, hne with | 0, h => exact absurd rfl h | 1, _ => rfl | 2, _ => rfl | 3, _ => rfl | 4, _ => rfl | 5, _ => rfl | 6, _ => rfl | 7, _ => rfl | 8, _ => rfl | 9, _ => rfl | o + 10, _ => rfl)
theorem mc_u1 {G : rz_G} {a : Nat} {I : Nat → Int32} {A : Nat → Nat → Int32} {J : Nat → Nat → Int64} {X : Nat → List Nat} {P : Nat → Nat} {v : Int32} : rz_up (mc_put G a I A J X P) a (.inr (2, [.int (I 0), .int v, .ref (a + 1), .ref (a + 2), .ref (a + 3), .ref (a + 4), .ref (a + 5), .ref (a + 7), .int (I 2), .int (I 3), .int (I 4), .ref (a + 8), .ref (a + 9)])) = mc_put G a (upd I 1 v) A J X P := mc_upc (k := 0) (by decide) rfl (fun o ho hne => by match o, hne with | 0, h => exact absurd rfl h | 1, _ => rfl | 2, _ => rfl | 3, _ => rfl | 4, _ => rfl | 5, _ => rfl | 6, _ => rfl | 7, _ => rfl | 8, _ => rfl | 9, _ => rfl | o + 10, _ => rfl)
theorem mc_u8 {G : rz_G} {a : Nat} {I : Nat → Int32} {A : Nat → Nat → Int32} {J : Nat → Nat → Int64} {X : Nat → List Nat} {P : Nat → Nat} {v : Int32} : rz_up (mc_put G a I A J X P) a (.inr (2, [.int (I 0), .int (I 1), .ref (a + 1), .ref (a + 2), .ref (a + 3), .ref (a + 4), .ref (a + 5), .ref (a + 7), .int v, .int (I 3), .int (I 4), .ref (a + 8), .ref (a + 9)])) = mc_put G a (upd I 2 v) A J X P := mc_upc (k := 0) (by decide) rfl (fun o ho hne => by match o, hne with | 0, h => exact absurd rfl h | 1, _ => rfl | 2, _ => rfl | 3, _ => rfl | 4, _ => rfl | 5, _ => rfl | 6, _ => rfl | 7, _ => rfl | 8, _ => rfl | 9, _ => rfl | o + 10, _ => rfl)
theorem mc_u9 {G : rz_G} {a : Nat} {I : Nat → Int32} {A : Nat → Nat → Int32} {J : Nat → Nat → Int64} {X : Nat → List Nat} {P : Nat → Nat} {v : Int32} : rz_up (mc_put G a I A J X P) a (.inr (2, [.int (I 0), .int (I 1), .ref (a + 1), .ref (a + 2), .ref (a + 3), .ref (a + 4), .ref (a + 5), .ref (a + 7), .int (I 2), .int v, .int (I 4), .ref (a + 8), .ref (a + 9)])) = mc_put G a (upd I 3 v) A J X P := mc_upc (k := 0) (by decide) rfl (fun o ho hne => by match o, hne with | 0, h => exact absurd rfl h | 1, _ => rfl | 2, _ => rfl | 3, _ => rfl | 4, _ => rfl | 5, _ => rfl | 6, _ => rfl | 7, _ => rfl | 8, _ => rfl | 9, _ => rfl | o + 10, _ => rfl)
theorem mc_u10 {G : rz_G} {a : Nat} {I : Nat → Int32} {A : Nat → Nat → Int32} {J : Nat → Nat → Int64} {X : Nat → List Nat} {P : Nat → Nat} {v : Int32} : rz_up (mc_put G a I A J X P) a (.inr (2, [.int (I 0), .int (I 1), .ref (a + 1), .ref (a + 2), .ref (a + 3), .ref (a + 4), .ref (a + 5), .ref (a + 7), .int (I 2), .int (I 3), .int v, .ref (a + 8), .ref (a + 9)])) = mc_put G a (upd I 4 v) A J X P := mc_upc (k := 0) (by decide) rfl (fun o ho hne => by match o, hne with | 0, h => exact absurd rfl h | 1, _ => rfl | 2, _ => rfl | 3, _ => rfl | 4, _ => rfl | 5, _ => rfl | 6, _ => rfl | 7, _ => rfl | 8, _ => rfl | 9, _ => rfl | o + 10, _ => rfl)
theorem mc_a1 {G : rz_G} {a : Nat} {I : Nat → Int32} {A : Nat → Nat → Int32} {J : Nat → Nat → Int64} {X : Nat → List Nat} {P : Nat → Nat} {g : Nat → Int32} : rz_up (mc_put G a I A J X P) (a + 1) (.inl (0, 24, .inl g)) = mc_put G a I (va_up A 0 g) J X P := mc_upc (k := 1) (by decide) rfl (fun o ho hne => by match o, hne with | 0, _ => rfl | 1, h => exact absurd rfl h | 2, _ => rfl | 3, _ => rfl | 4, _ => rfl | 5, _ => rfl | 6, _ => rfl | 7, _ => rfl | 8, _ => rfl | 9, _ => rfl | o + 10, _ => rfl)
theorem mc_a2 {G : rz_G} {a : Nat} {I : Nat → Int32} {A : Nat → Nat → Int32} {J : Nat → Nat → Int64} {X : Nat → List Nat} {P : Nat → Nat} {g : Nat → Int32} : rz_up (mc_put G a I A J X P) (a + 2) (.inl (0, 24, .inl g)) = mc_put G a I (va_up A 1 g) J X P := mc_upc (k := 2) (by decide) rfl (fun o ho hne => by match o, hne with | 0, _ => rfl | 1, _ => rfl | 2, h => exact absurd rfl h | 3, _ => rfl | 4, _ => rfl | 5, _ => rfl | 6, _ => rfl | 7, _ => rfl | 8, _ => rfl | 9, _ => rfl | o + 10, _ => rfl)
theorem mc_a3 {G : rz_G} {a : Nat} {I : Nat → Int32} {A : Nat → Nat → Int32} {J : Nat → Nat → Int64} {X : Nat → List Nat} {P : Nat → Nat} {g : Nat → Int32} : rz_up (mc_put G a I A J X P) (a + 3) (.inl (0, 24, .inl g)) = mc_put G a I (va_up A 2 g) J X P := mc_upc (k := 3) (by decide) rfl (fun o ho hne => by match o, hne with | 0, _ => rfl | 1, _ => rfl | 2, _ => rfl | 3, h => exact absurd rfl h | 4, _ => rfl | 5, _ => rfl | 6, _ => rfl | 7, _ => rfl | 8, _ => rfl | 9, _ => rfl | o + 10, _ => rfl)
theorem mc_a8 {G : rz_G} {a : Nat} {I : Nat → Int32} {A : Nat → Nat → Int32} {J : Nat → Nat → Int64} {X : Nat → List Nat} {P : Nat → Nat} {g : Nat → Int32} : rz_up (mc_put G a I A J X P) (a + 8) (.inl (0, 24, .inl g)) = mc_put G a I (va_up A 3 g) J X P := mc_upc (k := 8) (by decide) rfl (fun o ho hne => by match o, hne with | 0, _ => rfl | 1, _ => rfl | 2, _ => rfl | 3, _ => rfl | 4, _ => rfl | 5, _ => rfl | 6, _ => rfl | 7, _ => rfl | 8, h => exact absurd rfl h | 9, _ => rfl | o + 10, _ => rfl)
theorem mc_a9 {G : rz_G} {a : Nat} {I : Nat → Int32} {A : Nat → Nat → Int32} {J : Nat → Nat → Int64} {X : Nat → List Nat} {P : Nat → Nat} {g : Nat → Int32} : rz_up (mc_put G a I A J X P) (a + 9) (.inl (0, 19, .inl g)) = mc_put G a I (va_up A 4 g) J X P := mc_upc (k := 9) (by decide) rfl (fun o ho hne => by match o, hne with | 0, _ => rfl | 1, _ => rfl | 2, _ => rfl | 3, _ => rfl | 4, _ => rfl | 5, _ => rfl | 6, _ => rfl | 7, _ => rfl | 8, _ => rfl | 9, h => exact absurd rfl h | o + 10, _ => rfl)
/-- the words of a machine are words: of 48 signs at most, each below 16 -/
def mc_ww (X : Nat → List Nat) : Prop := ∀ k, k < 31 → wd_ok 3 (X k)
theorem mc_wi {G : rz_G} {a : Nat} {I : Nat → Int32} {A : Nat → Nat → Int32} {J : Nat → Nat → Int64} {X : Nat → List Nat} {P : Nat → Nat} (hX : mc_ww X) {k : Nat} (hk : k < 30) : wd_is (mc_put G a I A J X P) (a + 10 + 2 * k) 3 (X k) := by
  refine ⟨?_, ?_, hX k (by omega)⟩
  · rw [show a + 10 + 2 * k = a + (2 * k + 10) by omega, mc_at (by omega)]
    show some (if (2 * k + 10 - 10) % 2 = 0 then _ else _) = _
    rw [if_pos (by omega)]
    simp only [Nat.zero_add, show (2 * k + 10 - 10) / 2 = k by omega]
  · rw [show a + 10 + 2 * k + 1 = a + (2 * k + 1 + 10) by omega, mc_at (by omega)]
    show some (if (2 * k + 1 + 10 - 10) % 2 = 0 then _ else _) = _
    rw [if_neg (by omega)]
    simp only [Nat.zero_add, show (2 * k + 1 + 10 - 10) / 2 = k by omega]
theorem mc_wo {G : rz_G} {a : Nat} {I : Nat → Int32} {A : Nat → Nat → Int32} {J : Nat → Nat → Int64} {X : Nat → List Nat} {P : Nat → Nat} (hX : mc_ww X) : wd_is (mc_put G a I A J X P) (a + 5) 3 (X 30) := ⟨mc_at (o := 5) (by decide), mc_at (o := 6) (by decide), hX 30 (by decide)⟩
theorem mc_cw {G : rz_G} {a : Nat} {I : Nat → Int32} {A : Nat → Nat → Int32} {J : Nat → Nat → Int64} {X : Nat → List Nat} {P : Nat → Nat} {xs : List Nat} {j k : Nat} (hj : j ≠ k) : mc_cell a I A J (va_up X k xs) P (10 + 2 * j) = mc_cell a I A J X P (10 + 2 * j) ∧ mc_cell a I A J (va_up X k xs) P (10 + 2 * j + 1) = mc_cell a I A J X P (10 + 2 * j + 1) := by
  constructor
  · rw [show 10 + 2 * j = 2 * j + 10 by omega]
    show (if (2 * j + 10 - 10) % 2 = 0 then _ else _) = (if (2 * j + 10 - 10) % 2 = 0 then _ else _)
    rw [if_pos (by omega), if_pos (by omega)]
    simp only [Nat.zero_add, show (2 * j + 10 - 10) / 2 = j by omega, va_up_ne _ _ hj]
  · rw [show 10 + 2 * j + 1 = 2 * j + 1 + 10 by omega]
    show (if (2 * j + 1 + 10 - 10) % 2 = 0 then _ else _) = (if (2 * j + 1 + 10 - 10) % 2 = 0 then _ else _)
    rw [if_neg (by omega), if_neg (by omega)]
    simp only [Nat.zero_add, show (2 * j + 1 + 10 - 10) / 2 = j by omega, va_up_ne _ _ hj]
theorem mc_wp {G : rz_G} {a : Nat} {I : Nat → Int32} {A : Nat → Nat → Int32} {J : Nat → Nat → Int64} {X : Nat → List Nat} {P : Nat → Nat} {xs : List Nat} {k : Nat} (hk : k < 30) : wd_put (mc_put G a I A J X P) (a + 10 + 2 * k) 3 xs = mc_put G a I A J (va_up X k xs) P := by
  funext x
  simp only [wd_put, rz_up]
  by_cases c1 : x = a + 10 + 2 * k + 1
  · rw [if_pos c1, c1, show a + 10 + 2 * k + 1 = a + (2 * k + 1 + 10) by omega, mc_at (by omega)]
    show _ = some (if (2 * k + 1 + 10 - 10) % 2 = 0 then _ else _)
    rw [if_neg (by omega)]
    simp only [Nat.zero_add, show (2 * k + 1 + 10 - 10) / 2 = k by omega, va_up_self]
  · rw [if_neg c1]
    by_cases c2 : x = a + 10 + 2 * k
    · rw [if_pos c2, c2, show a + 10 + 2 * k = a + (2 * k + 10) by omega, mc_at (by omega)]
      show _ = some (if (2 * k + 10 - 10) % 2 = 0 then _ else _)
      rw [if_pos (by omega)]
      simp only [Nat.zero_add, show (2 * k + 10 - 10) / 2 = k by omega, va_up_self]
    · rw [if_neg c2]
      simp only [mc_put]
      split
      · next q =>
        congr 1
        by_cases c3 : x - a < 10
        · have c4 : ∀ o, o < 10 → mc_cell a I A J X P o = mc_cell a I A J (va_up X k xs) P o := by
            intro o ho
            have e30 : va_up X k xs 30 = X 30 := va_up_ne _ _ (by omega)
            match o, ho with
            | 0, _ => rfl | 1, _ => rfl | 2, _ => rfl | 3, _ => rfl | 4, _ => rfl | 7, _ => rfl | 8, _ => rfl | 9, _ => rfl
            | 5, _ => show wd_o (a + 5) (X 30) = wd_o (a + 5) (va_up X k xs 30); rw [e30]
            | 6, _ => show wd_a 3 (X 30) = wd_a 3 (va_up X k xs 30); rw [e30]
          exact c4 _ c3
        · obtain ⟨j, hj⟩ : ∃ j, x - a = 10 + 2 * j ∨ x - a = 10 + 2 * j + 1 := ⟨(x - a - 10) / 2, by omega⟩
          have hjk : j ≠ k := by omega
          rcases hj with hj | hj
          · rw [hj]; exact (mc_cw (G := G) hjk).1.symm
          · rw [hj]; exact (mc_cw (G := G) hjk).2.symm
      · rfl
theorem mc_wq {G : rz_G} {a : Nat} {I : Nat → Int32} {A : Nat → Nat → Int32} {J : Nat → Nat → Int64} {X : Nat → List Nat} {P : Nat → Nat} {xs : List Nat} : wd_put (mc_put G a I A J X P) (a + 5) 3 xs = mc_put G a I A J (va_up X 30 xs) P := by
  simp only [wd_put]
  rw [show a + 5 + 1 = a + 6 by rfl]
  have hc : ∀ o, o < 70 → o ≠ 5 → o ≠ 6 → mc_cell a I A J (va_up X 30 xs) P o = mc_cell a I A J X P o := by
    intro o ho h5 h6
    by_cases c3 : o < 10
    · match o, c3, h5, h6 with
      | 0, _, _, _ => rfl | 1, _, _, _ => rfl | 2, _, _, _ => rfl | 3, _, _, _ => rfl | 4, _, _, _ => rfl | 7, _, _, _ => rfl | 8, _, _, _ => rfl | 9, _, _, _ => rfl
      | 5, _, h, _ => exact absurd rfl h
      | 6, _, _, h => exact absurd rfl h
    · obtain ⟨j, hj⟩ : ∃ j, o = 10 + 2 * j ∨ o = 10 + 2 * j + 1 := ⟨(o - 10) / 2, by omega⟩
      have hjk : j ≠ 30 := by omega
      rcases hj with hj | hj
      · rw [hj]; exact (mc_cw (G := G) hjk).1
      · rw [hj]; exact (mc_cw (G := G) hjk).2
  funext x
  simp only [rz_up]
  by_cases c1 : x = a + 6
  · rw [if_pos c1, c1, mc_at (by decide)]; rfl
  · rw [if_neg c1]
    by_cases c2 : x = a + 5
    · rw [if_pos c2, c2, mc_at (by decide)]; rfl
    · rw [if_neg c2]
      simp only [mc_put]
      split
      · next q => rw [hc _ (by omega) (by omega) (by omega)]
      · rfl
set_option maxRecDepth 100000 in
set_option maxHeartbeats 4000000 in
/-- hasState(state), of any int -/
theorem c_Mach_hasState {w : rz_w} {d : Nat} {G : rz_G} {a : Nat} {I : Nat → Int32} {A : Nat → Nat → Int32} {J : Nat → Nat → Int64} {X : Nat → List Nat} {P : Nat → Nat} {n : Nat} (hI : I 0 = nI n) (hn : n ≤ 6) (x : Int32) : rz_C w d 0 0 y_Mach_hasState m_Mach_hasState [.ref a, .int x] (mc_put G a I A J X P) (fun r G' => G' = (mc_put G a I A J X P) ∧ ((∃ k : Nat, k < n ∧ x = nI k ∧ r = some (.int 1)) ∨ ((∀ k : Nat, k < n → x ≠ nI k) ∧ r = some (.int 0)))) := by
  refine rz_enter' [some (.ref a), some (.int x)] (by decide +kernel) rfl rfl (Nat.le_of_ble_eq_true rfl) rfl ?_
  refine rz_blk' [(.iload_n 1, 1, 0, 0), (.ifCond .lt 15, 3, 0, 0), (.iload_n 1, 1, 0, 0), (.aload_n 0, 1, 0, 0), (.getfield 9, 3, 2, 0), (.if_icmp .ge 7, 3, 0, 0), (.iconst 1, 1, 0, 0), (.goto 4, 3, 0, 0)] (by decide +kernel) (Nat.le_refl _) (Nat.le_refl _) (fun K R hK hR => ?_)
  simp only [rw_c1, ↓rx_aload_n0, ↓rx_getfield, ↓rx_goto, ↓rx_iconst, ↓rx_ifCond_lt, ↓rx_if_icmp_ge, ↓rx_iload_n1, ↓rx_nil, ↓ry_fvs, ↓ry_fvz, ↓ry_i1, ↓ry_i2, ↓ry_li0s, ↓ry_li0z, ↓ry_lr0s, ↓ry_lr0z, ↓ry_obu, ↓ry_r1, ↓mc_ob, ↓mc_i1, ↓mc_n1, ↓mc_i2, ↓mc_n2, ↓mc_i3, ↓mc_n3, ↓mc_r4, ↓mc_r7, ↓mc_i8, ↓mc_n8, ↓mc_i9, ↓mc_n9, hI, rz_set, rz_nol, rz_clr, List.set_cons_zero, List.set_cons_succ, rz_tr, Nat.reduceAdd, Int.reduceAdd, Int.reduceToNat, Int.reduceSub, Int.reduceNeg, Int.cast_ofNat_Int]
  refine ⟨fun c1 => hK _ _ _ _ ?_, fun c1 => ⟨fun c2 => hK _ _ _ _ ?_, fun c2 => hK _ _ _ _ ?_⟩⟩
  ·
    refine rz_blk' [(.iconst 0, 1, 0, 0), (.ireturn, 1, 0, 0)] (by decide +kernel) (Nat.le_refl _) (Nat.le_refl _) (fun K R hK hR => ?_)
    simp only [rw_c0, ↓rx_iconst, ↓rx_ireturn, ↓rx_nil, ↓mc_ob, ↓mc_i1, ↓mc_n1, ↓mc_i2, ↓mc_n2, ↓mc_i3, ↓mc_n3, ↓mc_r4, ↓mc_r7, ↓mc_i8, ↓mc_n8, ↓mc_i9, ↓mc_n9, rz_set, rz_nol, rz_clr, List.set_cons_zero, List.set_cons_succ, rz_tr, Nat.reduceAdd, Int.reduceAdd, Int.reduceToNat, Int.reduceSub, Int.reduceNeg, Int.cast_ofNat_Int]
    exact hR _ _ rz_nb_0 ⟨rfl, Or.inr ⟨fun k hk q => nI_pos (by omega) (q ▸ c1), rfl⟩⟩
  ·
    refine rz_blk' [(.iconst 0, 1, 0, 0), (.ireturn, 1, 0, 0)] (by decide +kernel) (Nat.le_refl _) (Nat.le_refl _) (fun K R hK hR => ?_)
    simp only [rw_c0, ↓rx_iconst, ↓rx_ireturn, ↓rx_nil, ↓mc_ob, ↓mc_i1, ↓mc_n1, ↓mc_i2, ↓mc_n2, ↓mc_i3, ↓mc_n3, ↓mc_r4, ↓mc_r7, ↓mc_i8, ↓mc_n8, ↓mc_i9, ↓mc_n9, rz_set, rz_nol, rz_clr, List.set_cons_zero, List.set_cons_succ, rz_tr, Nat.reduceAdd, Int.reduceAdd, Int.reduceToNat, Int.reduceSub, Int.reduceNeg, Int.cast_ofNat_Int]
    refine hR _ _ rz_nb_0 ⟨rfl, Or.inr ⟨fun k hk q => ?_, rfl⟩⟩
    rw [q, nI_leI (by omega) (by omega)] at c2
    omega
  ·
    refine rz_blk' [(.ireturn, 1, 0, 0)] (by decide +kernel) (Nat.le_refl _) (Nat.le_refl _) (fun K R hK hR => ?_)
    simp only [↓rx_ireturn, ↓rx_nil, ↓mc_ob, ↓mc_i1, ↓mc_n1, ↓mc_i2, ↓mc_n2, ↓mc_i3, ↓mc_n3, ↓mc_r4, ↓mc_r7, ↓mc_i8, ↓mc_n8, ↓mc_i9, ↓mc_n9, rz_set, rz_nol, rz_clr, List.set_cons_zero, List.set_cons_succ, rz_tr, Nat.reduceAdd, Int.reduceAdd, Int.reduceToNat, Int.reduceSub, Int.reduceNeg, Int.cast_ofNat_Int]
    rcases pk_ix x (n := n) (by omega) with q | q | ⟨j, hj, q⟩
    · exact absurd q c1
    · exact absurd q c2
    · exact hR _ _ rz_nb_1 ⟨rfl, Or.inl ⟨j, hj, q, rfl⟩⟩
set_option maxRecDepth 100000 in
set_option maxHeartbeats 4000000 in
/-- reset(newStates) -/
theorem c_Mach_reset {w : rz_w} {d : Nat} {G : rz_G} {a : Nat} {I : Nat → Int32} {A : Nat → Nat → Int32} {J : Nat → Nat → Int64} {X : Nat → List Nat} {P : Nat → Nat} (hX : mc_ww X) (x : Int32) : rz_C w (d + 1) 0 0 y_Mach_reset m_Mach_reset [.ref a, .int x] (mc_put G a I A J X P) (fun r G' => r = none ∧ G' = mc_put G a (upd (upd (upd (upd I 0 x) 1 (nI 0)) 2 (nI 0)) 3 (nI 0)) A J (va_up X 30 []) P) := by
  refine rz_enter' [some (.ref a), some (.int x)] (by decide +kernel) rfl rfl (Nat.le_of_ble_eq_true rfl) rfl ?_
  refine rz_blk' [(.aload_n 0, 1, 0, 0), (.iload_n 1, 1, 0, 0), (.putfield 9, 3, 2, 0)] (by decide +kernel) (Nat.le_refl _) (Nat.le_refl _) (fun K R hK hR => ?_)
  simp only [List.length_cons, List.length_nil, Nat.reduceLT, rf_2_0, ↓rx_aload_n0, ↓rx_iload_n1, ↓rx_nil, ↓rx_putfield, ↓ry_li0s, ↓ry_li0z, ↓ry_lr0s, ↓ry_lr0z, ↓ry_obu, ↓ry_vr, true_and, ↓mc_ob, ↓mc_i1, ↓mc_n1, ↓mc_i2, ↓mc_n2, ↓mc_i3, ↓mc_n3, ↓mc_r4, ↓mc_r7, ↓mc_i8, ↓mc_n8, ↓mc_i9, ↓mc_n9, mc_u0, rz_set, rz_nol, rz_clr, List.set_cons_zero, List.set_cons_succ, rz_tr, Nat.reduceAdd, Int.reduceAdd, Int.reduceToNat, Int.reduceSub, Int.reduceNeg, Int.cast_ofNat_Int]
  refine hK _ _ _ _ ?_
  refine rz_blk' [(.aload_n 0, 1, 0, 0), (.iconst 0, 1, 0, 0), (.putfield 15, 3, 2, 1)] (by decide +kernel) (Nat.le_refl _) (Nat.le_refl _) (fun K R hK hR => ?_)
  simp only [List.length_cons, List.length_nil, Nat.reduceLT, rf_2_1, rw_c0, ↓rx_aload_n0, ↓rx_iconst, ↓rx_nil, ↓rx_putfield, ↓ry_lr0s, ↓ry_lr0z, ↓ry_obu, ↓ry_vr, true_and, ↓mc_ob, ↓mc_i1, ↓mc_n1, ↓mc_i2, ↓mc_n2, ↓mc_i3, ↓mc_n3, ↓mc_r4, ↓mc_r7, ↓mc_i8, ↓mc_n8, ↓mc_i9, ↓mc_n9, mc_u1, rz_set, rz_nol, rz_clr, List.set_cons_zero, List.set_cons_succ, rz_tr, Nat.reduceAdd, Int.reduceAdd, Int.reduceToNat, Int.reduceSub, Int.reduceNeg, Int.cast_ofNat_Int]
  refine hK _ _ _ _ ?_
  refine rz_blk' [(.aload_n 0, 1, 0, 0), (.iconst 0, 1, 0, 0), (.putfield 44, 3, 2, 8)] (by decide +kernel) (Nat.le_refl _) (Nat.le_refl _) (fun K R hK hR => ?_)
  simp only [List.length_cons, List.length_nil, Nat.reduceLT, rf_2_8, rw_c0, ↓rx_aload_n0, ↓rx_iconst, ↓rx_nil, ↓rx_putfield, ↓ry_lr0s, ↓ry_lr0z, ↓ry_obu, ↓ry_vr, true_and, ↓mc_ob, ↓mc_i1, ↓mc_n1, ↓mc_i2, ↓mc_n2, ↓mc_i3, ↓mc_n3, ↓mc_r4, ↓mc_r7, ↓mc_i8, ↓mc_n8, ↓mc_i9, ↓mc_n9, mc_u8, rz_set, rz_nol, rz_clr, List.set_cons_zero, List.set_cons_succ, rz_tr, Nat.reduceAdd, Int.reduceAdd, Int.reduceToNat, Int.reduceSub, Int.reduceNeg, Int.cast_ofNat_Int]
  refine hK _ _ _ _ ?_
  refine rz_blk' [(.aload_n 0, 1, 0, 0), (.getfield 37, 3, 2, 6)] (by decide +kernel) (Nat.le_refl _) (Nat.le_refl _) (fun K R hK hR => ?_)
  simp only [↓rx_aload_n0, ↓rx_getfield, ↓rx_nil, ↓ry_fvs, ↓ry_fvz, ↓ry_lr0s, ↓ry_lr0z, ↓ry_obu, ↓ry_r1, ↓mc_ob, ↓mc_i1, ↓mc_n1, ↓mc_i2, ↓mc_n2, ↓mc_i3, ↓mc_n3, ↓mc_r4, ↓mc_r7, ↓mc_i8, ↓mc_n8, ↓mc_i9, ↓mc_n9, rz_set, rz_nol, rz_clr, List.set_cons_zero, List.set_cons_succ, rz_tr, Nat.reduceAdd, Int.reduceAdd, Int.reduceToNat, Int.reduceSub, Int.reduceNeg, Int.cast_ofNat_Int]
  refine hK _ _ _ _ ?_
  refine rz_cV (As := []) (b := a + 5) (S := []) l_Mach_60 (by decide +kernel) rfl (mc_wo hX).1 rfl (Nat.le_of_ble_eq_true rfl) (Nat.le_refl _) (Nat.le_refl _) (c_Word_clear (mc_wo hX)) (fun r G' hq => ?_)
  obtain ⟨rfl, rfl⟩ := hq
  rw [mc_wq]
  simp only [Option.toList, List.nil_append]
  refine rz_blk' [(.aload_n 0, 1, 0, 0), (.iconst 0, 1, 0, 0), (.putfield 47, 3, 2, 9), (.return_, 1, 0, 0)] (by decide +kernel) (Nat.le_refl _) (Nat.le_refl _) (fun K R hK hR => ?_)
  simp only [List.length_cons, List.length_nil, Nat.reduceLT, rf_2_9, rf_2_9t, rw_c0, ↓rx_aload_n0, ↓rx_iconst, ↓rx_nil, ↓rx_putfield, ↓rx_return_, ↓ry_lr0s, ↓ry_lr0z, ↓ry_obu, ↓ry_vr, true_and, ↓mc_ob, ↓mc_i1, ↓mc_n1, ↓mc_i2, ↓mc_n2, ↓mc_i3, ↓mc_n3, ↓mc_r4, ↓mc_r7, ↓mc_i8, ↓mc_n8, ↓mc_i9, ↓mc_n9, mc_u9, rz_set, rz_nol, rz_clr, List.set_cons_zero, List.set_cons_succ, rz_tr, Nat.reduceAdd, Int.reduceAdd, Int.reduceToNat, Int.reduceSub, Int.reduceNeg, Int.cast_ofNat_Int]
  exact hR _ _ (rz_nb_i (by decide)) ⟨rfl, rfl⟩
set_option maxRecDepth 100000 in
set_option maxHeartbeats 4000000 in
/-- addEdge(from, letter, to) -/
theorem c_Mach_addEdge {w : rz_w} {d : Nat} {G : rz_G} {a : Nat} {I : Nat → Int32} {A : Nat → Nat → Int32} {J : Nat → Nat → Int64} {X : Nat → List Nat} {P : Nat → Nat} {n : Nat} (hI : I 1 = nI n) (hn : n < 24) (x y z : Int32) : rz_C w d 0 0 y_Mach_addEdge m_Mach_addEdge [.ref a, .int x, .int y, .int z] (mc_put G a I A J X P) (fun r G' => r = some (.int (nI n)) ∧ G' = mc_put G a (upd (upd I 1 (nI (n + 1))) 3 (nI 0)) (va_up (va_up (va_up A 0 (upd (A 0) n x)) 1 (upd (A 1) n y)) 2 (upd (A 2) n z)) J X P) := by
  refine rz_enter' [some (.ref a), some (.int x), some (.int y), some (.int z), none] (by decide +kernel) rfl rfl (Nat.le_of_ble_eq_true rfl) rfl ?_
  refine rz_blk' [(.aload_n 0, 1, 0, 0), (.getfield 15, 3, 2, 1), (.istore 4, 2, 0, 0)] (by decide +kernel) (Nat.le_refl _) (Nat.le_refl _) (fun K R hK hR => ?_)
  simp only [↓rx_aload_n0, ↓rx_getfield, ↓rx_istore, ↓rx_nil, ↓ry_fvs, ↓ry_fvz, ↓ry_i1, ↓ry_lr0s, ↓ry_lr0z, ↓ry_obu, ↓ry_r1, ↓mc_ob, ↓mc_i1, ↓mc_n1, ↓mc_i2, ↓mc_n2, ↓mc_i3, ↓mc_n3, ↓mc_r4, ↓mc_r7, ↓mc_i8, ↓mc_n8, ↓mc_i9, ↓mc_n9, hI, rz_set, rz_nol, rz_clr, List.set_cons_zero, List.set_cons_succ, rz_tr, Nat.reduceAdd, Int.reduceAdd, Int.reduceToNat, Int.reduceSub, Int.reduceNeg, Int.cast_ofNat_Int]
  refine hK _ _ _ _ ?_
  refine rz_blk' [(.aload_n 0, 1, 0, 0), (.getfield 18, 3, 2, 2), (.iload 4, 2, 0, 0), (.iload_n 1, 1, 0, 0), (.iastore, 1, 0, 0)] (by decide +kernel) (Nat.le_refl _) (Nat.le_refl _) (fun K R hK hR => ?_)
  simp only [↓rx_aload_n0, ↓rx_getfield, ↓rx_iastore, ↓rx_iload, ↓rx_iload_n1, ↓rx_nil, ↓ry_fvs, ↓ry_fvz, ↓ry_iau, ↓ry_li0s, ↓ry_li0z, ↓ry_lr0s, ↓ry_lr0z, ↓ry_obu, ↓ry_r1, ↓ry_rii, true_and, ↓mc_ob, ↓mc_i1, ↓mc_n1, ↓mc_i2, ↓mc_n2, ↓mc_i3, ↓mc_n3, ↓mc_r4, ↓mc_r7, ↓mc_i8, ↓mc_n8, ↓mc_i9, ↓mc_n9, mc_a1, rz_set, rz_nol, rz_clr, List.set_cons_zero, List.set_cons_succ, rz_tr, Nat.reduceAdd, Int.reduceAdd, Int.reduceToNat, Int.reduceSub, Int.reduceNeg, Int.cast_ofNat_Int]
  rw [nI_clamp (by omega)]
  refine ⟨vp_in_nI hn (by decide), hK _ _ _ _ ?_⟩
  refine rz_blk' [(.aload_n 0, 1, 0, 0), (.getfield 22, 3, 2, 3), (.iload 4, 2, 0, 0), (.iload_n 2, 1, 0, 0), (.iastore, 1, 0, 0)] (by decide +kernel) (Nat.le_refl _) (Nat.le_refl _) (fun K R hK hR => ?_)
  simp only [↓rx_aload_n0, ↓rx_getfield, ↓rx_iastore, ↓rx_iload, ↓rx_iload_n2, ↓rx_nil, ↓ry_fvs, ↓ry_fvz, ↓ry_iau, ↓ry_li0s, ↓ry_li0z, ↓ry_lr0s, ↓ry_lr0z, ↓ry_obu, ↓ry_r1, ↓ry_rii, true_and, ↓mc_ob, ↓mc_i1, ↓mc_n1, ↓mc_i2, ↓mc_n2, ↓mc_i3, ↓mc_n3, ↓mc_r4, ↓mc_r7, ↓mc_i8, ↓mc_n8, ↓mc_i9, ↓mc_n9, mc_a2, rz_set, rz_nol, rz_clr, List.set_cons_zero, List.set_cons_succ, rz_tr, Nat.reduceAdd, Int.reduceAdd, Int.reduceToNat, Int.reduceSub, Int.reduceNeg, Int.cast_ofNat_Int]
  rw [nI_clamp (by omega)]
  refine ⟨vp_in_nI hn (by decide), hK _ _ _ _ ?_⟩
  refine rz_blk' [(.aload_n 0, 1, 0, 0), (.getfield 25, 3, 2, 4), (.iload 4, 2, 0, 0), (.iload_n 3, 1, 0, 0), (.iastore, 1, 0, 0)] (by decide +kernel) (Nat.le_refl _) (Nat.le_refl _) (fun K R hK hR => ?_)
  simp only [↓rx_aload_n0, ↓rx_getfield, ↓rx_iastore, ↓rx_iload, ↓rx_iload_n3, ↓rx_nil, ↓ry_fvs, ↓ry_fvz, ↓ry_iau, ↓ry_li0s, ↓ry_li0z, ↓ry_lr0s, ↓ry_lr0z, ↓ry_obu, ↓ry_r1, ↓ry_rii, true_and, ↓mc_ob, ↓mc_i1, ↓mc_n1, ↓mc_i2, ↓mc_n2, ↓mc_i3, ↓mc_n3, ↓mc_r4, ↓mc_r7, ↓mc_i8, ↓mc_n8, ↓mc_i9, ↓mc_n9, mc_a3, rz_set, rz_nol, rz_clr, List.set_cons_zero, List.set_cons_succ, rz_tr, Nat.reduceAdd, Int.reduceAdd, Int.reduceToNat, Int.reduceSub, Int.reduceNeg, Int.cast_ofNat_Int]
  rw [nI_clamp (by omega)]
  refine ⟨vp_in_nI hn (by decide), hK _ _ _ _ ?_⟩
  refine rz_blk' [(.aload_n 0, 1, 0, 0), (.dup, 1, 0, 0), (.getfield 15, 3, 2, 1), (.iconst 1, 1, 0, 0), (.iadd, 1, 0, 0), (.putfield 15, 3, 2, 1)] (by decide +kernel) (Nat.le_refl _) (Nat.le_refl _) (fun K R hK hR => ?_)
  simp only [List.length_cons, List.length_nil, Nat.reduceLT, rf_2_1, rw_c1, ↓rx_aload_n0, ↓rx_dup, ↓rx_getfield, ↓rx_iadd, ↓rx_iconst, ↓rx_nil, ↓rx_putfield, ↓ry_fvs, ↓ry_fvz, ↓ry_i2, ↓ry_lr0s, ↓ry_lr0z, ↓ry_obu, ↓ry_r1, ↓ry_v1i, ↓ry_v1r, ↓ry_vr, true_and, ↓mc_ob, ↓mc_i1, ↓mc_n1, ↓mc_i2, ↓mc_n2, ↓mc_i3, ↓mc_n3, ↓mc_r4, ↓mc_r7, ↓mc_i8, ↓mc_n8, ↓mc_i9, ↓mc_n9, mc_u1, hI, nI_add, rz_set, rz_nol, rz_clr, List.set_cons_zero, List.set_cons_succ, rz_tr, Nat.reduceAdd, Int.reduceAdd, Int.reduceToNat, Int.reduceSub, Int.reduceNeg, Int.cast_ofNat_Int]
  refine hK _ _ _ _ ?_
  refine rz_blk' [(.aload_n 0, 1, 0, 0), (.iconst 0, 1, 0, 0), (.putfield 47, 3, 2, 9), (.iload 4, 2, 0, 0), (.ireturn, 1, 0, 0)] (by decide +kernel) (Nat.le_refl _) (Nat.le_refl _) (fun K R hK hR => ?_)
  simp only [List.length_cons, List.length_nil, Nat.reduceLT, rf_2_9, rf_2_9t, rw_c0, ↓rx_aload_n0, ↓rx_iconst, ↓rx_iload, ↓rx_ireturn, ↓rx_nil, ↓rx_putfield, ↓ry_li0s, ↓ry_li0z, ↓ry_lr0s, ↓ry_lr0z, ↓ry_obu, ↓ry_vr, true_and, ↓mc_ob, ↓mc_i1, ↓mc_n1, ↓mc_i2, ↓mc_n2, ↓mc_i3, ↓mc_n3, ↓mc_r4, ↓mc_r7, ↓mc_i8, ↓mc_n8, ↓mc_i9, ↓mc_n9, mc_u9, rz_set, rz_nol, rz_clr, List.set_cons_zero, List.set_cons_succ, rz_tr, Nat.reduceAdd, Int.reduceAdd, Int.reduceToNat, Int.reduceSub, Int.reduceNeg, Int.cast_ofNat_Int]
  refine hR _ _ (rz_nb_i (by decide)) ⟨rfl, ?_⟩
  rw [va_up_ne _ _ (by decide : (1 : Nat) ≠ 0), va_up_ne _ _ (by decide : (2 : Nat) ≠ 1), va_up_ne _ _ (by decide : (2 : Nat) ≠ 0)]

