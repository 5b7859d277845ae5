/-! the reference WriterDeskModel: 65 cells; ints and arrays by their field numbers -/
def re_fs (a : Nat) (I : Nat → Int32) : List Value := [.int (I 0), .ref (a + 1), .ref (a + 2), .ref (a + 3), .ref (a + 4), .ref (a + 5), .ref (a + 6), .ref (a + 7), .ref (a + 8), .ref (a + 9), .ref (a + 10), .ref (a + 11), .int (I 12), .ref (a + 12), .ref (a + 13), .ref (a + 14), .ref (a + 15), .ref (a + 16), .ref (a + 17), .ref (a + 18), .ref (a + 19), .ref (a + 20), .ref (a + 21), .ref (a + 22), .ref (a + 23), .ref (a + 24), .int (I 26), .int (I 27), .ref (a + 25), .ref (a + 26), .int (I 30), .ref (a + 27), .ref (a + 28), .ref (a + 29), .ref (a + 30), .ref (a + 31), .ref (a + 32), .ref (a + 33), .int (I 38), .ref (a + 34), .ref (a + 35), .int (I 41), .int (I 42), .ref (a + 36), .ref (a + 37), .ref (a + 38), .int (I 46), .int (I 47), .ref (a + 39), .ref (a + 40), .int (I 50), .int (I 51), .ref (a + 41), .ref (a + 42), .ref (a + 43), .ref (a + 44), .ref (a + 45), .ref (a + 46), .int (I 58), .ref (a + 47), .ref (a + 48), .ref (a + 49), .ref (a + 50), .ref (a + 51), .int (I 64), .ref (a + 52), .ref (a + 53), .int (I 67), .int (I 68), .int (I 69), .ref (a + 54), .ref (a + 55), .ref (a + 56), .ref (a + 57), .ref (a + 58), .ref (a + 59), .int (I 76), .ref (a + 60), .ref (a + 61), .ref (a + 62), .ref (a + 63), .ref (a + 64)]
def re_tb : List (Nat × Nat × Nat) := [(1, 0, 6), (2, 0, 6), (3, 0, 144), (4, 0, 144), (5, 0, 144), (6, 0, 144), (7, 0, 432), (8, 0, 36), (9, 0, 108), (10, 0, 6), (11, 0, 18), (13, 0, 4096), (14, 3, 12), (15, 0, 2), (16, 0, 48), (17, 0, 48), (18, 0, 48), (19, 0, 48), (20, 0, 1536), (21, 0, 12), (22, 0, 384), (23, 0, 2), (24, 0, 64), (25, 3, 36), (28, 0, 4200), (29, 0, 4200), (31, 0, 80), (32, 0, 80), (33, 0, 80), (34, 0, 80), (35, 0, 168000), (36, 0, 80), (37, 0, 36), (39, 0, 4100), (40, 0, 4100), (43, 0, 4100), (44, 0, 4100), (45, 3, 4096), (48, 0, 4100), (49, 0, 4100), (52, 0, 210), (53, 0, 210), (54, 0, 8400), (55, 0, 210), (56, 0, 210), (57, 0, 8400), (59, 0, 3010), (60, 0, 3010), (61, 0, 722400), (62, 0, 3010), (63, 0, 4096), (65, 0, 6), (66, 0, 192), (70, 0, 64), (71, 0, 120), (72, 0, 120), (73, 0, 19200), (74, 0, 40), (75, 0, 7680), (77, 0, 252), (78, 0, 40320), (79, 0, 126), (80, 0, 126), (81, 0, 20160)]
def re_cell (a : Nat) (I : Nat → Int32) (A : Nat → Nat → Int32) (o : Nat) : rz_E := match o with
  | 0 => .inr (10, re_fs a I)
  | o + 1 => match re_tb[o]? with
    | some (f, k, n) => .inl (k, n, .inl (A f))
    | none => .inr (0, [])
theorem re_tbn : ∀ x, x < 64 → ∀ y, y < 64 → x ≠ y → (re_tb[x]?.map (fun e => e.1)) ≠ (re_tb[y]?.map (fun e => e.1)) := by decide +kernel
def re_put (G : rz_G) (a : Nat) (I : Nat → Int32) (A : Nat → Nat → Int32) : rz_G := fun x => if a ≤ x ∧ x < a + 65 then some (re_cell a I A (x - a)) else G x
def re_is (G : rz_G) (a : Nat) (I : Nat → Int32) (A : Nat → Nat → Int32) : Prop := ∀ o, o < 65 → G (a + o) = some (re_cell a I A o)
theorem re_at {G : rz_G} {a : Nat} {I : Nat → Int32} {A : Nat → Nat → Int32} {o : Nat} (h : o < 65) : re_put G a I A (a + o) = some (re_cell a I A o) := by
  simp only [re_put]; rw [if_pos (by omega), Nat.add_sub_cancel_left]
theorem re_at0 {G : rz_G} {a : Nat} {I : Nat → Int32} {A : Nat → Nat → Int32} : re_put G a I A a = some (.inr (10, re_fs a I)) := re_at (o := 0) (by decide)
theorem re_out {G : rz_G} {a : Nat} {I : Nat → Int32} {A : Nat → Nat → Int32} {x : Nat} (h : x < a ∨ a + 65 ≤ x) : re_put G a I A x = G x := by simp only [re_put]; rw [if_neg (by omega)]
theorem re_id {G : rz_G} {a : Nat} {I : Nat → Int32} {A : Nat → Nat → Int32} (h : re_is G a I A) : re_put G a I A = G := by
  funext x
  simp only [re_put]
  split
  · next q => rw [← h (x - a) (by omega)]; congr 1; omega
  · rfl
theorem re_put_is {G : rz_G} {a : Nat} {I : Nat → Int32} {A : Nat → Nat → Int32} : re_is (re_put G a I A) a I A := fun o ho => re_at ho
theorem re_upc {G : rz_G} {a : Nat} {I : Nat → Int32} {A : Nat → Nat → Int32} {I' : Nat → Int32} {A' : Nat → Nat → Int32} {k : Nat} {e : rz_E} (hk : k < 65) (he : re_cell a I' A' k = e) (h : ∀ o, o < 65 → o ≠ k → re_cell a I' A' o = re_cell a I A o) : rz_up (re_put G a I A) (a + k) e = re_put G a I' A' := by
  funext x
  simp only [re_put, rz_up]
  by_cases q : x = a + k
  · subst q; rw [if_pos rfl, if_pos (by omega), Nat.add_sub_cancel_left, he]
  · rw [if_neg q]
    split
    · next q2 => rw [h (x - a) (by omega) (by omega)]
    · rfl
theorem re_ob {G : rz_G} {a : Nat} {I : Nat → Int32} {A : Nat → Nat → Int32} {f : List Value → Prop} : rz_ob (re_put G a I A) a 10 f = f (re_fs a I) := rh_ob re_at0
theorem re_len {a : Nat} {I : Nat → Int32} : (re_fs a I).length = 82 := rfl
theorem re_cI {a : Nat} {I I' : Nat → Int32} {A : Nat → Nat → Int32} : ∀ o, o ≠ 0 → re_cell a I' A o = re_cell a I A o
  | 0, h => absurd rfl h
  | n + 1, _ => rfl
theorem re_an {G : rz_G} {a : Nat} {I : Nat → Int32} {A : Nat → Nat → Int32} {g : Nat → Int32} {f k n : Nat} (j : Nat) (hj : re_tb[j]? = some (f, k, n)) (hj2 : j < 64) : rz_up (re_put G a I A) (a + (j + 1)) (.inl (k, n, .inl g)) = re_put G a I (va_up A f g) := by
  refine re_upc (k := j + 1) (by omega) ?_ (fun o ho hne => ?_)
  · simp only [re_cell, hj, va_up_self]
  · match o, ho, hne with
    | 0, _, _ => rfl
    | o + 1, ho, hne =>
      have h1 := re_tbn o (by omega) j hj2 (by omega)
      rw [hj] at h1
      cases h2 : re_tb[o]? with
      | none => simp only [re_cell, h2]
      | some e =>
        obtain ⟨f1, k1, n1⟩ := e
        rw [h2] at h1
        simp only [Option.map_some, ne_eq, Option.some.injEq] at h1
        simp only [re_cell, h2, va_up_ne _ _ h1]
theorem re_F0 {a : Nat} {I : Nat → Int32} {f : Value → Prop} : rz_fv (re_fs a I) 0 f = f (.int (I 0)) := rfl
theorem re_u0 {G : rz_G} {a : Nat} {I : Nat → Int32} {A : Nat → Nat → Int32} {v : Int32} : rz_up (re_put G a I A) a (.inr (10, (re_fs a I).set 0 (.int v))) = re_put G a (upd I 0 v) A := re_upc (k := 0) (by decide) rfl (fun o ho hne => re_cI o hne)
theorem re_F1 {a : Nat} {I : Nat → Int32} {f : Value → Prop} : rz_fv (re_fs a I) 1 f = f (.ref (a + 1)) := rfl
theorem re_i1 {G : rz_G} {a : Nat} {I : Nat → Int32} {A : Nat → Nat → Int32} {f : Nat → Nat → (Nat → Int32) → Prop} : rz_ia (re_put G a I A) (a + 1) f = f 0 6 (A 1) := rh_ia (re_at (o := 1) (by decide))
theorem re_a1 {G : rz_G} {a : Nat} {I : Nat → Int32} {A : Nat → Nat → Int32} {g : Nat → Int32} : rz_up (re_put G a I A) (a + 1) (.inl (0, 6, .inl g)) = re_put G a I (va_up A 1 g) := re_an 0 rfl (by decide)
theorem re_F2 {a : Nat} {I : Nat → Int32} {f : Value → Prop} : rz_fv (re_fs a I) 2 f = f (.ref (a + 2)) := rfl
theorem re_i2 {G : rz_G} {a : Nat} {I : Nat → Int32} {A : Nat → Nat → Int32} {f : Nat → Nat → (Nat → Int32) → Prop} : rz_ia (re_put G a I A) (a + 2) f = f 0 6 (A 2) := rh_ia (re_at (o := 2) (by decide))
theorem re_a2 {G : rz_G} {a : Nat} {I : Nat → Int32} {A : Nat → Nat → Int32} {g : Nat → Int32} : rz_up (re_put G a I A) (a + 2) (.inl (0, 6, .inl g)) = re_put G a I (va_up A 2 g) := re_an 1 rfl (by decide)
theorem re_F3 {a : Nat} {I : Nat → Int32} {f : Value → Prop} : rz_fv (re_fs a I) 3 f = f (.ref (a + 3)) := rfl
theorem re_i3 {G : rz_G} {a : Nat} {I : Nat → Int32} {A : Nat → Nat → Int32} {f : Nat → Nat → (Nat → Int32) → Prop} : rz_ia (re_put G a I A) (a + 3) f = f 0 144 (A 3) := rh_ia (re_at (o := 3) (by decide))
theorem re_a3 {G : rz_G} {a : Nat} {I : Nat → Int32} {A : Nat → Nat → Int32} {g : Nat → Int32} : rz_up (re_put G a I A) (a + 3) (.inl (0, 144, .inl g)) = re_put G a I (va_up A 3 g) := re_an 2 rfl (by decide)
theorem re_F4 {a : Nat} {I : Nat → Int32} {f : Value → Prop} : rz_fv (re_fs a I) 4 f = f (.ref (a + 4)) := rfl
theorem re_i4 {G : rz_G} {a : Nat} {I : Nat → Int32} {A : Nat → Nat → Int32} {f : Nat → Nat → (Nat → Int32) → Prop} : rz_ia (re_put G a I A) (a + 4) f = f 0 144 (A 4) := rh_ia (re_at (o := 4) (by decide))
theorem re_a4 {G : rz_G} {a : Nat} {I : Nat → Int32} {A : Nat → Nat → Int32} {g : Nat → Int32} : rz_up (re_put G a I A) (a + 4) (.inl (0, 144, .inl g)) = re_put G a I (va_up A 4 g) := re_an 3 rfl (by decide)
theorem re_F5 {a : Nat} {I : Nat → Int32} {f : Value → Prop} : rz_fv (re_fs a I) 5 f = f (.ref (a + 5)) := rfl
theorem re_i5 {G : rz_G} {a : Nat} {I : Nat → Int32} {A : Nat → Nat → Int32} {f : Nat → Nat → (Nat → Int32) → Prop} : rz_ia (re_put G a I A) (a + 5) f = f 0 144 (A 5) := rh_ia (re_at (o := 5) (by decide))
theorem re_a5 {G : rz_G} {a : Nat} {I : Nat → Int32} {A : Nat → Nat → Int32} {g : Nat → Int32} : rz_up (re_put G a I A) (a + 5) (.inl (0, 144, .inl g)) = re_put G a I (va_up A 5 g) := re_an 4 rfl (by decide)
theorem re_F6 {a : Nat} {I : Nat → Int32} {f : Value → Prop} : rz_fv (re_fs a I) 6 f = f (.ref (a + 6)) := rfl
theorem re_i6 {G : rz_G} {a : Nat} {I : Nat → Int32} {A : Nat → Nat → Int32} {f : Nat → Nat → (Nat → Int32) → Prop} : rz_ia (re_put G a I A) (a + 6) f = f 0 144 (A 6) := rh_ia (re_at (o := 6) (by decide))
theorem re_a6 {G : rz_G} {a : Nat} {I : Nat → Int32} {A : Nat → Nat → Int32} {g : Nat → Int32} : rz_up (re_put G a I A) (a + 6) (.inl (0, 144, .inl g)) = re_put G a I (va_up A 6 g) := re_an 5 rfl (by decide)
theorem re_F7 {a : Nat} {I : Nat → Int32} {f : Value → Prop} : rz_fv (re_fs a I) 7 f = f (.ref (a + 7)) := rfl
theorem re_i7 {G : rz_G} {a : Nat} {I : Nat → Int32} {A : Nat → Nat → Int32} {f : Nat → Nat → (Nat → Int32) → Prop} : rz_ia (re_put G a I A) (a + 7) f = f 0 432 (A 7) := rh_ia (re_at (o := 7) (by decide))
theorem re_a7 {G : rz_G} {a : Nat} {I : Nat → Int32} {A : Nat → Nat → Int32} {g : Nat → Int32} : rz_up (re_put G a I A) (a + 7) (.inl (0, 432, .inl g)) = re_put G a I (va_up A 7 g) := re_an 6 rfl (by decide)
theorem re_F8 {a : Nat} {I : Nat → Int32} {f : Value → Prop} : rz_fv (re_fs a I) 8 f = f (.ref (a + 8)) := rfl
theorem re_i8 {G : rz_G} {a : Nat} {I : Nat → Int32} {A : Nat → Nat → Int32} {f : Nat → Nat → (Nat → Int32) → Prop} : rz_ia (re_put G a I A) (a + 8) f = f 0 36 (A 8) := rh_ia (re_at (o := 8) (by decide))
theorem re_a8 {G : rz_G} {a : Nat} {I : Nat → Int32} {A : Nat → Nat → Int32} {g : Nat → Int32} : rz_up (re_put G a I A) (a + 8) (.inl (0, 36, .inl g)) = re_put G a I (va_up A 8 g) := re_an 7 rfl (by decide)
theorem re_F9 {a : Nat} {I : Nat → Int32} {f : Value → Prop} : rz_fv (re_fs a I) 9 f = f (.ref (a + 9)) := rfl
theorem re_i9 {G : rz_G} {a : Nat} {I : Nat → Int32} {A : Nat → Nat → Int32} {f : Nat → Nat → (Nat → Int32) → Prop} : rz_ia (re_put G a I A) (a + 9) f = f 0 108 (A 9) := rh_ia (re_at (o := 9) (by decide))
theorem re_a9 {G : rz_G} {a : Nat} {I : Nat → Int32} {A : Nat → Nat → Int32} {g : Nat → Int32} : rz_up (re_put G a I A) (a + 9) (.inl (0, 108, .inl g)) = re_put G a I (va_up A 9 g) := re_an 8 rfl (by decide)
theorem re_F10 {a : Nat} {I : Nat → Int32} {f : Value → Prop} : rz_fv (re_fs a I) 10 f = f (.ref (a + 10)) := rfl
theorem re_i10 {G : rz_G} {a : Nat} {I : Nat → Int32} {A : Nat → Nat → Int32} {f : Nat → Nat → (Nat → Int32) → Prop} : rz_ia (re_put G a I A) (a + 10) f = f 0 6 (A 10) := rh_ia (re_at (o := 10) (by decide))
theorem re_a10 {G : rz_G} {a : Nat} {I : Nat → Int32} {A : Nat → Nat → Int32} {g : Nat → Int32} : rz_up (re_put G a I A) (a + 10) (.inl (0, 6, .inl g)) = re_put G a I (va_up A 10 g) := re_an 9 rfl (by decide)
theorem re_F11 {a : Nat} {I : Nat → Int32} {f : Value → Prop} : rz_fv (re_fs a I) 11 f = f (.ref (a + 11)) := rfl
theorem re_i11 {G : rz_G} {a : Nat} {I : Nat → Int32} {A : Nat → Nat → Int32} {f : Nat → Nat → (Nat → Int32) → Prop} : rz_ia (re_put G a I A) (a + 11) f = f 0 18 (A 11) := rh_ia (re_at (o := 11) (by decide))
theorem re_a11 {G : rz_G} {a : Nat} {I : Nat → Int32} {A : Nat → Nat → Int32} {g : Nat → Int32} : rz_up (re_put G a I A) (a + 11) (.inl (0, 18, .inl g)) = re_put G a I (va_up A 11 g) := re_an 10 rfl (by decide)
theorem re_F12 {a : Nat} {I : Nat → Int32} {f : Value → Prop} : rz_fv (re_fs a I) 12 f = f (.int (I 12)) := rfl
theorem re_u12 {G : rz_G} {a : Nat} {I : Nat → Int32} {A : Nat → Nat → Int32} {v : Int32} : rz_up (re_put G a I A) a (.inr (10, (re_fs a I).set 12 (.int v))) = re_put G a (upd I 12 v) A := re_upc (k := 0) (by decide) rfl (fun o ho hne => re_cI o hne)
theorem re_F13 {a : Nat} {I : Nat → Int32} {f : Value → Prop} : rz_fv (re_fs a I) 13 f = f (.ref (a + 12)) := rfl
theorem re_i13 {G : rz_G} {a : Nat} {I : Nat → Int32} {A : Nat → Nat → Int32} {f : Nat → Nat → (Nat → Int32) → Prop} : rz_ia (re_put G a I A) (a + 12) f = f 0 4096 (A 13) := rh_ia (re_at (o := 12) (by decide))
theorem re_a13 {G : rz_G} {a : Nat} {I : Nat → Int32} {A : Nat → Nat → Int32} {g : Nat → Int32} : rz_up (re_put G a I A) (a + 12) (.inl (0, 4096, .inl g)) = re_put G a I (va_up A 13 g) := re_an 11 rfl (by decide)
theorem re_F14 {a : Nat} {I : Nat → Int32} {f : Value → Prop} : rz_fv (re_fs a I) 14 f = f (.ref (a + 13)) := rfl
theorem re_i14 {G : rz_G} {a : Nat} {I : Nat → Int32} {A : Nat → Nat → Int32} {f : Nat → Nat → (Nat → Int32) → Prop} : rz_ia (re_put G a I A) (a + 13) f = f 3 12 (A 14) := rh_ia (re_at (o := 13) (by decide))
theorem re_a14 {G : rz_G} {a : Nat} {I : Nat → Int32} {A : Nat → Nat → Int32} {g : Nat → Int32} : rz_up (re_put G a I A) (a + 13) (.inl (3, 12, .inl g)) = re_put G a I (va_up A 14 g) := re_an 12 rfl (by decide)
theorem re_F15 {a : Nat} {I : Nat → Int32} {f : Value → Prop} : rz_fv (re_fs a I) 15 f = f (.ref (a + 14)) := rfl
theorem re_i15 {G : rz_G} {a : Nat} {I : Nat → Int32} {A : Nat → Nat → Int32} {f : Nat → Nat → (Nat → Int32) → Prop} : rz_ia (re_put G a I A) (a + 14) f = f 0 2 (A 15) := rh_ia (re_at (o := 14) (by decide))
theorem re_a15 {G : rz_G} {a : Nat} {I : Nat → Int32} {A : Nat → Nat → Int32} {g : Nat → Int32} : rz_up (re_put G a I A) (a + 14) (.inl (0, 2, .inl g)) = re_put G a I (va_up A 15 g) := re_an 13 rfl (by decide)
theorem re_F16 {a : Nat} {I : Nat → Int32} {f : Value → Prop} : rz_fv (re_fs a I) 16 f = f (.ref (a + 15)) := rfl
theorem re_i16 {G : rz_G} {a : Nat} {I : Nat → Int32} {A : Nat → Nat → Int32} {f : Nat → Nat → (Nat → Int32) → Prop} : rz_ia (re_put G a I A) (a + 15) f = f 0 48 (A 16) := rh_ia (re_at (o := 15) (by decide))
theorem re_a16 {G : rz_G} {a : Nat} {I : Nat → Int32} {A : Nat → Nat → Int32} {g : Nat → Int32} : rz_up (re_put G a I A) (a + 15) (.inl (0, 48, .inl g)) = re_put G a I (va_up A 16 g) := re_an 14 rfl (by decide)
theorem re_F17 {a : Nat} {I : Nat → Int32} {f : Value → Prop} : rz_fv (re_fs a I) 17 f = f (.ref (a + 16)) := rfl
theorem re_i17 {G : rz_G} {a : Nat} {I : Nat → Int32} {A : Nat → Nat → Int32} {f : Nat → Nat → (Nat → Int32) → Prop} : rz_ia (re_put G a I A) (a + 16) f = f 0 48 (A 17) := rh_ia (re_at (o := 16) (by decide))
theorem re_a17 {G : rz_G} {a : Nat} {I : Nat → Int32} {A : Nat → Nat → Int32} {g : Nat → Int32} : rz_up (re_put G a I A) (a + 16) (.inl (0, 48, .inl g)) = re_put G a I (va_up A 17 g) := re_an 15 rfl (by decide)
theorem re_F18 {a : Nat} {I : Nat → Int32} {f : Value → Prop} : rz_fv (re_fs a I) 18 f = f (.ref (a + 17)) := rfl
theorem re_i18 {G : rz_G} {a : Nat} {I : Nat → Int32} {A : Nat → Nat → Int32} {f : Nat → Nat → (Nat → Int32) → Prop} : rz_ia (re_put G a I A) (a + 17) f = f 0 48 (A 18) := rh_ia (re_at (o := 17) (by decide))
theorem re_a18 {G : rz_G} {a : Nat} {I : Nat → Int32} {A : Nat → Nat → Int32} {g : Nat → Int32} : rz_up (re_put G a I A) (a + 17) (.inl (0, 48, .inl g)) = re_put G a I (va_up A 18 g) := re_an 16 rfl (by decide)
theorem re_F19 {a : Nat} {I : Nat → Int32} {f : Value → Prop} : rz_fv (re_fs a I) 19 f = f (.ref (a + 18)) := rfl
theorem re_i19 {G : rz_G} {a : Nat} {I : Nat → Int32} {A : Nat → Nat → Int32} {f : Nat → Nat → (Nat → Int32) → Prop} : rz_ia (re_put G a I A) (a + 18) f = f 0 48 (A 19) := rh_ia (re_at (o := 18) (by decide))
theorem re_a19 {G : rz_G} {a : Nat} {I : Nat → Int32} {A : Nat → Nat → Int32} {g : Nat → Int32} : rz_up (re_put G a I A) (a + 18) (.inl (0, 48, .inl g)) = re_put G a I (va_up A 19 g) := re_an 17 rfl (by decide)
theorem re_F20 {a : Nat} {I : Nat → Int32} {f : Value → Prop} : rz_fv (re_fs a I) 20 f = f (.ref (a + 19)) := rfl
theorem re_i20 {G : rz_G} {a : Nat} {I : Nat → Int32} {A : Nat → Nat → Int32} {f : Nat → Nat → (Nat → Int32) → Prop} : rz_ia (re_put G a I A) (a + 19) f = f 0 1536 (A 20) := rh_ia (re_at (o := 19) (by decide))
theorem re_a20 {G : rz_G} {a : Nat} {I : Nat → Int32} {A : Nat → Nat → Int32} {g : Nat → Int32} : rz_up (re_put G a I A) (a + 19) (.inl (0, 1536, .inl g)) = re_put G a I (va_up A 20 g) := re_an 18 rfl (by decide)
theorem re_F21 {a : Nat} {I : Nat → Int32} {f : Value → Prop} : rz_fv (re_fs a I) 21 f = f (.ref (a + 20)) := rfl
theorem re_i21 {G : rz_G} {a : Nat} {I : Nat → Int32} {A : Nat → Nat → Int32} {f : Nat → Nat → (Nat → Int32) → Prop} : rz_ia (re_put G a I A) (a + 20) f = f 0 12 (A 21) := rh_ia (re_at (o := 20) (by decide))
theorem re_a21 {G : rz_G} {a : Nat} {I : Nat → Int32} {A : Nat → Nat → Int32} {g : Nat → Int32} : rz_up (re_put G a I A) (a + 20) (.inl (0, 12, .inl g)) = re_put G a I (va_up A 21 g) := re_an 19 rfl (by decide)
theorem re_F22 {a : Nat} {I : Nat → Int32} {f : Value → Prop} : rz_fv (re_fs a I) 22 f = f (.ref (a + 21)) := rfl
theorem re_i22 {G : rz_G} {a : Nat} {I : Nat → Int32} {A : Nat → Nat → Int32} {f : Nat → Nat → (Nat → Int32) → Prop} : rz_ia (re_put G a I A) (a + 21) f = f 0 384 (A 22) := rh_ia (re_at (o := 21) (by decide))
theorem re_a22 {G : rz_G} {a : Nat} {I : Nat → Int32} {A : Nat → Nat → Int32} {g : Nat → Int32} : rz_up (re_put G a I A) (a + 21) (.inl (0, 384, .inl g)) = re_put G a I (va_up A 22 g) := re_an 20 rfl (by decide)
theorem re_F23 {a : Nat} {I : Nat → Int32} {f : Value → Prop} : rz_fv (re_fs a I) 23 f = f (.ref (a + 22)) := rfl
theorem re_i23 {G : rz_G} {a : Nat} {I : Nat → Int32} {A : Nat → Nat → Int32} {f : Nat → Nat → (Nat → Int32) → Prop} : rz_ia (re_put G a I A) (a + 22) f = f 0 2 (A 23) := rh_ia (re_at (o := 22) (by decide))
theorem re_a23 {G : rz_G} {a : Nat} {I : Nat → Int32} {A : Nat → Nat → Int32} {g : Nat → Int32} : rz_up (re_put G a I A) (a + 22) (.inl (0, 2, .inl g)) = re_put G a I (va_up A 23 g) := re_an 21 rfl (by decide)
theorem re_F24 {a : Nat} {I : Nat → Int32} {f : Value → Prop} : rz_fv (re_fs a I) 24 f = f (.ref (a + 23)) := rfl
theorem re_i24 {G : rz_G} {a : Nat} {I : Nat → Int32} {A : Nat → Nat → Int32} {f : Nat → Nat → (Nat → Int32) → Prop} : rz_ia (re_put G a I A) (a + 23) f = f 0 64 (A 24) := rh_ia (re_at (o := 23) (by decide))
theorem re_a24 {G : rz_G} {a : Nat} {I : Nat → Int32} {A : Nat → Nat → Int32} {g : Nat → Int32} : rz_up (re_put G a I A) (a + 23) (.inl (0, 64, .inl g)) = re_put G a I (va_up A 24 g) := re_an 22 rfl (by decide)
theorem re_F25 {a : Nat} {I : Nat → Int32} {f : Value → Prop} : rz_fv (re_fs a I) 25 f = f (.ref (a + 24)) := rfl
theorem re_i25 {G : rz_G} {a : Nat} {I : Nat → Int32} {A : Nat → Nat → Int32} {f : Nat → Nat → (Nat → Int32) → Prop} : rz_ia (re_put G a I A) (a + 24) f = f 3 36 (A 25) := rh_ia (re_at (o := 24) (by decide))
theorem re_a25 {G : rz_G} {a : Nat} {I : Nat → Int32} {A : Nat → Nat → Int32} {g : Nat → Int32} : rz_up (re_put G a I A) (a + 24) (.inl (3, 36, .inl g)) = re_put G a I (va_up A 25 g) := re_an 23 rfl (by decide)
theorem re_F26 {a : Nat} {I : Nat → Int32} {f : Value → Prop} : rz_fv (re_fs a I) 26 f = f (.int (I 26)) := rfl
theorem re_u26 {G : rz_G} {a : Nat} {I : Nat → Int32} {A : Nat → Nat → Int32} {v : Int32} : rz_up (re_put G a I A) a (.inr (10, (re_fs a I).set 26 (.int v))) = re_put G a (upd I 26 v) A := re_upc (k := 0) (by decide) rfl (fun o ho hne => re_cI o hne)
theorem re_F27 {a : Nat} {I : Nat → Int32} {f : Value → Prop} : rz_fv (re_fs a I) 27 f = f (.int (I 27)) := rfl
theorem re_u27 {G : rz_G} {a : Nat} {I : Nat → Int32} {A : Nat → Nat → Int32} {v : Int32} : rz_up (re_put G a I A) a (.inr (10, (re_fs a I).set 27 (.int v))) = re_put G a (upd I 27 v) A := re_upc (k := 0) (by decide) rfl (fun o ho hne => re_cI o hne)
theorem re_F28 {a : Nat} {I : Nat → Int32} {f : Value → Prop} : rz_fv (re_fs a I) 28 f = f (.ref (a + 25)) := rfl
theorem re_i28 {G : rz_G} {a : Nat} {I : Nat → Int32} {A : Nat → Nat → Int32} {f : Nat → Nat → (Nat → Int32) → Prop} : rz_ia (re_put G a I A) (a + 25) f = f 0 4200 (A 28) := rh_ia (re_at (o := 25) (by decide))
theorem re_a28 {G : rz_G} {a : Nat} {I : Nat → Int32} {A : Nat → Nat → Int32} {g : Nat → Int32} : rz_up (re_put G a I A) (a + 25) (.inl (0, 4200, .inl g)) = re_put G a I (va_up A 28 g) := re_an 24 rfl (by decide)
theorem re_F29 {a : Nat} {I : Nat → Int32} {f : Value → Prop} : rz_fv (re_fs a I) 29 f = f (.ref (a + 26)) := rfl
theorem re_i29 {G : rz_G} {a : Nat} {I : Nat → Int32} {A : Nat → Nat → Int32} {f : Nat → Nat → (Nat → Int32) → Prop} : rz_ia (re_put G a I A) (a + 26) f = f 0 4200 (A 29) := rh_ia (re_at (o := 26) (by decide))
theorem re_a29 {G : rz_G} {a : Nat} {I : Nat → Int32} {A : Nat → Nat → Int32} {g : Nat → Int32} : rz_up (re_put G a I A) (a + 26) (.inl (0, 4200, .inl g)) = re_put G a I (va_up A 29 g) := re_an 25 rfl (by decide)
theorem re_F30 {a : Nat} {I : Nat → Int32} {f : Value → Prop} : rz_fv (re_fs a I) 30 f = f (.int (I 30)) := rfl
theorem re_u30 {G : rz_G} {a : Nat} {I : Nat → Int32} {A : Nat → Nat → Int32} {v : Int32} : rz_up (re_put G a I A) a (.inr (10, (re_fs a I).set 30 (.int v))) = re_put G a (upd I 30 v) A := re_upc (k := 0) (by decide) rfl (fun o ho hne => re_cI o hne)
theorem re_F31 {a : Nat} {I : Nat → Int32} {f : Value → Prop} : rz_fv (re_fs a I) 31 f = f (.ref (a + 27)) := rfl
theorem re_i31 {G : rz_G} {a : Nat} {I : Nat → Int32} {A : Nat → Nat → Int32} {f : Nat → Nat → (Nat → Int32) → Prop} : rz_ia (re_put G a I A) (a + 27) f = f 0 80 (A 31) := rh_ia (re_at (o := 27) (by decide))
theorem re_a31 {G : rz_G} {a : Nat} {I : Nat → Int32} {A : Nat → Nat → Int32} {g : Nat → Int32} : rz_up (re_put G a I A) (a + 27) (.inl (0, 80, .inl g)) = re_put G a I (va_up A 31 g) := re_an 26 rfl (by decide)
theorem re_F32 {a : Nat} {I : Nat → Int32} {f : Value → Prop} : rz_fv (re_fs a I) 32 f = f (.ref (a + 28)) := rfl
theorem re_i32 {G : rz_G} {a : Nat} {I : Nat → Int32} {A : Nat → Nat → Int32} {f : Nat → Nat → (Nat → Int32) → Prop} : rz_ia (re_put G a I A) (a + 28) f = f 0 80 (A 32) := rh_ia (re_at (o := 28) (by decide))
theorem re_a32 {G : rz_G} {a : Nat} {I : Nat → Int32} {A : Nat → Nat → Int32} {g : Nat → Int32} : rz_up (re_put G a I A) (a + 28) (.inl (0, 80, .inl g)) = re_put G a I (va_up A 32 g) := re_an 27 rfl (by decide)
theorem re_F33 {a : Nat} {I : Nat → Int32} {f : Value → Prop} : rz_fv (re_fs a I) 33 f = f (.ref (a + 29)) := rfl
theorem re_i33 {G : rz_G} {a : Nat} {I : Nat → Int32} {A : Nat → Nat → Int32} {f : Nat → Nat → (Nat → Int32) → Prop} : rz_ia (re_put G a I A) (a + 29) f = f 0 80 (A 33) := rh_ia (re_at (o := 29) (by decide))
theorem re_a33 {G : rz_G} {a : Nat} {I : Nat → Int32} {A : Nat → Nat → Int32} {g : Nat → Int32} : rz_up (re_put G a I A) (a + 29) (.inl (0, 80, .inl g)) = re_put G a I (va_up A 33 g) := re_an 28 rfl (by decide)
theorem re_F34 {a : Nat} {I : Nat → Int32} {f : Value → Prop} : rz_fv (re_fs a I) 34 f = f (.ref (a + 30)) := rfl
theorem re_i34 {G : rz_G} {a : Nat} {I : Nat → Int32} {A : Nat → Nat → Int32} {f : Nat → Nat → (Nat → Int32) → Prop} : rz_ia (re_put G a I A) (a + 30) f = f 0 80 (A 34) := rh_ia (re_at (o := 30) (by decide))
theorem re_a34 {G : rz_G} {a : Nat} {I : Nat → Int32} {A : Nat → Nat → Int32} {g : Nat → Int32} : rz_up (re_put G a I A) (a + 30) (.inl (0, 80, .inl g)) = re_put G a I (va_up A 34 g) := re_an 29 rfl (by decide)
theorem re_F35 {a : Nat} {I : Nat → Int32} {f : Value → Prop} : rz_fv (re_fs a I) 35 f = f (.ref (a + 31)) := rfl
theorem re_i35 {G : rz_G} {a : Nat} {I : Nat → Int32} {A : Nat → Nat → Int32} {f : Nat → Nat → (Nat → Int32) → Prop} : rz_ia (re_put G a I A) (a + 31) f = f 0 168000 (A 35) := rh_ia (re_at (o := 31) (by decide))
theorem re_a35 {G : rz_G} {a : Nat} {I : Nat → Int32} {A : Nat → Nat → Int32} {g : Nat → Int32} : rz_up (re_put G a I A) (a + 31) (.inl (0, 168000, .inl g)) = re_put G a I (va_up A 35 g) := re_an 30 rfl (by decide)
theorem re_F36 {a : Nat} {I : Nat → Int32} {f : Value → Prop} : rz_fv (re_fs a I) 36 f = f (.ref (a + 32)) := rfl
theorem re_i36 {G : rz_G} {a : Nat} {I : Nat → Int32} {A : Nat → Nat → Int32} {f : Nat → Nat → (Nat → Int32) → Prop} : rz_ia (re_put G a I A) (a + 32) f = f 0 80 (A 36) := rh_ia (re_at (o := 32) (by decide))
theorem re_a36 {G : rz_G} {a : Nat} {I : Nat → Int32} {A : Nat → Nat → Int32} {g : Nat → Int32} : rz_up (re_put G a I A) (a + 32) (.inl (0, 80, .inl g)) = re_put G a I (va_up A 36 g) := re_an 31 rfl (by decide)
theorem re_F37 {a : Nat} {I : Nat → Int32} {f : Value → Prop} : rz_fv (re_fs a I) 37 f = f (.ref (a + 33)) := rfl
theorem re_i37 {G : rz_G} {a : Nat} {I : Nat → Int32} {A : Nat → Nat → Int32} {f : Nat → Nat → (Nat → Int32) → Prop} : rz_ia (re_put G a I A) (a + 33) f = f 0 36 (A 37) := rh_ia (re_at (o := 33) (by decide))
theorem re_a37 {G : rz_G} {a : Nat} {I : Nat → Int32} {A : Nat → Nat → Int32} {g : Nat → Int32} : rz_up (re_put G a I A) (a + 33) (.inl (0, 36, .inl g)) = re_put G a I (va_up A 37 g) := re_an 32 rfl (by decide)
theorem re_F38 {a : Nat} {I : Nat → Int32} {f : Value → Prop} : rz_fv (re_fs a I) 38 f = f (.int (I 38)) := rfl
theorem re_u38 {G : rz_G} {a : Nat} {I : Nat → Int32} {A : Nat → Nat → Int32} {v : Int32} : rz_up (re_put G a I A) a (.inr (10, (re_fs a I).set 38 (.int v))) = re_put G a (upd I 38 v) A := re_upc (k := 0) (by decide) rfl (fun o ho hne => re_cI o hne)
theorem re_F39 {a : Nat} {I : Nat → Int32} {f : Value → Prop} : rz_fv (re_fs a I) 39 f = f (.ref (a + 34)) := rfl
theorem re_i39 {G : rz_G} {a : Nat} {I : Nat → Int32} {A : Nat → Nat → Int32} {f : Nat → Nat → (Nat → Int32) → Prop} : rz_ia (re_put G a I A) (a + 34) f = f 0 4100 (A 39) := rh_ia (re_at (o := 34) (by decide))
theorem re_a39 {G : rz_G} {a : Nat} {I : Nat → Int32} {A : Nat → Nat → Int32} {g : Nat → Int32} : rz_up (re_put G a I A) (a + 34) (.inl (0, 4100, .inl g)) = re_put G a I (va_up A 39 g) := re_an 33 rfl (by decide)
theorem re_F40 {a : Nat} {I : Nat → Int32} {f : Value → Prop} : rz_fv (re_fs a I) 40 f = f (.ref (a + 35)) := rfl
theorem re_i40 {G : rz_G} {a : Nat} {I : Nat → Int32} {A : Nat → Nat → Int32} {f : Nat → Nat → (Nat → Int32) → Prop} : rz_ia (re_put G a I A) (a + 35) f = f 0 4100 (A 40) := rh_ia (re_at (o := 35) (by decide))
theorem re_a40 {G : rz_G} {a : Nat} {I : Nat → Int32} {A : Nat → Nat → Int32} {g : Nat → Int32} : rz_up (re_put G a I A) (a + 35) (.inl (0, 4100, .inl g)) = re_put G a I (va_up A 40 g) := re_an 34 rfl (by decide)
theorem re_F41 {a : Nat} {I : Nat → Int32} {f : Value → Prop} : rz_fv (re_fs a I) 41 f = f (.int (I 41)) := rfl
theorem re_u41 {G : rz_G} {a : Nat} {I : Nat → Int32} {A : Nat → Nat → Int32} {v : Int32} : rz_up (re_put G a I A) a (.inr (10, (re_fs a I).set 41 (.int v))) = re_put G a (upd I 41 v) A := re_upc (k := 0) (by decide) rfl (fun o ho hne => re_cI o hne)
theorem re_F42 {a : Nat} {I : Nat → Int32} {f : Value → Prop} : rz_fv (re_fs a I) 42 f = f (.int (I 42)) := rfl
theorem re_u42 {G : rz_G} {a : Nat} {I : Nat → Int32} {A : Nat → Nat → Int32} {v : Int32} : rz_up (re_put G a I A) a (.inr (10, (re_fs a I).set 42 (.int v))) = re_put G a (upd I 42 v) A := re_upc (k := 0) (by decide) rfl (fun o ho hne => re_cI o hne)
theorem re_F43 {a : Nat} {I : Nat → Int32} {f : Value → Prop} : rz_fv (re_fs a I) 43 f = f (.ref (a + 36)) := rfl
theorem re_i43 {G : rz_G} {a : Nat} {I : Nat → Int32} {A : Nat → Nat → Int32} {f : Nat → Nat → (Nat → Int32) → Prop} : rz_ia (re_put G a I A) (a + 36) f = f 0 4100 (A 43) := rh_ia (re_at (o := 36) (by decide))
theorem re_a43 {G : rz_G} {a : Nat} {I : Nat → Int32} {A : Nat → Nat → Int32} {g : Nat → Int32} : rz_up (re_put G a I A) (a + 36) (.inl (0, 4100, .inl g)) = re_put G a I (va_up A 43 g) := re_an 35 rfl (by decide)
theorem re_F44 {a : Nat} {I : Nat → Int32} {f : Value → Prop} : rz_fv (re_fs a I) 44 f = f (.ref (a + 37)) := rfl
theorem re_i44 {G : rz_G} {a : Nat} {I : Nat → Int32} {A : Nat → Nat → Int32} {f : Nat → Nat → (Nat → Int32) → Prop} : rz_ia (re_put G a I A) (a + 37) f = f 0 4100 (A 44) := rh_ia (re_at (o := 37) (by decide))
theorem re_a44 {G : rz_G} {a : Nat} {I : Nat → Int32} {A : Nat → Nat → Int32} {g : Nat → Int32} : rz_up (re_put G a I A) (a + 37) (.inl (0, 4100, .inl g)) = re_put G a I (va_up A 44 g) := re_an 36 rfl (by decide)
theorem re_F45 {a : Nat} {I : Nat → Int32} {f : Value → Prop} : rz_fv (re_fs a I) 45 f = f (.ref (a + 38)) := rfl
theorem re_i45 {G : rz_G} {a : Nat} {I : Nat → Int32} {A : Nat → Nat → Int32} {f : Nat → Nat → (Nat → Int32) → Prop} : rz_ia (re_put G a I A) (a + 38) f = f 3 4096 (A 45) := rh_ia (re_at (o := 38) (by decide))
theorem re_a45 {G : rz_G} {a : Nat} {I : Nat → Int32} {A : Nat → Nat → Int32} {g : Nat → Int32} : rz_up (re_put G a I A) (a + 38) (.inl (3, 4096, .inl g)) = re_put G a I (va_up A 45 g) := re_an 37 rfl (by decide)
theorem re_F46 {a : Nat} {I : Nat → Int32} {f : Value → Prop} : rz_fv (re_fs a I) 46 f = f (.int (I 46)) := rfl
theorem re_u46 {G : rz_G} {a : Nat} {I : Nat → Int32} {A : Nat → Nat → Int32} {v : Int32} : rz_up (re_put G a I A) a (.inr (10, (re_fs a I).set 46 (.int v))) = re_put G a (upd I 46 v) A := re_upc (k := 0) (by decide) rfl (fun o ho hne => re_cI o hne)
theorem re_F47 {a : Nat} {I : Nat → Int32} {f : Value → Prop} : rz_fv (re_fs a I) 47 f = f (.int (I 47)) := rfl
theorem re_u47 {G : rz_G} {a : Nat} {I : Nat → Int32} {A : Nat → Nat → Int32} {v : Int32} : rz_up (re_put G a I A) a (.inr (10, (re_fs a I).set 47 (.int v))) = re_put G a (upd I 47 v) A := re_upc (k := 0) (by decide) rfl (fun o ho hne => re_cI o hne)
theorem re_F48 {a : Nat} {I : Nat → Int32} {f : Value → Prop} : rz_fv (re_fs a I) 48 f = f (.ref (a + 39)) := rfl
theorem re_i48 {G : rz_G} {a : Nat} {I : Nat → Int32} {A : Nat → Nat → Int32} {f : Nat → Nat → (Nat → Int32) → Prop} : rz_ia (re_put G a I A) (a + 39) f = f 0 4100 (A 48) := rh_ia (re_at (o := 39) (by decide))
theorem re_a48 {G : rz_G} {a : Nat} {I : Nat → Int32} {A : Nat → Nat → Int32} {g : Nat → Int32} : rz_up (re_put G a I A) (a + 39) (.inl (0, 4100, .inl g)) = re_put G a I (va_up A 48 g) := re_an 38 rfl (by decide)
theorem re_F49 {a : Nat} {I : Nat → Int32} {f : Value → Prop} : rz_fv (re_fs a I) 49 f = f (.ref (a + 40)) := rfl
theorem re_i49 {G : rz_G} {a : Nat} {I : Nat → Int32} {A : Nat → Nat → Int32} {f : Nat → Nat → (Nat → Int32) → Prop} : rz_ia (re_put G a I A) (a + 40) f = f 0 4100 (A 49) := rh_ia (re_at (o := 40) (by decide))
theorem re_a49 {G : rz_G} {a : Nat} {I : Nat → Int32} {A : Nat → Nat → Int32} {g : Nat → Int32} : rz_up (re_put G a I A) (a + 40) (.inl (0, 4100, .inl g)) = re_put G a I (va_up A 49 g) := re_an 39 rfl (by decide)
theorem re_F50 {a : Nat} {I : Nat → Int32} {f : Value → Prop} : rz_fv (re_fs a I) 50 f = f (.int (I 50)) := rfl
theorem re_u50 {G : rz_G} {a : Nat} {I : Nat → Int32} {A : Nat → Nat → Int32} {v : Int32} : rz_up (re_put G a I A) a (.inr (10, (re_fs a I).set 50 (.int v))) = re_put G a (upd I 50 v) A := re_upc (k := 0) (by decide) rfl (fun o ho hne => re_cI o hne)
theorem re_F51 {a : Nat} {I : Nat → Int32} {f : Value → Prop} : rz_fv (re_fs a I) 51 f = f (.int (I 51)) := rfl
theorem re_u51 {G : rz_G} {a : Nat} {I : Nat → Int32} {A : Nat → Nat → Int32} {v : Int32} : rz_up (re_put G a I A) a (.inr (10, (re_fs a I).set 51 (.int v))) = re_put G a (upd I 51 v) A := re_upc (k := 0) (by decide) rfl (fun o ho hne => re_cI o hne)
theorem re_F52 {a : Nat} {I : Nat → Int32} {f : Value → Prop} : rz_fv (re_fs a I) 52 f = f (.ref (a + 41)) := rfl
theorem re_i52 {G : rz_G} {a : Nat} {I : Nat → Int32} {A : Nat → Nat → Int32} {f : Nat → Nat → (Nat → Int32) → Prop} : rz_ia (re_put G a I A) (a + 41) f = f 0 210 (A 52) := rh_ia (re_at (o := 41) (by decide))
theorem re_a52 {G : rz_G} {a : Nat} {I : Nat → Int32} {A : Nat → Nat → Int32} {g : Nat → Int32} : rz_up (re_put G a I A) (a + 41) (.inl (0, 210, .inl g)) = re_put G a I (va_up A 52 g) := re_an 40 rfl (by decide)
theorem re_F53 {a : Nat} {I : Nat → Int32} {f : Value → Prop} : rz_fv (re_fs a I) 53 f = f (.ref (a + 42)) := rfl
theorem re_i53 {G : rz_G} {a : Nat} {I : Nat → Int32} {A : Nat → Nat → Int32} {f : Nat → Nat → (Nat → Int32) → Prop} : rz_ia (re_put G a I A) (a + 42) f = f 0 210 (A 53) := rh_ia (re_at (o := 42) (by decide))
theorem re_a53 {G : rz_G} {a : Nat} {I : Nat → Int32} {A : Nat → Nat → Int32} {g : Nat → Int32} : rz_up (re_put G a I A) (a + 42) (.inl (0, 210, .inl g)) = re_put G a I (va_up A 53 g) := re_an 41 rfl (by decide)
theorem re_F54 {a : Nat} {I : Nat → Int32} {f : Value → Prop} : rz_fv (re_fs a I) 54 f = f (.ref (a + 43)) := rfl
theorem re_i54 {G : rz_G} {a : Nat} {I : Nat → Int32} {A : Nat → Nat → Int32} {f : Nat → Nat → (Nat → Int32) → Prop} : rz_ia (re_put G a I A) (a + 43) f = f 0 8400 (A 54) := rh_ia (re_at (o := 43) (by decide))
theorem re_a54 {G : rz_G} {a : Nat} {I : Nat → Int32} {A : Nat → Nat → Int32} {g : Nat → Int32} : rz_up (re_put G a I A) (a + 43) (.inl (0, 8400, .inl g)) = re_put G a I (va_up A 54 g) := re_an 42 rfl (by decide)
theorem re_F55 {a : Nat} {I : Nat → Int32} {f : Value → Prop} : rz_fv (re_fs a I) 55 f = f (.ref (a + 44)) := rfl
theorem re_i55 {G : rz_G} {a : Nat} {I : Nat → Int32} {A : Nat → Nat → Int32} {f : Nat → Nat → (Nat → Int32) → Prop} : rz_ia (re_put G a I A) (a + 44) f = f 0 210 (A 55) := rh_ia (re_at (o := 44) (by decide))
theorem re_a55 {G : rz_G} {a : Nat} {I : Nat → Int32} {A : Nat → Nat → Int32} {g : Nat → Int32} : rz_up (re_put G a I A) (a + 44) (.inl (0, 210, .inl g)) = re_put G a I (va_up A 55 g) := re_an 43 rfl (by decide)
theorem re_F56 {a : Nat} {I : Nat → Int32} {f : Value → Prop} : rz_fv (re_fs a I) 56 f = f (.ref (a + 45)) := rfl
theorem re_i56 {G : rz_G} {a : Nat} {I : Nat → Int32} {A : Nat → Nat → Int32} {f : Nat → Nat → (Nat → Int32) → Prop} : rz_ia (re_put G a I A) (a + 45) f = f 0 210 (A 56) := rh_ia (re_at (o := 45) (by decide))
theorem re_a56 {G : rz_G} {a : Nat} {I : Nat → Int32} {A : Nat → Nat → Int32} {g : Nat → Int32} : rz_up (re_put G a I A) (a + 45) (.inl (0, 210, .inl g)) = re_put G a I (va_up A 56 g) := re_an 44 rfl (by decide)
theorem re_F57 {a : Nat} {I : Nat → Int32} {f : Value → Prop} : rz_fv (re_fs a I) 57 f = f (.ref (a + 46)) := rfl
theorem re_i57 {G : rz_G} {a : Nat} {I : Nat → Int32} {A : Nat → Nat → Int32} {f : Nat → Nat → (Nat → Int32) → Prop} : rz_ia (re_put G a I A) (a + 46) f = f 0 8400 (A 57) := rh_ia (re_at (o := 46) (by decide))
theorem re_a57 {G : rz_G} {a : Nat} {I : Nat → Int32} {A : Nat → Nat → Int32} {g : Nat → Int32} : rz_up (re_put G a I A) (a + 46) (.inl (0, 8400, .inl g)) = re_put G a I (va_up A 57 g) := re_an 45 rfl (by decide)
theorem re_F58 {a : Nat} {I : Nat → Int32} {f : Value → Prop} : rz_fv (re_fs a I) 58 f = f (.int (I 58)) := rfl
theorem re_u58 {G : rz_G} {a : Nat} {I : Nat → Int32} {A : Nat → Nat → Int32} {v : Int32} : rz_up (re_put G a I A) a (.inr (10, (re_fs a I).set 58 (.int v))) = re_put G a (upd I 58 v) A := re_upc (k := 0) (by decide) rfl (fun o ho hne => re_cI o hne)
theorem re_F59 {a : Nat} {I : Nat → Int32} {f : Value → Prop} : rz_fv (re_fs a I) 59 f = f (.ref (a + 47)) := rfl
theorem re_i59 {G : rz_G} {a : Nat} {I : Nat → Int32} {A : Nat → Nat → Int32} {f : Nat → Nat → (Nat → Int32) → Prop} : rz_ia (re_put G a I A) (a + 47) f = f 0 3010 (A 59) := rh_ia (re_at (o := 47) (by decide))
theorem re_a59 {G : rz_G} {a : Nat} {I : Nat → Int32} {A : Nat → Nat → Int32} {g : Nat → Int32} : rz_up (re_put G a I A) (a + 47) (.inl (0, 3010, .inl g)) = re_put G a I (va_up A 59 g) := re_an 46 rfl (by decide)
theorem re_F60 {a : Nat} {I : Nat → Int32} {f : Value → Prop} : rz_fv (re_fs a I) 60 f = f (.ref (a + 48)) := rfl
theorem re_i60 {G : rz_G} {a : Nat} {I : Nat → Int32} {A : Nat → Nat → Int32} {f : Nat → Nat → (Nat → Int32) → Prop} : rz_ia (re_put G a I A) (a + 48) f = f 0 3010 (A 60) := rh_ia (re_at (o := 48) (by decide))
theorem re_a60 {G : rz_G} {a : Nat} {I : Nat → Int32} {A : Nat → Nat → Int32} {g : Nat → Int32} : rz_up (re_put G a I A) (a + 48) (.inl (0, 3010, .inl g)) = re_put G a I (va_up A 60 g) := re_an 47 rfl (by decide)
theorem re_F61 {a : Nat} {I : Nat → Int32} {f : Value → Prop} : rz_fv (re_fs a I) 61 f = f (.ref (a + 49)) := rfl
theorem re_i61 {G : rz_G} {a : Nat} {I : Nat → Int32} {A : Nat → Nat → Int32} {f : Nat → Nat → (Nat → Int32) → Prop} : rz_ia (re_put G a I A) (a + 49) f = f 0 722400 (A 61) := rh_ia (re_at (o := 49) (by decide))
theorem re_a61 {G : rz_G} {a : Nat} {I : Nat → Int32} {A : Nat → Nat → Int32} {g : Nat → Int32} : rz_up (re_put G a I A) (a + 49) (.inl (0, 722400, .inl g)) = re_put G a I (va_up A 61 g) := re_an 48 rfl (by decide)
theorem re_F62 {a : Nat} {I : Nat → Int32} {f : Value → Prop} : rz_fv (re_fs a I) 62 f = f (.ref (a + 50)) := rfl
theorem re_i62 {G : rz_G} {a : Nat} {I : Nat → Int32} {A : Nat → Nat → Int32} {f : Nat → Nat → (Nat → Int32) → Prop} : rz_ia (re_put G a I A) (a + 50) f = f 0 3010 (A 62) := rh_ia (re_at (o := 50) (by decide))
theorem re_a62 {G : rz_G} {a : Nat} {I : Nat → Int32} {A : Nat → Nat → Int32} {g : Nat → Int32} : rz_up (re_put G a I A) (a + 50) (.inl (0, 3010, .inl g)) = re_put G a I (va_up A 62 g) := re_an 49 rfl (by decide)
theorem re_F63 {a : Nat} {I : Nat → Int32} {f : Value → Prop} : rz_fv (re_fs a I) 63 f = f (.ref (a + 51)) := rfl
theorem re_i63 {G : rz_G} {a : Nat} {I : Nat → Int32} {A : Nat → Nat → Int32} {f : Nat → Nat → (Nat → Int32) → Prop} : rz_ia (re_put G a I A) (a + 51) f = f 0 4096 (A 63) := rh_ia (re_at (o := 51) (by decide))
theorem re_a63 {G : rz_G} {a : Nat} {I : Nat → Int32} {A : Nat → Nat → Int32} {g : Nat → Int32} : rz_up (re_put G a I A) (a + 51) (.inl (0, 4096, .inl g)) = re_put G a I (va_up A 63 g) := re_an 50 rfl (by decide)
theorem re_F64 {a : Nat} {I : Nat → Int32} {f : Value → Prop} : rz_fv (re_fs a I) 64 f = f (.int (I 64)) := rfl
theorem re_u64 {G : rz_G} {a : Nat} {I : Nat → Int32} {A : Nat → Nat → Int32} {v : Int32} : rz_up (re_put G a I A) a (.inr (10, (re_fs a I).set 64 (.int v))) = re_put G a (upd I 64 v) A := re_upc (k := 0) (by decide) rfl (fun o ho hne => re_cI o hne)
theorem re_F65 {a : Nat} {I : Nat → Int32} {f : Value → Prop} : rz_fv (re_fs a I) 65 f = f (.ref (a + 52)) := rfl
theorem re_i65 {G : rz_G} {a : Nat} {I : Nat → Int32} {A : Nat → Nat → Int32} {f : Nat → Nat → (Nat → Int32) → Prop} : rz_ia (re_put G a I A) (a + 52) f = f 0 6 (A 65) := rh_ia (re_at (o := 52) (by decide))
theorem re_a65 {G : rz_G} {a : Nat} {I : Nat → Int32} {A : Nat → Nat → Int32} {g : Nat → Int32} : rz_up (re_put G a I A) (a + 52) (.inl (0, 6, .inl g)) = re_put G a I (va_up A 65 g) := re_an 51 rfl (by decide)
theorem re_F66 {a : Nat} {I : Nat → Int32} {f : Value → Prop} : rz_fv (re_fs a I) 66 f = f (.ref (a + 53)) := rfl
theorem re_i66 {G : rz_G} {a : Nat} {I : Nat → Int32} {A : Nat → Nat → Int32} {f : Nat → Nat → (Nat → Int32) → Prop} : rz_ia (re_put G a I A) (a + 53) f = f 0 192 (A 66) := rh_ia (re_at (o := 53) (by decide))
theorem re_a66 {G : rz_G} {a : Nat} {I : Nat → Int32} {A : Nat → Nat → Int32} {g : Nat → Int32} : rz_up (re_put G a I A) (a + 53) (.inl (0, 192, .inl g)) = re_put G a I (va_up A 66 g) := re_an 52 rfl (by decide)
theorem re_F67 {a : Nat} {I : Nat → Int32} {f : Value → Prop} : rz_fv (re_fs a I) 67 f = f (.int (I 67)) := rfl
theorem re_u67 {G : rz_G} {a : Nat} {I : Nat → Int32} {A : Nat → Nat → Int32} {v : Int32} : rz_up (re_put G a I A) a (.inr (10, (re_fs a I).set 67 (.int v))) = re_put G a (upd I 67 v) A := re_upc (k := 0) (by decide) rfl (fun o ho hne => re_cI o hne)
theorem re_F68 {a : Nat} {I : Nat → Int32} {f : Value → Prop} : rz_fv (re_fs a I) 68 f = f (.int (I 68)) := rfl
theorem re_u68 {G : rz_G} {a : Nat} {I : Nat → Int32} {A : Nat → Nat → Int32} {v : Int32} : rz_up (re_put G a I A) a (.inr (10, (re_fs a I).set 68 (.int v))) = re_put G a (upd I 68 v) A := re_upc (k := 0) (by decide) rfl (fun o ho hne => re_cI o hne)
theorem re_F69 {a : Nat} {I : Nat → Int32} {f : Value → Prop} : rz_fv (re_fs a I) 69 f = f (.int (I 69)) := rfl
theorem re_u69 {G : rz_G} {a : Nat} {I : Nat → Int32} {A : Nat → Nat → Int32} {v : Int32} : rz_up (re_put G a I A) a (.inr (10, (re_fs a I).set 69 (.int v))) = re_put G a (upd I 69 v) A := re_upc (k := 0) (by decide) rfl (fun o ho hne => re_cI o hne)
theorem re_F70 {a : Nat} {I : Nat → Int32} {f : Value → Prop} : rz_fv (re_fs a I) 70 f = f (.ref (a + 54)) := rfl
theorem re_i70 {G : rz_G} {a : Nat} {I : Nat → Int32} {A : Nat → Nat → Int32} {f : Nat → Nat → (Nat → Int32) → Prop} : rz_ia (re_put G a I A) (a + 54) f = f 0 64 (A 70) := rh_ia (re_at (o := 54) (by decide))
theorem re_a70 {G : rz_G} {a : Nat} {I : Nat → Int32} {A : Nat → Nat → Int32} {g : Nat → Int32} : rz_up (re_put G a I A) (a + 54) (.inl (0, 64, .inl g)) = re_put G a I (va_up A 70 g) := re_an 53 rfl (by decide)
theorem re_F71 {a : Nat} {I : Nat → Int32} {f : Value → Prop} : rz_fv (re_fs a I) 71 f = f (.ref (a + 55)) := rfl
theorem re_i71 {G : rz_G} {a : Nat} {I : Nat → Int32} {A : Nat → Nat → Int32} {f : Nat → Nat → (Nat → Int32) → Prop} : rz_ia (re_put G a I A) (a + 55) f = f 0 120 (A 71) := rh_ia (re_at (o := 55) (by decide))
theorem re_a71 {G : rz_G} {a : Nat} {I : Nat → Int32} {A : Nat → Nat → Int32} {g : Nat → Int32} : rz_up (re_put G a I A) (a + 55) (.inl (0, 120, .inl g)) = re_put G a I (va_up A 71 g) := re_an 54 rfl (by decide)
theorem re_F72 {a : Nat} {I : Nat → Int32} {f : Value → Prop} : rz_fv (re_fs a I) 72 f = f (.ref (a + 56)) := rfl
theorem re_i72 {G : rz_G} {a : Nat} {I : Nat → Int32} {A : Nat → Nat → Int32} {f : Nat → Nat → (Nat → Int32) → Prop} : rz_ia (re_put G a I A) (a + 56) f = f 0 120 (A 72) := rh_ia (re_at (o := 56) (by decide))
theorem re_a72 {G : rz_G} {a : Nat} {I : Nat → Int32} {A : Nat → Nat → Int32} {g : Nat → Int32} : rz_up (re_put G a I A) (a + 56) (.inl (0, 120, .inl g)) = re_put G a I (va_up A 72 g) := re_an 55 rfl (by decide)
theorem re_F73 {a : Nat} {I : Nat → Int32} {f : Value → Prop} : rz_fv (re_fs a I) 73 f = f (.ref (a + 57)) := rfl
theorem re_i73 {G : rz_G} {a : Nat} {I : Nat → Int32} {A : Nat → Nat → Int32} {f : Nat → Nat → (Nat → Int32) → Prop} : rz_ia (re_put G a I A) (a + 57) f = f 0 19200 (A 73) := rh_ia (re_at (o := 57) (by decide))
theorem re_a73 {G : rz_G} {a : Nat} {I : Nat → Int32} {A : Nat → Nat → Int32} {g : Nat → Int32} : rz_up (re_put G a I A) (a + 57) (.inl (0, 19200, .inl g)) = re_put G a I (va_up A 73 g) := re_an 56 rfl (by decide)
theorem re_F74 {a : Nat} {I : Nat → Int32} {f : Value → Prop} : rz_fv (re_fs a I) 74 f = f (.ref (a + 58)) := rfl
theorem re_i74 {G : rz_G} {a : Nat} {I : Nat → Int32} {A : Nat → Nat → Int32} {f : Nat → Nat → (Nat → Int32) → Prop} : rz_ia (re_put G a I A) (a + 58) f = f 0 40 (A 74) := rh_ia (re_at (o := 58) (by decide))
theorem re_a74 {G : rz_G} {a : Nat} {I : Nat → Int32} {A : Nat → Nat → Int32} {g : Nat → Int32} : rz_up (re_put G a I A) (a + 58) (.inl (0, 40, .inl g)) = re_put G a I (va_up A 74 g) := re_an 57 rfl (by decide)
theorem re_F75 {a : Nat} {I : Nat → Int32} {f : Value → Prop} : rz_fv (re_fs a I) 75 f = f (.ref (a + 59)) := rfl
theorem re_i75 {G : rz_G} {a : Nat} {I : Nat → Int32} {A : Nat → Nat → Int32} {f : Nat → Nat → (Nat → Int32) → Prop} : rz_ia (re_put G a I A) (a + 59) f = f 0 7680 (A 75) := rh_ia (re_at (o := 59) (by decide))
theorem re_a75 {G : rz_G} {a : Nat} {I : Nat → Int32} {A : Nat → Nat → Int32} {g : Nat → Int32} : rz_up (re_put G a I A) (a + 59) (.inl (0, 7680, .inl g)) = re_put G a I (va_up A 75 g) := re_an 58 rfl (by decide)
theorem re_F76 {a : Nat} {I : Nat → Int32} {f : Value → Prop} : rz_fv (re_fs a I) 76 f = f (.int (I 76)) := rfl
theorem re_u76 {G : rz_G} {a : Nat} {I : Nat → Int32} {A : Nat → Nat → Int32} {v : Int32} : rz_up (re_put G a I A) a (.inr (10, (re_fs a I).set 76 (.int v))) = re_put G a (upd I 76 v) A := re_upc (k := 0) (by decide) rfl (fun o ho hne => re_cI o hne)
theorem re_F77 {a : Nat} {I : Nat → Int32} {f : Value → Prop} : rz_fv (re_fs a I) 77 f = f (.ref (a + 60)) := rfl
theorem re_i77 {G : rz_G} {a : Nat} {I : Nat → Int32} {A : Nat → Nat → Int32} {f : Nat → Nat → (Nat → Int32) → Prop} : rz_ia (re_put G a I A) (a + 60) f = f 0 252 (A 77) := rh_ia (re_at (o := 60) (by decide))
theorem re_a77 {G : rz_G} {a : Nat} {I : Nat → Int32} {A : Nat → Nat → Int32} {g : Nat → Int32} : rz_up (re_put G a I A) (a + 60) (.inl (0, 252, .inl g)) = re_put G a I (va_up A 77 g) := re_an 59 rfl (by decide)
theorem re_F78 {a : Nat} {I : Nat → Int32} {f : Value → Prop} : rz_fv (re_fs a I) 78 f = f (.ref (a + 61)) := rfl
theorem re_i78 {G : rz_G} {a : Nat} {I : Nat → Int32} {A : Nat → Nat → Int32} {f : Nat → Nat → (Nat → Int32) → Prop} : rz_ia (re_put G a I A) (a + 61) f = f 0 40320 (A 78) := rh_ia (re_at (o := 61) (by decide))
theorem re_a78 {G : rz_G} {a : Nat} {I : Nat → Int32} {A : Nat → Nat → Int32} {g : Nat → Int32} : rz_up (re_put G a I A) (a + 61) (.inl (0, 40320, .inl g)) = re_put G a I (va_up A 78 g) := re_an 60 rfl (by decide)
theorem re_F79 {a : Nat} {I : Nat → Int32} {f : Value → Prop} : rz_fv (re_fs a I) 79 f = f (.ref (a + 62)) := rfl
theorem re_i79 {G : rz_G} {a : Nat} {I : Nat → Int32} {A : Nat → Nat → Int32} {f : Nat → Nat → (Nat → Int32) → Prop} : rz_ia (re_put G a I A) (a + 62) f = f 0 126 (A 79) := rh_ia (re_at (o := 62) (by decide))
theorem re_a79 {G : rz_G} {a : Nat} {I : Nat → Int32} {A : Nat → Nat → Int32} {g : Nat → Int32} : rz_up (re_put G a I A) (a + 62) (.inl (0, 126, .inl g)) = re_put G a I (va_up A 79 g) := re_an 61 rfl (by decide)
theorem re_F80 {a : Nat} {I : Nat → Int32} {f : Value → Prop} : rz_fv (re_fs a I) 80 f = f (.ref (a + 63)) := rfl
theorem re_i80 {G : rz_G} {a : Nat} {I : Nat → Int32} {A : Nat → Nat → Int32} {f : Nat → Nat → (Nat → Int32) → Prop} : rz_ia (re_put G a I A) (a + 63) f = f 0 126 (A 80) := rh_ia (re_at (o := 63) (by decide))
theorem re_a80 {G : rz_G} {a : Nat} {I : Nat → Int32} {A : Nat → Nat → Int32} {g : Nat → Int32} : rz_up (re_put G a I A) (a + 63) (.inl (0, 126, .inl g)) = re_put G a I (va_up A 80 g) := re_an 62 rfl (by decide)
theorem re_F81 {a : Nat} {I : Nat → Int32} {f : Value → Prop} : rz_fv (re_fs a I) 81 f = f (.ref (a + 64)) := rfl
theorem re_i81 {G : rz_G} {a : Nat} {I : Nat → Int32} {A : Nat → Nat → Int32} {f : Nat → Nat → (Nat → Int32) → Prop} : rz_ia (re_put G a I A) (a + 64) f = f 0 20160 (A 81) := rh_ia (re_at (o := 64) (by decide))
theorem re_a81 {G : rz_G} {a : Nat} {I : Nat → Int32} {A : Nat → Nat → Int32} {g : Nat → Int32} : rz_up (re_put G a I A) (a + 64) (.inl (0, 20160, .inl g)) = re_put G a I (va_up A 81 g) := re_an 63 rfl (by decide)
/-- nothing but these arrays (these ints) has changed -/
def fa (K : List Nat) (A A' : Nat → Nat → Int32) : Prop := ∀ k, K.contains k = false → A' k = A k
def fi (K : List Nat) (I I' : Nat → Int32) : Prop := ∀ k, K.contains k = false → I' k = I k
theorem fa.rf {K : List Nat} {A : Nat → Nat → Int32} : fa K A A := fun _ _ => rfl
theorem fi.rf {K : List Nat} {I : Nat → Int32} : fi K I I := fun _ _ => rfl
theorem fa_mem {K1 K : List Nat} (h : K1.all (fun k => K.contains k) = true) {k : Nat} (hk : K.contains k = false) : K1.contains k = false := by
  cases c : K1.contains k with
  | false => rfl
  | true =>
    have := (List.all_eq_true.mp h) k (by simpa using c)
    rw [hk] at this
    cases this
theorem fa.m {K1 K : List Nat} {A A' : Nat → Nat → Int32} (h : fa K1 A A') (hk : K1.all (fun k => K.contains k) = true) : fa K A A' := fun k q => h k (fa_mem hk q)
theorem fi.m {K1 K : List Nat} {I I' : Nat → Int32} (h : fi K1 I I') (hk : K1.all (fun k => K.contains k) = true) : fi K I I' := fun k q => h k (fa_mem hk q)
theorem fa.t {K K1 : List Nat} {A A1 A2 : Nat → Nat → Int32} (h : fa K A A1) (h2 : fa K1 A1 A2) (hk : K1.all (fun k => K.contains k) = true) : fa K A A2 := fun k q => (h2 k (fa_mem hk q)).trans (h k q)
theorem fi.t {K K1 : List Nat} {I I1 I2 : Nat → Int32} (h : fi K I I1) (h2 : fi K1 I1 I2) (hk : K1.all (fun k => K.contains k) = true) : fi K I I2 := fun k q => (h2 k (fa_mem hk q)).trans (h k q)
theorem fa.u {K : List Nat} {A A1 : Nat → Nat → Int32} {j : Nat} {g : Nat → Int32} (h : fa K A A1) (hj : K.contains j = true) : fa K A (va_up A1 j g) := fun k q => by
  rw [va_up_ne _ _ (fun e => by subst e; rw [hj] at q; cases q)]; exact h k q
theorem fi.u {K : List Nat} {I I1 : Nat → Int32} {j : Nat} {v : Int32} (h : fi K I I1) (hj : K.contains j = true) : fi K I (upd I1 j v) := fun k q => by
  rw [pk_un (fun e => by subst e; rw [hj] at q; cases q)]; exact h k q
/-- signs laid down in an array -/
def sg (g : Nat → Int32) (o : Nat) (w : List Nat) : Prop := ∀ k (h : k < w.length), g (o + k) = nI w[k]
theorem sg.k {g g' : Nat → Int32} {o : Nat} {w : List Nat} (h : sg g o w) (hk : ∀ x, o ≤ x → x < o + w.length → g' x = g x) : sg g' o w := fun k hk1 => by rw [hk _ (by omega) (by omega)]; exact h k hk1
theorem sg_nil {g : Nat → Int32} {o : Nat} : sg g o [] := fun k h => absurd h (Nat.not_lt_zero _)
theorem sg_app {g : Nat → Int32} {o : Nat} {u v : List Nat} (h1 : sg g o u) (h2 : sg g (o + u.length) v) : sg g o (u ++ v) := fun k hk => by
  by_cases c : k < u.length
  · rw [List.getElem_append_left c]; exact h1 k c
  · rw [List.length_append] at hk
    have := h2 (k - u.length) (by omega)
    rw [List.getElem_append_right (by omega), ← this]
    congr 1; omega
/-- n cells from h (at s on) copied to g (at d on) -/
def cp (g : Nat → Int32) (d : Nat) (h : Nat → Int32) (s n : Nat) : Nat → Int32 := fun x => if d ≤ x ∧ x < d + n then h (s + (x - d)) else g x
theorem cp_0 {g h : Nat → Int32} {d s : Nat} : cp g d h s 0 = g := by
  funext x; simp only [cp]; rw [if_neg (by omega)]
theorem cp_s {g h : Nat → Int32} {d s n : Nat} : upd (cp g d h s n) (d + n) (h (s + n)) = cp g d h s (n + 1) := by
  funext x
  by_cases c : x = d + n
  · subst c; rw [pk_us]; simp only [cp]; rw [if_pos (by omega)]; congr 1; omega
  · rw [pk_un c]; simp only [cp]
    by_cases c2 : d ≤ x ∧ x < d + n
    · rw [if_pos c2, if_pos (by omega)]
    · rw [if_neg c2, if_neg (by omega)]
theorem cp_in {g h : Nat → Int32} {d s n k : Nat} (hk : k < n) : cp g d h s n (d + k) = h (s + k) := by
  simp only [cp]; rw [if_pos (by omega)]; congr 1; omega
theorem cp_out {g h : Nat → Int32} {d s n x : Nat} (hk : x < d ∨ d + n ≤ x) : cp g d h s n x = g x := by
  simp only [cp]; rw [if_neg (by omega)]
theorem sg_cp {g h : Nat → Int32} {d s n : Nat} {w : List Nat} (hw : sg h s w) (hn : w.length ≤ n) : sg (cp g d h s n) d w := fun k hk => by rw [cp_in (by omega)]; exact hw k hk

