/-! blocks of the heap: two that are apart may change places -/
def ov (G : rz_G) (a n : Nat) (f : Nat → rz_E) : rz_G := fun x => if a ≤ x ∧ x < a + n then some (f (x - a)) else G x
theorem ov_comm {G : rz_G} {a n b m : Nat} {f g : Nat → rz_E} (h : a + n ≤ b ∨ b + m ≤ a) : ov (ov G a n f) b m g = ov (ov G b m g) a n f := by
  funext x
  simp only [ov]
  by_cases q : b ≤ x ∧ x < b + m
  · rw [if_pos q, if_neg (by omega), if_pos q]
  · rw [if_neg q, if_neg q]
theorem ov_rup {G : rz_G} {a n b : Nat} {f : Nat → rz_E} {e : rz_E} (h : b < a ∨ a + n ≤ b) : rz_up (ov G a n f) b e = ov (rz_up G b e) a n f := by
  funext x
  simp only [rz_up, ov]
  by_cases q : x = b
  · subst q; rw [if_pos rfl, if_neg (by omega), if_pos rfl]
  · rw [if_neg q, if_neg q]
theorem sm_ov {G : rz_G} {a : Nat} {I : Nat → Int32} {A : Nat → Nat → Int32} {J : Nat → Nat → Int64} {X : Nat → List Nat} {P : Nat → Nat} : sm_put G a I A J X P = ov G a 327 (sm_cell a I A J X P) := rfl
theorem mc_ov {G : rz_G} {a : Nat} {I : Nat → Int32} {A : Nat → Nat → Int32} {J : Nat → Nat → Int64} {X : Nat → List Nat} {P : Nat → Nat} : mc_put G a I A J X P = ov G a 70 (mc_cell a I A J X P) := rfl
theorem bo_ov {G : rz_G} {a : Nat} {I : Nat → Int32} {A : Nat → Nat → Int32} {J : Nat → Nat → Int64} {X : Nat → List Nat} {P : Nat → Nat} : bo_put G a I A J X P = ov G a 588 (bo_cell a I A J X P) := rfl
theorem ps_ov {G : rz_G} {a : Nat} {I : Nat → Int32} {A : Nat → Nat → Int32} {J : Nat → Nat → Int64} {X : Nat → List Nat} {P : Nat → Nat} : ps_put G a I A J X P = ov G a 304 (ps_cell a I A J X P) := rfl
theorem sm_rup {G : rz_G} {a : Nat} {I : Nat → Int32} {A : Nat → Nat → Int32} {J : Nat → Nat → Int64} {X : Nat → List Nat} {P : Nat → Nat} {b : Nat} {e : rz_E} (h : b < a ∨ a + 327 ≤ b) : rz_up (sm_put G a I A J X P) b e = sm_put (rz_up G b e) a I A J X P := ov_rup h
theorem sm_rwd {G : rz_G} {a : Nat} {I : Nat → Int32} {A : Nat → Nat → Int32} {J : Nat → Nat → Int64} {X : Nat → List Nat} {P : Nat → Nat} {b c : Nat} {xs : List Nat} (h : b + 1 < a ∨ a + 327 ≤ b) : wd_put (sm_put G a I A J X P) b c xs = sm_put (wd_put G b c xs) a I A J X P := by
  simp only [wd_put]
  rw [sm_rup (by omega), sm_rup (by omega)]
theorem sm_rwi {G : rz_G} {a : Nat} {I : Nat → Int32} {A : Nat → Nat → Int32} {J : Nat → Nat → Int64} {X : Nat → List Nat} {P : Nat → Nat} {b c : Nat} {xs : List Nat} (h : b + 1 < a ∨ a + 327 ≤ b) (hw : wd_is G b c xs) : wd_is (sm_put G a I A J X P) b c xs := wd_is_keep hw (sm_out (by omega)) (sm_out (by omega))
/-- the Builder's block over another object's -/
theorem bl_sm {G : rz_G} {a : Nat} {I : Nat → Int32} {A : Nat → Nat → Int32} {J : Nat → Nat → Int64} {X : Nat → List Nat} {P : Nat → Nat} {Im : Nat → Int32} {Am : Nat → Nat → Int32} {Jm : Nat → Nat → Int64} {Xm : Nat → List Nat} {Pm : Nat → Nat} {Is : Nat → Int32} {As : Nat → Nat → Int32} {Js : Nat → Nat → Int64} {Xs : Nat → List Nat} {Ps : Nat → Nat} {b : Nat} (h : b + 327 ≤ a ∨ a + 588 ≤ b) : sm_put (mc_put (bo_put G a I A J X P) (a + 1) Im Am Jm Xm Pm) b Is As Js Xs Ps = mc_put (bo_put (sm_put G b Is As Js Xs Ps) a I A J X P) (a + 1) Im Am Jm Xm Pm :=
  (ov_comm (G := bo_put G a I A J X P) (a := a + 1) (n := 70) (f := mc_cell (a + 1) Im Am Jm Xm Pm) (b := b) (m := 327) (g := sm_cell b Is As Js Xs Ps) (by omega)).trans (congrArg (fun H => mc_put H (a + 1) Im Am Jm Xm Pm) (ov_comm (G := G) (a := a) (n := 588) (f := bo_cell a I A J X P) (b := b) (m := 327) (g := sm_cell b Is As Js Xs Ps) (by omega)))
theorem bl_ps {G : rz_G} {a : Nat} {I : Nat → Int32} {A : Nat → Nat → Int32} {J : Nat → Nat → Int64} {X : Nat → List Nat} {P : Nat → Nat} {Im : Nat → Int32} {Am : Nat → Nat → Int32} {Jm : Nat → Nat → Int64} {Xm : Nat → List Nat} {Pm : Nat → Nat} {Is : Nat → Int32} {As : Nat → Nat → Int32} {Js : Nat → Nat → Int64} {Xs : Nat → List Nat} {Ps : Nat → Nat} {b : Nat} (h : b + 304 ≤ a ∨ a + 588 ≤ b) : ps_put (mc_put (bo_put G a I A J X P) (a + 1) Im Am Jm Xm Pm) b Is As Js Xs Ps = mc_put (bo_put (ps_put G b Is As Js Xs Ps) a I A J X P) (a + 1) Im Am Jm Xm Pm :=
  (ov_comm (G := bo_put G a I A J X P) (a := a + 1) (n := 70) (f := mc_cell (a + 1) Im Am Jm Xm Pm) (b := b) (m := 304) (g := ps_cell b Is As Js Xs Ps) (by omega)).trans (congrArg (fun H => mc_put H (a + 1) Im Am Jm Xm Pm) (ov_comm (G := G) (a := a) (n := 588) (f := bo_cell a I A J X P) (b := b) (m := 304) (g := ps_cell b Is As Js Xs Ps) (by omega)))

