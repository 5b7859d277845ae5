/-! WriterDesk$DomainSearch: 5 cells. Ints: 0 size, 1 found. Arrays: 0 seen, 1 queue, 2 before, 3 by. -/
abbrev dm_fs (a : Nat) (I : Nat → Int32) (P : Nat → Nat) : List Value := [.ref (a + 1), .ref (a + 2), .ref (a + 3), .ref (a + 4), .int (I 0), .int (I 1)]
def dm_cell (a : Nat) (I : Nat → Int32) (A : Nat → Nat → Int32) (J : Nat → Nat → Int64) (X : Nat → List Nat) (P : Nat → Nat) (o : Nat) : rz_E := match o with
  | 0 => .inr (5, dm_fs a I P)
  | 1 => .inl (2, 4096, .inl (A 0))
  | 2 => .inl (0, 4096, .inl (A 1))
  | 3 => .inl (0, 4096, .inl (A 2))
  | 4 => .inl (2, 4096, .inl (A 3))
  | _ => .inr (0, [])
def dm_put (G : rz_G) (a : Nat) (I : Nat → Int32) (A : Nat → Nat → Int32) (J : Nat → Nat → Int64) (X : Nat → List Nat) (P : Nat → Nat) : rz_G := fun x => if a ≤ x ∧ x < a + 5 then some (dm_cell a I A J X P (x - a)) else G x
def dm_is (G : rz_G) (a : Nat) (I : Nat → Int32) (A : Nat → Nat → Int32) (J : Nat → Nat → Int64) (X : Nat → List Nat) (P : Nat → Nat) : Prop := ∀ o, o < 5 → G (a + o) = some (dm_cell a I A J X P o)
theorem dm_at {G : rz_G} {a : Nat} {I : Nat → Int32} {A : Nat → Nat → Int32} {J : Nat → Nat → Int64} {X : Nat → List Nat} {P : Nat → Nat} {o : Nat} (h : o < 5) : dm_put G a I A J X P (a + o) = some (dm_cell a I A J X P o) := by
  simp only [dm_put]; rw [if_pos (by omega), Nat.add_sub_cancel_left]
theorem dm_at0 {G : rz_G} {a : Nat} {I : Nat → Int32} {A : Nat → Nat → Int32} {J : Nat → Nat → Int64} {X : Nat → List Nat} {P : Nat → Nat} : dm_put G a I A J X P a = some (.inr (5, dm_fs a I P)) := dm_at (o := 0) (by decide)
theorem dm_out {G : rz_G} {a : Nat} {I : Nat → Int32} {A : Nat → Nat → Int32} {J : Nat → Nat → Int64} {X : Nat → List Nat} {P : Nat → Nat} {x : Nat} (h : x < a ∨ a + 5 ≤ x) : dm_put G a I A J X P x = G x := by simp only [dm_put]; rw [if_neg (by omega)]
theorem dm_id {G : rz_G} {a : Nat} {I : Nat → Int32} {A : Nat → Nat → Int32} {J : Nat → Nat → Int64} {X : Nat → List Nat} {P : Nat → Nat} (h : dm_is G a I A J X P) : dm_put G a I A J X P = G := by
  funext x
  simp only [dm_put]
  split
  · next q => rw [← h (x - a) (by omega)]; congr 1; omega
  · rfl
theorem dm_put_is {G : rz_G} {a : Nat} {I : Nat → Int32} {A : Nat → Nat → Int32} {J : Nat → Nat → Int64} {X : Nat → List Nat} {P : Nat → Nat} : dm_is (dm_put G a I A J X P) a I A J X P := fun o ho => dm_at ho
theorem dm_put2 {G : rz_G} {a : Nat} {I : Nat → Int32} {A : Nat → Nat → Int32} {J : Nat → Nat → Int64} {X : Nat → List Nat} {P : Nat → Nat} {I' : Nat → Int32} {A' : Nat → Nat → Int32} {J' : Nat → Nat → Int64} {X' : Nat → List Nat} {P' : Nat → Nat} : dm_put (dm_put G a I A J X P) a I' A' J' X' P' = dm_put G a I' A' J' X' P' := by
  funext x; simp only [dm_put]; split <;> simp_all
theorem dm_eq {G : rz_G} {a : Nat} {I : Nat → Int32} {A : Nat → Nat → Int32} {J : Nat → Nat → Int64} {X : Nat → List Nat} {P : Nat → Nat} {I' : Nat → Int32} {A' : Nat → Nat → Int32} {J' : Nat → Nat → Int64} {X' : Nat → List Nat} {P' : Nat → Nat} (h : ∀ o, o < 5 → dm_cell a I A J X P o = dm_cell a I' A' J' X' P' o) : dm_put G a I A J X P = dm_put G a I' A' J' X' P' := by
  funext x; simp only [dm_put]; split
  · next q => rw [h (x - a) (by omega)]
  · rfl
theorem dm_upc {G : rz_G} {a : Nat} {I : Nat → Int32} {A : Nat → Nat → Int32} {J : Nat → Nat → Int64} {X : Nat → List Nat} {P : Nat → Nat} {I' : Nat → Int32} {A' : Nat → Nat → Int32} {J' : Nat → Nat → Int64} {X' : Nat → List Nat} {P' : Nat → Nat} {k : Nat} {e : rz_E} (hk : k < 5) (he : dm_cell a I' A' J' X' P' k = e) (h : ∀ o, o < 5 → o ≠ k → dm_cell a I' A' J' X' P' o = dm_cell a I A J X P o) : rz_up (dm_put G a I A J X P) (a + k) e = dm_put G a I' A' J' X' P' := by
  funext x
  simp only [dm_put, rz_up]
  by_cases q : x = a + k
  · subst q; rw [if_pos rfl, if_pos (by omega), Nat.add_sub_cancel_left, he]
  · rw [if_neg q]
    split
    · next q2 => rw [h (x - a) (by omega) (by omega)]
    · rfl
theorem dm_ob {G : rz_G} {a : Nat} {I : Nat → Int32} {A : Nat → Nat → Int32} {J : Nat → Nat → Int64} {X : Nat → List Nat} {P : Nat → Nat} {f : List Value → Prop} : rz_ob (dm_put G a I A J X P) a 5 f = f (dm_fs a I P) := rh_ob dm_at0
theorem dm_i1 {G : rz_G} {a : Nat} {I : Nat → Int32} {A : Nat → Nat → Int32} {J : Nat → Nat → Int64} {X : Nat → List Nat} {P : Nat → Nat} {f : Nat → Nat → (Nat → Int32) → Prop} : rz_ia (dm_put G a I A J X P) (a + 1) f = f 2 4096 (A 0) := rh_ia (dm_at (o := 1) (by decide))
theorem dm_n1 {G : rz_G} {a : Nat} {I : Nat → Int32} {A : Nat → Nat → Int32} {J : Nat → Nat → Int64} {X : Nat → List Nat} {P : Nat → Nat} {f : Nat → Nat → Prop} : rz_aa (dm_put G a I A J X P) (a + 1) f = f 2 4096 := rh_aa (dm_at (o := 1) (by decide))
theorem dm_i2 {G : rz_G} {a : Nat} {I : Nat → Int32} {A : Nat → Nat → Int32} {J : Nat → Nat → Int64} {X : Nat → List Nat} {P : Nat → Nat} {f : Nat → Nat → (Nat → Int32) → Prop} : rz_ia (dm_put G a I A J X P) (a + 2) f = f 0 4096 (A 1) := rh_ia (dm_at (o := 2) (by decide))
theorem dm_n2 {G : rz_G} {a : Nat} {I : Nat → Int32} {A : Nat → Nat → Int32} {J : Nat → Nat → Int64} {X : Nat → List Nat} {P : Nat → Nat} {f : Nat → Nat → Prop} : rz_aa (dm_put G a I A J X P) (a + 2) f = f 0 4096 := rh_aa (dm_at (o := 2) (by decide))
theorem dm_i3 {G : rz_G} {a : Nat} {I : Nat → Int32} {A : Nat → Nat → Int32} {J : Nat → Nat → Int64} {X : Nat → List Nat} {P : Nat → Nat} {f : Nat → Nat → (Nat → Int32) → Prop} : rz_ia (dm_put G a I A J X P) (a + 3) f = f 0 4096 (A 2) := rh_ia (dm_at (o := 3) (by decide))
theorem dm_n3 {G : rz_G} {a : Nat} {I : Nat → Int32} {A : Nat → Nat → Int32} {J : Nat → Nat → Int64} {X : Nat → List Nat} {P : Nat → Nat} {f : Nat → Nat → Prop} : rz_aa (dm_put G a I A J X P) (a + 3) f = f 0 4096 := rh_aa (dm_at (o := 3) (by decide))
theorem dm_i4 {G : rz_G} {a : Nat} {I : Nat → Int32} {A : Nat → Nat → Int32} {J : Nat → Nat → Int64} {X : Nat → List Nat} {P : Nat → Nat} {f : Nat → Nat → (Nat → Int32) → Prop} : rz_ia (dm_put G a I A J X P) (a + 4) f = f 2 4096 (A 3) := rh_ia (dm_at (o := 4) (by decide))
theorem dm_n4 {G : rz_G} {a : Nat} {I : Nat → Int32} {A : Nat → Nat → Int32} {J : Nat → Nat → Int64} {X : Nat → List Nat} {P : Nat → Nat} {f : Nat → Nat → Prop} : rz_aa (dm_put G a I A J X P) (a + 4) f = f 2 4096 := rh_aa (dm_at (o := 4) (by decide))
theorem dm_u4 {G : rz_G} {a : Nat} {I : Nat → Int32} {A : Nat → Nat → Int32} {J : Nat → Nat → Int64} {X : Nat → List Nat} {P : Nat → Nat} {v : Int32} : rz_up (dm_put G a I A J X P) a (.inr (5, [.ref (a + 1), .ref (a + 2), .ref (a + 3), .ref (a + 4), .int v, .int (I 1)])) = dm_put G a (upd I 0 v) A J X P := dm_upc (k := 0) (by decide) rfl (fun o ho hne => by match o, hne with | 0, h => exact absurd rfl h | 1, _ => rfl | 2, _ => rfl | 3, _ => rfl | 4, _ => rfl | o + 5, _ => rfl)
theorem dm_u5 {G : rz_G} {a : Nat} {I : Nat → Int32} {A : Nat → Nat → Int32} {J : Nat → Nat → Int64} {X : Nat → List Nat} {P : Nat → Nat} {v : Int32} : rz_up (dm_put G a I A J X P) a (.inr (5, [.ref (a + 1), .ref (a + 2), .ref (a + 3), .ref (a + 4), .int (I 0), .int v])) = dm_put G a (upd I 1 v) A J X P := dm_upc (k := 0) (by decide) rfl (fun o ho hne => by match o, hne with | 0, h => exact absurd rfl h | 1, _ => rfl | 2, _ => rfl | 3, _ => rfl | 4, _ => rfl | o + 5, _ => rfl)
theorem dm_a1 {G : rz_G} {a : Nat} {I : Nat → Int32} {A : Nat → Nat → Int32} {J : Nat → Nat → Int64} {X : Nat → List Nat} {P : Nat → Nat} {g : Nat → Int32} : rz_up (dm_put G a I A J X P) (a + 1) (.inl (2, 4096, .inl g)) = dm_put G a I (va_up A 0 g) J X P := dm_upc (k := 1) (by decide) rfl (fun o ho hne => by match o, hne with | 0, _ => rfl | 1, h => exact absurd rfl h | 2, _ => rfl | 3, _ => rfl | 4, _ => rfl | o + 5, _ => rfl)
theorem dm_a2 {G : rz_G} {a : Nat} {I : Nat → Int32} {A : Nat → Nat → Int32} {J : Nat → Nat → Int64} {X : Nat → List Nat} {P : Nat → Nat} {g : Nat → Int32} : rz_up (dm_put G a I A J X P) (a + 2) (.inl (0, 4096, .inl g)) = dm_put G a I (va_up A 1 g) J X P := dm_upc (k := 2) (by decide) rfl (fun o ho hne => by match o, hne with | 0, _ => rfl | 1, _ => rfl | 2, h => exact absurd rfl h | 3, _ => rfl | 4, _ => rfl | o + 5, _ => rfl)
theorem dm_a3 {G : rz_G} {a : Nat} {I : Nat → Int32} {A : Nat → Nat → Int32} {J : Nat → Nat → Int64} {X : Nat → List Nat} {P : Nat → Nat} {g : Nat → Int32} : rz_up (dm_put G a I A J X P) (a + 3) (.inl (0, 4096, .inl g)) = dm_put G a I (va_up A 2 g) J X P := dm_upc (k := 3) (by decide) rfl (fun o ho hne => by match o, hne with | 0, _ => rfl | 1, _ => rfl | 2, _ => rfl | 3, h => exact absurd rfl h | 4, _ => rfl | o + 5, _ => rfl)
theorem dm_a4 {G : rz_G} {a : Nat} {I : Nat → Int32} {A : Nat → Nat → Int32} {J : Nat → Nat → Int64} {X : Nat → List Nat} {P : Nat → Nat} {g : Nat → Int32} : rz_up (dm_put G a I A J X P) (a + 4) (.inl (2, 4096, .inl g)) = dm_put G a I (va_up A 3 g) J X P := dm_upc (k := 4) (by decide) rfl (fun o ho hne => by match o, hne with | 0, _ => rfl | 1, _ => rfl | 2, _ => rfl | 3, _ => rfl | 4, h => exact absurd rfl h | o + 5, _ => rfl)
theorem dm_xc {G : rz_G} {a : Nat} {I : Nat → Int32} {A : Nat → Nat → Int32} {J : Nat → Nat → Int64} {X : Nat → List Nat} {P : Nat → Nat} {xs : List Nat} {k : Nat} {o : Nat} (ho : o < 5) : dm_cell a I A J (va_up X k xs) P o = dm_cell a I A J X P o := by
  match o with
  | 0 => rfl
  | 1 => rfl
  | 2 => rfl
  | 3 => rfl
  | 4 => rfl
  | o + 5 => rfl
theorem dm_mc {G : rz_G} {a : Nat} {I : Nat → Int32} {A : Nat → Nat → Int32} {J : Nat → Nat → Int64} {X : Nat → List Nat} {P : Nat → Nat} {am : Nat} {S : mc_S} {m : mv_T} {cl : Nat} (h : mc_at' G am a 5 S m cl) : mc_is (dm_put G a I A J X P) am S.1 S.2.1 S.2.2.1 S.2.2.2.1 S.2.2.2.2 := mc_is_keep h.1 (fun o ho => dm_out (by have := h.2.2.2; unfold mc_ap at this; omega))
theorem dm_fo_n {fd : Option Nat} (h : ∀ g, fd = some g → g < 5000) : ps_fo fd = -1 ↔ fd = none := by
  cases fd with
  | none => simp [ps_fo]
  | some g =>
    simp only [ps_fo, reduceCtorEq, iff_false]
    intro q
    have h2 := h g rfl
    have := nI_pos (n := g) (by omega)
    rw [q] at this
    exact this (by decide)
/-- a node: two sets, the node before, the letter -/
abbrev dm_nd : Type := Nat × Nat × Nat × Nat
def dm_in (D : List dm_nd) (s t : Nat) : Bool := D.any (fun n => decide (n.1 = s) && decide (n.2.1 = t))
def dm_ns (I : Nat → Int32) (A : Nat → Nat → Int32) (D : List dm_nd) (k : Nat) : Prop :=
  I 0 = nI D.length ∧ D.length ≤ 4096 ∧ (∀ s t, s < 64 → t < 64 → A 0 (s * 64 + t) = rz_b (dm_in D s t)) ∧
  (∀ i n, D[i]? = some n → A 1 i = nI (n.1 * 64 + n.2.1) ∧ n.1 < 64 ∧ n.2.1 < 64 ∧ (0 < i → i < k → A 2 i = nI n.2.2.1 ∧ A 3 i = nI n.2.2.2 ∧ n.2.2.1 < i ∧ n.2.2.2 < 3))
def dm_acc (cl al s : Nat) : Bool := !decide (s &&& cl &&& al = 0)
def dm_df (m1 m2 : mv_T) (c1 c2 s t : Nat) : Bool := dm_acc c1 (mv_al m1 c1) s != dm_acc c2 (mv_al m2 c2) t
def dm_nw (D : List dm_nd) (s t : Nat) : Bool := !dm_in D s t && decide (D.length < 4096)
def dm_v (m1 m2 : mv_T) (c1 c2 : Nat) (S : List dm_nd × Option Nat) (n : dm_nd) : List dm_nd × Option Nat := if dm_nw S.1 n.1 n.2.1 then (S.1 ++ [n], if dm_df m1 m2 c1 c2 n.1 n.2.1 then some S.1.length else S.2) else S
set_option maxRecDepth 100000 in
set_option maxHeartbeats 4000000 in
/-- visit(one, two, oneSet, twoSet) -/
theorem c_Dom_visit {w : rz_w} {d : Nat} {G : rz_G} {a : Nat} {I : Nat → Int32} {A : Nat → Nat → Int32} {J : Nat → Nat → Int64} {X : Nat → List Nat} {P : Nat → Nat} {S1 S2 : mc_S} {m1 m2 : mv_T} {c1 c2 a1 a2 s t : Nat} {D : List dm_nd} {fd : Option Nat} (h1 : mc_at' G a1 a 5 S1 m1 c1) (h2 : mc_at' G a2 a 5 S2 m2 c2) (hs : s < 64) (ht : t < 64) (hN : dm_ns I A D D.length) (hf : I 1 = ps_fo fd) :
    rz_C w (d + 1) 0 0 y_Dom_visit m_Dom_visit [.ref a, .ref a1, .ref a2, .int (nI s), .int (nI t)] (dm_put G a I A J X P) (fun r G' => r = some (.int (rz_b (dm_nw D s t))) ∧ ∃ I' A', G' = dm_put G a I' A' J X P ∧ ∀ b l, dm_ns I' A' (dm_v m1 m2 c1 c2 (D, fd) (s, t, b, l)).1 D.length ∧ I' 1 = ps_fo (dm_v m1 m2 c1 c2 (D, fd) (s, t, b, l)).2) := by
  obtain ⟨n0, n1, n2, n3⟩ := id hN
  have hmc1 : ∀ I A, mc_is (dm_put G a I A J X P) a1 S1.1 S1.2.1 S1.2.2.1 S1.2.2.2.1 S1.2.2.2.2 := fun I A => dm_mc h1
  have hmc2 : ∀ I A, mc_is (dm_put G a I A J X P) a2 S2.1 S2.2.1 S2.2.2.1 S2.2.2.2.1 S2.2.2.2.2 := fun I A => dm_mc h2
  obtain ⟨-, hm1, hs1, ha1⟩ := id h1
  obtain ⟨-, hm2, hs2, ha2⟩ := id h2
  have hal1 := mv_al64 hm1
  have hal2 := mv_al64 hm2
  have i1 := fun I A => c_Mach_accepts (w := w) (d := d) (G := dm_put G a I A J X P) (a := a1) (I := S1.1) (A := S1.2.1) (J := S1.2.2.1) (X := S1.2.2.2.1) (P := S1.2.2.2.2) (s := s) hm1.2.2.2.2.2.2.1 hm1.2.2.2.2.2.2.2.1 hs1.2.1 hal1 hs
  have i2 := fun I A => c_Mach_accepts (w := w) (d := d) (G := dm_put G a I A J X P) (a := a2) (I := S2.1) (A := S2.2.1) (J := S2.2.2.1) (X := S2.2.2.2.1) (P := S2.2.2.2.2) (s := t) hm2.2.2.2.2.2.2.1 hm2.2.2.2.2.2.2.2.1 hs2.2.1 hal2 ht
  simp only [mc_id (hmc1 _ _)] at i1
  simp only [mc_id (hmc2 _ _)] at i2
  have ob1 : ∀ I A, (dm_put G a I A J X P) a1 = some (.inr (2, mc_fs a1 S1.1 S1.2.2.2.2)) := fun I A => hmc1 I A 0 (by decide)
  have ob2 : ∀ I A, (dm_put G a I A J X P) a2 = some (.inr (2, mc_fs a2 S2.1 S2.2.2.2.2)) := fun I A => hmc2 I A 0 (by decide)
  refine rz_enter' [some (.ref a), some (.ref a1), some (.ref a2), some (.int (nI s)), some (.int (nI t)), none] (by decide +kernel) rfl rfl (Nat.le_of_ble_eq_true rfl) rfl ?_
  refine rz_blk' [(.iload_n 3, 1, 0, 0), (.bipush 64, 2, 0, 0), (.imul, 1, 0, 0), (.iload 4, 2, 0, 0), (.iadd, 1, 0, 0), (.istore 5, 2, 0, 0)] (by decide +kernel) (Nat.le_refl _) (Nat.le_refl _) (fun K R hK hR => ?_)
  simp only [rw_b64, ↓rx_bipush, ↓rx_iadd, ↓rx_iload, ↓rx_iload_n3, ↓rx_imul, ↓rx_istore, ↓rx_nil, ↓ry_i1, ↓ry_i2, ↓ry_li0s, ↓ry_li0z, ↓dm_ob, ↓dm_i1, ↓dm_n1, ↓dm_i2, ↓dm_n2, ↓dm_i3, ↓dm_n3, ↓dm_i4, ↓dm_n4, pk_mul, nI_add, rz_set, rz_nol, rz_clr, List.set_cons_zero, List.set_cons_succ, rz_tr, Nat.reduceAdd, Int.reduceAdd, Int.reduceToNat, Int.reduceSub, Int.reduceNeg, Int.cast_ofNat_Int]
  refine hK _ _ _ _ ?_
  have hno : dm_nw D s t = false → rz_T w (d + 1) 0 0 m_Dom_visit 0 0 29 [some (.ref a), some (.ref a1), some (.ref a2), some (.int (nI s)), some (.int (nI t)), some (.int (nI (s * 64 + t)))] [] (dm_put G a I A J X P) (fun r G' => r = some (.int (rz_b (dm_nw D s t))) ∧ ∃ I' A', G' = dm_put G a I' A' J X P ∧ ∀ b l, dm_ns I' A' (dm_v m1 m2 c1 c2 (D, fd) (s, t, b, l)).1 D.length ∧ I' 1 = ps_fo (dm_v m1 m2 c1 c2 (D, fd) (s, t, b, l)).2) := by
    intro e
    refine rz_blk' [(.iconst 0, 1, 0, 0), (.ireturn, 1, 0, 0)] (by decide +kernel) (Nat.le_refl _) (Nat.le_refl _) (fun K R hK hR => ?_)
    simp only [rw_c0, ↓rx_iconst, ↓rx_ireturn, ↓rx_nil, ↓dm_ob, ↓dm_i1, ↓dm_n1, ↓dm_i2, ↓dm_n2, ↓dm_i3, ↓dm_n3, ↓dm_i4, ↓dm_n4, rz_set, rz_nol, rz_clr, List.set_cons_zero, List.set_cons_succ, rz_tr, Nat.reduceAdd, Int.reduceAdd, Int.reduceToNat, Int.reduceSub, Int.reduceNeg, Int.cast_ofNat_Int]
    refine hR _ _ rz_nb_0 ⟨by rw [e]; rfl, I, A, rfl, fun b l => ?_⟩
    simp only [dm_v, e, Bool.false_eq_true, if_false]
    exact ⟨hN, hf⟩
  refine rz_blk' [(.aload_n 0, 1, 0, 0), (.getfield 9, 3, 5, 0), (.iload 5, 2, 0, 0), (.baload, 1, 0, 0), (.ifCond .ne 13, 3, 0, 0), (.aload_n 0, 1, 0, 0), (.getfield 31, 3, 5, 4), (.sipush 4096, 3, 0, 0), (.if_icmp .lt 5, 3, 0, 0)] (by decide +kernel) (Nat.le_refl _) (Nat.le_refl _) (fun K R hK hR => ?_)
  simp only [Nat.reduceEqDiff, false_or, or_false, or_true, reduceIte, rw_s4096, ↓rx_aload_n0, ↓rx_baload, ↓rx_getfield, ↓rx_ifCond_ne, ↓rx_if_icmp_lt, ↓rx_iload, ↓rx_nil, ↓rx_sipush, ↓ry_fvs, ↓ry_fvz, ↓ry_i1, ↓ry_i2, ↓ry_iau, ↓ry_li0s, ↓ry_li0z, ↓ry_lr0s, ↓ry_lr0z, ↓ry_obu, ↓ry_r1, ↓ry_ri, true_and, true_or, ↓dm_ob, ↓dm_i1, ↓dm_n1, ↓dm_i2, ↓dm_n2, ↓dm_i3, ↓dm_n3, ↓dm_i4, ↓dm_n4, n0, rz_set, rz_nol, rz_clr, List.set_cons_zero, List.set_cons_succ, rz_tr, Nat.reduceAdd, Int.reduceAdd, Int.reduceToNat, Int.reduceSub, Int.reduceNeg, Int.cast_ofNat_Int]
  rw [nI_clamp (by omega), n2 s t hs ht, rz_b_0, nI_ltI (by omega) (by omega)]
  refine ⟨vp_in_nI (by omega) (by decide), fun q => hK _ _ _ _ (hno ?_), fun q => ⟨fun q2 => hK _ _ _ _ ?_, fun q2 => hK _ _ _ _ (hno ?_)⟩⟩
  · simp only [dm_nw]
    cases e : dm_in D s t with
    | false => exact absurd e q
    | true => rfl
  rotate_left
  · simp only [dm_nw]; simp; omega
  have hin : dm_in D s t = false := by simpa using q
  have hnw : dm_nw D s t = true := by simp only [dm_nw, hin]; simpa using q2
  refine rz_blk' [(.aload_n 0, 1, 0, 0), (.getfield 9, 3, 5, 0), (.iload 5, 2, 0, 0), (.iconst 1, 1, 0, 0), (.bastore, 1, 0, 0)] (by decide +kernel) (Nat.le_refl _) (Nat.le_refl _) (fun K R hK hR => ?_)
  simp only [Nat.reduceEqDiff, false_or, or_false, or_true, reduceIte, rw_c1, ↓rx_aload_n0, ↓rx_bastore, ↓rx_getfield, ↓rx_iconst, ↓rx_iload, ↓rx_nil, ↓ry_fvs, ↓ry_fvz, ↓ry_iau, ↓ry_li0s, ↓ry_li0z, ↓ry_lr0s, ↓ry_lr0z, ↓ry_obu, ↓ry_r1, ↓ry_rii, true_and, true_or, ↓dm_ob, ↓dm_i1, ↓dm_n1, ↓dm_i2, ↓dm_n2, ↓dm_i3, ↓dm_n3, ↓dm_i4, ↓dm_n4, dm_a1, rz_set, rz_nol, rz_clr, List.set_cons_zero, List.set_cons_succ, rz_tr, Nat.reduceAdd, Int.reduceAdd, Int.reduceToNat, Int.reduceSub, Int.reduceNeg, Int.cast_ofNat_Int]
  rw [nI_clamp (by omega)]
  refine ⟨vp_in_nI (by omega) (by decide), hK _ _ _ _ ?_⟩
  refine rz_blk' [(.aload_n 0, 1, 0, 0), (.getfield 15, 3, 5, 1), (.aload_n 0, 1, 0, 0), (.getfield 31, 3, 5, 4), (.iload 5, 2, 0, 0), (.iastore, 1, 0, 0)] (by decide +kernel) (Nat.le_refl _) (Nat.le_refl _) (fun K R hK hR => ?_)
  simp only [↓rx_aload_n0, ↓rx_getfield, ↓rx_iastore, ↓rx_iload, ↓rx_nil, ↓ry_fvs, ↓ry_fvz, ↓ry_iau, ↓ry_li0s, ↓ry_li0z, ↓ry_lr0s, ↓ry_lr0z, ↓ry_obu, ↓ry_r1, ↓ry_rii, true_and, ↓dm_ob, ↓dm_i1, ↓dm_n1, ↓dm_i2, ↓dm_n2, ↓dm_i3, ↓dm_n3, ↓dm_i4, ↓dm_n4, dm_a2, n0, rz_set, rz_nol, rz_clr, List.set_cons_zero, List.set_cons_succ, rz_tr, Nat.reduceAdd, Int.reduceAdd, Int.reduceToNat, Int.reduceSub, Int.reduceNeg, Int.cast_ofNat_Int]
  rw [nI_clamp (by omega)]
  refine ⟨vp_in_nI (by omega) (by decide), hK _ _ _ _ ?_⟩
  refine rz_blk' [(.aload_n 0, 1, 0, 0), (.getfield 19, 3, 5, 2), (.aload_n 0, 1, 0, 0), (.getfield 31, 3, 5, 4), (.iconst (-1), 1, 0, 0), (.iastore, 1, 0, 0)] (by decide +kernel) (Nat.le_refl _) (Nat.le_refl _) (fun K R hK hR => ?_)
  simp only [rw_cm1, ↓rx_aload_n0, ↓rx_getfield, ↓rx_iastore, ↓rx_iconst, ↓rx_nil, ↓ry_fvs, ↓ry_fvz, ↓ry_iau, ↓ry_lr0s, ↓ry_lr0z, ↓ry_obu, ↓ry_r1, ↓ry_rii, true_and, ↓dm_ob, ↓dm_i1, ↓dm_n1, ↓dm_i2, ↓dm_n2, ↓dm_i3, ↓dm_n3, ↓dm_i4, ↓dm_n4, dm_a3, n0, rz_set, rz_nol, rz_clr, List.set_cons_zero, List.set_cons_succ, rz_tr, Nat.reduceAdd, Int.reduceAdd, Int.reduceToNat, Int.reduceSub, Int.reduceNeg, Int.cast_ofNat_Int]
  rw [nI_clamp (by omega)]
  refine ⟨vp_in_nI (by omega) (by decide), hK _ _ _ _ ?_⟩
  generalize hA2 : va_up (va_up (va_up A 0 _) 1 _) 2 _ = A2
  have s0 : A2 0 = upd (A 0) (s * 64 + t) (nI 1) := by rw [← hA2]; simp [va_up]; rfl
  have s1 : A2 1 = upd (A 1) D.length (nI (s * 64 + t)) := by rw [← hA2]; simp [va_up]
  have s2 : A2 2 = upd (A 2) D.length (-1) := by rw [← hA2]; simp [va_up]
  have s3 : A2 3 = A 3 := by rw [← hA2]; simp [va_up]
  have hfin : ∀ I1 : Nat → Int32, I1 0 = I 0 → I1 1 = ps_fo (if dm_df m1 m2 c1 c2 s t then some D.length else fd) → rz_T w (d + 1) 0 0 m_Dom_visit 0 0 82 [some (.ref a), some (.ref a1), some (.ref a2), some (.int (nI s)), some (.int (nI t)), some (.int (nI (s * 64 + t)))] [] (dm_put G a I1 A2 J X P) (fun r G' => r = some (.int (rz_b (dm_nw D s t))) ∧ ∃ I' A', G' = dm_put G a I' A' J X P ∧ ∀ b l, dm_ns I' A' (dm_v m1 m2 c1 c2 (D, fd) (s, t, b, l)).1 D.length ∧ I' 1 = ps_fo (dm_v m1 m2 c1 c2 (D, fd) (s, t, b, l)).2) := by
    intro I1 e0 e1
    refine rz_blk' [(.aload_n 0, 1, 0, 0), (.dup, 1, 0, 0), (.getfield 31, 3, 5, 4), (.iconst 1, 1, 0, 0), (.iadd, 1, 0, 0), (.putfield 31, 3, 5, 4)] (by decide +kernel) (Nat.le_refl _) (Nat.le_refl _) (fun K R hK hR => ?_)
    simp only [List.length_cons, List.length_nil, Nat.reduceLT, rf_5_4, rw_c1, ↓rx_aload_n0, ↓rx_dup, ↓rx_getfield, ↓rx_iadd, ↓rx_iconst, ↓rx_nil, ↓rx_putfield, ↓ry_fvs, ↓ry_fvz, ↓ry_i2, ↓ry_lr0s, ↓ry_lr0z, ↓ry_obu, ↓ry_r1, ↓ry_v1i, ↓ry_v1r, ↓ry_vr, true_and, ↓dm_ob, ↓dm_i1, ↓dm_n1, ↓dm_i2, ↓dm_n2, ↓dm_i3, ↓dm_n3, ↓dm_i4, ↓dm_n4, dm_u4, e0, n0, nI_add, rz_set, rz_nol, rz_clr, List.set_cons_zero, List.set_cons_succ, rz_tr, Nat.reduceAdd, Int.reduceAdd, Int.reduceToNat, Int.reduceSub, Int.reduceNeg, Int.cast_ofNat_Int]
    refine hK _ _ _ _ ?_
    refine rz_blk' [(.iconst 1, 1, 0, 0), (.ireturn, 1, 0, 0)] (by decide +kernel) (Nat.le_refl _) (Nat.le_refl _) (fun K R hK hR => ?_)
    simp only [rw_c1, ↓rx_iconst, ↓rx_ireturn, ↓rx_nil, ↓dm_ob, ↓dm_i1, ↓dm_n1, ↓dm_i2, ↓dm_n2, ↓dm_i3, ↓dm_n3, ↓dm_i4, ↓dm_n4, rz_set, rz_nol, rz_clr, List.set_cons_zero, List.set_cons_succ, rz_tr, Nat.reduceAdd, Int.reduceAdd, Int.reduceToNat, Int.reduceSub, Int.reduceNeg, Int.cast_ofNat_Int]
    refine hR _ _ rz_nb_1 ⟨by rw [hnw]; rfl, _, A2, rfl, fun b l => ?_⟩
    simp only [dm_v, hnw, if_true]
    refine ⟨⟨by simp only [List.length_append, List.length_singleton]; exact pk_us, by simp; omega, fun p q hp hq => ?_, fun i n hi => ?_⟩, (pk_un (by decide)).trans e1⟩
    · rw [s0]
      simp only [dm_in, List.any_append, List.any_cons, List.any_nil, Bool.or_false]
      by_cases c : p = s ∧ q = t
      · obtain ⟨rfl, rfl⟩ := c
        rw [pk_us]; simp; rfl
      · rw [pk_un (by omega), n2 p q hp hq]
        congr 1
        have : (decide (s = p) && decide (t = q)) = false := by
          simp only [Bool.and_eq_false_iff, decide_eq_false_iff_not]
          by_cases c1 : s = p
          · exact Or.inr (fun c2 => c ⟨c1.symm, c2.symm⟩)
          · exact Or.inl c1
        rw [this, Bool.or_false]; rfl
    · by_cases c : i < D.length
      · rw [List.getElem?_append_left c] at hi
        rw [s1, s2, s3, pk_un (by omega), pk_un (by omega)]
        exact n3 i n hi
      · have hi2 : i = D.length := by
          have := (List.getElem?_eq_some_iff.mp hi).1
          simp at this; omega
        subst hi2
        simp at hi
        subst hi
        rw [s1, pk_us]
        exact ⟨rfl, hs, ht, fun _ z => absurd z (Nat.lt_irrefl _)⟩
  refine rz_blk' [(.aload_n 1, 1, 0, 0), (.iload_n 3, 1, 0, 0)] (by decide +kernel) (Nat.le_refl _) (Nat.le_refl _) (fun K R hK hR => ?_)
  simp only [↓rx_aload_n1, ↓rx_iload_n3, ↓rx_nil, ↓ry_li0s, ↓ry_li0z, ↓ry_lr0s, ↓ry_lr0z, ↓dm_ob, ↓dm_i1, ↓dm_n1, ↓dm_i2, ↓dm_n2, ↓dm_i3, ↓dm_n3, ↓dm_i4, ↓dm_n4, rz_set, rz_nol, rz_clr, List.set_cons_zero, List.set_cons_succ, rz_tr, Nat.reduceAdd, Int.reduceAdd, Int.reduceToNat, Int.reduceSub, Int.reduceNeg, Int.cast_ofNat_Int]
  refine hK _ _ _ _ ?_
  refine rz_cV (As := [.int (nI s)]) (b := a1) (S := []) l_Dom_51 (by decide +kernel) rfl (ob1 _ _) rfl (Nat.le_of_ble_eq_true rfl) (Nat.le_refl _) (Nat.le_refl _) (i1 _ _) (fun r G' hr => ?_)
  obtain ⟨rfl, hg⟩ := hr
  have hg := hg.symm
  subst hg
  simp only [Option.toList, List.cons_append, List.nil_append]
  refine rz_blk' [(.aload_n 2, 1, 0, 0), (.iload 4, 2, 0, 0)] (by decide +kernel) (Nat.le_refl _) (Nat.le_refl _) (fun K R hK hR => ?_)
  simp only [↓rx_aload_n2, ↓rx_iload, ↓rx_nil, ↓ry_li0s, ↓ry_li0z, ↓ry_lr0s, ↓ry_lr0z, ↓dm_ob, ↓dm_i1, ↓dm_n1, ↓dm_i2, ↓dm_n2, ↓dm_i3, ↓dm_n3, ↓dm_i4, ↓dm_n4, rz_set, rz_nol, rz_clr, List.set_cons_zero, List.set_cons_succ, rz_tr, Nat.reduceAdd, Int.reduceAdd, Int.reduceToNat, Int.reduceSub, Int.reduceNeg, Int.cast_ofNat_Int]
  refine hK _ _ _ _ ?_
  refine rz_cV (As := [.int (nI t)]) (b := a2) (S := [.int (if s &&& c1 &&& mv_al m1 c1 = 0 then 0 else 1)]) l_Dom_51 (by decide +kernel) rfl (ob2 _ _) rfl (Nat.le_of_ble_eq_true rfl) (Nat.le_refl _) (Nat.le_refl _) (i2 _ _) (fun r G' hr => ?_)
  obtain ⟨rfl, hg⟩ := hr
  have hg := hg.symm
  subst hg
  simp only [Option.toList, List.cons_append, List.nil_append]
  have hdf : ((if s &&& c1 &&& mv_al m1 c1 = 0 then (0 : Int32) else 1) = if t &&& c2 &&& mv_al m2 c2 = 0 then 0 else 1) ↔ dm_df m1 m2 c1 c2 s t = false := by
    simp only [dm_df, dm_acc]
    by_cases q1 : s &&& c1 &&& mv_al m1 c1 = 0 <;> by_cases q2 : t &&& c2 &&& mv_al m2 c2 = 0 <;> simp [q1, q2]
  refine rz_blk' [(.if_icmp .eq 11, 3, 0, 0), (.aload_n 0, 1, 0, 0), (.aload_n 0, 1, 0, 0), (.getfield 31, 3, 5, 4), (.putfield 35, 3, 5, 5)] (by decide +kernel) (Nat.le_refl _) (Nat.le_refl _) (fun K R hK hR => ?_)
  simp only [List.length_cons, List.length_nil, Nat.reduceLT, rf_5_5, ↓rx_aload_n0, ↓rx_getfield, ↓rx_if_icmp_eq, ↓rx_nil, ↓rx_putfield, ↓ry_fvs, ↓ry_fvz, ↓ry_i2, ↓ry_lr0s, ↓ry_lr0z, ↓ry_obu, ↓ry_r1, ↓ry_vr, true_and, ↓dm_ob, ↓dm_i1, ↓dm_n1, ↓dm_i2, ↓dm_n2, ↓dm_i3, ↓dm_n3, ↓dm_i4, ↓dm_n4, dm_u5, rz_set, rz_nol, rz_clr, List.set_cons_zero, List.set_cons_succ, rz_tr, Nat.reduceAdd, Int.reduceAdd, Int.reduceToNat, Int.reduceSub, Int.reduceNeg, Int.cast_ofNat_Int]
  rw [hdf]
  refine ⟨fun q => hK _ _ _ _ (hfin I rfl (by rw [q]; exact hf)), fun q => hK _ _ _ _ (hfin _ (pk_un (by decide)) ?_)⟩
  rw [pk_us, if_pos (by simpa using q), n0]; rfl

