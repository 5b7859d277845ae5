/-! WriterDesk$PairSearch: search -/
abbrev ps_gT := List (List Nat × List ps_nd)
abbrev ps_sT := ps_gT × List ps_nd × Option Nat
def ps_st (gs : ps_gT) (i : Nat) : Nat := ((gs.take i).map (fun x => x.2.length)).sum
def ps_gn (gs : ps_gT) (g : Nat) : List Nat × List ps_nd := gs[g]?.getD ([], [])
theorem ps_st_s {gs : ps_gT} {i : Nat} {x : List Nat × List ps_nd} (h : gs[i]? = some x) : ps_st gs (i + 1) = ps_st gs i + x.2.length := by
  simp only [ps_st, List.take_add_one, h, Option.toList, List.map_append, List.map_cons, List.map_nil, List.sum_append_nat, List.sum_cons, List.sum_nil, Nat.add_zero]
theorem ps_st_a {gs hs : ps_gT} {i : Nat} (h : i ≤ gs.length) : ps_st (gs ++ hs) i = ps_st gs i := by
  simp only [ps_st]; rw [List.take_append_of_le_length h]
theorem ps_st_le {gs : ps_gT} : ∀ (k i : Nat), ps_st gs i ≤ ps_st gs (i + k) := by
  intro k
  induction k with
  | zero => intro i; exact Nat.le_refl _
  | succ k ih =>
    intro i
    refine Nat.le_trans (ih i) ?_
    rw [← Nat.add_assoc]
    cases h : gs[i + k]? with
    | none =>
      have := List.getElem?_eq_none_iff.mp h
      simp only [ps_st]
      rw [List.take_of_length_le (by omega), List.take_of_length_le (by omega)]; exact Nat.le_refl _
    | some x => rw [ps_st_s h]; omega
theorem ps_st_ge {gs : ps_gT} (h : ∀ (i : Nat) (x : List Nat × List ps_nd), gs[i]? = some x → x.2 ≠ []) : ∀ i, i ≤ gs.length → i ≤ ps_st gs i := by
  intro i
  induction i with
  | zero => intro _; omega
  | succ i ih =>
    intro hi
    obtain ⟨x, hx⟩ : ∃ x, gs[i]? = some x := ⟨_, List.getElem?_eq_getElem (by omega)⟩
    rw [ps_st_s hx]
    have := List.length_pos_iff.mpr (h i x hx)
    have := ih (by omega)
    omega
def ps_stp (m1 m2 : mv_T) (c1 c2 g l : Nat) (S : ps_sT) : ps_sT :=
  if S.2.1.length < (ps_spr m1 m2 c1 c2 S.1.length l S.2 (ps_gn S.1 g).2).1.length ∧ S.1.length < 72 then (S.1 ++ [((ps_gn S.1 g).1 ++ [l], (ps_spr m1 m2 c1 c2 S.1.length l S.2 (ps_gn S.1 g).2).1.drop S.2.1.length)], ps_spr m1 m2 c1 c2 S.1.length l S.2 (ps_gn S.1 g).2) else (S.1, ps_spr m1 m2 c1 c2 S.1.length l S.2 (ps_gn S.1 g).2)
def ps_ll (m1 m2 : mv_T) (c1 c2 g : Nat) : Nat → Nat → ps_sT → ps_sT
  | 0, _, S => S
  | k + 1, l, S => if S.2.2 = none then ps_ll m1 m2 c1 c2 g k (l + 1) (ps_stp m1 m2 c1 c2 g l S) else S
def ps_lo (m1 m2 : mv_T) (c1 c2 : Nat) : Nat → Nat → ps_sT → ps_sT
  | 0, _, S => S
  | k + 1, g, S => if S.2.2 = none ∧ g < S.1.length ∧ g < 72 then ps_lo m1 m2 c1 c2 k (g + 1) (ps_ll m1 m2 c1 c2 g 3 0 S) else S
/-- the groups as they lie in the rows -/
def ps_gi (Ok : Nat → ps_nd → Prop) (A5 : Nat → Nat → Int32) (S : ps_sT) : Prop :=
  A5 8 0 = nI 0 ∧ A5 5 S.1.length = nI S.2.1.length ∧ S.2.1.length = ps_st S.1 S.1.length ∧
  (∀ i x, S.1[i]? = some x → A5 5 i = nI (ps_st S.1 i) ∧ A5 8 i = nI x.1.length ∧ x.1.length ≤ i ∧ x.2 ≠ [] ∧ (∀ j n, x.2[j]? = some n → S.2.1[ps_st S.1 i + j]? = some n) ∧ (∀ n ∈ x.2, Ok x.1.length n) ∧ (i = 0 ∧ x.1 = [] ∨ ∃ b l y, b < i ∧ l < 3 ∧ S.1[b]? = some y ∧ x.1 = y.1 ++ [l] ∧ A5 6 i = nI b ∧ A5 7 i = nI l)) ∧
  (∀ g, S.2.2 = some g → g < S.1.length)
/-- what visits add -/
theorem ps_fld_ext {m1 m2 : mv_T} {c1 c2 gr : Nat} : ∀ (ns : List ps_nd) (S : List ps_nd × Option Nat), ∃ ext, (ps_fld m1 m2 c1 c2 gr S ns).1 = S.1 ++ ext ∧ (∀ x ∈ ext, x ∈ ns) ∧ ((ps_fld m1 m2 c1 c2 gr S ns).2 = S.2 ∨ (ps_fld m1 m2 c1 c2 gr S ns).2 = some gr ∧ ext ≠ []) := by
  intro ns
  induction ns with
  | nil => intro S; exact ⟨[], by simp [ps_fld], by simp, Or.inl rfl⟩
  | cons n ns ih =>
    intro S
    obtain ⟨ext, e1, e2, e3⟩ := ih (ps_vs m1 m2 c1 c2 gr S n)
    have hfl : ps_fld m1 m2 c1 c2 gr S (n :: ns) = ps_fld m1 m2 c1 c2 gr (ps_vs m1 m2 c1 c2 gr S n) ns := rfl
    rw [hfl]
    by_cases q : ps_new S.1 n = true
    · have hv : ps_vs m1 m2 c1 c2 gr S n = (S.1 ++ [n], if S.2 = none ∧ ps_eo m1 m2 c1 c2 n = true then some gr else S.2) := by simp only [ps_vs, q, if_true]
      refine ⟨n :: ext, by rw [e1, hv]; simp, fun x hx => ?_, ?_⟩
      · rcases List.mem_cons.mp hx with q1 | q1
        · exact q1 ▸ List.mem_cons_self
        · exact List.mem_cons_of_mem _ (e2 x q1)
      · rcases e3 with q1 | q1
        · rw [q1, hv]
          dsimp only
          split
          · exact Or.inr ⟨rfl, by simp⟩
          · exact Or.inl rfl
        · exact Or.inr ⟨q1.1, by simp⟩
    · have hv : ps_vs m1 m2 c1 c2 gr S n = S := by simp only [ps_vs]; rw [if_neg q]
      rw [hv] at e1 e3 ⊢
      exact ⟨ext, e1, fun x hx => List.mem_cons_of_mem _ (e2 x hx), e3⟩
theorem ps_spr_ext {m1 m2 : mv_T} {c1 c2 gr l : Nat} : ∀ (ns : List ps_nd) (S : List ps_nd × Option Nat), ∃ ext, (ps_spr m1 m2 c1 c2 gr l S ns).1 = S.1 ++ ext ∧ (∀ x ∈ ext, ∃ n ∈ ns, x ∈ ps_nx m1 m2 c1 c2 l n) ∧ ((ps_spr m1 m2 c1 c2 gr l S ns).2 = S.2 ∨ (ps_spr m1 m2 c1 c2 gr l S ns).2 = some gr ∧ ext ≠ []) := by
  intro ns
  induction ns with
  | nil => intro S; exact ⟨[], by simp [ps_spr], by simp, Or.inl rfl⟩
  | cons n ns ih =>
    intro S
    obtain ⟨x1, f1, f2, f3⟩ := ps_fld_ext (m1 := m1) (m2 := m2) (c1 := c1) (c2 := c2) (gr := gr) (ps_nx m1 m2 c1 c2 l n) S
    obtain ⟨x2, e1, e2, e3⟩ := ih (ps_fld m1 m2 c1 c2 gr S (ps_nx m1 m2 c1 c2 l n))
    have hfl : ps_spr m1 m2 c1 c2 gr l S (n :: ns) = ps_spr m1 m2 c1 c2 gr l (ps_fld m1 m2 c1 c2 gr S (ps_nx m1 m2 c1 c2 l n)) ns := rfl
    rw [hfl]
    refine ⟨x1 ++ x2, by rw [e1, f1, List.append_assoc], fun x hx => ?_, ?_⟩
    · rcases List.mem_append.mp hx with q | q
      · exact ⟨n, List.mem_cons_self, f2 x q⟩
      · obtain ⟨n', h1, h2⟩ := e2 x q
        exact ⟨n', List.mem_cons_of_mem _ h1, h2⟩
    · rcases e3 with q | q
      · rw [q]
        rcases f3 with q1 | q1
        · exact Or.inl q1
        · exact Or.inr ⟨q1.1, by simp [q1.2]⟩
      · exact Or.inr ⟨q.1, by simp [q.2]⟩
def ps_cls (A5 : Nat → Nat → Int32) (g n : Nat) : Nat → Nat → Int32 := va_up A5 5 (upd (A5 5) (g + 1) (nI n))
theorem ps_gi_add {Ok : Nat → ps_nd → Prop} {A5 : Nat → Nat → Int32} {m1 m2 : mv_T} {c1 c2 g l : Nat} {S : ps_sT} {y : List Nat × List ps_nd} (h : ps_gi Ok A5 S) (hy : S.1[g]? = some y) (hl : l < 3) (h72 : (ps_spr m1 m2 c1 c2 S.1.length l S.2 y.2).1.length ≤ 72) (hOk : ∀ n ∈ y.2, ∀ n' ∈ ps_nx m1 m2 c1 c2 l n, Ok (y.1.length + 1) n') :
    if S.2.1.length < (ps_spr m1 m2 c1 c2 S.1.length l S.2 y.2).1.length ∧ S.1.length < 72 then ps_gi Ok (ps_cls (ps_a3' A5 S.1.length g l y.1.length) S.1.length (ps_spr m1 m2 c1 c2 S.1.length l S.2 y.2).1.length) (ps_stp m1 m2 c1 c2 g l S) else ps_gi Ok (ps_a3' A5 S.1.length g l y.1.length) (ps_stp m1 m2 c1 c2 g l S) ∧ (ps_stp m1 m2 c1 c2 g l S).1 = S.1 := by
  obtain ⟨k1, k2, k3, k4, k5⟩ := id h
  obtain ⟨ext, e1, e2, e3⟩ := ps_spr_ext (m1 := m1) (m2 := m2) (c1 := c1) (c2 := c2) (gr := S.1.length) (l := l) y.2 S.2
  have hgl := (List.getElem?_eq_some_iff.mp hy).1
  have hgy : ps_gn S.1 g = y := by simp [ps_gn, hy]
  have hstp : ps_stp m1 m2 c1 c2 g l S = if S.2.1.length < (ps_spr m1 m2 c1 c2 S.1.length l S.2 y.2).1.length ∧ S.1.length < 72 then (S.1 ++ [(y.1 ++ [l], (ps_spr m1 m2 c1 c2 S.1.length l S.2 y.2).1.drop S.2.1.length)], ps_spr m1 m2 c1 c2 S.1.length l S.2 y.2) else (S.1, ps_spr m1 m2 c1 c2 S.1.length l S.2 y.2) := by
    simp only [ps_stp, hgy]
  rw [hstp]
  generalize ps_spr m1 m2 c1 c2 S.1.length l S.2 y.2 = T at *
  have a5 : ∀ i, ps_a3' A5 S.1.length g l y.1.length 5 i = A5 5 i := fun i => by simp [ps_a3', va_up]
  have a6 : ∀ i, i < S.1.length → ps_a3' A5 S.1.length g l y.1.length 6 i = A5 6 i := fun i hi => by simp only [ps_a3', va_up]; simp; exact pk_un (by omega)
  have a7 : ∀ i, i < S.1.length → ps_a3' A5 S.1.length g l y.1.length 7 i = A5 7 i := fun i hi => by simp only [ps_a3', va_up]; simp; exact pk_un (by omega)
  have a8 : ∀ i, i < S.1.length → ps_a3' A5 S.1.length g l y.1.length 8 i = A5 8 i := fun i hi => by simp only [ps_a3', va_up]; simp; exact pk_un (by omega)
  have b6 : ps_a3' A5 S.1.length g l y.1.length 6 S.1.length = nI g := by simp only [ps_a3', va_up]; simp; exact pk_us
  have b7 : ps_a3' A5 S.1.length g l y.1.length 7 S.1.length = nI l := by simp only [ps_a3', va_up]; simp; exact pk_us
  have b8 : ps_a3' A5 S.1.length g l y.1.length 8 S.1.length = nI (y.1.length + 1) := by simp only [ps_a3', va_up]; simp; exact pk_us
  generalize hB : ps_a3' A5 S.1.length g l y.1.length = B at *
  have c5 : ∀ i, i ≤ S.1.length → ps_cls B S.1.length T.1.length 5 i = A5 5 i := fun i hi => by simp only [ps_cls, va_up]; simp; rw [pk_un (by omega)]; exact a5 i
  have c5' : ps_cls B S.1.length T.1.length 5 (S.1.length + 1) = nI T.1.length := by simp only [ps_cls, va_up]; simp; exact pk_us
  have cn : ∀ k, k ≠ 5 → ps_cls B S.1.length T.1.length k = B k := fun k hk => va_up_ne _ _ hk
  have h0 : 0 < S.1.length := by omega
  by_cases q : S.2.1.length < T.1.length ∧ S.1.length < 72
  · rw [if_pos q, if_pos q]
    refine ⟨by rw [cn 8 (by decide), a8 0 h0]; exact k1, by simp only [List.length_append, List.length_singleton]; exact c5', ?_, ?_, ?_⟩
    · simp only [List.length_append, List.length_singleton]
      rw [ps_st_s (i := S.1.length) (x := (y.1 ++ [l], T.1.drop S.2.1.length)) (by simp), ps_st_a (Nat.le_refl _), ← k3, List.length_drop]
      omega
    · intro i x hx
      dsimp only at hx
      by_cases c : i < S.1.length
      · rw [List.getElem?_append_left c] at hx
        obtain ⟨p1, p2, p3, p4, p5, p6, p7⟩ := k4 i x hx
        dsimp only
        rw [c5 i (by omega), cn 8 (by decide), cn 6 (by decide), cn 7 (by decide), a8 i c, a6 i c, a7 i c, ps_st_a (by omega)]
        refine ⟨p1, p2, p3, p4, fun j n hn => ?_, p6, ?_⟩
        · rw [e1]
          have := p5 j n hn
          rw [List.getElem?_append_left (List.getElem?_eq_some_iff.mp this).1]; exact this
        · rcases p7 with p7 | ⟨b, l', y', r1, r2, r3, r4⟩
          · exact Or.inl p7
          · exact Or.inr ⟨b, l', y', r1, r2, by rw [List.getElem?_append_left (by omega)]; exact r3, r4⟩
      · have hi : i = S.1.length := by
          have := (List.getElem?_eq_some_iff.mp hx).1
          simp at this; omega
        subst hi
        simp at hx
        subst hx
        dsimp only
        rw [c5 _ (Nat.le_refl _), cn 8 (by decide), cn 6 (by decide), cn 7 (by decide), b8, b6, b7, ps_st_a (Nat.le_refl _), k2, k3]
        have yy := (k4 g y hy).2.2.1
        refine ⟨rfl, by simp, by simp; omega, ?_, fun j n hn => ?_, fun n hn => ?_, Or.inr ⟨g, l, y, hgl, hl, by rw [List.getElem?_append_left hgl]; exact hy, rfl, rfl, rfl⟩⟩
        · intro z
          have := congrArg List.length z
          simp at this; omega
        · rw [← k3, List.getElem?_drop] at hn
          rw [← k3]; exact hn
        · rw [← k3, e1, List.drop_left] at hn
          obtain ⟨n0, q1, q2⟩ := e2 n hn
          simp only [List.length_append, List.length_singleton]
          exact hOk n0 q1 n q2
    · intro g' hg'
      dsimp only at hg' ⊢
      simp only [List.length_append, List.length_singleton]
      rcases e3 with q1 | q1
      · rw [q1] at hg'; have := k5 g' hg'; omega
      · rw [q1.1] at hg'; cases hg'; omega
  · rw [if_neg q, if_neg q]
    have hge := ps_st_ge (gs := S.1) (fun i x hx => (k4 i x hx).2.2.2.1) S.1.length (Nat.le_refl _)
    have hT : T.1.length = S.2.1.length := by
      have h2 := congrArg List.length e1
      simp only [List.length_append] at h2
      by_cases q2 : S.1.length < 72
      · have : ¬ S.2.1.length < T.1.length := fun z => q ⟨z, q2⟩
        omega
      · omega
    have hext : ext = [] := by
      have h2 := congrArg List.length e1
      simp only [List.length_append] at h2
      exact List.length_eq_zero_iff.mp (by omega)
    have hT1 : T.1 = S.2.1 := by rw [e1, hext, List.append_nil]
    have hT2 : T.2 = S.2.2 := by
      rcases e3 with q1 | q1
      · exact q1
      · exact absurd hext q1.2
    refine ⟨⟨by rw [a8 0 h0]; exact k1, by dsimp only; rw [a5, hT1]; exact k2, by dsimp only; rw [hT1]; exact k3, ?_, by dsimp only; rw [hT2]; exact k5⟩, rfl⟩
    intro i x hx
    dsimp only at hx ⊢
    have c := (List.getElem?_eq_some_iff.mp hx).1
    rw [a5, a8 i c, a6 i c, a7 i c, hT1]
    exact k4 i x hx

section PSQ
variable {w : rz_w} {d : Nat} {G : rz_G} {a : Nat} {J : Nat → Nat → Int64} {P : Nat → Nat} {S1 S2 : mc_S} {m1 m2 : mv_T} {c1 c2 : Nat} {Q : Option Value → rz_G → Prop} {Ok : Nat → ps_nd → Prop}
set_option maxRecDepth 100000 in
set_option maxHeartbeats 4000000 in
/-- one letter of one group -/
theorem ps_se_l (h1 : mc_at' G (P 0) a 304 S1 m1 c1) (h2 : mc_at' G (P 1) a 304 S2 m2 c2) (hOk : ∀ k n, k < 72 → Ok k n → ∀ l, l < 3 → ps_sh m1 m2 c1 c2 l n ∧ ∀ n' ∈ ps_nx m1 m2 c1 c2 l n, Ok (k + 1) n') {g : Nat} (hg : g < 72) :
    ∀ (k l : Nat) (S : ps_sT) (A5 : Nat → Nat → Int32) (I : Nat → Int32) (A : Nat → Nat → Int32) (X : Nat → List Nat), l + k = 3 → g < S.1.length → ps_ss I A X S.2.1 S.2.2 S.1.length A5 → ps_gi Ok A5 S →
      (∀ A5 I A X z, ps_ss I A X (ps_ll m1 m2 c1 c2 g k l S).2.1 (ps_ll m1 m2 c1 c2 g k l S).2.2 (ps_ll m1 m2 c1 c2 g k l S).1.length A5 → ps_gi Ok A5 (ps_ll m1 m2 c1 c2 g k l S) → rz_T w (d + 4) 0 0 m_Pair_search 0 0 59 [some (.ref a), some (.int (nI g)), z] [] (ps_put G a I A J X P) Q) →
      rz_T w (d + 4) 0 0 m_Pair_search 0 0 30 [some (.ref a), some (.int (nI g)), some (.int (nI l))] [] (ps_put G a I A J X P) Q := by
  intro k
  induction k with
  | zero =>
    intro l S A5 I A X hk hgs hS hG hc
    refine rz_blk' [(.aload_n 0, 1, 0, 0), (.getfield 73, 3, 4, 15), (.iconst (-1), 1, 0, 0), (.if_icmp .ne 24, 3, 0, 0), (.iload_n 2, 1, 0, 0), (.iconst 3, 1, 0, 0), (.if_icmp .ge 19, 3, 0, 0)] (by decide +kernel) (Nat.le_refl _) (Nat.le_refl _) (fun K R hK hR => ?_)
    simp only [rw_c3, rw_cm1, ↓rx_aload_n0, ↓rx_getfield, ↓rx_iconst, ↓rx_if_icmp_ge, ↓rx_if_icmp_ne, ↓rx_iload_n2, ↓rx_nil, ↓ry_fvs, ↓ry_fvz, ↓ry_i2, ↓ry_li0s, ↓ry_li0z, ↓ry_lr0s, ↓ry_lr0z, ↓ry_obu, ↓ry_r1, ↓ps_ob, ↓ps_i1, ↓ps_n1, ↓ps_i2, ↓ps_n2, ↓ps_i3, ↓ps_n3, ↓ps_r4, ↓ps_r5, ↓ps_i6, ↓ps_n6, ↓ps_i7, ↓ps_n7, ↓ps_i8, ↓ps_n8, ↓ps_i9, ↓ps_n9, ↓ps_i10, ↓ps_n10, ↓ps_i11, ↓ps_n11, rz_set, rz_nol, rz_clr, List.set_cons_zero, List.set_cons_succ, rz_tr, Nat.reduceAdd, Int.reduceAdd, Int.reduceToNat, Int.reduceSub, Int.reduceNeg, Int.cast_ofNat_Int]
    have e2 := hS.2.2.2.1
    rw [e2, ps_fo_n hS.2.2.2.2.1]
    refine ⟨fun q => hK _ _ _ _ (hc A5 I A X _ hS hG), fun q => ?_⟩
    rw [nI_leI (by omega) (by omega)]
    refine ⟨fun q => hK _ _ _ _ (hc A5 I A X _ hS hG), fun q => by omega⟩
  | succ k ih =>
    intro l S A5 I A X hk hgs hS hG hc
    simp only [ps_ll] at hc
    refine rz_blk' [(.aload_n 0, 1, 0, 0), (.getfield 73, 3, 4, 15), (.iconst (-1), 1, 0, 0), (.if_icmp .ne 24, 3, 0, 0), (.iload_n 2, 1, 0, 0), (.iconst 3, 1, 0, 0), (.if_icmp .ge 19, 3, 0, 0), (.aload_n 0, 1, 0, 0), (.iload_n 1, 1, 0, 0), (.iload_n 2, 1, 0, 0)] (by decide +kernel) (Nat.le_refl _) (Nat.le_refl _) (fun K R hK hR => ?_)
    simp only [rw_c3, rw_cm1, ↓rx_aload_n0, ↓rx_getfield, ↓rx_iconst, ↓rx_if_icmp_ge, ↓rx_if_icmp_ne, ↓rx_iload_n1, ↓rx_iload_n2, ↓rx_nil, ↓ry_fvs, ↓ry_fvz, ↓ry_i2, ↓ry_li0s, ↓ry_li0z, ↓ry_lr0s, ↓ry_lr0z, ↓ry_obu, ↓ry_r1, ↓ps_ob, ↓ps_i1, ↓ps_n1, ↓ps_i2, ↓ps_n2, ↓ps_i3, ↓ps_n3, ↓ps_r4, ↓ps_r5, ↓ps_i6, ↓ps_n6, ↓ps_i7, ↓ps_n7, ↓ps_i8, ↓ps_n8, ↓ps_i9, ↓ps_n9, ↓ps_i10, ↓ps_n10, ↓ps_i11, ↓ps_n11, rz_set, rz_nol, rz_clr, List.set_cons_zero, List.set_cons_succ, rz_tr, Nat.reduceAdd, Int.reduceAdd, Int.reduceToNat, Int.reduceSub, Int.reduceNeg, Int.cast_ofNat_Int]
    have e2 := hS.2.2.2.1
    rw [e2, ps_fo_n hS.2.2.2.2.1]
    refine ⟨fun q => hK _ _ _ _ ?_, fun q => ?_⟩
    · rw [if_neg q] at hc; exact hc A5 I A X _ hS hG
    rw [nI_leI (by omega) (by omega)]
    refine ⟨fun q => by omega, fun q9 => hK _ _ _ _ ?_⟩
    rw [if_pos q] at hc
    obtain ⟨y, hy⟩ : ∃ y, S.1[g]? = some y := ⟨_, List.getElem?_eq_getElem hgs⟩
    obtain ⟨k1, k2, k3, k4, k5⟩ := id hG
    obtain ⟨p1, p2, p3, p4, p5, p6, p7⟩ := k4 g y hy
    have hn72 := hS.1.2.1
    have hsl : ps_st S.1 g + y.2.length ≤ 72 := by
      rw [← ps_st_s hy]
      have := ps_st_le (gs := S.1) (S.1.length - (g + 1)) (g + 1)
      rw [show g + 1 + (S.1.length - (g + 1)) = S.1.length by omega, ← k3] at this
      omega
    have hb2 : A5 5 (g + 1) = nI (ps_st S.1 g + y.2.length) := by
      rw [← ps_st_s hy]
      by_cases c : g + 1 < S.1.length
      · obtain ⟨y2, hy2⟩ : ∃ y, S.1[g + 1]? = some y := ⟨_, List.getElem?_eq_getElem c⟩
        exact (k4 _ y2 hy2).1
      · rw [show g + 1 = S.1.length by omega, k2, k3]
    have hl72 : y.1.length < 72 := by omega
    have gi := ps_gi_add (m1 := m1) (m2 := m2) (c1 := c1) (c2 := c2) (l := l) hG hy (by omega)
    refine rz_cV (As := [.int (nI g), .int (nI l)]) (b := a) (S := []) l_Pair_97 (by decide +kernel) rfl ps_at0 rfl (Nat.le_of_ble_eq_true rfl) (Nat.le_refl _) (Nat.le_refl _) (c_Pair_spread h1 h2 (show l < 3 by omega) hS hgs p1 hb2 hsl p2 p5 (fun n hn => (hOk _ n hl72 (p6 n hn) l (by omega)).1)) (fun r G' hr => ?_)
    obtain ⟨rfl, I', A', X', rfl, hS'⟩ := hr
    simp only [Option.toList, List.nil_append]
    have hT72 := hS'.1.2.1
    have gi := gi hT72 (fun n hn => (hOk _ n hl72 (p6 n hn) l (by omega)).2)
    have hst : ps_stp m1 m2 c1 c2 g l S = if S.2.1.length < (ps_spr m1 m2 c1 c2 S.1.length l S.2 y.2).1.length ∧ S.1.length < 72 then (S.1 ++ [(y.1 ++ [l], (ps_spr m1 m2 c1 c2 S.1.length l S.2 y.2).1.drop S.2.1.length)], ps_spr m1 m2 c1 c2 S.1.length l S.2 y.2) else (S.1, ps_spr m1 m2 c1 c2 S.1.length l S.2 y.2) := by
      simp only [ps_stp, ps_gn, hy, Option.getD_some]
    generalize hT : ps_spr m1 m2 c1 c2 S.1.length l S.2 y.2 = T at *
    have hB5 : ps_a3' A5 S.1.length g l y.1.length 5 S.1.length = nI S.2.1.length := by
      rw [← k2]; simp [ps_a3', va_up]
    generalize hB : ps_a3' A5 S.1.length g l y.1.length = B at *
    obtain ⟨s1, s2, s3, s4, s5, s6⟩ := id hS'
    have hA5 : A' 5 S.1.length = nI S.2.1.length := by rw [s6 5 (by decide)]; exact hB5
    have hnext : ∀ (A5' : Nat → Nat → Int32) (I2 : Nat → Int32) (A2 : Nat → Nat → Int32), ps_ss I2 A2 X' (ps_stp m1 m2 c1 c2 g l S).2.1 (ps_stp m1 m2 c1 c2 g l S).2.2 (ps_stp m1 m2 c1 c2 g l S).1.length A5' → ps_gi Ok A5' (ps_stp m1 m2 c1 c2 g l S) → g < (ps_stp m1 m2 c1 c2 g l S).1.length → rz_T w (d + 4) 0 0 m_Pair_search 0 0 53 [some (.ref a), some (.int (nI g)), some (.int (nI l))] [] (ps_put G a I2 A2 J X' P) Q := by
      intro A5' I2 A2 t1 t2 t3
      refine rz_blk' [(.iinc 2 1, 3, 0, 0), (.goto (-26), 3, 0, 0)] (by decide +kernel) (Nat.le_refl _) (Nat.le_refl _) (fun K R hK hR => ?_)
      simp only [rw_c1, ↓rx_goto, ↓rx_iinc, ↓rx_nil, ↓ry_li0s, ↓ry_li0z, ↓ps_ob, ↓ps_i1, ↓ps_n1, ↓ps_i2, ↓ps_n2, ↓ps_i3, ↓ps_n3, ↓ps_r4, ↓ps_r5, ↓ps_i6, ↓ps_n6, ↓ps_i7, ↓ps_n7, ↓ps_i8, ↓ps_n8, ↓ps_i9, ↓ps_n9, ↓ps_i10, ↓ps_n10, ↓ps_i11, ↓ps_n11, nI_add, rz_set, rz_nol, rz_clr, List.set_cons_zero, List.set_cons_succ, rz_tr, Nat.reduceAdd, Int.reduceAdd, Int.reduceToNat, Int.reduceSub, Int.reduceNeg, Int.cast_ofNat_Int]
      exact hK _ _ _ _ (ih (l + 1) _ A5' I2 A2 X' (by omega) t3 t1 t2 hc)
    refine rz_blk' [(.aload_n 0, 1, 0, 0)] (by decide +kernel) (Nat.le_refl _) (Nat.le_refl _) (fun K R hK hR => ?_)
    simp only [↓rx_aload_n0, ↓rx_nil, ↓ry_lr0s, ↓ry_lr0z, ↓ps_ob, ↓ps_i1, ↓ps_n1, ↓ps_i2, ↓ps_n2, ↓ps_i3, ↓ps_n3, ↓ps_r4, ↓ps_r5, ↓ps_i6, ↓ps_n6, ↓ps_i7, ↓ps_n7, ↓ps_i8, ↓ps_n8, ↓ps_i9, ↓ps_n9, ↓ps_i10, ↓ps_n10, ↓ps_i11, ↓ps_n11, rz_set, rz_nol, rz_clr, List.set_cons_zero, List.set_cons_succ, rz_tr, Nat.reduceAdd, Int.reduceAdd, Int.reduceToNat, Int.reduceSub, Int.reduceNeg, Int.cast_ofNat_Int]
    refine hK _ _ _ _ ?_
    refine rz_cV (As := []) (b := a) (S := []) l_Pair_94 (by decide +kernel) rfl ps_at0 rfl (Nat.le_of_ble_eq_true rfl) (Nat.le_refl _) (Nat.le_refl _) (c_Pair_closeGroup (n := T.1.length) (g := S.1.length) (b0 := S.2.1.length) s1.1 s1.2.1 s2 s3 hA5 hn72) (fun r G' hr => ?_)
    obtain ⟨rfl, rfl⟩ := hr
    simp only [Option.toList, List.nil_append]
    by_cases cc : S.2.1.length < T.1.length ∧ S.1.length < 72
    · rw [if_pos cc] at gi ⊢
      rw [if_pos cc] at hst
      have hle : (ps_stp m1 m2 c1 c2 g l S).1.length = S.1.length + 1 := by rw [hst]; simp
      have hs2 : (ps_stp m1 m2 c1 c2 g l S).2 = T := by rw [hst]
      refine hnext _ _ _ ?_ gi (by rw [hle]; omega)
      rw [hs2, hle]
      refine ⟨ps_keepI s1 (pk_un (by decide)) (fun k hk => va_up_ne _ _ (by omega)), pk_us, by omega, (pk_un (by decide)).trans s4, s5, fun k hk => ?_⟩
      by_cases k5 : k = 5
      · subst k5
        simp only [ps_cls, va_up_self]; rw [s6 5 (by decide)]
      · simp only [ps_cls]; rw [va_up_ne _ _ k5, va_up_ne _ _ k5]; exact s6 k hk
    · rw [if_neg cc] at gi ⊢
      rw [if_neg cc] at hst
      have hs2 : (ps_stp m1 m2 c1 c2 g l S).2 = T := by rw [hst]
      refine hnext _ _ _ ?_ gi.1 (by rw [gi.2]; omega)
      rw [hs2, gi.2]
      exact hS'

set_option maxRecDepth 100000 in
set_option maxHeartbeats 4000000 in
theorem ps_se_g (h1 : mc_at' G (P 0) a 304 S1 m1 c1) (h2 : mc_at' G (P 1) a 304 S2 m2 c2) (hOk : ∀ k n, k < 72 → Ok k n → ∀ l, l < 3 → ps_sh m1 m2 c1 c2 l n ∧ ∀ n' ∈ ps_nx m1 m2 c1 c2 l n, Ok (k + 1) n') :
    ∀ (k g : Nat) (S : ps_sT) (A5 : Nat → Nat → Int32) (I : Nat → Int32) (A : Nat → Nat → Int32) (X : Nat → List Nat) (z2 : Option Value), 73 ≤ g + k → g ≤ 72 → ps_ss I A X S.2.1 S.2.2 S.1.length A5 → ps_gi Ok A5 S →
      (∀ A5 I A X L, ps_ss I A X (ps_lo m1 m2 c1 c2 k g S).2.1 (ps_lo m1 m2 c1 c2 k g S).2.2 (ps_lo m1 m2 c1 c2 k g S).1.length A5 → ps_gi Ok A5 (ps_lo m1 m2 c1 c2 k g S) → rz_T w (d + 4) 0 0 m_Pair_search 0 0 65 (some (.ref a) :: L) [] (ps_put G a I A J X P) Q) →
      rz_T w (d + 4) 0 0 m_Pair_search 0 0 6 [some (.ref a), some (.int (nI g)), z2] [] (ps_put G a I A J X P) Q := by
  intro k
  induction k with
  | zero => intro g S A5 I A X z hk hg; omega
  | succ k ih =>
    intro g S A5 I A X z hk hg hS hG hc
    simp only [ps_lo] at hc
    obtain ⟨s1, s2, s3, s4, s5, s6⟩ := id hS
    refine rz_blk' [(.aload_n 0, 1, 0, 0), (.getfield 73, 3, 4, 15), (.iconst (-1), 1, 0, 0), (.if_icmp .ne 54, 3, 0, 0), (.iload_n 1, 1, 0, 0), (.aload_n 0, 1, 0, 0), (.getfield 70, 3, 4, 10), (.if_icmp .ge 46, 3, 0, 0), (.iload_n 1, 1, 0, 0), (.bipush 72, 2, 0, 0), (.if_icmp .ge 40, 3, 0, 0)] (by decide +kernel) (Nat.le_refl _) (Nat.le_refl _) (fun K R hK hR => ?_)
    simp only [rw_b72, rw_cm1, ↓rx_aload_n0, ↓rx_bipush, ↓rx_getfield, ↓rx_iconst, ↓rx_if_icmp_ge, ↓rx_if_icmp_ne, ↓rx_iload_n1, ↓rx_nil, ↓ry_fvs, ↓ry_fvz, ↓ry_i2, ↓ry_li0s, ↓ry_li0z, ↓ry_lr0s, ↓ry_lr0z, ↓ry_obu, ↓ry_r1, ↓ps_ob, ↓ps_i1, ↓ps_n1, ↓ps_i2, ↓ps_n2, ↓ps_i3, ↓ps_n3, ↓ps_r4, ↓ps_r5, ↓ps_i6, ↓ps_n6, ↓ps_i7, ↓ps_n7, ↓ps_i8, ↓ps_n8, ↓ps_i9, ↓ps_n9, ↓ps_i10, ↓ps_n10, ↓ps_i11, ↓ps_n11, s2, s4, rz_set, rz_nol, rz_clr, List.set_cons_zero, List.set_cons_succ, rz_tr, Nat.reduceAdd, Int.reduceAdd, Int.reduceToNat, Int.reduceSub, Int.reduceNeg, Int.cast_ofNat_Int]
    rw [ps_fo_n s5, nI_leI (by omega) (by omega), nI_leI (by omega) (by omega)]
    refine ⟨fun q => hK _ _ _ _ ?_, fun q => ⟨fun q2 => hK _ _ _ _ ?_, fun q2 => ⟨fun q3 => hK _ _ _ _ ?_, fun q3 => hK _ _ _ _ ?_⟩⟩⟩
    · rw [if_neg (fun z => q z.1)] at hc; exact hc A5 I A X _ hS hG
    · rw [if_neg (fun z => by omega)] at hc; exact hc A5 I A X _ hS hG
    · rw [if_neg (fun z => by omega)] at hc; exact hc A5 I A X _ hS hG
    rw [if_pos ⟨q, by omega, by omega⟩] at hc
    refine rz_blk' [(.iconst 0, 1, 0, 0), (.istore_n 2, 1, 0, 0)] (by decide +kernel) (Nat.le_refl _) (Nat.le_refl _) (fun K R hK hR => ?_)
    simp only [rw_c0, ↓rx_iconst, ↓rx_istore_n2, ↓rx_nil, ↓ry_i1, ↓ps_ob, ↓ps_i1, ↓ps_n1, ↓ps_i2, ↓ps_n2, ↓ps_i3, ↓ps_n3, ↓ps_r4, ↓ps_r5, ↓ps_i6, ↓ps_n6, ↓ps_i7, ↓ps_n7, ↓ps_i8, ↓ps_n8, ↓ps_i9, ↓ps_n9, ↓ps_i10, ↓ps_n10, ↓ps_i11, ↓ps_n11, rz_set, rz_nol, rz_clr, List.set_cons_zero, List.set_cons_succ, rz_tr, Nat.reduceAdd, Int.reduceAdd, Int.reduceToNat, Int.reduceSub, Int.reduceNeg, Int.cast_ofNat_Int]
    refine hK _ _ _ _ ?_
    refine ps_se_l h1 h2 hOk (g := g) (by omega) 3 0 S A5 I A X rfl (by omega) hS hG (fun A5' I' A' X' z' t1 t2 => ?_)
    refine rz_blk' [(.iinc 1 1, 3, 0, 0), (.goto (-56), 3, 0, 0)] (by decide +kernel) (Nat.le_refl _) (Nat.le_refl _) (fun K R hK hR => ?_)
    simp only [rw_c1, ↓rx_goto, ↓rx_iinc, ↓rx_nil, ↓ry_li0s, ↓ry_li0z, ↓ps_ob, ↓ps_i1, ↓ps_n1, ↓ps_i2, ↓ps_n2, ↓ps_i3, ↓ps_n3, ↓ps_r4, ↓ps_r5, ↓ps_i6, ↓ps_n6, ↓ps_i7, ↓ps_n7, ↓ps_i8, ↓ps_n8, ↓ps_i9, ↓ps_n9, ↓ps_i10, ↓ps_n10, ↓ps_i11, ↓ps_n11, nI_add, rz_set, rz_nol, rz_clr, List.set_cons_zero, List.set_cons_succ, rz_tr, Nat.reduceAdd, Int.reduceAdd, Int.reduceToNat, Int.reduceSub, Int.reduceNeg, Int.cast_ofNat_Int]
    exact hK _ _ _ _ (ih (g + 1) _ A5' I' A' X' _ (by omega) (by omega) t1 t2 hc)
end PSQ
def ps_s0 (N : List ps_nd) (fd : Option Nat) : ps_sT := (if N = [] then [] else [([], N)], N, fd)

set_option maxRecDepth 100000 in
set_option maxHeartbeats 4000000 in
/-- search() -/
theorem c_Pair_search {w : rz_w} {d : Nat} {G : rz_G} {a : Nat} {I : Nat → Int32} {A : Nat → Nat → Int32} {J : Nat → Nat → Int64} {X : Nat → List Nat} {P : Nat → Nat} {A5 : Nat → Nat → Int32} {S1 S2 : mc_S} {m1 m2 : mv_T} {c1 c2 : Nat} {N : List ps_nd} {fd : Option Nat} {Ok : Nat → ps_nd → Prop} {S0 : ps_sT} (h1 : mc_at' G (P 0) a 304 S1 m1 c1) (h2 : mc_at' G (P 1) a 304 S2 m2 c2) (hOk : ∀ k n, k < 72 → Ok k n → ∀ l, l < 3 → ps_sh m1 m2 c1 c2 l n ∧ ∀ n' ∈ ps_nx m1 m2 c1 c2 l n, Ok (k + 1) n') (hS : ps_ss I A X N fd 0 A5) (h5 : A5 5 0 = nI 0) (h8 : A5 8 0 = nI 0) (hN : ∀ n ∈ N, Ok 0 n) (hf : ∀ g, fd = some g → g = 0 ∧ N ≠ []) (e0 : S0 = ps_s0 N fd) :
    rz_C w (d + 4) 0 0 y_Pair_search m_Pair_search [.ref a] (ps_put G a I A J X P) (fun r G' => ∃ I' A' X' A5', r = some (.int (rz_b (ps_lo m1 m2 c1 c2 73 0 S0).2.2.isSome)) ∧ G' = ps_put G a I' A' J X' P ∧ ps_ss I' A' X' (ps_lo m1 m2 c1 c2 73 0 S0).2.1 (ps_lo m1 m2 c1 c2 73 0 S0).2.2 (ps_lo m1 m2 c1 c2 73 0 S0).1.length A5' ∧ ps_gi Ok A5' (ps_lo m1 m2 c1 c2 73 0 S0)) := by
  obtain ⟨s1, s2, s3, s4, s5, s6⟩ := id hS
  have a50 : A 5 0 = nI 0 := by rw [s6 5 (by decide)]; exact h5
  have hgo : ∀ (A5' : Nat → Nat → Int32) (I2 : Nat → Int32) (A2 : Nat → Nat → Int32), ps_ss I2 A2 X S0.2.1 S0.2.2 S0.1.length A5' → ps_gi Ok A5' S0 → rz_T w (d + 4) 0 0 m_Pair_search 0 0 4 [some (.ref a), none, none] [] (ps_put G a I2 A2 J X P) (fun r G' => ∃ I' A' X' A5', r = some (.int (rz_b (ps_lo m1 m2 c1 c2 73 0 S0).2.2.isSome)) ∧ G' = ps_put G a I' A' J X' P ∧ ps_ss I' A' X' (ps_lo m1 m2 c1 c2 73 0 S0).2.1 (ps_lo m1 m2 c1 c2 73 0 S0).2.2 (ps_lo m1 m2 c1 c2 73 0 S0).1.length A5' ∧ ps_gi Ok A5' (ps_lo m1 m2 c1 c2 73 0 S0)) := by
    intro A5' I2 A2 t1 t2
    refine rz_blk' [(.iconst 0, 1, 0, 0), (.istore_n 1, 1, 0, 0)] (by decide +kernel) (Nat.le_refl _) (Nat.le_refl _) (fun K R hK hR => ?_)
    simp only [rw_c0, ↓rx_iconst, ↓rx_istore_n1, ↓rx_nil, ↓ry_i1, ↓ps_ob, ↓ps_i1, ↓ps_n1, ↓ps_i2, ↓ps_n2, ↓ps_i3, ↓ps_n3, ↓ps_r4, ↓ps_r5, ↓ps_i6, ↓ps_n6, ↓ps_i7, ↓ps_n7, ↓ps_i8, ↓ps_n8, ↓ps_i9, ↓ps_n9, ↓ps_i10, ↓ps_n10, ↓ps_i11, ↓ps_n11, rz_set, rz_nol, rz_clr, List.set_cons_zero, List.set_cons_succ, rz_tr, Nat.reduceAdd, Int.reduceAdd, Int.reduceToNat, Int.reduceSub, Int.reduceNeg, Int.cast_ofNat_Int]
    refine hK _ _ _ _ (ps_se_g h1 h2 hOk 73 0 S0 A5' I2 A2 X none (by omega) (by omega) t1 t2 (fun A5'' I' A' X' L u1 u2 => ?_))
    obtain ⟨v1, v2, v3, v4, v5, v6⟩ := id u1
    refine rz_blk' [(.aload_n 0, 1, 0, 0), (.getfield 73, 3, 4, 15), (.iconst (-1), 1, 0, 0), (.if_icmp .eq 7, 3, 0, 0), (.iconst 1, 1, 0, 0), (.goto 4, 3, 0, 0), (.iconst 0, 1, 0, 0)] (by decide +kernel) (Nat.le_refl _) (Nat.le_refl _) (fun K R hK hR => ?_)
    simp only [rw_c0, rw_c1, rw_cm1, ↓rx_aload_n0, ↓rx_getfield, ↓rx_goto, ↓rx_iconst, ↓rx_if_icmp_eq, ↓rx_nil, ↓ry_fvs, ↓ry_fvz, ↓ry_i2, ↓ry_lr0s, ↓ry_lr0z, ↓ry_obu, ↓ry_r1, ↓ps_ob, ↓ps_i1, ↓ps_n1, ↓ps_i2, ↓ps_n2, ↓ps_i3, ↓ps_n3, ↓ps_r4, ↓ps_r5, ↓ps_i6, ↓ps_n6, ↓ps_i7, ↓ps_n7, ↓ps_i8, ↓ps_n8, ↓ps_i9, ↓ps_n9, ↓ps_i10, ↓ps_n10, ↓ps_i11, ↓ps_n11, v4, rz_set, rz_nol, rz_clr, List.set_cons_zero, List.set_cons_succ, rz_tr, Nat.reduceAdd, Int.reduceAdd, Int.reduceToNat, Int.reduceSub, Int.reduceNeg, Int.cast_ofNat_Int]
    rw [ps_fo_n v5]
    have hret : ∀ r : Int32, r = rz_b (ps_lo m1 m2 c1 c2 73 0 S0).2.2.isSome → rz_T w (d + 4) 0 0 m_Pair_search 0 0 78 (some (.ref a) :: L) [.int r] (ps_put G a I' A' J X' P) (fun r G' => ∃ I' A' X' A5', r = some (.int (rz_b (ps_lo m1 m2 c1 c2 73 0 S0).2.2.isSome)) ∧ G' = ps_put G a I' A' J X' P ∧ ps_ss I' A' X' (ps_lo m1 m2 c1 c2 73 0 S0).2.1 (ps_lo m1 m2 c1 c2 73 0 S0).2.2 (ps_lo m1 m2 c1 c2 73 0 S0).1.length A5' ∧ ps_gi Ok A5' (ps_lo m1 m2 c1 c2 73 0 S0)) := by
      intro r hr
      refine rz_blk' [(.ireturn, 1, 0, 0)] (by decide +kernel) (Nat.le_refl _) (Nat.le_refl _) (fun K R hK hR => ?_)
      simp only [↓rx_ireturn, ↓rx_nil, ↓ps_ob, ↓ps_i1, ↓ps_n1, ↓ps_i2, ↓ps_n2, ↓ps_i3, ↓ps_n3, ↓ps_r4, ↓ps_r5, ↓ps_i6, ↓ps_n6, ↓ps_i7, ↓ps_n7, ↓ps_i8, ↓ps_n8, ↓ps_i9, ↓ps_n9, ↓ps_i10, ↓ps_n10, ↓ps_i11, ↓ps_n11, rz_set, rz_nol, rz_clr, List.set_cons_zero, List.set_cons_succ, rz_tr, Nat.reduceAdd, Int.reduceAdd, Int.reduceToNat, Int.reduceSub, Int.reduceNeg, Int.cast_ofNat_Int]
      exact hR _ _ (by rw [hr]; exact rz_b_nb) ⟨I', A', X', A5'', by rw [hr], rfl, u1, u2⟩
    refine ⟨fun q => hK _ _ _ _ ?_, fun q => hK _ _ _ _ (hret _ ?_)⟩
    · refine rz_blk' [(.iconst 0, 1, 0, 0)] (by decide +kernel) (Nat.le_refl _) (Nat.le_refl _) (fun K R hK hR => ?_)
      simp only [rw_c0, ↓rx_iconst, ↓rx_nil, ↓ps_ob, ↓ps_i1, ↓ps_n1, ↓ps_i2, ↓ps_n2, ↓ps_i3, ↓ps_n3, ↓ps_r4, ↓ps_r5, ↓ps_i6, ↓ps_n6, ↓ps_i7, ↓ps_n7, ↓ps_i8, ↓ps_n8, ↓ps_i9, ↓ps_n9, ↓ps_i10, ↓ps_n10, ↓ps_i11, ↓ps_n11, rz_set, rz_nol, rz_clr, List.set_cons_zero, List.set_cons_succ, rz_tr, Nat.reduceAdd, Int.reduceAdd, Int.reduceToNat, Int.reduceSub, Int.reduceNeg, Int.cast_ofNat_Int]
      exact hK _ _ _ _ (hret _ (by rw [q]; rfl))
    · cases e : (ps_lo m1 m2 c1 c2 73 0 S0).2.2 with
      | none => exact absurd e q
      | some x => rfl
  refine rz_enter' [some (.ref a), none, none] (by decide +kernel) rfl rfl (Nat.le_of_ble_eq_true rfl) rfl ?_
  refine rz_blk' [(.aload_n 0, 1, 0, 0)] (by decide +kernel) (Nat.le_refl _) (Nat.le_refl _) (fun K R hK hR => ?_)
  simp only [↓rx_aload_n0, ↓rx_nil, ↓ry_lr0s, ↓ry_lr0z, ↓ps_ob, ↓ps_i1, ↓ps_n1, ↓ps_i2, ↓ps_n2, ↓ps_i3, ↓ps_n3, ↓ps_r4, ↓ps_r5, ↓ps_i6, ↓ps_n6, ↓ps_i7, ↓ps_n7, ↓ps_i8, ↓ps_n8, ↓ps_i9, ↓ps_n9, ↓ps_i10, ↓ps_n10, ↓ps_i11, ↓ps_n11, rz_set, rz_nol, rz_clr, List.set_cons_zero, List.set_cons_succ, rz_tr, Nat.reduceAdd, Int.reduceAdd, Int.reduceToNat, Int.reduceSub, Int.reduceNeg, Int.cast_ofNat_Int]
  refine hK _ _ _ _ ?_
  refine rz_cV (As := []) (b := a) (S := []) l_Pair_94 (by decide +kernel) rfl ps_at0 rfl (Nat.le_of_ble_eq_true rfl) (Nat.le_refl _) (Nat.le_refl _) (c_Pair_closeGroup (n := N.length) (g := 0) (b0 := 0) s1.1 s1.2.1 s2 s3 a50 (by omega)) (fun r G' hr => ?_)
  obtain ⟨rfl, rfl⟩ := hr
  simp only [Option.toList, List.nil_append]
  by_cases c : N = []
  · rw [if_neg (by rw [c]; simp)]
    have hS0 : S0 = ([], N, fd) := by rw [e0]; simp only [ps_s0]; rw [if_pos c]
    refine hgo A5 I A ?_ ?_
    · rw [hS0]; exact hS
    · rw [hS0]
      refine ⟨h8, by rw [c]; exact h5, by rw [c]; rfl, fun i x hx => by simp at hx, fun g hg => absurd c (hf g hg).2⟩
  · have hp : 0 < N.length := List.length_pos_iff.mpr c
    rw [if_pos ⟨hp, by decide⟩]
    have hS0 : S0 = ([([], N)], N, fd) := by rw [e0]; simp only [ps_s0]; rw [if_neg c]
    refine hgo (ps_cls A5 0 N.length) _ _ ?_ ?_
    · rw [hS0]
      refine ⟨ps_keepI s1 (pk_un (by decide)) (fun k hk => va_up_ne _ _ (by omega)), pk_us, by simp, (pk_un (by decide)).trans s4, s5, fun k hk => ?_⟩
      by_cases k5 : k = 5
      · subst k5
        simp only [ps_cls, va_up_self]; rw [s6 5 (by decide)]
      · simp only [ps_cls]; rw [va_up_ne _ _ k5, va_up_ne _ _ k5]; exact s6 k hk
    · rw [hS0]
      refine ⟨by simp only [ps_cls]; rw [va_up_ne _ _ (by decide)]; exact h8, by simp only [ps_cls, va_up_self]; exact pk_us, by simp [ps_st], fun i x hx => ?_, fun g hg => by rw [(hf g hg).1]; simp⟩
      cases i with
      | zero =>
        simp at hx
        subst hx
        refine ⟨by simp only [ps_cls, va_up_self]; rw [pk_un (by decide)]; exact h5, by simp only [ps_cls]; rw [va_up_ne _ _ (by decide)]; exact h8, by simp, c, fun j n hn => by simpa [ps_st] using hn, fun n hn => hN n hn, Or.inl ⟨rfl, rfl⟩⟩
      | succ i => simp at hx

