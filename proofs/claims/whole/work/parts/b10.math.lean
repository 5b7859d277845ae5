/-! mathematics: the class finds the same classes as the reference -/
theorem kb_bit {K : kt_T} {s : Nat} : (kb K).testBit s = true ↔ s < 6 ∧ (K s).isSome = true := by
  have key : ∀ (l : List Nat) (n : Nat), (l.foldl (kb_1 K) n).testBit s = true ↔ n.testBit s = true ∨ (s ∈ l ∧ (K s).isSome = true) := by
    intro l
    induction l with
    | nil => intro n; simp
    | cons a l ih =>
      intro n
      rw [List.foldl_cons, ih]
      unfold kb_1
      by_cases c : (K a).isSome = true
      · rw [if_pos c, bit_or_pow, Bool.or_eq_true, decide_eq_true_eq, List.mem_cons]
        constructor
        · rintro ((h | h) | h)
          · exact Or.inl h
          · subst h; exact Or.inr ⟨Or.inl rfl, c⟩
          · exact Or.inr ⟨Or.inr h.1, h.2⟩
        · rintro (h | ⟨h | h, h2⟩)
          · exact Or.inl (Or.inl h)
          · exact Or.inl (Or.inr h.symm)
          · exact Or.inr ⟨h, h2⟩
      · rw [if_neg c, List.mem_cons]
        constructor
        · rintro (h | h)
          · exact Or.inl h
          · exact Or.inr ⟨Or.inr h.1, h.2⟩
        · rintro (h | ⟨h | h, h2⟩)
          · exact Or.inl h
          · subst h; exact absurd h2 c
          · exact Or.inr ⟨h, h2⟩
  unfold kb
  rw [key, Nat.zero_testBit, List.mem_range]
  simp
theorem kb_kq {S : bf_T} {K : kt_T} (h : kq S K) (h64 : S.1 < 64) : kb K = S.1 := by
  apply Nat.eq_of_testBit_eq
  intro q
  rw [Bool.eq_iff_iff, kb_bit]
  constructor
  · rintro ⟨h6, hs⟩
    exact (kq_none h h6).mp (fun e => by rw [e] at hs; cases hs)
  · intro hb
    have h6 := bit_6 h64 hb
    refine ⟨h6, ?_⟩
    rw [h q h6, hb]; rfl
theorem kb_cg {K L : kt_T} (h : ∀ s, s < 6 → K s = L s) : kb K = kb L := by
  apply Nat.eq_of_testBit_eq
  intro q
  rw [Bool.eq_iff_iff, kb_bit, kb_bit]
  exact and_congr_right (fun h6 => by rw [h q h6])
theorem df_mem {T1 T2 : mv_T} {S S' : List ps_nd} {v : List Nat} (h : ∀ n, n ∈ S → n ∈ S') (hd : df T1 T2 S v) : df T1 T2 S' v := by
  obtain ⟨s, hs, hr⟩ := hd
  exact ⟨s, h s hs, hr⟩
theorem ks_cg {K L K' L' : kt_T} (h : ∀ s, s < 6 → K s = L s) (h' : ∀ s, s < 6 → K' s = L' s) (n : ps_nd) (hn : n ∈ ks K K') : n ∈ ks L L' := by
  obtain ⟨p, q, u, v, hp, hq, a1, a2, a3⟩ := ks_mem.mp hn
  exact ks_mem.mpr ⟨p, q, u, v, hp, hq, by rw [← h p hp]; exact a1, by rw [← h' q hq]; exact a2, a3⟩
theorem ka_cg {T : mv_T} {K L K' L' : kt_T} (h : ∀ s, s < 6 → K s = L s) (h' : ∀ s, s < 6 → K' s = L' s) (hk : ka T K K') : ka T L L' := by
  refine ⟨?_, fun v hv => hk.2 v (df_mem (ks_cg (fun s hs => (h s hs).symm) (fun s hs => (h' s hs).symm)) hv)⟩
  rw [← kb_cg h, ← kb_cg h']
  exact hk.1
theorem bp_mem {S C : bf_T} {n : ps_nd} : n ∈ bp_st S C ↔ ∃ p q, p < 6 ∧ q < 6 ∧ S.1.testBit p = true ∧ C.1.testBit q = true ∧ n = xf_mk p q false (S.2 p) (C.2 q) := by
  have e : ∀ p q, bp_nd S C p q = xf_mk p q false (S.2 p) (C.2 q) := fun p q => by
    unfold bp_nd xf_mk; simp
  have h2 : ∀ (p k q : Nat), n ∈ bp_l2 S C p k q ↔ ∃ j, q ≤ j ∧ j < q + k ∧ S.1.testBit p = true ∧ C.1.testBit j = true ∧ n = bp_nd S C p j := by
    intro p k
    induction k with
    | zero =>
      intro q
      simp only [bp_l2]
      constructor
      · intro h; cases h
      · rintro ⟨j, a1, a2, -⟩; omega
    | succ k ih =>
      intro q
      simp only [bp_l2]
      rw [List.mem_append, ih (q + 1)]
      constructor
      · rintro (a | ⟨j, a1, a2, a3⟩)
        · split at a
          · next c =>
            rw [Bool.and_eq_true] at c
            simp at a
            exact ⟨q, Nat.le_refl _, by omega, c.1, c.2, a⟩
          · cases a
        · exact ⟨j, by omega, by omega, a3⟩
      · rintro ⟨j, a1, a2, a3, a4, a5⟩
        by_cases c : j = q
        · subst c
          left
          rw [if_pos (by rw [a3, a4]; rfl), a5]; simp
        · exact Or.inr ⟨j, by omega, by omega, a3, a4, a5⟩
  have h1 : ∀ (k p : Nat), n ∈ bp_l1 S C k p ↔ ∃ i, p ≤ i ∧ i < p + k ∧ n ∈ bp_l2 S C i 6 0 := by
    intro k
    induction k with
    | zero =>
      intro p
      simp only [bp_l1]
      constructor
      · intro h; cases h
      · rintro ⟨j, a1, a2, -⟩; omega
    | succ k ih =>
      intro p
      simp only [bp_l1]
      rw [List.mem_append, ih (p + 1)]
      constructor
      · rintro (a | ⟨j, a1, a2, a3⟩)
        · exact ⟨p, Nat.le_refl _, by omega, a⟩
        · exact ⟨j, by omega, by omega, a3⟩
      · rintro ⟨j, a1, a2, a3⟩
        by_cases c : j = p
        · subst c; exact Or.inl a3
        · exact Or.inr ⟨j, by omega, by omega, a3⟩
  unfold bp_st
  rw [h1]
  constructor
  · rintro ⟨p, -, a2, a3⟩
    obtain ⟨q, -, b2, b3, b4, b5⟩ := (h2 p 6 0).mp a3
    exact ⟨p, q, by omega, by omega, b3, b4, by rw [b5, e]⟩
  · rintro ⟨p, q, a1, a2, a3, a4, a5⟩
    exact ⟨p, Nat.zero_le _, by omega, (h2 p 6 0).mpr ⟨q, Nat.zero_le _, by omega, a3, a4, by rw [a5, e]⟩⟩
theorem bp_ks {S C : bf_T} {K K' : kt_T} (h : kq S K) (h' : kq C K') {n : ps_nd} : n ∈ bp_st S C ↔ n ∈ ks K K' := by
  rw [bp_mem, ks_mem]
  constructor
  · rintro ⟨p, q, a1, a2, a3, a4, a5⟩
    exact ⟨p, q, _, _, a1, a2, (kq_some h a1).mpr ⟨a3, rfl⟩, (kq_some h' a2).mpr ⟨a4, rfl⟩, a5⟩
  · rintro ⟨p, q, u, v, a1, a2, a3, a4, a5⟩
    obtain ⟨b1, rfl⟩ := (kq_some h a1).mp a3
    obtain ⟨b2, rfl⟩ := (kq_some h' a2).mp a4
    exact ⟨p, q, a1, a2, b1, b2, a5⟩
section KA
variable {m : mv_T} {H : Nat → List Nat} {em : mv_T} {ec : Nat}
theorem bp_ka (k : okm m H) (g : emx m H em ec) {u c u' c' : List Nat} {S C : bf_T} {K K' : kt_T} (hS : ksr (pu (tk m) H) u c S) (hC : ksr (pu (tk m) H) u' c' C) (h : kq S K) (h' : kq C K') : bp_al em ec (bk_kd em ec) C S = true ↔ ka (pu (tk m) H) K K' := by
  have hw := k.tw
  have hw32 := tw_m hw (show 21 ≤ 32 by decide)
  obtain ⟨r, g1, g2⟩ := g
  have ha64 : al m < 64 := (tk_tw k.1).1
  have hkd := kd_is (s := S.1) (t := C.1) r hw32 (fun e he => by
    obtain ⟨e0, he0, rfl⟩ := pu_e.mp he
    rw [g1]
    exact al_lt k.1 (tk_e he0).2.1) (fun q hq => by
    rw [g2, Nat.testBit_and, Bool.and_eq_true] at hq
    exact bit_6 ha64 hq.2) hS.1 hC.1
  have hx := ps_xm (S0 := bp_st S C) (R := bp_sr em ec S C) hw32 hw32 r r (fun s hs => by
    obtain ⟨p, q, a1, a2, a3, a4, rfl⟩ := bp_mem.mp hs
    exact xf_ok a1 a2 (kst_8 k hS a3) (kst_8 k hC a4)) rfl
  have hdf : (bp_sr em ec S C).2.2 = none ↔ ∀ v, ¬ df (pu (tk m) H) (pu (tk m) H) (ks K K') v := by
    have e : ∀ v, df (pu (tk m) H) (pu (tk m) H) (bp_st S C) v ↔ df (pu (tk m) H) (pu (tk m) H) (ks K K') v := fun v => ⟨df_mem (fun n hn => (bp_ks h h').mp hn), df_mem (fun n hn => (bp_ks h h').mpr hn)⟩
    rcases hx with ⟨q1, q2⟩ | ⟨j, q1, q2, -⟩
    · rcases q2 with ⟨-, q2⟩ | ⟨q, -⟩
      · exact ⟨fun _ v hv => q2 v ((e v).mpr hv), fun _ => q1⟩
      · cases q
    · rcases q2 with ⟨q, -⟩ | ⟨-, q2, -⟩
      · cases q
      · exact ⟨fun q => (by rw [q1] at q; cases q), fun q => absurd ((e _).mp q2) (q _)⟩
  unfold bp_al ka
  rw [Bool.and_eq_true, decide_eq_true_eq, hkd, kb_kq h hS.1, kb_kq h' hC.1, ← hdf]
  refine and_congr_right (fun _ => ?_)
  cases (bp_sr em ec S C).2.2 <;> simp
theorem be_t {C S : bf_T} : be_eq C S = true ↔ S.1 = C.1 ∧ ∀ q, q < 6 → C.1.testBit q = true → S.2 q = C.2 q := by
  have h1 : ∀ (k q : Nat), be_q C S k q = true ↔ ∀ j, q ≤ j → j < q + k → C.1.testBit j = true → S.2 j = C.2 j := by
    intro k
    induction k with
    | zero =>
      intro q
      simp only [be_q, true_iff]
      intro j a1 a2; omega
    | succ k ih =>
      intro q
      simp only [be_q]
      rw [Bool.and_eq_true, ih (q + 1), Bool.or_eq_true, Bool.not_eq_true', decide_eq_true_eq]
      constructor
      · rintro ⟨a1, a2⟩ j b1 b2 b3
        by_cases c : j = q
        · subst c
          rcases a1 with a1 | a1
          · rw [a1] at b3; cases b3
          · exact a1
        · exact a2 j (by omega) (by omega) b3
      · intro hh
        refine ⟨?_, fun j b1 b2 => hh j (by omega) (by omega)⟩
        cases c : C.1.testBit q with
        | false => exact Or.inl rfl
        | true => exact Or.inr (hh q (Nat.le_refl _) (by omega) c)
  unfold be_eq
  rw [Bool.and_eq_true, decide_eq_true_eq, h1]
  exact and_congr_right (fun _ => ⟨fun hh q hq => hh q (Nat.zero_le _) (by omega), fun hh j _ h2 => hh j (by omega)⟩)
theorem be_kq {C S : bf_T} {K K' : kt_T} (he : be_eq C S = true) (h : kq S K) (h' : kq C K') : ∀ s, s < 6 → K s = K' s := by
  obtain ⟨h1, h2⟩ := be_t.mp he
  intro s hs
  rw [h s hs, h' s hs, h1]
  cases c : C.1.testBit s with
  | false => simp
  | true => simp [h2 s hs c]
theorem ka_rf (k : okm m H) {u c : List Nat} {S : bf_T} {K : kt_T} (hS : ksr (pu (tk m) H) u c S) (h : kq S K) : ka (pu (tk m) H) K K := by
  refine ⟨fun _ _ => rfl, fun v hv => ?_⟩
  obtain ⟨s, hs, p, q, x, y, f, g, a1, a2, a3, a4, a5⟩ := hv
  obtain ⟨i, j, u1, u2, b1, b2, b3, b4, rfl⟩ := ks_mem.mp hs
  rw [mk_C] at a5
  obtain ⟨c1, rfl⟩ := (kq_some h b1).mp b3
  obtain ⟨c2, rfl⟩ := (kq_some h b2).mp b4
  have := fn_all k.1 k.2.1 k.2.2.1 k.2.2.2.2 (hS.bit k c1) (hS.bit k c2) a1 a2 a3 a4
  rw [List.append_assoc, List.append_assoc] at this
  exact a5 (List.append_cancel_left this)
/-- how far both have come -/
def bbi (P : mv_T) (U : bb_T) (Ks : List kt_T) (gs : List g_T) : Prop :=
  U.2.2 = gs ∧ U.1.length = Ks.length ∧ Ks.length ≤ 40 ∧ (∀ (i : Nat) (S : bf_T) (Y : kt_T), U.1[i]? = some S → Ks[i]? = some Y → kq S Y ∧ ∃ u c, kst P u c S) ∧ ∀ (i j : Nat) (Y Z : kt_T), i < j → Ks[i]? = some Y → Ks[j]? = some Z → ¬ ka P Y Z
/-- one letter of one state -/
theorem bb_set (k : okm m H) (g : emx m H em ec) {U : bb_T} {Ks : List kt_T} {gs : List g_T} {X : kt_T} (h : bbi (pu (tk m) H) U Ks gs) (hX : Ks[gs.length / 3]? = some X) : kq (bb_nx em ec U) (mx (pu (tk m) H) (gs.length % 3) X) ∧ (bb_nx em ec U).1 < 64 ∧ ∃ u c, kst (pu (tk m) H) u c (bc_ct (bb_nx em ec U)) := by
  obtain ⟨h1, h2, h3, h4, h5⟩ := h
  have hlt := (List.getElem?_eq_some_iff.mp hX).1
  obtain ⟨S, hS⟩ : ∃ S, U.1[gs.length / 3]? = some S := ⟨_, List.getElem?_eq_getElem (by omega)⟩
  obtain ⟨a1, u, c, a2⟩ := h4 _ S X hS hX
  have e : bb_nx em ec U = bg_go em ec (gs.length % 3) S U.2.1 := by
    unfold bb_nx
    rw [h1, List.getD_eq_getElem?_getD, hS]; rfl
  rw [e]
  have hl : gs.length % 3 < 3 := Nat.mod_lt _ (by decide)
  have hB := ksr_go k g hl a2.1 U.2.1
  obtain ⟨c', hc⟩ := kst_ct k hB
  exact ⟨kq_mx k g hl a2.1 a1 U.2.1, hB.1, _, c', hc⟩
theorem bb_idx (k : okm m H) (g : emx m H em ec) {U : bb_T} {Ks : List kt_T} {gs : List g_T} {X' : kt_T} {C : bf_T} (h : bbi (pu (tk m) H) U Ks gs) (hC : ∃ u c, kst (pu (tk m) H) u c C) (hk : kq C X') : (∀ d Y, (∀ (i : Nat) (Y : kt_T), i < d → Ks[i]? = some Y → ¬ ka (pu (tk m) H) Y X') → Ks[d]? = some Y → ka (pu (tk m) H) Y X' → U.1.findIdx? (be_eq C) = some d ∨ (U.1.findIdx? (be_eq C) = none ∧ U.1.findIdx? (bp_al em ec (bk_kd em ec) C) = some d)) ∧ ((∀ Y ∈ Ks, ¬ ka (pu (tk m) H) Y X') → U.1.findIdx? (be_eq C) = none ∧ U.1.findIdx? (bp_al em ec (bk_kd em ec) C) = none) := by
  obtain ⟨h1, h2, h3, h4, h5⟩ := h
  obtain ⟨u', c', hC⟩ := hC
  have hbe : ∀ (i : Nat) (S : bf_T) (Y : kt_T), U.1[i]? = some S → Ks[i]? = some Y → be_eq C S = true → ka (pu (tk m) H) Y X' ∧ ∀ s, s < 6 → Y s = X' s := fun i S Y hS hY he => by
    obtain ⟨a1, u, c, a2⟩ := h4 i S Y hS hY
    have hcg := be_kq he a1 hk
    exact ⟨ka_cg (fun _ _ => rfl) hcg (ka_rf k a2.1 a1), hcg⟩
  have hbp : ∀ (i : Nat) (S : bf_T) (Y : kt_T), U.1[i]? = some S → Ks[i]? = some Y → (bp_al em ec (bk_kd em ec) C S = true ↔ ka (pu (tk m) H) Y X') := fun i S Y hS hY => by
    obtain ⟨a1, u, c, a2⟩ := h4 i S Y hS hY
    exact bp_ka k g a2.1 hC.1 a1 hk
  have hget : ∀ (i : Nat) (S : bf_T), U.1[i]? = some S → ∃ Y, Ks[i]? = some Y := fun i S hS => by
    have := (List.getElem?_eq_some_iff.mp hS).1
    exact ⟨_, List.getElem?_eq_getElem (by omega)⟩
  refine ⟨fun d Y hmin hY hka => ?_, fun hno => ?_⟩
  · have hdl := (List.getElem?_eq_some_iff.mp hY).1
    obtain ⟨S, hS⟩ : ∃ S, U.1[d]? = some S := ⟨_, List.getElem?_eq_getElem (by omega)⟩
    cases ce : U.1.findIdx? (be_eq C) with
    | some t =>
      left
      obtain ⟨ht, a1, -⟩ := List.findIdx?_eq_some_iff_getElem.mp ce
      have hSt : U.1[t]? = some U.1[t] := List.getElem?_eq_getElem ht
      obtain ⟨Z, hZ⟩ := hget t _ hSt
      obtain ⟨b1, b2⟩ := hbe t _ Z hSt hZ a1
      have : t = d := by
        refine Nat.le_antisymm (Nat.le_of_not_lt fun q => ?_) (Nat.le_of_not_lt fun q => hmin t Z q hZ b1)
        exact h5 d t Y Z q hY hZ (ka_cg (fun _ _ => rfl) (fun s hs => (b2 s hs).symm) hka)
      rw [this]
    | none =>
      right
      refine ⟨rfl, List.findIdx?_eq_some_iff_getElem.mpr ⟨by omega, ?_, fun j hj q => ?_⟩⟩
      · have := (hbp d S Y hS hY).mpr hka
        rw [List.getElem?_eq_getElem (by omega)] at hS
        cases hS
        exact this
      · have hSj : U.1[j]? = some U.1[j] := List.getElem?_eq_getElem (by omega)
        obtain ⟨Z, hZ⟩ := hget j _ hSj
        exact hmin j Z hj hZ ((hbp j _ Z hSj hZ).mp q)
  · refine ⟨List.findIdx?_eq_none_iff.mpr (fun S hS => ?_), List.findIdx?_eq_none_iff.mpr (fun S hS => ?_)⟩
    · obtain ⟨i, hi⟩ := List.mem_iff_getElem?.mp hS
      obtain ⟨Z, hZ⟩ := hget i _ hi
      cases c : be_eq C S with
      | false => rfl
      | true => exact absurd (hbe i S Z hi hZ c).1 (hno Z (List.mem_of_getElem? hZ))
    · obtain ⟨i, hi⟩ := List.mem_iff_getElem?.mp hS
      obtain ⟨Z, hZ⟩ := hget i _ hi
      cases c : bp_al em ec (bk_kd em ec) C S with
      | false => rfl
      | true => exact absurd ((hbp i S Z hi hZ).mp c) (hno Z (List.mem_of_getElem? hZ))
theorem bb_lead (k : okm m H) {B : bf_T} {M : kt_T} (hk : kq B M) (h64 : B.1 < 64) (hex : ∃ s, s < 6 ∧ M s ≠ none) {L : List Nat} (hL : lc_is M L) : B.1 ≠ 0 ∧ bc_ld B = some L := by
  obtain ⟨s, hs, hn⟩ := hex
  refine ⟨fun e => hn ((kq_0 hk h64).mp e s hs), ?_⟩
  cases c : bc_ld B with
  | none =>
    have hg := bc_ld_g (T := B)
    rw [c] at hg
    rcases hg with ⟨-, hg⟩ | ⟨L, q, -⟩
    · exact absurd ⟨s, hs, (kq_none hk hs).mp hn, rfl⟩ (hg _)
    · cases q
  | some L' => rw [lc_uniq (kq_lc hk c) hL]
theorem bb_step (k : okm m H) (g : emx m H em ec) {U : bb_T} {Ks Ks' : List kt_T} {gs : List g_T} {X : kt_T} {z : g_T} (h : bbi (pu (tk m) H) U Ks gs) (hX : Ks[gs.length / 3]? = some X) (hs : cl_st (pu (tk m) H) Ks gs.length X z Ks') : ∃ U', bb_1 em ec (bk_kd em ec) U = some U' ∧ bbi (pu (tk m) H) U' Ks' (gs ++ [z]) := by
  obtain ⟨hk, h64, hC⟩ := bb_set k g h hX
  have hi := fun L => bb_idx (X' := cut (mx (pu (tk m) H) (gs.length % 3) X) L) k g h hC
  obtain ⟨h1, h2, h3, h4, h5⟩ := h
  unfold bb_1
  generalize bb_nx em ec U = B at *
  rcases hs with ⟨hn, rfl, rfl⟩ | ⟨hex, L, d, hL, hmin, rfl, hs⟩
  · rw [if_pos (by rw [bc_ct_1]; exact (kq_0 hk h64).mpr hn)]
    exact ⟨_, rfl, by rw [h1], h2, h3, h4, h5⟩
  · obtain ⟨hB0, hld⟩ := bb_lead k hk h64 hex hL
    obtain ⟨i1, i2⟩ := hi L (kq_ct hk hld)
    rw [if_neg (by rw [bc_ct_1]; exact hB0), hld]
    rcases hs with ⟨Y, hY, hka, rfl⟩ | ⟨rfl, h40, rfl⟩
    · rcases i1 d Y hmin hY hka with q | ⟨q1, q2⟩
      · rw [q]
        exact ⟨_, rfl, by rw [h1]; rfl, h2, h3, h4, h5⟩
      · rw [q1, q2]
        exact ⟨_, rfl, by rw [h1]; rfl, h2, h3, h4, h5⟩
    · obtain ⟨q1, q2⟩ := i2 (fun Y hY => by
        obtain ⟨i, hi⟩ := List.mem_iff_getElem?.mp hY
        exact hmin i Y (List.getElem?_eq_some_iff.mp hi).1 hi)
      rw [q1, q2]
      simp only
      rw [if_pos (by omega)]
      refine ⟨_, rfl, by rw [h1, h2]; rfl, by simp [h2], by simp; omega, fun i S Y hS hY => ?_, fun i j Y Z hij hY hZ => ?_⟩
      · by_cases c : i < Ks.length
        · rw [List.getElem?_append_left (by omega)] at hS hY
          exact h4 i S Y hS hY
        · have := (List.getElem?_eq_some_iff.mp hY).1
          simp only [List.length_append, List.length_cons, List.length_nil, Nat.zero_add] at this
          have e : i = Ks.length := by omega
          subst e
          rw [List.getElem?_append_right (Nat.le_refl _)] at hY
          rw [← h2, List.getElem?_append_right (Nat.le_refl _)] at hS
          simp at hY hS
          subst hY hS
          exact ⟨kq_ct hk hld, hC⟩
      · have := (List.getElem?_eq_some_iff.mp hZ).1
        simp only [List.length_append, List.length_cons, List.length_nil, Nat.zero_add] at this
        rw [List.getElem?_append_left (by omega)] at hY
        by_cases c : j < Ks.length
        · rw [List.getElem?_append_left c] at hZ
          exact h5 i j Y Z hij hY hZ
        · have e : j = Ks.length := by omega
          subst e
          rw [List.getElem?_append_right (Nat.le_refl _)] at hZ
          simp at hZ
          subst hZ
          exact hmin i Y hij hY
theorem bb_stop (k : okm m H) (g : emx m H em ec) {U : bb_T} {Ks : List kt_T} {gs : List g_T} {X : kt_T} {L : List Nat} (h : bbi (pu (tk m) H) U Ks gs) (hX : Ks[gs.length / 3]? = some X) (hex : ∃ s, s < 6 ∧ mx (pu (tk m) H) (gs.length % 3) X s ≠ none) (hL : lc_is (mx (pu (tk m) H) (gs.length % 3) X) L) (h40 : Ks.length = 40) (hno : ∀ Y ∈ Ks, ¬ ka (pu (tk m) H) Y (cut (mx (pu (tk m) H) (gs.length % 3) X) L)) : bb_1 em ec (bk_kd em ec) U = none := by
  obtain ⟨hk, h64, hC⟩ := bb_set k g h hX
  have hi := bb_idx (X' := cut (mx (pu (tk m) H) (gs.length % 3) X) L) k g h hC
  obtain ⟨h1, h2, h3, h4, h5⟩ := h
  unfold bb_1
  generalize bb_nx em ec U = B at *
  obtain ⟨hB0, hld⟩ := bb_lead k hk h64 hex hL
  obtain ⟨q1, q2⟩ := (hi (kq_ct hk hld)).2 hno
  rw [if_neg (by rw [bc_ct_1]; exact hB0), q1, q2]
  simp only
  rw [if_neg (by omega)]
theorem bb_all (k : okm m H) (g : emx m H em ec) (nr : Nat → List Nat) : ∀ (n : Nat) (Ks : List kt_T) (gs : List g_T), cls (pu (tk m) H) n Ks gs → n ≤ 120 ∧ ∃ U, bbi (pu (tk m) H) U Ks gs ∧ bb_go em ec (bk_kd em ec) 120 ([bu_T0 nr], va_up nr 0 [], []) = bb_go em ec (bk_kd em ec) (120 - n) U
  | 0, Ks, gs, h => by
    obtain ⟨rfl, rfl⟩ := h
    refine ⟨by decide, _, ⟨rfl, rfl, (by show 1 ≤ 40; decide), fun i S Y hS hY => ?_, fun i j Y Z hij hY hZ => ?_⟩, rfl⟩
    · cases i with
      | succ i => simp at hS
      | zero =>
        simp at hS hY
        subst hS hY
        refine ⟨fun s hs => ?_, [], [], kst_0 nr⟩
        have ha0 : (pu (tk m) H).1.testBit 0 = true := by
          show (al m).testBit 0 = true
          cases c : (al m).testBit 0 with
          | true => rfl
          | false => exact absurd ((al_0 k.1).mpr c) k.2.2.2.2
        show (if s = 0 ∧ (pu (tk m) H).1.testBit 0 = true then some [] else none) = if (1 : Nat).testBit s = true then some (va_up nr 0 [] s) else none
        by_cases c : s = 0
        · subst c
          rw [if_pos ⟨rfl, ha0⟩, if_pos (by decide), va_up_self]
        · rw [if_neg (fun q => c q.1), if_neg (by rw [Nat.testBit_one_eq_true_iff_self_eq_zero]; exact c)]
    · have := (List.getElem?_eq_some_iff.mp hZ).1
      simp at this; omega
  | n + 1, Ks', gs', h => by
    obtain ⟨Ks, gs, X, z, h1, h2, rfl, h4⟩ := h
    have hn := cls_len h1
    obtain ⟨hn120, U, hU, hgo⟩ := bb_all k g nr n Ks gs h1
    have hlt := (List.getElem?_eq_some_iff.mp h2).1
    have h40 := hU.2.2.1
    refine ⟨by omega, ?_⟩
    rw [← hn] at h2 h4
    obtain ⟨U', hU', hi⟩ := bb_step k g hU h2 h4
    refine ⟨U', hi, ?_⟩
    rw [hgo, show 120 - n = (120 - (n + 1)) + 1 by omega]
    simp only [bb_go]
    have e1 : U.2.2.length = n := by rw [hU.1]; exact hn
    have e2 := hU.2.1
    rw [if_pos (by omega), hU']
    rfl
end KA
