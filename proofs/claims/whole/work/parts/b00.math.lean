/-! mathematics: reading -/
theorem al_0 {m : mv_T} (h : wf m) : al m = 0 ↔ (al m).testBit 0 = false := by
  constructor
  · intro e; rw [e]; rfl
  · intro h0
    obtain ⟨hF, hB⟩ := al_rc h
    have hal : ∀ q, (al m).testBit q = ((mk_it m.1 (mv_ft m) 1).testBit q && (mk_it m.1 (mv_tf m) (mk_cl m)).testBit q) := fun q => Nat.testBit_and _ _ _
    generalize hFF : mk_it m.1 (mv_ft m) 1 = F at *
    generalize hBB : mk_it m.1 (mv_tf m) (mk_cl m) = B at *
    have hF0 : F.testBit 0 = true := hF.2.1.1 0 rfl
    have key : ∀ q, F.testBit q = true → (B.testBit q = true → B.testBit 0 = true) := by
      refine hF.2.2 _ ⟨fun q hq => ?_, fun e he hP hb => ?_⟩
      · have hq : q = 0 := hq
        subst hq; exact id
      · exact hP (hB.2.1.2 e he hb)
    apply Nat.eq_of_testBit_eq
    intro q
    rw [Nat.zero_testBit]
    cases c : (al m).testBit q with
    | false => rfl
    | true =>
      rw [hal, Bool.and_eq_true] at c
      have := key q c.1 c.2
      rw [hal, hF0, this] at h0
      cases h0
def sim (o : Option (List (Nat × List Nat))) (N : List (Nat × List Nat)) : Prop := match o with
  | some acc => N = acc ∧ acc.length ≤ 200
  | none => 200 < N.length
theorem wadd_sat {N : List (Nat × List Nat)} {x : Nat × List Nat} (h : 200 < N.length) : wadd N x = N := if_pos h
theorem wadd_in {N : List (Nat × List Nat)} {x : Nat × List Nat} (h : x ∈ N ∨ 200 < N.length) : wadd N x = N := by
  unfold wadd
  split
  · rfl
  · rw [if_pos (h.resolve_right (by assumption))]
theorem sim_add {acc : List (Nat × List Nat)} {v : Nat × List Nat} (h : acc.length ≤ 200) : sim (rd_add1 acc v) (wadd acc v) := by
  unfold rd_add1 wadd
  rw [if_neg (show ¬ 200 < acc.length by omega)]
  by_cases c : v ∈ acc
  · rw [if_pos c, if_pos c]; exact ⟨rfl, h⟩
  · rw [if_neg c, if_neg c]
    by_cases c2 : acc.length < 200
    · rw [if_pos c2]; exact ⟨rfl, by simp; omega⟩
    · rw [if_neg c2]
      show 200 < (acc ++ [v]).length
      simp; omega
theorem fold_sat : ∀ (l : List (Nat × List Nat)) (N : List (Nat × List Nat)), 200 < N.length → l.foldl wadd N = N
  | [], N, _ => rfl
  | x :: l, N, h => by rw [List.foldl_cons, wadd_sat h]; exact fold_sat l N h
theorem wadd_mono {N : List (Nat × List Nat)} {x y : Nat × List Nat} (h : x ∈ N ∨ 200 < N.length) : x ∈ wadd N y ∨ 200 < (wadd N y).length := by
  unfold wadd
  split
  · exact h
  · split
    · exact h
    · rcases h with q | q
      · exact Or.inl (List.mem_append_left _ q)
      · omega
theorem wadd_self {N : List (Nat × List Nat)} {x : Nat × List Nat} : x ∈ wadd N x ∨ 200 < (wadd N x).length := by
  unfold wadd
  split
  · exact Or.inr (by assumption)
  · split
    · exact Or.inl (by assumption)
    · exact Or.inl (by simp)
theorem fold_mono : ∀ (l : List (Nat × List Nat)) (N : List (Nat × List Nat)) (x : Nat × List Nat), (x ∈ N ∨ 200 < N.length) → x ∈ l.foldl wadd N ∨ 200 < (l.foldl wadd N).length
  | [], N, x, h => h
  | y :: l, N, x, h => fold_mono l (wadd N y) x (wadd_mono h)
theorem fold_mem : ∀ (l : List (Nat × List Nat)) (N : List (Nat × List Nat)) (x : Nat × List Nat), x ∈ l → x ∈ l.foldl wadd N ∨ 200 < (l.foldl wadd N).length
  | y :: l, N, x, h => by
    rcases List.mem_cons.mp h with rfl | h
    · exact fold_mono l _ x wadd_self
    · exact fold_mem l (wadd N y) x h
def rky (m : mv_T) (xs : List Nat) (e : Nat) : Nat × List Nat := ((mv_e m e).2.2.1, xs ++ (mv_e m e).2.2.2)
theorem rd_es_sim {m : mv_T} {xs : List Nat} : ∀ (es : List Nat) (acc : List (Nat × List Nat)), acc.length ≤ 200 → sim (rd_es m xs es acc) ((es.map (rky m xs)).foldl wadd acc)
  | [], acc, h => ⟨rfl, h⟩
  | e :: es, acc, h => by
    simp only [rd_es, List.map_cons, List.foldl_cons]
    have h1 := sim_add (v := rky m xs e) h
    have e1 : rd_add1 acc ((mv_e m e).2.2.1, xs ++ (mv_e m e).2.2.2) = rd_add1 acc (rky m xs e) := rfl
    rw [e1]
    cases c : rd_add1 acc (rky m xs e) with
    | none =>
      rw [c] at h1
      rw [fold_sat _ _ h1]; exact h1
    | some acc' =>
      rw [c] at h1
      rw [h1.1]; exact rd_es_sim es acc' h1.2
theorem pk_fold {m : mv_T} (h : wf m) {p l : Nat} {xs : List Nat} (hl : l < 3) (acc : List (Nat × List Nat)) : ∀ k, k ≤ m.2.1.length → ((mv_pk m (al m) (p * 3 + l) k).map (rky m xs)).foldl wadd acc = ((m.2.1.take k).filter (fun e => (al m).testBit e.1 && (al m).testBit e.2.2.1)).foldl (rr_1 l (p, xs)) acc
  | 0, _ => by simp [mv_pk]
  | k + 1, hk => by
    have ih := pk_fold h hl acc k (by omega) (p := p) (xs := xs)
    have hkl : k < m.2.1.length := by omega
    rw [List.take_succ_eq_append_getElem hkl, List.filter_append, List.foldl_append, ← ih]
    have he := h.2.2.2.1 _ (List.getElem_mem hkl)
    have e0 : mv_e m k = m.2.1[k] := mv_e_get hkl
    simp only [mv_pk]
    by_cases ca : ((al m).testBit m.2.1[k].1 && (al m).testBit m.2.1[k].2.2.1) = true
    · have ca2 : mv_ae m (al m) k = true := by unfold mv_ae; rw [e0]; exact ca
      have ef : List.filter (fun e => (al m).testBit e.1 && (al m).testBit e.2.2.1) [m.2.1[k]] = [m.2.1[k]] := by simp only [List.filter_cons, ca, if_true, List.filter_nil]
      rw [ef]
      simp only [List.foldl_cons, List.foldl_nil]
      unfold rr_1
      by_cases cp : m.2.1[k].1 = p ∧ m.2.1[k].2.1 = l
      · have cp2 : (mv_e m k).1 * 3 + (mv_e m k).2.1 = p * 3 + l := by rw [e0, cp.1, cp.2]
        rw [if_pos cp]
        have ek : rky m xs k = (m.2.1[k].2.2.1, xs ++ m.2.1[k].2.2.2) := by unfold rky; rw [e0]
        cases cl : mv_li m (mv_pk m (al m) (p * 3 + l) k) k with
        | false =>
          rw [if_pos ⟨cp2, ca2, rfl⟩, List.map_append, List.foldl_append]
          simp only [List.map_cons, List.map_nil, List.foldl_cons, List.foldl_nil]
          rw [ek]
        | true =>
          rw [if_neg (fun q => by cases q.2.2)]
          rw [wadd_in]
          refine fold_mem _ _ _ (List.mem_map.mpr ?_)
          unfold mv_li at cl
          obtain ⟨i, hi, hc⟩ := List.any_eq_true.mp cl
          simp only [Bool.and_eq_true, decide_eq_true_eq] at hc
          refine ⟨i, hi, ?_⟩
          unfold rky
          rw [hc.1, hc.2, e0]
      · rw [if_neg cp, if_neg]
        rintro ⟨q, -⟩
        rw [e0] at q
        exact cp ⟨by omega, by omega⟩
    · have ef : List.filter (fun e => (al m).testBit e.1 && (al m).testBit e.2.2.1) [m.2.1[k]] = [] := by
        have : ((al m).testBit m.2.1[k].1 && (al m).testBit m.2.1[k].2.2.1) = false := by simpa using ca
        simp only [List.filter_cons, this, List.filter_nil]; rfl
      rw [ef]
      simp only [List.foldl_nil]
      rw [if_neg]
      rintro ⟨-, q, -⟩
      unfold mv_ae at q
      rw [e0] at q
      exact ca q
theorem rd_ws_sim {m : mv_T} (h : wf m) {l : Nat} (hl : l < 3) : ∀ (ws acc : List (Nat × List Nat)), acc.length ≤ 200 → sim (rd_ws m (al m) l ws acc) (ws.foldl (rr_e (tk m).2.1 l) acc)
  | [], acc, ha => ⟨rfl, ha⟩
  | w :: ws, acc, ha => by
    simp only [rd_ws, List.foldl_cons]
    have h1 := rd_es_sim (m := m) (xs := w.2) (mv_pl m (al m) (w.1 * 3 + l)) acc ha
    have h2 := pk_fold h (p := w.1) (xs := w.2) hl acc m.2.1.length (Nat.le_refl _)
    rw [List.take_length] at h2
    have h3 : rr_e (tk m).2.1 l acc w = ((mv_pl m (al m) (w.1 * 3 + l)).map (rky m w.2)).foldl wadd acc := h2.symm
    rw [h3]
    cases c : rd_es m w.2 (mv_pl m (al m) (w.1 * 3 + l)) acc with
    | none =>
      rw [c] at h1
      have hs : ∀ (ws : List (Nat × List Nat)) (N : List (Nat × List Nat)), 200 < N.length → ws.foldl (rr_e (tk m).2.1 l) N = N := by
        intro ws
        induction ws with
        | nil => intro N _; rfl
        | cons x ws ih =>
          intro N hN
          have e1 : rr_e (tk m).2.1 l N x = N := by
            unfold rr_e
            have : ∀ (es : List (Nat × Nat × Nat × List Nat)), es.foldl (rr_1 l x) N = N := by
              intro es
              induction es with
              | nil => rfl
              | cons e es ih2 =>
                rw [List.foldl_cons]
                have : rr_1 l x N e = N := by unfold rr_1; split; exact wadd_sat hN; rfl
                rw [this]; exact ih2
            exact this _
          rw [List.foldl_cons, e1]; exact ih N hN
      rw [hs _ _ h1]; exact h1
    | some acc' =>
      rw [c] at h1
      rw [h1.1]; exact rd_ws_sim h hl ws acc' h1.2
theorem rd_rr {m : mv_T} (h : wf m) {lt : Nat → Nat} : ∀ n, (∀ k, k < n → lt k < 3) → rd_k m (al m) lt n = rr_k (tk m) lt n ∧ ∀ W, rr_k (tk m) lt n = some W → W.length ≤ 200
  | 0, _ => by
    have e : (tk m).1.testBit 0 = (al m).testBit 0 := rfl
    simp only [rd_k, rr_k, e]
    by_cases c : al m = 0
    · have c0 := (al_0 h).mp c
      rw [if_pos c, c0]
      exact ⟨rfl, fun W hW => by cases hW; simp⟩
    · have c0 : (al m).testBit 0 = true := by
        cases q : (al m).testBit 0 with
        | true => rfl
        | false => exact absurd ((al_0 h).mpr q) c
      rw [if_neg c, c0]
      exact ⟨rfl, fun W hW => by cases hW; simp⟩
  | n + 1, hl => by
    obtain ⟨ih, hlen⟩ := rd_rr h n (fun k hk => hl k (by omega))
    simp only [rd_k, rr_k, ih]
    cases c : rr_k (tk m) lt n with
    | none => exact ⟨rfl, fun W hW => by cases hW⟩
    | some W =>
      have h1 := rd_ws_sim h (hl n (Nat.lt_succ_self _)) W [] (by simp)
      have e : rr_w (tk m).2.1 (lt n) W = W.foldl (rr_e (tk m).2.1 (lt n)) [] := rfl
      simp only
      rw [e]
      cases c2 : rd_ws m (al m) (lt n) W [] with
      | none =>
        rw [c2] at h1
        have h1 : 200 < (W.foldl (rr_e (tk m).2.1 (lt n)) []).length := h1
        rw [if_pos h1]
        exact ⟨rfl, fun W' hW => by cases hW⟩
      | some acc =>
        rw [c2] at h1
        have h1 : W.foldl (rr_e (tk m).2.1 (lt n)) [] = acc ∧ acc.length ≤ 200 := h1
        rw [h1.1, if_neg (by omega)]
        exact ⟨rfl, fun W' hW => by cases hW; exact h1.2⟩
theorem cl_al {m : mv_T} (h : wf m) {q : Nat} : (mk_cl m &&& al m).testBit q = (decide (q < 6) && ((al m).testBit q && (m.2.2.1 q).isSome)) := by
  rw [Nat.testBit_and, mk_cl_bit]
  cases (al m).testBit q <;> cases (m.2.2.1 q).isSome <;> cases decide (q < 6) <;> rfl
theorem rd_rf {m : mv_T} (h : wf m) : ∀ (ws acc : List (Nat × List Nat)), acc.length + ws.length ≤ 200 → rd_fi m (mk_cl m) (al m) ws acc = ws.foldl (rr_g (tk m)) acc
  | [], acc, _ => rfl
  | w :: ws, acc, hl => by
    simp only [List.length_cons] at hl
    simp only [rd_fi, List.foldl_cons]
    have e : (if (mk_cl m &&& al m).testBit w.1 then (if (0, w.2 ++ (m.2.2.1 w.1).getD []) ∈ acc then acc else acc ++ [(0, w.2 ++ (m.2.2.1 w.1).getD [])]) else acc) = rr_g (tk m) acc w := by
      have ef : (tk m).2.2.1 w.1 = if (al m).testBit w.1 then m.2.2.1 w.1 else none := rfl
      unfold rr_g
      rw [ef, cl_al h]
      by_cases c6 : w.1 < 6
      · rw [decide_eq_true c6, Bool.true_and]
        cases ca : (al m).testBit w.1 with
        | false => rfl
        | true =>
          cases cf : m.2.2.1 w.1 with
          | none => rfl
          | some f =>
            simp only [Option.isSome_some, Bool.and_self, if_true, Option.getD_some]
            unfold wadd
            rw [if_neg (show ¬ 200 < acc.length by omega)]
      · have hn : m.2.2.1 w.1 = none := h.2.2.2.2.1 _ (by have := h.2.1; omega)
        rw [decide_eq_false c6, hn]
        simp
    rw [e]
    have hlen : (rr_g (tk m) acc w).length ≤ acc.length + 1 := by
      unfold rr_g
      split
      · unfold wadd; split
        · omega
        · split
          · omega
          · simp
      · omega
    exact rd_rf h ws _ (by omega)
theorem wd_bef_irr (u : List Nat) : wd_bef u u = false := by
  unfold wd_bef
  rw [if_neg (by simp), ← lcpn_wd, lcpn_self, List.getElem?_eq_none (Nat.le_refl _)]
/-- an output that isn't there -/
theorem rd_out_nil {ws : List (Nat × List Nat)} {k : Int32} (hl : ws.length ≤ 200) (hk : k < 0 ∨ nI ws.length ≤ k) : ∀ i, rd_out ws k i = []
  | 0 => rfl
  | i + 1 => by
    simp only [rd_out]
    cases c : ws[i]? with
    | none => exact rd_out_nil hl hk i
    | some v =>
      simp only
      rw [if_neg]
      · exact rd_out_nil hl hk i
      · intro e
        have hlt : rd_bef ws v.2 < ws.length := by
          have h1 : ws.countP (fun x => wd_bef x.2 v.2) ≤ ws.length := List.countP_le_length
          refine Nat.lt_of_le_of_ne h1 (fun q => ?_)
          have := (List.countP_eq_length.mp q) v (List.mem_of_getElem? c)
          rw [wd_bef_irr] at this
          cases this
        rcases hk with q | q
        · rw [← e] at q
          exact absurd q (nI_pos (by omega))
        · rw [← e, nI_leI (by omega) (by omega)] at q
          omega
