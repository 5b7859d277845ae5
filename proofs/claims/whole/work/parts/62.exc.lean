/-! throwing: contracts, and a throw that goes through -/
def ru_C (w : rz_w) (d mc ms : Nat) (y : MethodName) (M : rz_M) (as : List Value) (G : rz_G) (X : ru_P) : Prop :=
  ∀ l : Launch, (∀ e : Env, l.admits e → e.platform.stackTraces = false) → MetFree l y (headSpec (rz_ws y M) (rz_rm d mc ms)) (va_Pc as (fun U => rz_K w U ∧ rz_R w G U.heap ∧ ru_st w U)) (fun _ _ _ _ _ => True) (fun _ st o t => ru_Q w X st o t ∧ ∃ L, (st.WarmedH t.vm ∧ st.sameButNew ({ t with vm := st.vm } : State) L (ru_k X o mc) (ru_k X o ms)) ∧ ∀ q ∈ L, rz_A w q.base)
theorem ru_enter {w : rz_w} {d mc ms : Nat} {y : MethodName} {M : rz_M} {as : List Value} {G : rz_G} {X : ru_P} (Lc : rz_L) (hX : X.1 = []) (hy : plainName y.cls = true) (ho : rz_on M.2.2.2.1 = y.cls) (hn : y.name = M.2.2.2.2) (hlen : (lg_sl as).length ≤ M.2.1) (hL : rz_pad M.2.1 (rz_en as) = Lc)
    (h : ru_T w d mc ms M 0 0 0 Lc [] G X) : ru_C w d mc ms y M as G X := by
  intro l hfl
  refine MetFree.of_bodyS (code := M.1) (maxLocals := M.2.1) (ret := M.2.2.1) hy ?_ ?_
  · intro args s m hp hm
    obtain ⟨meth, c, h1, h2, h3, h4, h5, h6, -, -⟩ := Cond.code_spec hm (atoms_spec (ws := rz_ws y M) hp _ List.mem_cons_self)
    exact ⟨meth, c, h1, h2, h3, h4, h5, h6⟩
  · intro p e s m args below meth c s₁ B hml hv _
    obtain ⟨rfl, hK, hR, hS⟩ := hv
    have hts := atoms_spec (ws := rz_ws y M) B.pre
    have hown : s.vm.findClass y.cls = some m.cls := findClass_of_methodNamed B.named
    have hlocks := B.notSynchronized
    have hin : meth.name = y.name := (name_of_methodNamed B.named B.method).1
    have hl := lv_entry as (n := M.2.1) hlen
    have hh0 : s₁.heap = s.heap := by rw [B.state]; rfl
    have hno := B.noHandlers (hts _ List.mem_cons_self)
    have hx : ru_x w X.1 l s c := ⟨hfl, by rw [hX]; simpa using hno, hS⟩
    rw [lg_entry_eq]
    generalize (lg_sl as ++ List.replicate (M.2.1 - (lg_sl as).length) Slot.unset).toArray = ls at hl ⊢
    obtain ⟨t, a1, b⟩ := h p l e s m as.toArray below meth c s.heap [] ls ⟨B.exec, B.bytes, hml, B.returns, hlocks, by rw [ho]; exact hown, hin.trans hn, fun x hx => hts x (List.mem_cons_of_mem _ hx), hK, fun q hq => Nat.le_trans hR.1 hq⟩ va_S.rf hR (by
      refine ⟨hl.1, hl.2.1, fun i v hv => ?_⟩
      rw [← hL] at hv
      have h1 := rz_en_at as 0 i v (rz_at_app _ _ _ _ hv)
      rw [Nat.zero_add] at h1
      exact hl.2.2 (i, v) h1) s₁ hh0 (Stand.of_body B)
    obtain ⟨o, b1, b2, b3, b4⟩ := b hx
    exact ⟨t, o, a1, b1, b2, b3, b4⟩
section RUV
variable {w : rz_w} {d mc ms : Nat} {M : rz_M} {pc : Nat} {Lc : rz_L} {S : List Value} {G : rz_G} {X X' : ru_P} {y : MethodName} {My : rz_M} {mc' ms' : Nat}
set_option maxHeartbeats 1000000 in
/-- a call of a method that may throw: where it is then -/
theorem ru_goX {idx np : Nat} (hL : rz_lV M.2.2.2.1 idx y My np) {As : List Value} {b ci : Nat} {fs : List Value} (hd : decode M.1 pc = .ok (.invokevirtual idx, 3)) (hn : As.length = np) (hG : G b = some (.inr (ci, fs))) (hcl : (rz_cl[ci]?).map (·.1) = some y.cls) (hst : (S.map fun v => v.category).sum ≤ 8) (hX' : X'.1 = []) (hmc : mc' ≤ mc) (hms : ms' ≤ ms) (h : ru_C w d mc' ms' y My (.ref b :: As) G X')
    {p : Program} {l : Launch} {e : Env} {s : State} {m : MethodId} {args : Array Value} {below : List Frame} {meth : Method} {c : Code} {H : Heap} {locs : List Loc} {ls : Array Slot} {T : State} (hc : rz_cx w M p s m args meth c) (hS : va_S (rz_A w) s.heap H locs) (hR : rz_R w G H) (hl : rz_l ls M.2.1 Lc) (hT : T.heap = H) (Y : Stand p l e (rz_rm (d + 1) mc ms) s m args below meth c T locs 0 0) (hx : ru_x w X.1 l s c) :
    (∃ (r : Option Value) (G' : rz_G) (T' : State) (L : List Loc), Stand p l e (rz_rm (d + 1) mc ms) s m args below meth c T' (locs ++ L) 0 0 ∧ va_S (rz_A w) s.heap T'.heap (locs ++ L) ∧ rz_R w G' T'.heap ∧ X'.2.1 r G' ∧ Steps p.tables e below (T.setTop (F0 m pc ls (As.reverse ++ .ref b :: S))) (T'.setTop (F0 m (pc + 3) ls (r.toList ++ S)))) ∨
    ∃ (a k : Nat) (G' : rz_G) (T' : State) (L : List Loc), Stand p l e (rz_rm (d + 1) mc ms) s m args below meth c T' (locs ++ L) mc' ms' ∧ va_S (rz_A w) s.heap T'.heap (locs ++ L) ∧ rz_R w G' T'.heap ∧ rz_K w T' ∧ ru_is k a T' ∧ X'.2.2 k G' ∧ (ru_ns w s → ru_ns w T') ∧ Steps p.tables e below (T.setTop (F0 m pc ls (As.reverse ++ .ref b :: S))) ((T'.setTop (F0 m pc ls S)).pushFrame (.throwing a)) := by
  obtain ⟨⟨g1, g2, g3, g4, g5⟩, g6, g7, g8⟩ := hL
  obtain ⟨x1, x2, x3⟩ := id hx
  obtain ⟨c1, c2, c3, c4, c5, c6, c7, c8, c9, c10⟩ := id hc
  obtain ⟨L0, q0, hm0, hq0, hL2, hP, hD⟩ := rz_get hR hG
  obtain ⟨r, hr, hrn⟩ := Option.map_eq_some_iff.mp hcl
  have hrv := va_recv c9.1 hP hr hq0
  rw [hrn] at hrv
  obtain ⟨cellB, hcB, hoB, hclB⟩ := hrv
  obtain ⟨mk, methM, hnamed, hmethM, hstM, habM⟩ := Cond.instanceMethod_spec (c8 _ g7)
  obtain ⟨methM', cM, hmethM', hcM, -, hlM, -, -, -, hsigM⟩ := Cond.code_spec hnamed (c8 _ g2)
  cases hmethM.symm.trans hmethM'
  obtain ⟨k2, r2, m2, q1, q2, q3, q4, kP, hkP, hkPi⟩ := Cond.selects_spec (c8 _ g8)
  cases hclB.symm.trans q1
  cases (State.methodFound?_of_named hnamed g3).symm.trans q2
  cases hnamed.symm.trans q3
  have hselP : selectMethod e.platform s.vm cellB.cls mk = .method mk := by rw [Launch.admits_selectMethod Y.admits]; exact q4
  obtain ⟨vm₁, Y₁, hstep₁⟩ := Y.invokevirtual c1 c6 (c8 _ g6) hnamed hmethM hstM hkP hkPi g3 (a := b) (cell := cellB) (by rw [hT]; exact hcB)
    (fun z hz => by rw [hz] at hoB; cases hoB) hselP hmethM habM hkP hkPi (g := F0 m pc ls (As.reverse ++ .ref b :: S)) rfl (argsL := As) (rest := S) (hn.trans (rz_len g4 _ hsigM)) rfl (by rw [c2]; exact hd)
  have hW₁ := Y₁.warmed
  have hroom : 2 * (F0 m pc ls S).monitorRoom + (S.map fun v => v.category).sum ≤ 8 := lv_room hst
  have hat : At (T.setVm vm₁) (F0 m pc ls S).method c below := Y₁.here
  have hnam1 := Y₁.named hnamed
  have hpay : ∀ x ∈ rz_ws y My, ∀ (a' : Array Value) (U : State), s.WarmedH U.vm → x.before a' U = true := pay_in c8 (rz_good g2)
  have hcode1 : (Cond.code y My.1 My.2.1 My.2.2.1).before (Value.ref b :: As).toArray (T.setVm vm₁) = true := hpay _ List.mem_cons_self _ _ hW₁
  obtain ⟨methY, cY, hmY, hcY, -, hlY, -, -, -, -⟩ := Cond.code_spec hnam1 hcode1
  obtain ⟨kY, hkY, -⟩ := className_of_methodNamed hnam1
  have hini1 : (Cond.initialized y.cls).before args (T.setVm vm₁) = true := pay_in (ws := rz_tb) c8 (fun x hx => ⟨hx, good_of_word (List.mem_filter.mp hx).2⟩) _ g1 args _ hW₁
  have hinitY : kY.init = .initialized := Cond.initialized_spec (findClass_of_methodNamed hnam1) hkY hini1
  have happ : (headSpec (rz_ws y My) (rz_rm d mc' ms')).appliesLoose y e.platform ((T.setVm vm₁).calling (F0 m pc ls S) mk (Value.ref b :: As).toArray) = true :=
    Spec.appliesLoose_calling (g := F0 m pc ls S) hat (by rw [c2]; exact hd) hnam1 hkY hinitY
      (Y₁.room_calling (g := F0 m pc ls S) (R' := rz_rm d mc' ms') (hl.1.trans c3.symm) hmY hcY (by show d + 1 ≤ d + 1; omega) (by rw [hlY]; change 2 * (F0 m pc ls S).monitorRoom + (S.map fun v => v.category).sum + (My.2.1 + 11) + 40 * d ≤ 40 * (d + 1); omega) (by show 0 + mc' ≤ mc; omega) (by show 0 + ms' ≤ ms; omega)) (atoms_intro fun x hx => hpay x hx _ _ hW₁)
  obtain ⟨mid, hmid⟩ := hat.above
  have hfr : ((T.setVm vm₁).setTop (F0 m pc ls S)).frames = (.java (F0 m pc ls S) :: mid) ++ below := by rw [State.frames_setTop' _ hat.top, hmid]; rfl
  have hnsT : ru_ns w s → ru_ns w T := fun hn => ru_ns_keep (t := T.setVm s.vm) Y.same hn
  have hP : va_Pc (.ref b :: As) (fun U => rz_K w U ∧ rz_R w G U.heap ∧ ru_st w U) (Value.ref b :: As).toArray ((T.setVm vm₁).calling (F0 m pc ls S) mk (Value.ref b :: As).toArray) := by
    have h0 := rz_blind (w := w) (G := G) (as := .ref b :: As) (Value.ref b :: As).toArray (T.setVm vm₁) (F0 m pc ls S) mk ⟨rfl, c9.warm hW₁, by show rz_R w G T.heap; rw [hT]; exact hR⟩
    refine ⟨rfl, h0.2.1, h0.2.2, ru_st_mv x3 hW₁ (fun q hq => ?_) (hnsT x3.2)⟩
    show T.heap[q]? = _
    rw [hT]
    exact hS.2.1 q (Nat.lt_of_lt_of_le hq (rz_szS c10 va_S.rf)) (fun h => absurd h (Nat.not_le.mpr hq))
  obtain ⟨o, s₂, hsteps, -, hend, hq, L, ⟨hWc, hsc⟩, hLA⟩ := Steps.callFree (h l x1) p Y₁.admits Y₁.cas Y₁.clock (acts := []) hfr happ hP trivial
  obtain ⟨⟨G', hoc, hK2, hR2⟩, hF⟩ := hq
  rw [State.frames_setTop' _ hat.top] at hend
  have hvS : ∀ (T' : State), s₂.heap = T'.heap → va_S (rz_A w) s.heap T'.heap (locs ++ L) := fun T' hheap => by
    refine ⟨Nat.le_trans hS.1 ?_, fun q h1 h2 => ?_, fun q hq => ?_⟩
    · have := hF.1
      rw [hheap] at this
      rw [← hT]; exact this
    · have h3 := hF.2 q (by show q < T.heap.size; rw [hT]; exact Nat.lt_of_lt_of_le h1 hS.1) h2
      rw [hheap] at h3
      rw [h3]
      show T.heap[q]? = _
      rw [hT]; exact hS.2.1 q h1 h2
    · rcases List.mem_append.mp hq with hq | hq
      · exact hS.2.2 q hq
      · exact hLA q hq
  rcases hoc with ⟨r', rfl, hq1, -⟩ | ⟨a, k, rfl, his, hEk, hns2⟩
  · left
    simp only [ru_k, if_pos hX'] at hsc
    obtain ⟨T', Y', hW', hB', ht'⟩ := Y₁.outOf (g := F0 m pc ls S) rfl (by rw [c2]; exact hd) (by rw [Y₁.tail] at hend; exact hend) hWc hsc
    have hheap : s₂.heap = T'.heap := by rw [ht']; rfl
    refine ⟨r', G', T', L, Y', hvS T' hheap, by rw [← hheap]; exact hR2, hq1, hstep₁ _ fun acts => ?_⟩
    rw [doInvoke_state]
    rw [ht'] at hsteps
    exact hsteps
  right
  simp only [ru_k] at hsc
  obtain ⟨T', Y', hW', hB', ht'⟩ := Y₁.outOfThrown (g := F0 m pc ls S) rfl (by rw [Y₁.tail] at hend; exact hend) hWc hsc
  have hheap : s₂.heap = T'.heap := by rw [ht']; exact Stand.throwing_heap T' _ a
  have hvm : s₂.vm = T'.vm := by rw [ht']; exact Stand.throwing_vm T' _ a
  rw [Nat.zero_add, Nat.zero_add] at Y'
  refine ⟨a, k, G', T', L, Y', hvS T' hheap, by rw [← hheap]; exact hR2, ?_, ?_, hEk, fun hn => ?_, hstep₁ _ fun acts => ?_⟩
  · exact c9.warm Y'.warmed
  · obtain ⟨ce, e1, e2, e3⟩ := his
    exact ⟨ce, by rw [← hheap]; exact e1, e2, by rw [← hvm]; exact e3⟩
  · have h3 := hns2 (hnsT hn)
    intro q cell hq hcell
    exact h3 q cell hq (by rw [hheap]; exact hcell)
  · rw [doInvoke_state, ← ht']
    exact hsteps
/-- .. it goes on, or the throw goes through -/
theorem ru_cV2 {idx np : Nat} (hL : rz_lV M.2.2.2.1 idx y My np) {As : List Value} {b ci : Nat} {fs : List Value} (hd : decode M.1 pc = .ok (.invokevirtual idx, 3)) (hn : As.length = np) (hG : G b = some (.inr (ci, fs))) (hcl : (rz_cl[ci]?).map (·.1) = some y.cls) (hst : (S.map fun v => v.category).sum ≤ 8) (hX : X.1 = []) (hX' : X'.1 = []) (hmc : mc' ≤ mc) (hms : ms' ≤ ms) (h : ru_C w d mc' ms' y My (.ref b :: As) G X') (hE : ∀ c G', X'.2.2 c G' → X.2.2 c G') (k : ∀ r G', X'.2.1 r G' → ru_T w (d + 1) mc ms M 0 0 (pc + 3) Lc (r.toList ++ S) G' X) : ru_T w (d + 1) mc ms M 0 0 pc Lc (As.reverse ++ .ref b :: S) G X := by
  intro p l e s m args below meth c H locs ls hc hS hR hl T hT Y
  by_cases hx : ru_x w X.1 l s c
  rotate_left
  · exact ⟨_, Steps.refl _, fun h => absurd h hx⟩
  rcases ru_goX hL hd hn hG hcl hst hX' hmc hms h hc hS hR hl hT Y hx with ⟨r, G', T', L, Y', hS', hR', hq, st⟩ | ⟨a, j, G', T', L, Y', hS', hR', hK', his, hEk, hns, st⟩
  · obtain ⟨t, st2, b⟩ := k r G' hq p l e s m args below meth c T'.heap (locs ++ L) ls hc hS' hR' hl T' rfl Y'
    exact ⟨t, st.trans st2, b⟩
  have hout : ∀ x ∈ c.exceptionTable.toList, covers x (F0 m pc ls S).pc = false := by rw [hx.2.1, hX]; intro x hx; cases hx
  obtain ⟨st2, hrun, hended, hW2, hsame⟩ := Y'.leaveThrown a (g := F0 m pc ls S) rfl rfl rfl hout hc.2.2.2.2.1
  exact ⟨_, st.trans st2, fun _ => ⟨.threw a, hrun, hended, ⟨⟨G', Or.inr ⟨a, j, rfl, his, hE _ _ hEk, hns⟩, hc.2.2.2.2.2.2.2.2.1.warm hW2, hR'⟩, hS'.1, hS'.2.1⟩, locs ++ L, ⟨hW2, hsame.mono hmc hms⟩, hS'.2.2⟩⟩
end RUV

