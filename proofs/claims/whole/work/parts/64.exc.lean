/-! a throw is caught; the wrappers' contracts -/
def ru_as (M : rz_M) (hp len : Nat) : Prop := (∃ j : Fin 4, decode M.1 hp = .ok (.astore_n j, 1) ∧ (j : Nat) < M.2.1 ∧ len = 1) ∨ (∃ j : Nat, decode M.1 hp = .ok (.astore j, 2) ∧ j < M.2.1 ∧ len = 2)
/-- less room will do -/
theorem ru_less {p : Program} {l : Launch} {e : Env} {d mc ms : Nat} {s : State} {m : MethodId} {args : Array Value} {below : List Frame} {meth : Method} {c : Code} {T : State} {locs : List Loc} (Y : Stand p l e (rz_rm d mc ms) s m args below meth c T locs 0 0) : Stand p l e (rz_rm d 0 0) s m args below meth c T locs 0 0 := by
  refine { Y with room := ?_ }
  have h0 := Y.room
  simp only [State.hasRoom, Bool.and_eq_true, decide_eq_true_eq] at h0 ⊢
  refine ⟨⟨⟨⟨h0.1.1.1.1, h0.1.1.1.2⟩, ?_⟩, ?_⟩, h0.2⟩
  · have := h0.1.1.2
    show s.heap.size + 0 ≤ _
    have e1 : (rz_rm d mc ms).cells = mc := rfl
    omega
  · have := h0.1.2
    show s.slotsUsed + 0 ≤ _
    omega
section RUK
variable {w : rz_w} {d mc ms : Nat} {M : rz_M} {pc : Nat} {Lc : rz_L} {S : List Value} {G : rz_G} {X X' : ru_P} {y : MethodName} {My : rz_M} {mc' ms' : Nat}
set_option maxHeartbeats 1000000 in
theorem ru_catch {idx np en : Nat} {ks : List (Nat × Nat)} (hL : rz_lV M.2.2.2.1 idx y My np) {As : List Value} {b ci : Nat} {fs : List Value} (hd : decode M.1 pc = .ok (.invokevirtual idx, 3)) (hn : As.length = np) (hG : G b = some (.inr (ci, fs))) (hcl : (rz_cl[ci]?).map (·.1) = some y.cls) (hst : (S.map fun v => v.category).sum ≤ 8)
    (ho : M.2.2.2.1 = 11) (hret : M.2.2.1 = some .int) (hX : X.1 = ru_hs en ks) (hks : ∀ q ∈ ks, q.1 < 4) (hpc : pc < en) (hne : X.1 ≠ []) (hX' : X'.1 = []) (hmc : mc' ≤ mc) (hms : ms' ≤ ms) (h : ru_C w d mc' ms' y My (.ref b :: As) G X')
    (hE : ∀ c G', X'.2.2 c G' → c < 4 ∧ ∃ (hp len : Nat) (v : Int), ru_hd c ks = some hp ∧ ru_as M hp len ∧ decode M.1 (hp + len) = .ok (.iconst v, 1) ∧ decode M.1 (hp + len + 1) = .ok (.ireturn, 1) ∧ X.2.1 (some (.int (Int32.ofInt v))) G') (kn : ∀ r G', X'.2.1 r G' → rz_T w (d + 1) 0 0 M 0 0 (pc + 3) Lc (r.toList ++ S) G' X.2.1) : ru_T w (d + 1) mc ms M 0 0 pc Lc (As.reverse ++ .ref b :: S) G X := by
  intro p l e s m args below meth c H locs ls hc hS hR hl T hT Y
  by_cases hx : ru_x w X.1 l s c
  rotate_left
  · exact ⟨_, Steps.refl _, fun h => absurd h hx⟩
  rcases ru_goX hL hd hn hG hcl hst hX' hmc hms h hc hS hR hl hT Y hx with ⟨r, G', T', L, Y', hS', hR', hq, st⟩ | ⟨a, k, G', T', L, Y', hS', hR', hK', his, hEk, hns, st⟩
  · obtain ⟨t, st2, o, b1, b2, ⟨⟨r2, G2, e1, e2, e3⟩, e4⟩, L2, hFE, hL2⟩ := kn r G' hq p l e s m args below meth c T'.heap (locs ++ L) ls hc hS' hR' hl T' rfl (ru_less Y')
    refine ⟨t, st.trans st2, fun _ => ⟨o, b1, b2, ⟨⟨G2, Or.inl ⟨r2, e1, e2, fun _ hn => ?_⟩, e3⟩, e4⟩, L2, ⟨hFE.2.1, ?_⟩, hL2⟩⟩
    · exact ru_ns_keep (t := { t with vm := s.vm }) hFE.2.2 hn
    · rw [e1]
      simp only [ru_k, if_neg hne]
      exact hFE.2.2.mono (Nat.zero_le _) (Nat.zero_le _)
  obtain ⟨hk, hp, len, v, hhd, has, hi1, hi2, hq⟩ := hE k G' hEk
  obtain ⟨c1, c2, c3, c4, c5, c6, c7, c8, c9, c10⟩ := id hc
  rw [ho] at c6
  have hon : rz_on 11 = "WriterDeskLaw" := rfl
  rw [hon] at c6
  obtain ⟨ce, e1, e2, e3⟩ := his
  rw [Y'.warmed.alike.findClass] at e3
  have hpl : e.platform.magicAccessors = ({} : Platform).magicAccessors := by rw [Y.admits.platform]
  obtain ⟨vm', hWv, hfind⟩ := ru_find (e := e) (f := F0 m pc ls S) (a := a) (hp := hp) (en := en) (cell := ce) c8 c6 hx.2.2 hpl hk e2 e3 hpc ks ((T'.setTop (F0 m pc ls S)).pushFrame (.throwing a)) hks (by rw [Stand.throwing_vm]; exact Y'.warmed) (by rw [Stand.throwing_heap]; exact e1) hhd
  have tail : W p l e (rz_rm (d + 1) mc ms) s m args below meth c T'.heap (locs ++ L) mc' ms' (MQ below (fun _ st oc t => oc = .returned (some (.int (Int32.ofInt v))) ∧ t.heap = T'.heap ∧ rz_K w t) args s mc' ms' (rz_A w)) (F0 m hp ls [.ref a]) := by
    have fin : ∀ (ls : Array Slot), W p l e (rz_rm (d + 1) mc ms) s m args below meth c T'.heap (locs ++ L) mc' ms' (MQ below (fun _ st oc t => oc = .returned (some (.int (Int32.ofInt v))) ∧ t.heap = T'.heap ∧ rz_K w t) args s mc' ms' (rz_A w)) (F0 m (hp + len) ls []) := fun ls =>
      lv_iconst c1 c2 hi1 rfl (W.zret (v := Int32.ofInt v) c1 c2 (c4.trans hret) rfl (fun t ht hW => ⟨rfl, ht, c9.warm hW⟩) hS'.2.2 hi2 c5)
    rcases has with ⟨j, hj1, hj2, rfl⟩ | ⟨j, hj1, hj2, rfl⟩
    · exact lv_astore_n c1 c2 hj1 rfl hl.has hj2 rfl (fun ls _ => fin ls)
    · exact lv_astore c1 c2 hj1 hl.has hj2 rfl (fun ls _ => fin ls)
  obtain ⟨t, st2, o, b1, b2, ⟨rfl, f2, f3⟩, L2, hFE, hL2⟩ := tail (T'.setVm vm') rfl (Y'.noted hWv)
  have st3 := ru_go (tb := p.tables) (e := e) (f := F0 m pc ls S) (a := a) (s := T') (target := t) (c := c) (below := below) (meth := meth) Y'.here (pc := hp) (vm' := vm') Y'.method' Y'.code (by
    intro Q E d acts
    rw [hx.2.1, hX]
    exact hfind Q E d acts) st2
  refine ⟨t, st.trans st3, fun _ => ⟨_, b1, b2, ⟨⟨G', Or.inl ⟨_, rfl, hq, fun _ hn q cell hq hcell => ?_⟩, f3, by rw [f2]; exact hR'⟩, ?_⟩, L2, ⟨hFE.2.1, by simp only [ru_k, if_neg hne]; exact hFE.2.2.mono hmc hms⟩, hL2⟩⟩
  · rw [f2] at hcell
    exact hns hn q cell hq hcell
  · refine ⟨by rw [f2]; exact hS'.1, fun q h1 h2 => ?_⟩
    rw [f2]; exact hS'.2.1 q h1 h2
end RUK
/-- a wrapper's contract: it returns; and no statics come to be -/
def rz_CW (w : rz_w) (d mc ms : Nat) (y : MethodName) (M : rz_M) (hs : List (Nat × Nat × Nat × Nat)) (as : List Value) (G : rz_G) (Q : Option Value → rz_G → Prop) : Prop :=
  ∀ l : Launch, (∀ e : Env, l.admits e → e.platform.stackTraces = false) → MetFree l y (headSpec (.codeWith y M.1 M.2.1 M.2.2.1 hs :: rz_tb) (rz_rm d mc ms)) (va_Pc as (fun U => rz_K w U ∧ rz_R w G U.heap ∧ ru_st w U)) (fun _ _ _ _ _ => True)
    (fun a st o t => (rz_Q w Q a st o t ∧ (ru_ns w st → ru_ns w t)) ∧ ∃ L, FrameEnd st o t L mc ms ∧ ∀ q ∈ L, rz_A w q.base)
section RWE
variable {w : rz_w} {d mc ms : Nat} {y : MethodName} {M : rz_M} {as : List Value} {G : rz_G} {hs : List (Nat × Nat × Nat × Nat)} {Q : Option Value → rz_G → Prop}
theorem rz_hs {c : Code} (h : c.exceptionTable.toList.map (fun h => (h.startPc, h.endPc, h.handlerPc, h.catchType)) = hs) : c.exceptionTable.toList = hs.map ru_h := by
  rw [← h, List.map_map]
  have : (ru_h ∘ fun (h : ExceptionTableEntry) => (h.startPc, h.endPc, h.handlerPc, h.catchType)) = id := by funext x; rfl
  rw [this, List.map_id]
theorem rz_enterW (Lc : rz_L) (hy : plainName y.cls = true) (ho : rz_on M.2.2.2.1 = y.cls) (hn : y.name = M.2.2.2.2) (hlen : (lg_sl as).length ≤ M.2.1) (hL : rz_pad M.2.1 (rz_en as) = Lc)
    (h : ∀ (p : Program) (l : Launch) (e : Env) (s : State) (m : MethodId) (args : Array Value) (below : List Frame) (meth : Method) (c : Code) (ls : Array Slot) (T : State), rz_cx w M p s m args meth c → rz_R w G s.heap → rz_l ls M.2.1 Lc → ru_x w hs l s c → T.heap = s.heap → Stand p l e (rz_rm d mc ms) s m args below meth c T [] 0 0 →
      ∃ t o, Steps p.tables e below (T.setTop (F0 m 0 ls [])) t ∧ t.status = .running ∧ Ended t below o ∧ (rz_Q w Q args s o t ∧ (ru_ns w s → ru_ns w t)) ∧ ∃ L, FrameEnd s o t L mc ms ∧ ∀ q ∈ L, rz_A w q.base) : rz_CW w d mc ms y M hs as G Q := by
  intro l hfl
  refine MetFree.of_bodyS (code := M.1) (maxLocals := M.2.1) (ret := M.2.2.1) hy ?_ ?_
  · intro args s m hp hm
    obtain ⟨m', meth, c, h0, h1, h2, h3, h4, -, h5, h6, -⟩ := Cond.codeWith_spec (atoms_spec (ws := Cond.codeWith y M.1 M.2.1 M.2.2.1 hs :: rz_tb) hp _ List.mem_cons_self)
    cases hm.symm.trans h0
    exact ⟨meth, c, h1, h2, h3, h4, h5, h6⟩
  · intro p e s m args below meth c s₁ B hml hv _
    obtain ⟨rfl, hK, hR, hS⟩ := hv
    have hts := atoms_spec (ws := Cond.codeWith y M.1 M.2.1 M.2.2.1 hs :: rz_tb) B.pre
    have hown : s.vm.findClass y.cls = some m.cls := findClass_of_methodNamed B.named
    have hin : meth.name = y.name := (name_of_methodNamed B.named B.method).1
    have hl := lv_entry as (n := M.2.1) hlen
    have hh0 : s₁.heap = s.heap := by rw [B.state]; rfl
    obtain ⟨m', meth', c', h0, h1, h2, -, -, h5, -, -, -⟩ := Cond.codeWith_spec (hts _ List.mem_cons_self)
    cases B.named.symm.trans h0
    cases B.method.symm.trans h1
    cases (Stand.of_body B).code.symm.trans h2
    have hx : ru_x w hs l s c := ⟨hfl, rz_hs h5, hS⟩
    rw [lg_entry_eq]
    generalize (lg_sl as ++ List.replicate (M.2.1 - (lg_sl as).length) Slot.unset).toArray = ls at hl ⊢
    obtain ⟨t, o, a1, b1, b2, b3, b4⟩ := h p l e s m as.toArray below meth c ls s₁ ⟨B.exec, B.bytes, hml, B.returns, B.notSynchronized, by rw [ho]; exact hown, hin.trans hn, fun x hx => hts x (List.mem_cons_of_mem _ hx), hK, fun q hq => Nat.le_trans hR.1 hq⟩ hR (by
      refine ⟨hl.1, hl.2.1, fun i v hv => ?_⟩
      rw [← hL] at hv
      have h1 := rz_en_at as 0 i v (rz_at_app _ _ _ _ hv)
      rw [Nat.zero_add] at h1
      exact hl.2.2 (i, v) h1) hx hh0 (Stand.of_body B)
    exact ⟨t, o, a1, b1, b2, b3, b4⟩
/-- .. that catches nothing -/
theorem rz_enterW0 (Lc : rz_L) (hy : plainName y.cls = true) (ho : rz_on M.2.2.2.1 = y.cls) (hn : y.name = M.2.2.2.2) (hlen : (lg_sl as).length ≤ M.2.1) (hL : rz_pad M.2.1 (rz_en as) = Lc) (h : rz_T w d 0 0 M 0 0 0 Lc [] G Q) : rz_CW w d 0 0 y M hs as G Q := by
  refine rz_enterW Lc hy ho hn hlen hL ?_
  intro p l e s m args below meth c ls T hc hR hl hx hT Y
  obtain ⟨t, a1, o, b1, b2, b3, L, b4, b5⟩ := h p l e s m args below meth c s.heap [] ls hc va_S.rf hR hl T hT Y
  refine ⟨t, o, a1, b1, b2, ⟨b3, fun hn => ?_⟩, L, b4, b5⟩
  exact ru_ns_keep (t := { t with vm := s.vm }) b4.2.2 hn
/-- .. that catches -/
theorem rz_enterWX (Lc : rz_L) (hne : hs ≠ []) (hy : plainName y.cls = true) (ho : rz_on M.2.2.2.1 = y.cls) (hn : y.name = M.2.2.2.2) (hlen : (lg_sl as).length ≤ M.2.1) (hL : rz_pad M.2.1 (rz_en as) = Lc) (h : ru_T w d mc ms M 0 0 0 Lc [] G (hs, Q, fun _ _ => False)) : rz_CW w d mc ms y M hs as G Q := by
  refine rz_enterW Lc hy ho hn hlen hL ?_
  intro p l e s m args below meth c ls T hc hR hl hx hT Y
  obtain ⟨t, a1, b⟩ := h p l e s m args below meth c s.heap [] ls hc va_S.rf hR hl T hT Y
  obtain ⟨o, b1, b2, ⟨⟨G', hoc, hK2, hR2⟩, hF⟩, L, b4, b5⟩ := b hx
  rcases hoc with ⟨r, rfl, hq, hns⟩ | ⟨_, _, _, _, hbad, _⟩
  · simp only [ru_k, if_neg hne] at b4
    exact ⟨t, _, a1, b1, b2, ⟨⟨⟨r, G', rfl, hq, hK2, hR2⟩, hF⟩, hns hne⟩, L, ⟨⟨r, rfl⟩, b4.1, b4.2⟩, b5⟩
  · exact hbad.elim
end RWE

