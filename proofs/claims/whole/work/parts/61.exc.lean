/-! throwing: the steps -/
section RUS
variable {p : Program} {l : Launch} {e : Env} {R : Room} {s : State} {m : MethodId} {args : Array Value} {below : List Frame} {meth : Method} {c : Code} {T : State} {locs : List Loc}
/-- the same stand, counted from here on -/
theorem ru_base (X : Stand p l e R s m args below meth c T locs 0 0) : Stand p l e R (T.setFrames (.invoking m args :: below)) m args below meth c T [] 0 0 := by
  obtain ⟨g0, hfr⟩ := X.frames_eq
  have hcur : T.cur < T.threads.size := State.cur_lt_of_frames hfr
  have hfs : (T.setFrames (.invoking m args :: below)).frames = .invoking m args :: below := State.frames_setFrames _ hcur
  have hb : (T.setFrames (.invoking m args :: below)).me.stackBytes = T.me.stackBytes := State.stackBytes_setFrames T _
  have hl : e.platform.stackLimits (T.setFrames (.invoking m args :: below)).me = e.platform.stackLimits T.me := by
    show e.platform.limitsFor _ = e.platform.limitsFor _
    rw [hb]
  have hm : (T.setFrames (.invoking m args :: below)).vm.method? m = some meth := X.method'
  refine ⟨X.admits, X.cas, X.clock, hfs, ?_, ?_, hm, X.code, X.here, X.tail, State.WarmedH.refl (T.setFrames (.invoking m args :: below)), hl.symm, hb.symm, ?_⟩
  · have h0 := X.room
    have h1 := X.heapSize
    have h2 := X.used
    have h3 := X.book
    simp only [State.hasRoom, Bool.and_eq_true, decide_eq_true_eq] at h0 ⊢
    rw [State.localsInUse_invoking hfs hm X.code, hfs, hl, hb, X.limits, X.bytes]
    rw [State.localsInUse_invoking X.frames X.method X.code, X.frames] at h0
    refine ⟨⟨⟨⟨h0.1.1.1.1, h0.1.1.1.2⟩, ?_⟩, ?_⟩, h3⟩
    · have := h0.1.1.2
      show T.heap.size + R.cells ≤ _
      omega
    · have := h0.1.2
      show T.slotsUsed + R.slots ≤ _
      omega
  · have h0 := X.hears
    have ha := X.warmed.alike
    cases hbl : below with
    | nil =>
      rw [hbl] at h0
      simp only [State.hears] at h0 ⊢
      rw [X.method] at h0
      have hm2 : (T.setFrames (.invoking m args :: [])).vm.method? m = some meth := X.method'
      rw [hm2]; exact h0
    | cons f fs =>
      rw [hbl] at h0
      cases f with
      | java g =>
        simp only [State.hears] at h0 ⊢
        have hcd : (T.setFrames (.invoking m args :: .java g :: fs)).code? g.method = s.code? g.method := by
          rw [State.code?_eq, State.code?_eq]
          show (T.vm.method? g.method).bind _ = _
          rw [ha.method?]
        rw [hcd]; exact h0
      | _ =>
        simp only [State.hears] at h0 ⊢
        try rfl
        try (rw [X.method] at h0
             have hm2 : T.vm.method? m = some meth := X.method'
             show (T.vm.method? m).any _ = true
             rw [hm2]; exact h0)
  · obtain ⟨th, hth, -⟩ := State.frames_cons hfs
    obtain ⟨th2, hth2, -⟩ := State.frames_cons hfr
    have h1 := (State.sameButNew.refl (T.setFrames (.invoking m args :: below)) hth).setFrames T.frames (State.cur_lt_of_frames hfs)
    rw [State.setFrames_setFrames, State.setFrames_self hth2] at h1
    have h2 : T.setVm (T.setFrames (.invoking m args :: below)).vm = T := State.setVm_self T
    rw [h2]
    exact h1
theorem rz_R_grow {w : rz_w} {G : rz_G} {H H' : Heap} (h : rz_R w G H) (hz : H.size ≤ H'.size) (hk : ∀ q, q < H.size → H'[q]? = H[q]?) : rz_R w G H' := by
  obtain ⟨h1, L, hL, hP, hD⟩ := h
  exact ⟨Nat.le_trans h1 hz, L, hL, fun k q hq => (hP k q hq).kept (hk q.1 (hP k q hq).lt), hD⟩
/-- what came to be the same but for new cells: the old ones are as they were -/
theorem ru_old {s t : State} {k n : Nat} (h : s.sameButNew t [] k n) : ∀ q, q < s.heap.size → t.heap[q]? = s.heap[q]? := by
  intro q hq
  obtain ⟨c', h1, h2, h3, h4⟩ := h.2.2.2.2.2 q _ (Array.getElem?_eq_getElem hq)
  rw [h1, Array.getElem?_eq_getElem hq]
  have : c'.slots = s.heap[q].slots := by
    apply Array.ext h3
    intro i hi1 hi2
    have h5 := h4 i List.not_mem_nil
    rw [Array.getElem?_eq_getElem hi1, Array.getElem?_eq_getElem hi2] at h5
    exact Option.some.inj h5
  rw [h2, this]
/-- as long as nothing is made, no statics come to be -/
theorem ru_ns_keep {w : rz_w} {s t : State} {L : List Loc} {n : Nat} (h : s.sameButNew t L 0 n) (hn : ru_ns w s) : ru_ns w t := by
  intro q cell hq hc
  have hlt : q < s.heap.size := by
    have h1 := (Array.getElem?_eq_some_iff.mp hc).1
    have h2 := h.2.2.1
    omega
  obtain ⟨c', h1, h2, -, -⟩ := h.2.2.2.2.2 q _ (Array.getElem?_eq_getElem hlt)
  rw [h1] at hc
  cases hc
  rw [h2]
  exact hn q s.heap[q] hq (Array.getElem?_eq_getElem hlt)
end RUS
theorem ru_fit : ∀ c, c < 4 → Bundle.fit (ru_n c) = true := by decide +kernel
theorem ru_fit2 : ∀ n ∈ ["java/lang/RuntimeException", "java/lang/Exception"], Bundle.fit n = true := by decide +kernel
section RUT
variable {w : rz_w} {d mc ms : Nat} {M : rz_M} {pc : Nat} {Lc : rz_L} {S : List Value} {G : rz_G} {X : ru_P}
set_option maxHeartbeats 1000000 in
/-- throw new X() -/
theorem ru_throw {c : Nat} (hc4 : c < 4) (ho : M.2.2.2.1 = 9) (hX : X.1 = []) (hd0 : decode M.1 pc = .ok (.new (ru_kc c), 3)) (hd3 : decode M.1 (pc + 3) = .ok (.dup, 1)) (hd4 : decode M.1 (pc + 4) = .ok (.invokespecial (ru_ic c), 3)) (hd7 : decode M.1 (pc + 7) = .ok (.athrow, 1)) (hst : (S.map fun v => v.category).sum ≤ 8) (hmc : 1 ≤ mc) (hms : 6 ≤ ms) (hE : X.2.2 c G) : ru_T w (d + 6) mc ms M 0 0 pc Lc S G X := by
  intro p l e s m args below meth cd H locs ls hc hS hR hl T hT Y
  by_cases hx : ru_x w X.1 l s cd
  rotate_left
  · exact ⟨_, Steps.refl _, fun h => absurd h hx⟩
  obtain ⟨hx1, hx2, hx3⟩ := id hx
  have Y' := ru_base Y
  obtain ⟨c1, c2, c3, c4, c5, c6, c7, c8, c9, c10⟩ := id hc
  rw [ho] at c6
  have hon : rz_on 9 = "WriterDesk" := rfl
  rw [hon] at c6
  have hW0 := Y.warmed
  have hown : (T.setFrames (.invoking m args :: below)).vm.findClass "WriterDesk" = some m.cls := by
    show T.vm.findClass _ = _
    rw [hW0.alike.findClass]; exact c6
  have hns : ru_ns w T := by
    have h0 := ru_ns_keep Y.same hx3.2
    exact h0
  have hsU : ru_st w (T.setFrames (.invoking m args :: below)) := by
    refine ru_st_mv hx3 hW0 (fun q hq => ?_) hns
    show T.heap[q]? = _
    rw [hT]
    exact hS.2.1 q (Nat.lt_of_lt_of_le hq (rz_szS c10 va_S.rf)) (fun h => absurd h (Nat.not_le.mpr hq))
  have hts : ∀ x ∈ rz_tb, x.before args (T.setFrames (.invoking m args :: below)) = true := fun x hx => pay_in (ws := rz_tb) c8 (fun x hx => ⟨hx, good_of_word (List.mem_filter.mp hx).2⟩) x hx args _ hW0
  have key : W p l e (rz_rm (d + 6) mc ms) (T.setFrames (.invoking m args :: below)) m args below meth cd T.heap [] 0 0 (fun t => t.status = .running ∧ Ended t below (.threw T.heap.size) ∧ (T.setFrames (.invoking m args :: below)).WarmedH t.vm ∧ (T.setFrames (.invoking m args :: below)).sameButNew ({ t with vm := T.vm } : State) [] 1 6 ∧ ∃ ce, t.heap[T.heap.size]? = some ce ∧ ce.vm = .none ∧ (T.setFrames (.invoking m args :: below)).vm.findClass (ru_n c) = some ce.cls) (F0 m pc ls S) := by
    refine W.newc c1 c2 hown (hts _ (ru_b1 c hc4)) (hts _ (ru_b2 c hc4)) (hts _ (ru_b3 c hc4)) rfl hd0 (by show 0 + 1 ≤ mc; omega) (by show 0 + 6 ≤ ms; omega) (fun cC kC h1 h2 h3 h4 => ?_)
    refine lv_dup c1 c2 hd3 rfl ?_
    intro T2 hT2 Y2
    have hroom : 2 * (F0 m (pc + 4) ls (.ref T.heap.size :: .ref T.heap.size :: S)).monitorRoom + (S.map fun v => v.category).sum ≤ 8 := lv_room hst
    obtain ⟨U, u1, u2, u3, u4, u5, ce, u6, u7⟩ := Y2.ctorThrow0 c1 (hx1 e Y2.admits) hown (ru_fit c hc4) ru_fit2 (ru_a3 hts (ru_st_fx hsU) (ru_st_sx hsU) c hc4) (fun x hx => absurd hx List.not_mem_nil) h1 h2 (a := T.heap.size) (by rw [hT2]; exact Array.getElem?_push_size) (Nat.le_refl _) (g := F0 m (pc + 4) ls (.ref T.heap.size :: .ref T.heap.size :: S)) rfl (hl.1.trans c3.symm) rfl rfl (rest := S) rfl (by rw [c2]; exact hd4) (by rw [c2]; exact hd7) (by rw [hx2, hX]; intro x hx; cases hx) (by show 2 + 3 < d + 6; omega) (by
        simp only [List.map_cons, List.sum_cons]
        show _ ≤ 40 * (d + 6)
        simp only [List.length_cons, List.length_nil]
        have hcat : (Value.ref T.heap.size).category = 1 := rfl
        rw [hcat]
        omega) c5
    exact ⟨U, u1, u2, u3, u4, u5, ce, u6, u7.vm, u7.cls⟩
  obtain ⟨t, st, r1, r2, r3, r4, ce, r5, r6, r7⟩ := key T rfl Y'
  have hold : ∀ q, q < T.heap.size → t.heap[q]? = T.heap[q]? := fun q hq => ru_old (s := T.setFrames (.invoking m args :: below)) (t := { t with vm := T.vm }) r4 q hq
  have hsz : T.heap.size ≤ t.heap.size := r4.2.1
  have hW2 : s.WarmedH t.vm := hW0.trans r3
  have hB : T.sameButNew ({ t with vm := T.vm } : State) [] 1 6 := by
    refine ⟨?_, r4.2⟩
    have h0 := r4.1
    rw [State.setFrames_setFrames] at h0
    exact h0
  refine ⟨t, st, fun _ => ⟨.threw T.heap.size, r1, r2, ⟨⟨G, Or.inr ⟨T.heap.size, c, rfl, ⟨ce, r5, r6, ?_⟩, hE, fun _ q cell hq hcell => ?_⟩, c9.warm hW2, rz_R_grow hR (by rw [← hT]; exact hsz) (fun q hq => by rw [← hT] at hq ⊢; exact hold q hq)⟩, ?_⟩, locs, ⟨hW2, ?_⟩, hS.2.2⟩⟩
  · rw [r3.alike.findClass]; exact r7
  · by_cases hq2 : q < T.heap.size
    · rw [hold q hq2] at hcell
      exact hns q cell hq hcell
    · have h1 := (Array.getElem?_eq_some_iff.mp hcell).1
      have h2 : t.heap.size ≤ T.heap.size + 1 := r4.2.2.1
      have h3 : q = T.heap.size := by omega
      subst h3
      rw [r5] at hcell
      cases hcell
      rw [r6]; rfl
  · refine ⟨Nat.le_trans hS.1 (by rw [← hT]; exact hsz), fun q h1 h2 => ?_⟩
    rw [hold q (by rw [hT]; exact Nat.lt_of_lt_of_le h1 hS.1), hT]
    exact hS.2.1 q h1 h2
  · have h0 := (Y.same.trans (hB.setVm s.vm)).mono (show 0 + 1 ≤ mc by omega) (show 0 + 6 ≤ ms by omega)
    rw [List.append_nil] at h0
    exact h0
end RUT

