/-! throws that are caught: the law's wrappers -/
def ru_ci (c : Nat) : Nat := match c with | 0 => 13 | 1 => 15 | 2 => 21 | _ => 47
set_option maxRecDepth 100000 in
theorem ru_ck : ∀ c, c < 4 → Cond.classLink "WriterDeskLaw" (ru_ci c) (ru_n c) ∈ rz_tb
  | 0, _ => rz_j2 209 rfl rfl
  | 1, _ => rz_j2 210 rfl rfl
  | 2, _ => rz_j3 69 rfl rfl
  | 3, _ => rz_j4 123 rfl rfl
  | n + 4, h => absurd h (by omega)
section RUH
variable {e : Env} {f : JFrame} {a : Nat}
/-- one row of the handlers: her class is looked up, and she takes the object or not -/
theorem ru_h1 {Q : Handler → Pre} {E : CtlPost} {d : Bool} {acts : List Action} {s : State} {x : ExceptionTableEntry} {t : List ExceptionTableEntry} {c : ClassId} {cell : Cell} (hx : covers x f.pc = true) (h0 : x.catchType ≠ 0) (hl : s.vm.ClassLinks e.platform f.method.cls x.catchType c) (hcell : s.heap[a]? = some cell) (hobj : ∀ k, cell.vm ≠ .statics k)
    (hk : ∃ k, s.vm.classes[cell.cls]? = some k) (hc : ∃ k, s.vm.classes[c]? = some k) :
    wp (findHandler.go f a (x :: t)) Q E e d acts s ↔ if s.vm.assignable cell.cls c = true then Q (.found x.handlerPc) d acts (s.setVm (s.vm.noted f.method.cls x.catchType (.cls c))) else wp (findHandler.go f a t) Q E e d acts (s.setVm (s.vm.noted f.method.cls x.catchType (.cls c))) := by
  have hal : s.vm.Alike (s.vm.noted f.method.cls x.catchType (.cls c)) := (Vm.Alike.refl s.vm).noted _ _ _
  obtain ⟨ra, rt⟩ := (resolveClass_links e.toSetting hl).op (op := VmOp.resolveClass f.method.cls x.catchType) rfl
  obtain ⟨j1, hj1⟩ := hk
  obtain ⟨j2, hj2⟩ := hc
  obtain ⟨i1, hi1, -⟩ := hal.2.2 _ _ hj1
  obtain ⟨i2, hi2, -⟩ := hal.2.2 _ _ hj2
  have has := hal.assignable cell.cls c
  simp only [covers] at hx
  cases hb : s.vm.assignable cell.cls c with
  | true => rw [hb] at has; simp [findHandler.go, hx, h0, ra, rt, hcell, hobj, hi1, hi2, has, VmOp.dirties, VmOp.acts]
  | false => rw [hb] at has; simp [findHandler.go, hx, h0, ra, rt, hcell, hobj, hi1, hi2, has, VmOp.dirties, VmOp.acts]
def ru_hs (en : Nat) (ks : List (Nat × Nat)) : List (Nat × Nat × Nat × Nat) := ks.map (fun q => (0, en, q.2, ru_ci q.1))
theorem ru_ci0 : ∀ c, c < 4 → ru_ci c ≠ 0 := by decide
/-- the handler of an exception: the first of its class -/
def ru_hd (k : Nat) : List (Nat × Nat) → Option Nat
  | [] => none
  | q :: ks => if q.1 = k then some q.2 else ru_hd k ks
theorem ru_find {w : rz_w} {s : State} {args : Array Value} {k hp en : Nat} {cell : Cell} (hts : ∀ x ∈ rz_tb, x.before args s = true) (hown : s.vm.findClass "WriterDeskLaw" = some f.method.cls) (hst : ru_st w s) (hpl : e.platform.magicAccessors = ({} : Platform).magicAccessors) (hk : k < 4) (hv : cell.vm = .none) (hcl : s.vm.findClass (ru_n k) = some cell.cls) (hpc : f.pc < en) :
    ∀ (ks : List (Nat × Nat)) (S : State), (∀ q ∈ ks, q.1 < 4) → s.WarmedH S.vm → S.heap[a]? = some cell → ru_hd k ks = some hp →
      ∃ vm', s.WarmedH vm' ∧ ∀ (Q : Handler → Pre) (E : CtlPost) (d : Bool) (acts : List Action), wp (findHandler.go f a ((ru_hs en ks).map ru_h)) Q E e d acts S ↔ Q (.found hp) d acts (S.setVm vm') := by
  intro ks
  have hpay : ∀ x ∈ rz_tb, ∀ (U : State), s.WarmedH U.vm → x.before args U = true := fun x hx U hU => pay_in (ws := rz_tb) hts (fun x hx => ⟨hx, good_of_word (List.mem_filter.mp hx).2⟩) x hx args U hU
  induction ks with
  | nil => intro S _ _ _ h; cases h
  | cons q ks ih =>
    intro S hks hW hcell hh
    have hq := hks q List.mem_cons_self
    have hownS : S.vm.findClass "WriterDeskLaw" = some f.method.cls := by rw [hW.alike.findClass]; exact hown
    obtain ⟨c, hc1, hl⟩ := Cond.classLink_spec hownS (hpay _ (ru_ck q.1 hq) S hW) e.platform hpl
    obtain ⟨c0, hc0, hl0⟩ := Cond.classLink_spec hown (hts _ (ru_ck q.1 hq)) e.platform hpl
    rw [hW.alike.findClass, hc0] at hc1
    cases hc1
    obtain ⟨dk, _, _, ck, hd, _, _, _, _, hck, _, hopen⟩ := hl0.here
    obtain ⟨_, _, _, ck', _, _, _, _, _, hck', _, _⟩ := hl.here
    have hclS : S.vm.findClass (ru_n k) = some cell.cls := by rw [hW.alike.findClass]; exact hcl
    obtain ⟨cx, hcx, hlx⟩ := Cond.classLink_spec hownS (hpay _ (ru_ck k hk) S hW) e.platform hpl
    rw [hclS] at hcx
    cases hcx
    obtain ⟨_, _, _, kx, _, _, _, _, _, hkx, _, _⟩ := hlx.here
    have hW2 := hW.noted hd hopen (State.rightAt_cls hl0)
    have step := fun Q E d acts => ru_h1 (e := e) (f := f) (a := a) (Q := Q) (E := E) (d := d) (acts := acts) (s := S) (x := ru_h (0, en, q.2, ru_ci q.1)) (t := (ru_hs en ks).map ru_h) (c := c) (cell := cell) (by simp [covers, ru_h, hpc]) (ru_ci0 q.1 hq) hl hcell (fun z hz => by rw [hv] at hz; cases hz) ⟨kx, hkx⟩ ⟨ck', hck'⟩
    by_cases cq : q.1 = k
    · rw [cq] at hc0
      rw [hcl] at hc0
      have hc0 := Option.some.inj hc0
      have hyes : S.vm.assignable cell.cls c = true := by
        rw [← hc0, hW.alike.assignable]; exact ru_st_yes hst hk hcl
      have hh2 : q.2 = hp := by
        simp only [ru_hd, if_pos cq] at hh
        exact Option.some.inj hh
      refine ⟨_, hW2, fun Q E d acts => ?_⟩
      have h1 := step Q E d acts
      rw [if_pos hyes] at h1
      rw [← hh2]
      exact h1
    · have hno : ¬ S.vm.assignable cell.cls c = true := by
        rw [hW.alike.assignable, ru_st_no hst hk hq (fun h => cq h.symm) hcl hc0]; decide
      simp only [ru_hd, if_neg cq] at hh
      obtain ⟨vm', h1, h2⟩ := ih (S.setVm (S.vm.noted f.method.cls (ru_ci q.1) (.cls c))) (fun q hq => hks q (List.mem_cons_of_mem _ hq)) hW2 hcell hh
      refine ⟨vm', h1, fun Q E d acts => ?_⟩
      have h3 := step Q E d acts
      rw [if_neg hno] at h3
      exact h3.trans (h2 Q E d acts)
/-- the search ends in a handler, and the tables are warmer -/
theorem ru_go {tb : Tables} {s target : State} {c : Code} {below : List Frame} {meth : Method} (h : At s f.method c below) {pc : Nat} {vm' : Vm} (hm : s.vm.method? f.method = some meth) (hcd : meth.code = some c)
    (hfind : ∀ (Q : Handler → Pre) (E : CtlPost) (d : Bool) (acts : List Action), wp (findHandler.go f a c.exceptionTable.toList) Q E e d acts ((s.setTop f).pushFrame (.throwing a)) ↔ Q (.found pc) d acts (((s.setTop f).pushFrame (.throwing a)).setVm vm'))
    (hrest : Steps tb e below ((s.setVm vm').setTop { f with pc := pc, stack := [.ref a] }) target) : Steps tb e below ((s.setTop f).pushFrame (.throwing a)) target := by
  obtain ⟨hgo, hw⟩ := h.throwing a
  refine Steps.head hgo hw ?_
  rw [stepThread_throwing (frames_entered h.top _)]
  obtain ⟨g₀, hg⟩ := Option.isSome_iff_exists.mp h.top
  obtain ⟨r, hr⟩ := State.topJava?_eq_some.mp hg
  have hm' : ((s.setTop f).pushFrame (.throwing a)).vm.method? f.method = some meth := by rw [Stand.throwing_vm]; exact hm
  have hf : ∀ (Q : Handler → Pre) (E : CtlPost) (d : Bool) (acts : List Action), wp (findHandler f a) Q E e d acts ((s.setTop f).pushFrame (.throwing a)) ↔ Q (.found pc) d acts (((s.setTop f).pushFrame (.throwing a)).setVm vm') := fun Q E d acts => by rw [W.findHandler_eq hm' hcd]; exact hfind Q E d acts
  have key : (stepThrowing e ((s.setTop f).pushFrame (.throwing a)) a (.java f :: s.frames.tail)).Is ((((s.setTop f).pushFrame (.throwing a)).setVm vm').setFrames (.java { f with pc := pc, stack := [.ref a] } :: s.frames.tail)) [] := by
    simp only [stepThrowing, searchFrame, vmDo]
    generalize hres : Sem.go _ e false [] ((s.setTop f).pushFrame (.throwing a)) = res
    obtain ⟨as, rfl, ha⟩ := Sem.eq_ok_of hres (a := Handler.found pc) (s' := ((s.setTop f).pushFrame (.throwing a)).setVm vm') (acts' := []) (by simp [hf])
    exact ⟨rfl, ha⟩
  rw [key.1]
  have hr' : (s.setVm vm').frames = .java g₀ :: r := hr
  rw [State.setTop_of_frames _ hr'] at hrest
  rw [hr, List.tail_cons]
  have e1 : ∀ (u : State) (F G : List Frame), ((u.setFrames F).setVm vm').setFrames G = (u.setVm vm').setFrames G := fun u F G => by
    show ((u.setVm vm').setFrames F).setFrames G = _
    rw [State.setFrames_setFrames]
  rw [State.pushFrame, e1, State.setTop_of_frames _ hr, e1]
  exact hrest
end RUH

