/-! throwing: what the tables say of the exceptions -/
theorem fa_n {P : Cond → Prop} : ∀ a ∈ ([] : List Cond), P a := fun _ h => absurd h List.not_mem_nil
theorem fa_c {P : Cond → Prop} {x : Cond} {l : List Cond} (h : P x) (t : ∀ a ∈ l, P a) : ∀ a ∈ x :: l, P a := fun a ha => (List.mem_cons.mp ha).elim (fun e => e ▸ h) (t a)
theorem fa_a {P : Cond → Prop} {l k : List Cond} (h : ∀ a ∈ l, P a) (t : ∀ a ∈ k, P a) : ∀ a ∈ l ++ k, P a := fun a ha => (List.mem_append.mp ha).elim (h a) (t a)
theorem ru_fm {x : Cond} (i : Nat) (h : ru_fx[i]? = some x) : x ∈ ru_fx := List.mem_of_getElem? h
theorem ru_sm {x : Cond} (i : Nat) (h : ru_sx[i]? = some x) : x ∈ ru_sx := List.mem_of_getElem? h
set_option maxRecDepth 100000 in
theorem ru_a0 {args : Array Value} {s : State} (hts : ∀ x ∈ rz_tb, x.before args s = true) (hf : ∀ x ∈ ru_fx, x.before args s = true) (hs : ∀ x ∈ ru_sx, x.before args s = true) : ∀ a ∈ Bundle.throwableAtoms, a.before args s = true := (fa_c (hts _ (rz_j1 12 rfl rfl)) (fa_c (hts _ (rz_j3 1 rfl rfl)) (fa_c (hts _ (rz_j3 10 rfl rfl)) (fa_c (hts _ (rz_j3 15 rfl rfl)) (fa_c (hts _ (rz_j3 18 rfl rfl)) (fa_c (hts _ (rz_j3 20 rfl rfl)) (fa_c (hts _ (rz_j3 2 rfl rfl)) (fa_c (hts _ (rz_j3 3 rfl rfl)) (fa_c (hts _ (rz_j1 29 rfl rfl)) (fa_c (hts _ (rz_j1 30 rfl rfl)) (fa_c (hts _ (rz_j3 4 rfl rfl)) (fa_c (hts _ (rz_j3 9 rfl rfl)) (fa_c (hts _ (rz_j3 16 rfl rfl)) (fa_c (hts _ (rz_j3 32 rfl rfl)) (fa_c (hts _ (rz_j2 231 rfl rfl)) (fa_c (hts _ (rz_j3 33 rfl rfl)) (fa_c (hts _ (rz_j2 233 rfl rfl)) (fa_c (hts _ (rz_j3 34 rfl rfl)) (fa_c (hts _ (rz_j2 235 rfl rfl)) (fa_c (hts _ (rz_j3 5 rfl rfl)) (fa_c (hs _ (ru_sm 0 rfl)) (fa_c (hts _ (rz_j3 7 rfl rfl)) (fa_c (hs _ (ru_sm 1 rfl)) (fa_c (hts _ (rz_j2 237 rfl rfl)) fa_n))))))))))))))))))))))))
set_option maxRecDepth 100000 in
theorem ru_a1 {args : Array Value} {s : State} (hts : ∀ x ∈ rz_tb, x.before args s = true) (hf : ∀ x ∈ ru_fx, x.before args s = true) (hs : ∀ x ∈ ru_sx, x.before args s = true) : ∀ a ∈ Bundle.chain0Atoms "java/lang/RuntimeException" ["java/lang/Exception"], a.before args s = true := fa_a (fa_c (hts _ (rz_j3 25 rfl rfl)) (fa_c (hts _ (rz_j3 26 rfl rfl)) (fa_c (hts _ (rz_j3 27 rfl rfl)) (fa_c (hts _ (rz_j3 28 rfl rfl)) (fa_c (hf _ (ru_fm 1 rfl)) fa_n))))) (fa_c (hts _ (rz_j3 28 rfl rfl)) (fa_c (hts _ (rz_j3 29 rfl rfl)) (fa_c (hts _ (rz_j3 30 rfl rfl)) (fa_c (hts _ (rz_j3 2 rfl rfl)) (fa_c (hf _ (ru_fm 2 rfl)) fa_n)))))
set_option maxRecDepth 100000 in
theorem ru_a3_0 {args : Array Value} {s : State} (hts : ∀ x ∈ rz_tb, x.before args s = true) (hf : ∀ x ∈ ru_fx, x.before args s = true) (hs : ∀ x ∈ ru_sx, x.before args s = true) : ∀ a ∈ Bundle.ownAtoms0 "WriterDesk" 206 (ru_n 0) ["java/lang/RuntimeException", "java/lang/Exception"], a.before args s = true := fa_a (fa_a (ru_a0 hts hf hs) (fa_a (fa_c (hts _ (rz_j3 22 rfl rfl)) (fa_c (hts _ (rz_j3 23 rfl rfl)) (fa_c (hts _ (rz_j3 24 rfl rfl)) (fa_c (hts _ (rz_j3 25 rfl rfl)) (fa_c (hf _ (ru_fm 0 rfl)) fa_n))))) (ru_a1 hts hf hs))) (fa_c (hts _ (rz_j3 21 rfl rfl)) (fa_c (hts _ (rz_j2 220 rfl rfl)) (fa_c (hf _ (ru_fm 3 rfl)) (fa_c (hts _ (rz_j2 228 rfl rfl)) (fa_c (hts _ (rz_j2 229 rfl rfl)) (fa_c (hts _ (rz_j2 230 rfl rfl)) (fa_c (hts _ (rz_j2 232 rfl rfl)) (fa_c (hts _ (rz_j2 234 rfl rfl)) (fa_c (hts _ (rz_j2 236 rfl rfl)) (fa_c (hs _ (ru_sm 2 rfl)) (fa_c (hs _ (ru_sm 3 rfl)) (fa_c (hts _ (rz_j3 0 rfl rfl)) (fa_c (hts _ (rz_j2 239 rfl rfl)) (fa_c (hts _ (rz_j2 238 rfl rfl)) fa_n))))))))))))))
set_option maxRecDepth 100000 in
theorem ru_a3_1 {args : Array Value} {s : State} (hts : ∀ x ∈ rz_tb, x.before args s = true) (hf : ∀ x ∈ ru_fx, x.before args s = true) (hs : ∀ x ∈ ru_sx, x.before args s = true) : ∀ a ∈ Bundle.ownAtoms0 "WriterDesk" 79 (ru_n 1) ["java/lang/RuntimeException", "java/lang/Exception"], a.before args s = true := fa_a (fa_a (ru_a0 hts hf hs) (fa_a (fa_c (hts _ (rz_j3 53 rfl rfl)) (fa_c (hts _ (rz_j3 54 rfl rfl)) (fa_c (hts _ (rz_j3 55 rfl rfl)) (fa_c (hts _ (rz_j3 25 rfl rfl)) (fa_c (hf _ (ru_fm 0 rfl)) fa_n))))) (ru_a1 hts hf hs))) (fa_c (hts _ (rz_j3 52 rfl rfl)) (fa_c (hts _ (rz_j3 44 rfl rfl)) (fa_c (hf _ (ru_fm 4 rfl)) (fa_c (hts _ (rz_j3 46 rfl rfl)) (fa_c (hts _ (rz_j3 12 rfl rfl)) (fa_c (hts _ (rz_j3 47 rfl rfl)) (fa_c (hts _ (rz_j3 48 rfl rfl)) (fa_c (hts _ (rz_j3 49 rfl rfl)) (fa_c (hts _ (rz_j3 50 rfl rfl)) (fa_c (hs _ (ru_sm 2 rfl)) (fa_c (hs _ (ru_sm 3 rfl)) (fa_c (hts _ (rz_j3 0 rfl rfl)) (fa_c (hts _ (rz_j2 239 rfl rfl)) (fa_c (hts _ (rz_j3 51 rfl rfl)) fa_n))))))))))))))
set_option maxRecDepth 100000 in
theorem ru_a3_2 {args : Array Value} {s : State} (hts : ∀ x ∈ rz_tb, x.before args s = true) (hf : ∀ x ∈ ru_fx, x.before args s = true) (hs : ∀ x ∈ ru_sx, x.before args s = true) : ∀ a ∈ Bundle.ownAtoms0 "WriterDesk" 96 (ru_n 2) ["java/lang/RuntimeException", "java/lang/Exception"], a.before args s = true := fa_a (fa_a (ru_a0 hts hf hs) (fa_a (fa_c (hts _ (rz_j3 91 rfl rfl)) (fa_c (hts _ (rz_j3 92 rfl rfl)) (fa_c (hts _ (rz_j3 93 rfl rfl)) (fa_c (hts _ (rz_j3 25 rfl rfl)) (fa_c (hf _ (ru_fm 0 rfl)) fa_n))))) (ru_a1 hts hf hs))) (fa_c (hts _ (rz_j3 90 rfl rfl)) (fa_c (hts _ (rz_j3 82 rfl rfl)) (fa_c (hf _ (ru_fm 5 rfl)) (fa_c (hts _ (rz_j3 84 rfl rfl)) (fa_c (hts _ (rz_j3 14 rfl rfl)) (fa_c (hts _ (rz_j3 85 rfl rfl)) (fa_c (hts _ (rz_j3 86 rfl rfl)) (fa_c (hts _ (rz_j3 87 rfl rfl)) (fa_c (hts _ (rz_j3 88 rfl rfl)) (fa_c (hs _ (ru_sm 2 rfl)) (fa_c (hs _ (ru_sm 3 rfl)) (fa_c (hts _ (rz_j3 0 rfl rfl)) (fa_c (hts _ (rz_j2 239 rfl rfl)) (fa_c (hts _ (rz_j3 89 rfl rfl)) fa_n))))))))))))))
set_option maxRecDepth 100000 in
theorem ru_a3_3 {args : Array Value} {s : State} (hts : ∀ x ∈ rz_tb, x.before args s = true) (hf : ∀ x ∈ ru_fx, x.before args s = true) (hs : ∀ x ∈ ru_sx, x.before args s = true) : ∀ a ∈ Bundle.ownAtoms0 "WriterDesk" 158 (ru_n 3) ["java/lang/RuntimeException", "java/lang/Exception"], a.before args s = true := fa_a (fa_a (ru_a0 hts hf hs) (fa_a (fa_c (hts _ (rz_j4 138 rfl rfl)) (fa_c (hts _ (rz_j4 139 rfl rfl)) (fa_c (hts _ (rz_j4 140 rfl rfl)) (fa_c (hts _ (rz_j3 25 rfl rfl)) (fa_c (hf _ (ru_fm 0 rfl)) fa_n))))) (ru_a1 hts hf hs))) (fa_c (hts _ (rz_j4 137 rfl rfl)) (fa_c (hts _ (rz_j4 129 rfl rfl)) (fa_c (hf _ (ru_fm 6 rfl)) (fa_c (hts _ (rz_j4 131 rfl rfl)) (fa_c (hts _ (rz_j3 13 rfl rfl)) (fa_c (hts _ (rz_j4 132 rfl rfl)) (fa_c (hts _ (rz_j4 133 rfl rfl)) (fa_c (hts _ (rz_j4 134 rfl rfl)) (fa_c (hts _ (rz_j4 135 rfl rfl)) (fa_c (hs _ (ru_sm 2 rfl)) (fa_c (hs _ (ru_sm 3 rfl)) (fa_c (hts _ (rz_j3 0 rfl rfl)) (fa_c (hts _ (rz_j2 239 rfl rfl)) (fa_c (hts _ (rz_j4 136 rfl rfl)) fa_n))))))))))))))
def ru_ic (c : Nat) : Nat := match c with | 0 => 206 | 1 => 79 | 2 => 96 | _ => 158
def ru_kc (c : Nat) : Nat := match c with | 0 => 204 | 1 => 77 | 2 => 94 | _ => 156
theorem ru_a3 {args : Array Value} {s : State} (hts : ∀ x ∈ rz_tb, x.before args s = true) (hf : ∀ x ∈ ru_fx, x.before args s = true) (hs : ∀ x ∈ ru_sx, x.before args s = true) : ∀ c, c < 4 → ∀ a ∈ Bundle.ownAtoms0 "WriterDesk" (ru_ic c) (ru_n c) ["java/lang/RuntimeException", "java/lang/Exception"], a.before args s = true
  | 0, _ => ru_a3_0 hts hf hs
  | 1, _ => ru_a3_1 hts hf hs
  | 2, _ => ru_a3_2 hts hf hs
  | 3, _ => ru_a3_3 hts hf hs
  | n + 4, h => absurd h (by omega)
set_option maxRecDepth 100000 in
theorem ru_b1 : ∀ c, c < 4 → Cond.classLink "WriterDesk" (ru_kc c) (ru_n c) ∈ rz_tb
  | 0, _ => rz_j2 219 rfl rfl
  | 1, _ => rz_j3 43 rfl rfl
  | 2, _ => rz_j3 81 rfl rfl
  | 3, _ => rz_j4 128 rfl rfl
  | n + 4, h => absurd h (by omega)
set_option maxRecDepth 100000 in
theorem ru_b2 : ∀ c, c < 4 → Cond.instantiable (ru_n c) 6 ∈ rz_tb
  | 0, _ => rz_j2 220 rfl rfl
  | 1, _ => rz_j3 44 rfl rfl
  | 2, _ => rz_j3 82 rfl rfl
  | 3, _ => rz_j4 129 rfl rfl
  | n + 4, h => absurd h (by omega)
set_option maxRecDepth 100000 in
theorem ru_b3 : ∀ c, c < 4 → Cond.initialized (ru_n c) ∈ rz_tb
  | 0, _ => rz_j1 15 rfl rfl
  | 1, _ => rz_j1 16 rfl rfl
  | 2, _ => rz_j1 17 rfl rfl
  | 3, _ => rz_j1 22 rfl rfl
  | n + 4, h => absurd h (by omega)
/-! what stays true -/
theorem ru_st_fx {w : rz_w} {s : State} {args : Array Value} (h : ru_st w s) : ∀ x ∈ ru_fx, x.before args s = true := by
  obtain ⟨⟨s0, h1, -, h3, -, -⟩, -⟩ := h
  intro x hx
  have hk : x.keepsFace = true ∧ x.onTables = true := by
    simp only [ru_fx, List.mem_cons, List.not_mem_nil, or_false] at hx
    rcases hx with rfl | rfl | rfl | rfl | rfl | rfl | rfl <;> exact ⟨rfl, rfl⟩
  have h2 := Cond.before_shiftedFace (State.Shifted.of_warmed h3) x hk.1 (h1 x (List.mem_append_left _ hx))
  have h4 := Cond.onTables_vm (A := #[]) (A' := args) (U := s0) (U' := s) s.vm x hk.2
  rw [h2, State.setVm_self] at h4
  exact h4.symm
theorem ru_ls {s s0 : State} {args args' : Array Value} (hh : ∀ (q : Nat) (cell : Cell), s0.heap[q]? = some cell → s.heap[q]? = some cell) {o n d : String} (h : (Cond.laysStatic o n d).before args (s0.setVm s.vm) = true) : (Cond.laysStatic o n d).before args' s = true := by
  have e1 : (s0.setVm s.vm).vm = s.vm := rfl
  have e2 : (s0.setVm s.vm).fieldFound? o n d = s.fieldFound? o n d := rfl
  have e3 : (s0.setVm s.vm).heap = s0.heap := rfl
  simp only [Cond.before, Cond.holds, Cond.value] at h ⊢
  rw [e1, e2, e3] at h
  cases hc : s.vm.findClass o with
  | none => rw [hc] at h; exact h
  | some c =>
    cases hf : s.fieldFound? o n d with
    | none => rw [hc, hf] at h; exact h
    | some q =>
      obtain ⟨c', k, i, f⟩ := q
      rw [hc, hf] at h
      dsimp only at h ⊢
      cases hk : k.statics with
      | none => rw [hk] at h; exact h
      | some a =>
        rw [hk] at h
        simp only [Option.bind_some] at h ⊢
        cases hcell : s0.heap[a]? with
        | none => rw [hcell] at h; exact absurd h (by simp)
        | some cell => rw [hcell] at h; rw [hh a cell hcell]; exact h
theorem ru_rs {s s0 : State} {args args' : Array Value} (hh : ∀ (q : Nat) (cell : Cell), s0.heap[q]? = some cell → s.heap[q]? = some cell) {o n d : String} (h : (Cond.isRef (.static o n d)).before args (s0.setVm s.vm) = true) : (Cond.isRef (.static o n d)).before args' s = true := by
  have e2 : (s0.setVm s.vm).fieldNamed? o n d true = s.fieldNamed? o n d true := rfl
  have e3 : (s0.setVm s.vm).heap = s0.heap := rfl
  simp only [Cond.before, Cond.holds, Cond.value, Term.eval] at h ⊢
  rw [e2, e3] at h
  cases hf : s.fieldNamed? o n d true with
  | none => rw [hf] at h; exact h
  | some q =>
    obtain ⟨c', k, i⟩ := q
    rw [hf] at h
    simp only [Option.bind_eq_bind, Option.bind_some] at h ⊢
    cases hk : k.statics with
    | none => rw [hk] at h; exact h
    | some a =>
      rw [hk] at h
      simp only [Option.bind_some] at h ⊢
      cases hcell : s0.heap[a]? with
      | none => rw [hcell] at h; exact absurd h (by simp)
      | some cell => rw [hcell] at h; rw [hh a cell hcell]; exact h
theorem ru_st_sx {w : rz_w} {s : State} {args : Array Value} (h : ru_st w s) : ∀ x ∈ ru_sx, x.before args s = true := by
  obtain ⟨⟨s0, h1, -, h3, h4, h5⟩, -⟩ := h
  have hh : ∀ (q : Nat) (cell : Cell), s0.heap[q]? = some cell → s.heap[q]? = some cell := fun q cell hq => by
    rw [h5 q (by rw [← h4]; exact (Array.getElem?_eq_some_iff.mp hq).1)]; exact hq
  intro x hx
  have h6 := h1 x (List.mem_append_right _ hx)
  have h7 : x.before #[] (s0.setVm s.vm) = true := by
    refine Cond.before_shiftedFace (State.Shifted.of_warmed h3) x ?_ h6
    simp only [ru_sx, List.mem_cons, List.not_mem_nil, or_false] at hx
    rcases hx with rfl | rfl | rfl | rfl <;> rfl
  simp only [ru_sx, List.mem_cons, List.not_mem_nil, or_false] at hx
  rcases hx with rfl | rfl | rfl | rfl
  · exact ru_ls hh h7
  · exact ru_ls hh h7
  · exact ru_rs hh h7
  · exact ru_rs hh h7
/-- another exception's class doesn't catch it -/
theorem ru_st_no {w : rz_w} {s : State} {i j : Nat} {ci cj : ClassId} (h : ru_st w s) (hi : i < 4) (hj : j < 4) (hn : i ≠ j) (h1 : s.vm.findClass (ru_n i) = some ci) (h2 : s.vm.findClass (ru_n j) = some cj) : s.vm.assignable ci cj = false := by
  obtain ⟨⟨s0, -, h3, h4, -, -⟩, -⟩ := h
  have ha := h4.alike
  have h5 := h3 i j hi hj hn
  rw [ha.findClass] at h1 h2
  rw [ha.assignable]
  simp only [Cond.before, Cond.holds, Cond.value, h1, h2] at h5
  simpa using h5
theorem ru_st_yes {w : rz_w} {s : State} {i : Nat} {ci : ClassId} (h : ru_st w s) (hi : i < 4) (h1 : s.vm.findClass (ru_n i) = some ci) : s.vm.assignable ci ci = true := by
  have hx : (Cond.castable (ru_n i) (ru_n i)).before #[] s = true := ru_st_fx h _ (by
    match i, hi with
    | 0, _ => simp [ru_fx]
    | 1, _ => simp [ru_fx]
    | 2, _ => simp [ru_fx]
    | 3, _ => simp [ru_fx]
    | n + 4, h => omega)
  obtain ⟨c, t, e1, e2, e3⟩ := Cond.castable_spec hx
  rw [h1] at e1 e2
  cases e1; cases e2
  exact e3
theorem ru_st_mv {w : rz_w} {s U : State} (h : ru_st w s) (hW : s.WarmedH U.vm) (hh : ∀ q, q < w.2.2 → U.heap[q]? = s.heap[q]?) (hn : ru_ns w U) : ru_st w U := by
  obtain ⟨⟨s0, h1, h2, h3, h4, h5⟩, -⟩ := h
  exact ⟨⟨s0, h1, h2, h3.trans hW, h4, fun q hq => (hh q hq).trans (h5 q hq)⟩, hn⟩
