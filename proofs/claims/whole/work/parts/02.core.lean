/-! The machine, lifted: an abstract heap G (address to cell), the judgement rz_T (a method from a pc on, to its end), contracts rz_C, and rz_ex, which runs a stretch of instructions. -/
abbrev rz_E : Type := (Nat × vp_A) ⊕ (Nat × List Value)
abbrev rz_G : Type := Nat → Option rz_E
abbrev rz_w : Type := va_G × (Nat → ClassId) × Nat
abbrev rz_M : Type := ByteArray × Nat × Option FieldType × Nat × String
abbrev rz_L : Type := List (Option Value)
def rz_e (w : rz_w) : Option rz_E → va_E
  | some (.inl (t, a)) => .inl (w.2.1 t, a)
  | some (.inr o) => .inr o
  | none => .inr (0, [])
def rz_up (G : rz_G) (a : Nat) (e : rz_E) : rz_G := fun b => if b = a then some e else G b
theorem rz_up_s (G : rz_G) (a : Nat) (e : rz_E) : rz_up G a e a = some e := if_pos rfl
theorem rz_up_n (G : rz_G) {a b : Nat} (e : rz_E) (h : b ≠ a) : rz_up G a e b = G b := if_neg h
theorem rz_up_up (G : rz_G) (a : Nat) (e f : rz_E) : rz_up (rz_up G a e) a f = rz_up G a f := by
  funext b; simp only [rz_up]; split <;> rfl
theorem rz_up_id (G : rz_G) (a : Nat) (e : rz_E) (h : G a = some e) : rz_up G a e = G := by
  funext b; simp only [rz_up]; split
  · next q => rw [q, h]
  · rfl
theorem rz_up_comm (G : rz_G) {a b : Nat} (e f : rz_E) (h : a ≠ b) : rz_up (rz_up G a e) b f = rz_up (rz_up G b f) a e := by
  funext c; simp only [rz_up]; split <;> split <;> simp_all
def rz_A (w : rz_w) : Nat → Prop := fun q => w.2.2 ≤ q
def rz_tys (w : rz_w) : List (ClassId × FieldType) := [(w.2.1 0, .int), (w.2.1 1, .long), (w.2.1 2, .byte), (w.2.1 3, .boolean), (w.2.1 4, .object "WriterDesk$Word"), (w.2.1 5, .object "WriterDesk$Machine")]
def rz_f (w : rz_w) (G : rz_G) : Nat → va_E := fun a => rz_e w (G a)
def rz_R (w : rz_w) (G : rz_G) (H : Heap) : Prop := w.2.2 ≤ H.size ∧ ∃ L : List Nat, (∀ a, a ∈ L ↔ G a ≠ none) ∧ va_P w.1 rz_cl (va_pl L (rz_f w G)) H ∧ va_D (rz_A w) (va_pl L (rz_f w G))
def rz_nest : List Cond := [.methodLinkNest "WriterDesk" 29 ⟨"WriterDesk$Reading", "<init>", "()V"⟩ "WriterDesk", .methodLinkNest "WriterDesk" 43 ⟨"WriterDesk$DomainSearch", "<init>", "()V"⟩ "WriterDesk", .methodLinkNest "WriterDesk" 50 ⟨"WriterDesk$ResidualSearch", "<init>", "()V"⟩ "WriterDesk", .methodLinkNest "WriterDesk$Machine" 78 ⟨"WriterDesk", "has", "(II)Z"⟩ "WriterDesk", .methodLinkNest "WriterDesk$Reading" 59 ⟨"WriterDesk", "letterOf", "(II)I"⟩ "WriterDesk", .methodLinkNest "WriterDesk$Builder" 119 ⟨"WriterDesk", "has", "(II)Z"⟩ "WriterDesk"]
def rz_K (w : rz_w) (U : State) : Prop := va_K w.1 rz_cl (rz_tys w) U ∧ ∀ x ∈ rz_nest, va_Nw x U
theorem rz_K.warm {w : rz_w} {s U : State} (h : rz_K w s) (hW : s.WarmedH U.vm) : rz_K w U := by
  refine ⟨va_K.moved hW.alike h.1, fun x hx => ?_⟩
  have hz := h.2 x hx
  simp only [rz_nest, List.mem_cons, List.not_mem_nil, or_false] at hx
  rcases hx with rfl | rfl | rfl | rfl | rfl | rfl <;> exact va_Nw.warmM hW hz
def rz_nol : Option Value → Option Value
  | some (.long _) => none
  | some (.double _) => none
  | x => x
def rz_at : rz_L → Nat → Option Value
  | [], _ => none
  | x :: _, 0 => x
  | _ :: xs, i + 1 => rz_at xs i
def rz_set : rz_L → Nat → Value → rz_L
  | [], _, _ => []
  | _ :: xs, 0, v => some v :: xs
  | x :: xs, 1, v => rz_nol x :: rz_set xs 0 v
  | x :: xs, i + 2, v => x :: rz_set xs (i + 1) v
def rz_clr : rz_L → Nat → rz_L
  | [], _ => []
  | _ :: xs, 0 => none :: xs
  | x :: xs, i + 1 => x :: rz_clr xs i
theorem rz_at_clr : ∀ (L : rz_L) (i j : Nat) (x : Value), rz_at (rz_clr L i) j = some x → j ≠ i ∧ rz_at L j = some x
  | [], i, j, x, h => by simp [rz_clr, rz_at] at h
  | _ :: xs, 0, 0, x, h => by simp [rz_clr, rz_at] at h
  | _ :: xs, 0, j + 1, x, h => ⟨by omega, h⟩
  | y :: xs, i + 1, 0, x, h => ⟨by omega, h⟩
  | y :: xs, i + 1, j + 1, x, h => by
    obtain ⟨h1, h2⟩ := rz_at_clr xs i j x h
    exact ⟨by omega, h2⟩
theorem rz_nol_at {y : Option Value} {x : Value} (h : rz_nol y = some x) : y = some x ∧ x.category = 1 := by
  cases y with
  | none => cases h
  | some v => cases v <;> simp_all [rz_nol] <;> subst h <;> rfl
theorem rz_at_set : ∀ (L : rz_L) (i : Nat) (v : Value) (j : Nat) (x : Value), rz_at (rz_set L i v) j = some x → (j = i ∧ x = v) ∨ (j ≠ i ∧ rz_at L j = some x ∧ (j + 1 = i → x.category = 1))
  | [], i, v, j, x, h => by simp [rz_set, rz_at] at h
  | _ :: xs, 0, v, 0, x, h => Or.inl ⟨rfl, by simpa [rz_set, rz_at] using h.symm⟩
  | _ :: xs, 0, v, j + 1, x, h => Or.inr ⟨by omega, h, by omega⟩
  | y :: xs, 1, v, 0, x, h => by
    obtain ⟨h1, h2⟩ := rz_nol_at (show rz_nol y = some x from h)
    exact Or.inr ⟨by omega, h1, fun _ => h2⟩
  | y :: xs, 1, v, j + 1, x, h => by
    rcases rz_at_set xs 0 v j x h with ⟨h1, h2⟩ | ⟨h1, h2, h3⟩
    · exact Or.inl ⟨by omega, h2⟩
    · exact Or.inr ⟨by omega, h2, by omega⟩
  | y :: xs, i + 2, v, 0, x, h => Or.inr ⟨by omega, h, by omega⟩
  | y :: xs, i + 2, v, j + 1, x, h => by
    rcases rz_at_set xs (i + 1) v j x h with ⟨h1, h2⟩ | ⟨h1, h2, h3⟩
    · exact Or.inl ⟨by omega, h2⟩
    · exact Or.inr ⟨by omega, h2, fun q => h3 (by omega)⟩
def rz_l (ls : Array Slot) (nL : Nat) (Lc : rz_L) : Prop := ls.size = nL ∧ lv_wf ls ∧ ∀ i v, rz_at Lc i = some v → ls[i]? = some (.val v)
def rz_lv (Lc : rz_L) : List (Nat × Value) := (List.range Lc.length).filterMap (fun i => (rz_at Lc i).map (fun v => (i, v)))
theorem rz_at_len : ∀ (L : rz_L) (i : Nat) (x : Value), rz_at L i = some x → i < L.length
  | [], i, x, h => by simp [rz_at] at h
  | _ :: xs, 0, x, h => by simp
  | _ :: xs, i + 1, x, h => by have := rz_at_len xs i x h; simp; omega
theorem rz_lv_mem {Lc : rz_L} {i : Nat} {v : Value} : (i, v) ∈ rz_lv Lc ↔ rz_at Lc i = some v := by
  simp only [rz_lv, List.mem_filterMap, List.mem_range, Option.map_eq_some_iff, Prod.mk.injEq]
  constructor
  · rintro ⟨j, -, x, h, rfl, rfl⟩; exact h
  · intro h; exact ⟨i, rz_at_len _ _ _ h, v, h, rfl, rfl⟩
theorem rz_l.has {ls : Array Slot} {nL : Nat} {Lc : rz_L} (h : rz_l ls nL Lc) : lv_has ls nL (rz_lv Lc) := ⟨h.1, h.2.1, fun q hq => h.2.2 q.1 q.2 (rz_lv_mem.mp hq)⟩
theorem rz_l.set1 {ls : Array Slot} {nL i : Nat} {Lc : rz_L} {v : Value} (hc : v.category = 1) (h : lv_has ls nL ((i, v) :: (rz_lv Lc).filter (fun q => !(q.1 == i) && !(q.1 + 1 == i && q.2.category == 2)))) : rz_l ls nL (rz_set Lc i v) := by
  refine ⟨h.1, h.2.1, fun j x hx => ?_⟩
  rcases rz_at_set Lc i v j x hx with ⟨rfl, rfl⟩ | ⟨h1, h2, h3⟩
  · exact h.2.2 (j, x) List.mem_cons_self
  · refine h.2.2 (j, x) (List.mem_cons_of_mem _ (List.mem_filter.mpr ⟨rz_lv_mem.mpr h2, ?_⟩))
    by_cases hj : j + 1 = i
    · simp [h1, h3 hj]
    · simp [h1, hj]
theorem rz_l.set2 {ls : Array Slot} {nL i : Nat} {Lc : rz_L} {v : Value} (h : lv_has ls nL ((i, v) :: (rz_lv Lc).filter (fun q => !(q.1 == i) && (!(q.1 == i + 1) && !(q.1 + 1 == i && q.2.category == 2))))) : rz_l ls nL (rz_clr (rz_set Lc i v) (i + 1)) := by
  refine ⟨h.1, h.2.1, fun j x hx => ?_⟩
  obtain ⟨h0, hx⟩ := rz_at_clr _ _ _ _ hx
  rcases rz_at_set Lc i v j x hx with ⟨rfl, rfl⟩ | ⟨h1, h2, h3⟩
  · exact h.2.2 (j, x) List.mem_cons_self
  · refine h.2.2 (j, x) (List.mem_cons_of_mem _ (List.mem_filter.mpr ⟨rz_lv_mem.mpr h2, ?_⟩))
    by_cases hj : j + 1 = i
    · simp [h1, h0, h3 hj]
    · simp [h1, h0, hj]
def rz_en : List Value → rz_L
  | [] => []
  | v :: vs => if v.category = 2 then some v :: none :: rz_en vs else some v :: rz_en vs
def rz_pad (n : Nat) (L : rz_L) : rz_L := L ++ List.replicate (n - L.length) none
theorem rz_at_app : ∀ (L : rz_L) (k i : Nat) (v : Value), rz_at (L ++ List.replicate k none) i = some v → rz_at L i = some v
  | [], k, i, v, h => by
    exfalso
    revert i
    induction k with
    | zero => intro i h; simp [rz_at] at h
    | succ k ih =>
      intro i h
      cases i with
      | zero => simp [List.replicate_succ, rz_at] at h
      | succ i => exact ih i (by simpa [List.replicate_succ, rz_at] using h)
  | x :: xs, k, 0, v, h => h
  | x :: xs, k, i + 1, v, h => rz_at_app xs k i v h
theorem rz_en_at : ∀ (vs : List Value) (b i : Nat) (v : Value), rz_at (rz_en vs) i = some v → (b + i, v) ∈ lv_args b vs
  | [], b, i, v, h => by simp [rz_en, rz_at] at h
  | u :: vs, b, i, v, h => by
    by_cases hu : u.category = 2
    · simp only [rz_en, hu, if_true] at h
      simp only [lv_args, hu, if_true]
      match i, h with
      | 0, h => simp only [rz_at, Option.some.injEq] at h; subst h; simp
      | 1, h => simp [rz_at] at h
      | i + 2, h =>
        have := rz_en_at vs (b + 2) i v h
        rw [show b + (i + 2) = b + 2 + i by omega]
        exact List.mem_cons_of_mem _ this
    · simp only [rz_en, hu, if_false] at h
      simp only [lv_args, hu, if_false]
      match i, h with
      | 0, h => simp only [rz_at, Option.some.injEq] at h; subst h; simp
      | i + 1, h =>
        have := rz_en_at vs (b + 1) i v h
        rw [show b + (i + 1) = b + 1 + i by omega]
        exact List.mem_cons_of_mem _ this
def rz_rm (d mc ms : Nat) : Room := { frames := d, cells := mc, slots := ms, locals := 40 * d }
def rz_cx (w : rz_w) (M : rz_M) (p : Program) (s : State) (m : MethodId) (args : Array Value) (meth : Method) (c : Code) : Prop :=
  p.tables.exec = Jvm.exec ∧ c.code = M.1 ∧ c.maxLocals = M.2.1 ∧ meth.sig.returnType = M.2.2.1 ∧ meth.locks = false ∧ s.vm.findClass (rz_on M.2.2.2.1) = some m.cls ∧ meth.name = M.2.2.2.2 ∧ (∀ x ∈ rz_tb, x.before args s = true) ∧ rz_K w s ∧ (∀ q, s.heap.size ≤ q → rz_A w q)
def rz_Q (w : rz_w) (Q : Option Value → rz_G → Prop) : Array Value → State → Outcome → State → Prop := fun _ st oc t => (∃ (r : Option Value) (G : rz_G), oc = .returned r ∧ Q r G ∧ rz_K w t ∧ rz_R w G t.heap) ∧ va_F (rz_A w) st t
def rz_T (w : rz_w) (d mc ms : Nat) (M : rz_M) (kc kn pc : Nat) (Lc : rz_L) (S : List Value) (G : rz_G) (Q : Option Value → rz_G → Prop) : Prop :=
  ∀ (p : Program) (l : Launch) (e : Env) (s : State) (m : MethodId) (args : Array Value) (below : List Frame) (meth : Method) (c : Code) (H : Heap) (locs : List Loc) (ls : Array Slot), rz_cx w M p s m args meth c → va_S (rz_A w) s.heap H locs → rz_R w G H → rz_l ls M.2.1 Lc →
    W p l e (rz_rm d mc ms) s m args below meth c H locs kc kn (MQ below (rz_Q w Q) args s mc ms (rz_A w)) (F0 m pc ls S)
def rz_ws (y : MethodName) (M : rz_M) : List Cond := .code y M.1 M.2.1 M.2.2.1 :: rz_tb
def rz_C (w : rz_w) (d mc ms : Nat) (y : MethodName) (M : rz_M) (as : List Value) (G : rz_G) (Q : Option Value → rz_G → Prop) : Prop :=
  ∀ l : Launch, Met l y (rz_ws y M) (rz_rm d mc ms) (va_Pc as (fun U => rz_K w U ∧ rz_R w G U.heap)) (rz_Q w Q) mc ms (rz_A w)
theorem rz_get {w : rz_w} {G : rz_G} {H : Heap} (h : rz_R w G H) {a : Nat} {e : rz_E} (ha : G a = some e) : ∃ (L : List Nat) (k : Nat), a ∈ L ∧ (va_pl L (rz_f w G))[k]? = some (a, rz_e w (some e)) ∧ (∀ b, b ∈ L ↔ G b ≠ none) ∧ va_P w.1 rz_cl (va_pl L (rz_f w G)) H ∧ va_D (rz_A w) (va_pl L (rz_f w G)) := by
  obtain ⟨-, L, hL, hP, hD⟩ := h
  have hm : a ∈ L := (hL a).mpr (by rw [ha]; simp)
  obtain ⟨k, hk⟩ := va_pl_get (X := []) (f := rz_f w G) hm
  refine ⟨L, k, hm, ?_, hL, hP, hD⟩
  have e1 : rz_f w G a = rz_e w (some e) := by simp only [rz_f, ha]
  rw [e1] at hk
  exact hk
theorem rz_set' {w : rz_w} {G : rz_G} {H H1 : Heap} {L : List Nat} {a k : Nat} {e e1 : rz_E} (hsz : w.2.2 ≤ H1.size) (ha : G a = some e) (hm : a ∈ L) (hk : (va_pl L (rz_f w G))[k]? = some (a, rz_e w (some e))) (hL : ∀ b, b ∈ L ↔ G b ≠ none) (hD : va_D (rz_A w) (va_pl L (rz_f w G)))
    (hP1 : va_P w.1 rz_cl ((va_pl L (rz_f w G)).set k (a, rz_e w (some e1))) H1) (hD1 : va_D (rz_A w) ((va_pl L (rz_f w G)).set k (a, rz_e w (some e1)))) : rz_R w (rz_up G a e1) H1 := by
  have hk' : ([] ++ va_pl L (rz_f w G))[k]? = some (a, rz_f w G a) := by
    have e1 : rz_f w G a = rz_e w (some e) := by simp only [rz_f, ha]
    rw [e1]; exact hk
  have hs := va_pl_set (X := []) (e := rz_e w (some e1)) (f := rz_f w G) hD hm hk'
  have hs : (va_pl L (rz_f w G)).set k (a, rz_e w (some e1)) = va_pl L (va_up (rz_f w G) a (rz_e w (some e1))) := hs
  have hf : va_up (rz_f w G) a (rz_e w (some e1)) = rz_f w (rz_up G a e1) := by
    funext b; simp only [va_up, rz_f, rz_up]; split <;> rfl
  rw [hs, hf] at hP1 hD1
  refine ⟨hsz, L, fun b => ?_, hP1, hD1⟩
  rw [hL b]
  simp only [rz_up]
  split
  · next q => subst q; simp [ha]
  · rfl
theorem rz_szS {w : rz_w} {s : State} {H : Heap} {locs : List Loc} (hA : ∀ q, s.heap.size ≤ q → rz_A w q) (hS : va_S (rz_A w) s.heap H locs) : w.2.2 ≤ H.size := Nat.le_trans (hA _ (Nat.le_refl _)) hS.1
section RZ
variable {w : rz_w} {d mc ms : Nat} {M : rz_M} {kc kn pc : Nat} {Lc : rz_L} {S : List Value} {G : rz_G} {Q : Option Value → rz_G → Prop}

theorem rz_iadd {x y : Int32} (hd : decode M.1 pc = .ok (.iadd, 1)) (k : rz_T w d mc ms M kc kn (pc + 1) Lc (.int (x + y) :: S) G Q) : rz_T w d mc ms M kc kn pc Lc (.int y :: .int x :: S) G Q := fun p l e s m args below meth c H locs ls hc hS hR hl => lv_iadd hc.1 hc.2.1 hd (k p l e s m args below meth c H locs ls hc hS hR hl)
theorem rz_isub {x y : Int32} (hd : decode M.1 pc = .ok (.isub, 1)) (k : rz_T w d mc ms M kc kn (pc + 1) Lc (.int (x - y) :: S) G Q) : rz_T w d mc ms M kc kn pc Lc (.int y :: .int x :: S) G Q := fun p l e s m args below meth c H locs ls hc hS hR hl => lv_isub hc.1 hc.2.1 hd (k p l e s m args below meth c H locs ls hc hS hR hl)
theorem rz_imul {x y : Int32} (hd : decode M.1 pc = .ok (.imul, 1)) (k : rz_T w d mc ms M kc kn (pc + 1) Lc (.int (x * y) :: S) G Q) : rz_T w d mc ms M kc kn pc Lc (.int y :: .int x :: S) G Q := fun p l e s m args below meth c H locs ls hc hS hR hl => lv_imul hc.1 hc.2.1 hd (k p l e s m args below meth c H locs ls hc hS hR hl)
theorem rz_iand {x y : Int32} (hd : decode M.1 pc = .ok (.iand, 1)) (k : rz_T w d mc ms M kc kn (pc + 1) Lc (.int (x &&& y) :: S) G Q) : rz_T w d mc ms M kc kn pc Lc (.int y :: .int x :: S) G Q := fun p l e s m args below meth c H locs ls hc hS hR hl => lv_iand hc.1 hc.2.1 hd (k p l e s m args below meth c H locs ls hc hS hR hl)
theorem rz_ior {x y : Int32} (hd : decode M.1 pc = .ok (.ior, 1)) (k : rz_T w d mc ms M kc kn (pc + 1) Lc (.int (x ||| y) :: S) G Q) : rz_T w d mc ms M kc kn pc Lc (.int y :: .int x :: S) G Q := fun p l e s m args below meth c H locs ls hc hS hR hl => lv_ior hc.1 hc.2.1 hd (k p l e s m args below meth c H locs ls hc hS hR hl)
theorem rz_ixor {x y : Int32} (hd : decode M.1 pc = .ok (.ixor, 1)) (k : rz_T w d mc ms M kc kn (pc + 1) Lc (.int (x ^^^ y) :: S) G Q) : rz_T w d mc ms M kc kn pc Lc (.int y :: .int x :: S) G Q := fun p l e s m args below meth c H locs ls hc hS hR hl => lv_ixor hc.1 hc.2.1 hd (k p l e s m args below meth c H locs ls hc hS hR hl)
theorem rz_ishl {x y : Int32} (hd : decode M.1 pc = .ok (.ishl, 1)) (k : rz_T w d mc ms M kc kn (pc + 1) Lc (.int (x <<< (y &&& 31)) :: S) G Q) : rz_T w d mc ms M kc kn pc Lc (.int y :: .int x :: S) G Q := fun p l e s m args below meth c H locs ls hc hS hR hl => lv_ishl hc.1 hc.2.1 hd (k p l e s m args below meth c H locs ls hc hS hR hl)
theorem rz_ishr {x y : Int32} (hd : decode M.1 pc = .ok (.ishr, 1)) (k : rz_T w d mc ms M kc kn (pc + 1) Lc (.int (x >>> (y &&& 31)) :: S) G Q) : rz_T w d mc ms M kc kn pc Lc (.int y :: .int x :: S) G Q := fun p l e s m args below meth c H locs ls hc hS hR hl => lv_ishr hc.1 hc.2.1 hd (k p l e s m args below meth c H locs ls hc hS hR hl)
theorem rz_idiv {x y : Int32} (hd : decode M.1 pc = .ok (.idiv, 1)) (h0 : ¬ y = 0) (k : rz_T w d mc ms M kc kn (pc + 1) Lc (.int (x / y) :: S) G Q) : rz_T w d mc ms M kc kn pc Lc (.int y :: .int x :: S) G Q := fun p l e s m args below meth c H locs ls hc hS hR hl => lv_idiv hc.1 hc.2.1 hd h0 (k p l e s m args below meth c H locs ls hc hS hR hl)
theorem rz_irem {x y : Int32} (hd : decode M.1 pc = .ok (.irem, 1)) (h0 : ¬ y = 0) (k : rz_T w d mc ms M kc kn (pc + 1) Lc (.int (x - x / y * y) :: S) G Q) : rz_T w d mc ms M kc kn pc Lc (.int y :: .int x :: S) G Q := fun p l e s m args below meth c H locs ls hc hS hR hl => lv_irem hc.1 hc.2.1 hd h0 (k p l e s m args below meth c H locs ls hc hS hR hl)
theorem rz_iushr {x y : Int32} (hd : decode M.1 pc = .ok (.iushr, 1)) (k : rz_T w d mc ms M kc kn (pc + 1) Lc (.int ((x.toUInt32 >>> (y.toUInt32 &&& Int32.toUInt32 31)).toInt32) :: S) G Q) : rz_T w d mc ms M kc kn pc Lc (.int y :: .int x :: S) G Q := fun p l e s m args below meth c H locs ls hc hS hR hl => lv_iushr hc.1 hc.2.1 hd rfl (k p l e s m args below meth c H locs ls hc hS hR hl)
theorem rz_ineg {x : Int32} (hd : decode M.1 pc = .ok (.ineg, 1)) (k : rz_T w d mc ms M kc kn (pc + 1) Lc (.int (-x) :: S) G Q) : rz_T w d mc ms M kc kn pc Lc (.int x :: S) G Q := fun p l e s m args below meth c H locs ls hc hS hR hl => lv_ineg hc.1 hc.2.1 hd (k p l e s m args below meth c H locs ls hc hS hR hl)
theorem rz_ladd {x y : Int64} (hd : decode M.1 pc = .ok (.ladd, 1)) (k : rz_T w d mc ms M kc kn (pc + 1) Lc (.long (x + y) :: S) G Q) : rz_T w d mc ms M kc kn pc Lc (.long y :: .long x :: S) G Q := fun p l e s m args below meth c H locs ls hc hS hR hl => lv_ladd hc.1 hc.2.1 hd (k p l e s m args below meth c H locs ls hc hS hR hl)
theorem rz_lsub {x y : Int64} (hd : decode M.1 pc = .ok (.lsub, 1)) (k : rz_T w d mc ms M kc kn (pc + 1) Lc (.long (x - y) :: S) G Q) : rz_T w d mc ms M kc kn pc Lc (.long y :: .long x :: S) G Q := fun p l e s m args below meth c H locs ls hc hS hR hl => lv_lsub hc.1 hc.2.1 hd (k p l e s m args below meth c H locs ls hc hS hR hl)
theorem rz_lmul {x y : Int64} (hd : decode M.1 pc = .ok (.lmul, 1)) (k : rz_T w d mc ms M kc kn (pc + 1) Lc (.long (x * y) :: S) G Q) : rz_T w d mc ms M kc kn pc Lc (.long y :: .long x :: S) G Q := fun p l e s m args below meth c H locs ls hc hS hR hl => lv_lmul hc.1 hc.2.1 hd (k p l e s m args below meth c H locs ls hc hS hR hl)
theorem rz_land {x y : Int64} (hd : decode M.1 pc = .ok (.land, 1)) (k : rz_T w d mc ms M kc kn (pc + 1) Lc (.long (x &&& y) :: S) G Q) : rz_T w d mc ms M kc kn pc Lc (.long y :: .long x :: S) G Q := fun p l e s m args below meth c H locs ls hc hS hR hl => lv_land hc.1 hc.2.1 hd (k p l e s m args below meth c H locs ls hc hS hR hl)
theorem rz_lor {x y : Int64} (hd : decode M.1 pc = .ok (.lor, 1)) (k : rz_T w d mc ms M kc kn (pc + 1) Lc (.long (x ||| y) :: S) G Q) : rz_T w d mc ms M kc kn pc Lc (.long y :: .long x :: S) G Q := fun p l e s m args below meth c H locs ls hc hS hR hl => lv_lor hc.1 hc.2.1 hd (k p l e s m args below meth c H locs ls hc hS hR hl)
theorem rz_lxor {x y : Int64} (hd : decode M.1 pc = .ok (.lxor, 1)) (k : rz_T w d mc ms M kc kn (pc + 1) Lc (.long (x ^^^ y) :: S) G Q) : rz_T w d mc ms M kc kn pc Lc (.long y :: .long x :: S) G Q := fun p l e s m args below meth c H locs ls hc hS hR hl => lv_lxor hc.1 hc.2.1 hd (k p l e s m args below meth c H locs ls hc hS hR hl)
theorem rz_lshl {x : Int64} {y : Int32} (hd : decode M.1 pc = .ok (.lshl, 1)) (k : rz_T w d mc ms M kc kn (pc + 1) Lc (.long (x <<< (y.toInt64 &&& 63)) :: S) G Q) : rz_T w d mc ms M kc kn pc Lc (.int y :: .long x :: S) G Q := fun p l e s m args below meth c H locs ls hc hS hR hl => lv_lshl hc.1 hc.2.1 hd rfl (k p l e s m args below meth c H locs ls hc hS hR hl)
theorem rz_lushr {x : Int64} {y : Int32} (hd : decode M.1 pc = .ok (.lushr, 1)) (k : rz_T w d mc ms M kc kn (pc + 1) Lc (.long ((x.toUInt64 >>> (y.toInt64.toUInt64 &&& Int64.toUInt64 63)).toInt64) :: S) G Q) : rz_T w d mc ms M kc kn pc Lc (.int y :: .long x :: S) G Q := fun p l e s m args below meth c H locs ls hc hS hR hl => lv_lushr hc.1 hc.2.1 hd rfl (k p l e s m args below meth c H locs ls hc hS hR hl)
theorem rz_lcmp {x y : Int64} (hd : decode M.1 pc = .ok (.lcmp, 1)) (k : rz_T w d mc ms M kc kn (pc + 1) Lc (.int (lg_cmp x y) :: S) G Q) : rz_T w d mc ms M kc kn pc Lc (.long y :: .long x :: S) G Q := fun p l e s m args below meth c H locs ls hc hS hR hl => W.lcmp hc.1 hc.2.1 hd (k p l e s m args below meth c H locs ls hc hS hR hl)
theorem rz_i2l {x : Int32} (hd : decode M.1 pc = .ok (.i2l, 1)) (k : rz_T w d mc ms M kc kn (pc + 1) Lc (.long (x.toInt64) :: S) G Q) : rz_T w d mc ms M kc kn pc Lc (.int x :: S) G Q := fun p l e s m args below meth c H locs ls hc hS hR hl => lv_i2l hc.1 hc.2.1 hd rfl (k p l e s m args below meth c H locs ls hc hS hR hl)
theorem rz_l2i {x : Int64} (hd : decode M.1 pc = .ok (.l2i, 1)) (k : rz_T w d mc ms M kc kn (pc + 1) Lc (.int (x.toInt32) :: S) G Q) : rz_T w d mc ms M kc kn pc Lc (.long x :: S) G Q := fun p l e s m args below meth c H locs ls hc hS hR hl => lv_l2i hc.1 hc.2.1 hd rfl (k p l e s m args below meth c H locs ls hc hS hR hl)
theorem rz_i2b {x : Int32} (hd : decode M.1 pc = .ok (.i2b, 1)) (k : rz_T w d mc ms M kc kn (pc + 1) Lc (.int (x.toInt8.toInt32) :: S) G Q) : rz_T w d mc ms M kc kn pc Lc (.int x :: S) G Q := fun p l e s m args below meth c H locs ls hc hS hR hl => lv_i2b hc.1 hc.2.1 hd rfl (k p l e s m args below meth c H locs ls hc hS hR hl)
theorem rz_iconst {n : Int} (hd : decode M.1 pc = .ok (.iconst n, 1)) (k : rz_T w d mc ms M kc kn (pc + 1) Lc (.int (Int32.ofInt n) :: S) G Q) : rz_T w d mc ms M kc kn pc Lc S G Q := fun p l e s m args below meth c H locs ls hc hS hR hl => lv_iconst hc.1 hc.2.1 hd rfl (k p l e s m args below meth c H locs ls hc hS hR hl)
theorem rz_bipush {n : Int} (hd : decode M.1 pc = .ok (.bipush n, 2)) (k : rz_T w d mc ms M kc kn (pc + 2) Lc (.int ((Int8.ofInt n).toInt32) :: S) G Q) : rz_T w d mc ms M kc kn pc Lc S G Q := fun p l e s m args below meth c H locs ls hc hS hR hl => lv_bipush hc.1 hc.2.1 hd rfl (k p l e s m args below meth c H locs ls hc hS hR hl)
theorem rz_sipush {n : Int} (hd : decode M.1 pc = .ok (.sipush n, 3)) (k : rz_T w d mc ms M kc kn (pc + 3) Lc (.int ((Int16.ofInt n).toInt32) :: S) G Q) : rz_T w d mc ms M kc kn pc Lc S G Q := fun p l e s m args below meth c H locs ls hc hS hR hl => lv_sipush hc.1 hc.2.1 hd rfl (k p l e s m args below meth c H locs ls hc hS hR hl)
theorem rz_lconst {n : Fin 2} (hd : decode M.1 pc = .ok (.lconst n, 1)) (k : rz_T w d mc ms M kc kn (pc + 1) Lc (.long (Int64.ofNat (n : Nat)) :: S) G Q) : rz_T w d mc ms M kc kn pc Lc S G Q := fun p l e s m args below meth c H locs ls hc hS hR hl => lv_lconst hc.1 hc.2.1 hd rfl (k p l e s m args below meth c H locs ls hc hS hR hl)
theorem rz_iload_n {j : Fin 4} {x : Int32} (hd : decode M.1 pc = .ok (.iload_n j, 1)) (h : rz_at Lc j = some (.int x)) (k : rz_T w d mc ms M kc kn (pc + 1) Lc (.int x :: S) G Q) : rz_T w d mc ms M kc kn pc Lc S G Q := fun p l e s m args below meth c H locs ls hc hS hR hl => lv_iload_n hc.1 hc.2.1 hd rfl (hl.2.2 _ _ h) (k p l e s m args below meth c H locs ls hc hS hR hl)
theorem rz_iload {j : Nat} {x : Int32} (hd : decode M.1 pc = .ok (.iload j, 2)) (h : rz_at Lc j = some (.int x)) (k : rz_T w d mc ms M kc kn (pc + 2) Lc (.int x :: S) G Q) : rz_T w d mc ms M kc kn pc Lc S G Q := fun p l e s m args below meth c H locs ls hc hS hR hl => lv_iload hc.1 hc.2.1 hd (hl.2.2 _ _ h) (k p l e s m args below meth c H locs ls hc hS hR hl)
theorem rz_lload_n {j : Fin 4} {x : Int64} (hd : decode M.1 pc = .ok (.lload_n j, 1)) (h : rz_at Lc j = some (.long x)) (k : rz_T w d mc ms M kc kn (pc + 1) Lc (.long x :: S) G Q) : rz_T w d mc ms M kc kn pc Lc S G Q := fun p l e s m args below meth c H locs ls hc hS hR hl => lv_lload_n hc.1 hc.2.1 hd rfl (hl.2.2 _ _ h) (k p l e s m args below meth c H locs ls hc hS hR hl)
theorem rz_lload {j : Nat} {x : Int64} (hd : decode M.1 pc = .ok (.lload j, 2)) (h : rz_at Lc j = some (.long x)) (k : rz_T w d mc ms M kc kn (pc + 2) Lc (.long x :: S) G Q) : rz_T w d mc ms M kc kn pc Lc S G Q := fun p l e s m args below meth c H locs ls hc hS hR hl => lv_lload hc.1 hc.2.1 hd (hl.2.2 _ _ h) (k p l e s m args below meth c H locs ls hc hS hR hl)
theorem rz_aload_n {j : Fin 4} {x : Nat} (hd : decode M.1 pc = .ok (.aload_n j, 1)) (h : rz_at Lc j = some (.ref x)) (k : rz_T w d mc ms M kc kn (pc + 1) Lc (.ref x :: S) G Q) : rz_T w d mc ms M kc kn pc Lc S G Q := fun p l e s m args below meth c H locs ls hc hS hR hl => lv_aload_n hc.1 hc.2.1 hd rfl (hl.2.2 _ _ h) (k p l e s m args below meth c H locs ls hc hS hR hl)
theorem rz_aload {j : Nat} {x : Nat} (hd : decode M.1 pc = .ok (.aload j, 2)) (h : rz_at Lc j = some (.ref x)) (k : rz_T w d mc ms M kc kn (pc + 2) Lc (.ref x :: S) G Q) : rz_T w d mc ms M kc kn pc Lc S G Q := fun p l e s m args below meth c H locs ls hc hS hR hl => lv_aload hc.1 hc.2.1 hd (hl.2.2 _ _ h) (k p l e s m args below meth c H locs ls hc hS hR hl)
theorem rz_istore_n {j : Fin 4} {x : Int32} (hd : decode M.1 pc = .ok (.istore_n j, 1)) (h : (j : Nat) < M.2.1) (k : rz_T w d mc ms M kc kn (pc + 1) (rz_set Lc j (.int x)) S G Q) : rz_T w d mc ms M kc kn pc Lc (.int x :: S) G Q := fun p l e s m args below meth c H locs ls hc hS hR hl => lv_istore_n hc.1 hc.2.1 hd rfl hl.has h rfl (fun ls hl => k p l e s m args below meth c H locs ls hc hS hR (rz_l.set1 rfl hl))
theorem rz_istore {j : Nat} {x : Int32} (hd : decode M.1 pc = .ok (.istore j, 2)) (h : j < M.2.1) (k : rz_T w d mc ms M kc kn (pc + 2) (rz_set Lc j (.int x)) S G Q) : rz_T w d mc ms M kc kn pc Lc (.int x :: S) G Q := fun p l e s m args below meth c H locs ls hc hS hR hl => lv_istore hc.1 hc.2.1 hd hl.has h rfl (fun ls hl => k p l e s m args below meth c H locs ls hc hS hR (rz_l.set1 rfl hl))
theorem rz_astore_n {j : Fin 4} {x : Nat} (hd : decode M.1 pc = .ok (.astore_n j, 1)) (h : (j : Nat) < M.2.1) (k : rz_T w d mc ms M kc kn (pc + 1) (rz_set Lc j (.ref x)) S G Q) : rz_T w d mc ms M kc kn pc Lc (.ref x :: S) G Q := fun p l e s m args below meth c H locs ls hc hS hR hl => lv_astore_n hc.1 hc.2.1 hd rfl hl.has h rfl (fun ls hl => k p l e s m args below meth c H locs ls hc hS hR (rz_l.set1 rfl hl))
theorem rz_astore {j : Nat} {x : Nat} (hd : decode M.1 pc = .ok (.astore j, 2)) (h : j < M.2.1) (k : rz_T w d mc ms M kc kn (pc + 2) (rz_set Lc j (.ref x)) S G Q) : rz_T w d mc ms M kc kn pc Lc (.ref x :: S) G Q := fun p l e s m args below meth c H locs ls hc hS hR hl => lv_astore hc.1 hc.2.1 hd hl.has h rfl (fun ls hl => k p l e s m args below meth c H locs ls hc hS hR (rz_l.set1 rfl hl))
theorem rz_lstore_n {j : Fin 4} {x : Int64} (hd : decode M.1 pc = .ok (.lstore_n j, 1)) (h : (j : Nat) + 1 < M.2.1) (k : rz_T w d mc ms M kc kn (pc + 1) (rz_clr (rz_set Lc j (.long x)) (j + 1)) S G Q) : rz_T w d mc ms M kc kn pc Lc (.long x :: S) G Q := fun p l e s m args below meth c H locs ls hc hS hR hl => lv_lstore_n hc.1 hc.2.1 hd rfl hl.has h rfl (fun ls hl => k p l e s m args below meth c H locs ls hc hS hR (rz_l.set2 hl))
theorem rz_lstore {j : Nat} {x : Int64} (hd : decode M.1 pc = .ok (.lstore j, 2)) (h : j + 1 < M.2.1) (k : rz_T w d mc ms M kc kn (pc + 2) (rz_clr (rz_set Lc j (.long x)) (j + 1)) S G Q) : rz_T w d mc ms M kc kn pc Lc (.long x :: S) G Q := fun p l e s m args below meth c H locs ls hc hS hR hl => lv_lstore hc.1 hc.2.1 hd hl.has h rfl (fun ls hl => k p l e s m args below meth c H locs ls hc hS hR (rz_l.set2 hl))
theorem rz_iinc {j : Nat} {n : Int} {x : Int32} (hd : decode M.1 pc = .ok (.iinc j n, 3)) (h : j < M.2.1) (hx : rz_at Lc j = some (.int x)) (k : rz_T w d mc ms M kc kn (pc + 3) (rz_set Lc j (.int (x + Int32.ofInt n))) S G Q) : rz_T w d mc ms M kc kn pc Lc S G Q := by
  intro p l e s m args below meth c H locs ls hc hS hR hl
  obtain ⟨i, hi⟩ := List.getElem?_of_mem (rz_lv_mem.mpr hx)
  exact lv_iinc hc.1 hc.2.1 hd hl.has hi rfl h rfl (fun ls hl => k p l e s m args below meth c H locs ls hc hS hR (rz_l.set1 rfl hl))
theorem rz_dup {v : Value} (hd : decode M.1 pc = .ok (.dup, 1)) (h : v.category = 1) (k : rz_T w d mc ms M kc kn (pc + 1) Lc (v :: v :: S) G Q) : rz_T w d mc ms M kc kn pc Lc (v :: S) G Q := fun p l e s m args below meth c H locs ls hc hS hR hl => lv_dup hc.1 hc.2.1 hd h (k p l e s m args below meth c H locs ls hc hS hR hl)
theorem rz_pop {v : Value} (hd : decode M.1 pc = .ok (.pop, 1)) (h : v.category = 1) (k : rz_T w d mc ms M kc kn (pc + 1) Lc S G Q) : rz_T w d mc ms M kc kn pc Lc (v :: S) G Q := fun p l e s m args below meth c H locs ls hc hS hR hl => lv_pop hc.1 hc.2.1 hd h (k p l e s m args below meth c H locs ls hc hS hR hl)
theorem rz_dup2 {v u : Value} (hd : decode M.1 pc = .ok (.dup2, 1)) (h : v.category = 1) (h2 : u.category = 1) (k : rz_T w d mc ms M kc kn (pc + 1) Lc (v :: u :: v :: u :: S) G Q) : rz_T w d mc ms M kc kn pc Lc (v :: u :: S) G Q := fun p l e s m args below meth c H locs ls hc hS hR hl => lv_dup2_11 hc.1 hc.2.1 hd h h2 (k p l e s m args below meth c H locs ls hc hS hR hl)
theorem rz_if_eq {x : Int32} {off : Int} {t : Nat} (hd : decode M.1 pc = .ok (.ifCond .eq off, 3)) (ht : (pc : Int) + off = (t : Int)) (k1 : x = 0 → rz_T w d mc ms M kc kn t Lc S G Q) (k2 : ¬ x = 0 → rz_T w d mc ms M kc kn (pc + 3) Lc S G Q) : rz_T w d mc ms M kc kn pc Lc (.int x :: S) G Q := fun p l e s m args below meth c H locs ls hc hS hR hl => lv_if_eq hc.1 hc.2.1 hd ht (fun q => k1 q p l e s m args below meth c H locs ls hc hS hR hl) (fun q => k2 q p l e s m args below meth c H locs ls hc hS hR hl)
theorem rz_if_ne {x : Int32} {off : Int} {t : Nat} (hd : decode M.1 pc = .ok (.ifCond .ne off, 3)) (ht : (pc : Int) + off = (t : Int)) (k1 : ¬ x = 0 → rz_T w d mc ms M kc kn t Lc S G Q) (k2 : x = 0 → rz_T w d mc ms M kc kn (pc + 3) Lc S G Q) : rz_T w d mc ms M kc kn pc Lc (.int x :: S) G Q := fun p l e s m args below meth c H locs ls hc hS hR hl => lv_if_ne hc.1 hc.2.1 hd ht (fun q => k1 q p l e s m args below meth c H locs ls hc hS hR hl) (fun q => k2 q p l e s m args below meth c H locs ls hc hS hR hl)
theorem rz_if_lt {x : Int32} {off : Int} {t : Nat} (hd : decode M.1 pc = .ok (.ifCond .lt off, 3)) (ht : (pc : Int) + off = (t : Int)) (k1 : x < 0 → rz_T w d mc ms M kc kn t Lc S G Q) (k2 : ¬ x < 0 → rz_T w d mc ms M kc kn (pc + 3) Lc S G Q) : rz_T w d mc ms M kc kn pc Lc (.int x :: S) G Q := fun p l e s m args below meth c H locs ls hc hS hR hl => lv_if_lt hc.1 hc.2.1 hd ht (fun q => k1 q p l e s m args below meth c H locs ls hc hS hR hl) (fun q => k2 q p l e s m args below meth c H locs ls hc hS hR hl)
theorem rz_if_ge {x : Int32} {off : Int} {t : Nat} (hd : decode M.1 pc = .ok (.ifCond .ge off, 3)) (ht : (pc : Int) + off = (t : Int)) (k1 : 0 ≤ x → rz_T w d mc ms M kc kn t Lc S G Q) (k2 : ¬ 0 ≤ x → rz_T w d mc ms M kc kn (pc + 3) Lc S G Q) : rz_T w d mc ms M kc kn pc Lc (.int x :: S) G Q := fun p l e s m args below meth c H locs ls hc hS hR hl => lv_if_ge hc.1 hc.2.1 hd ht (fun q => k1 q p l e s m args below meth c H locs ls hc hS hR hl) (fun q => k2 q p l e s m args below meth c H locs ls hc hS hR hl)
theorem rz_if_gt {x : Int32} {off : Int} {t : Nat} (hd : decode M.1 pc = .ok (.ifCond .gt off, 3)) (ht : (pc : Int) + off = (t : Int)) (k1 : 0 < x → rz_T w d mc ms M kc kn t Lc S G Q) (k2 : ¬ 0 < x → rz_T w d mc ms M kc kn (pc + 3) Lc S G Q) : rz_T w d mc ms M kc kn pc Lc (.int x :: S) G Q := fun p l e s m args below meth c H locs ls hc hS hR hl => lv_if_gt hc.1 hc.2.1 hd ht (fun q => k1 q p l e s m args below meth c H locs ls hc hS hR hl) (fun q => k2 q p l e s m args below meth c H locs ls hc hS hR hl)
theorem rz_if_le {x : Int32} {off : Int} {t : Nat} (hd : decode M.1 pc = .ok (.ifCond .le off, 3)) (ht : (pc : Int) + off = (t : Int)) (k1 : x ≤ 0 → rz_T w d mc ms M kc kn t Lc S G Q) (k2 : ¬ x ≤ 0 → rz_T w d mc ms M kc kn (pc + 3) Lc S G Q) : rz_T w d mc ms M kc kn pc Lc (.int x :: S) G Q := fun p l e s m args below meth c H locs ls hc hS hR hl => lv_if_le hc.1 hc.2.1 hd ht (fun q => k1 q p l e s m args below meth c H locs ls hc hS hR hl) (fun q => k2 q p l e s m args below meth c H locs ls hc hS hR hl)
theorem rz_icmp_eq {x y : Int32} {off : Int} {t : Nat} (hd : decode M.1 pc = .ok (.if_icmp .eq off, 3)) (ht : (pc : Int) + off = (t : Int)) (k1 : x = y → rz_T w d mc ms M kc kn t Lc S G Q) (k2 : ¬ x = y → rz_T w d mc ms M kc kn (pc + 3) Lc S G Q) : rz_T w d mc ms M kc kn pc Lc (.int y :: .int x :: S) G Q := fun p l e s m args below meth c H locs ls hc hS hR hl => lv_icmp_eq hc.1 hc.2.1 hd ht (fun q => k1 q p l e s m args below meth c H locs ls hc hS hR hl) (fun q => k2 q p l e s m args below meth c H locs ls hc hS hR hl)
theorem rz_icmp_ne {x y : Int32} {off : Int} {t : Nat} (hd : decode M.1 pc = .ok (.if_icmp .ne off, 3)) (ht : (pc : Int) + off = (t : Int)) (k1 : ¬ x = y → rz_T w d mc ms M kc kn t Lc S G Q) (k2 : x = y → rz_T w d mc ms M kc kn (pc + 3) Lc S G Q) : rz_T w d mc ms M kc kn pc Lc (.int y :: .int x :: S) G Q := fun p l e s m args below meth c H locs ls hc hS hR hl => lv_icmp_ne hc.1 hc.2.1 hd ht (fun q => k1 q p l e s m args below meth c H locs ls hc hS hR hl) (fun q => k2 q p l e s m args below meth c H locs ls hc hS hR hl)
theorem rz_icmp_lt {x y : Int32} {off : Int} {t : Nat} (hd : decode M.1 pc = .ok (.if_icmp .lt off, 3)) (ht : (pc : Int) + off = (t : Int)) (k1 : x < y → rz_T w d mc ms M kc kn t Lc S G Q) (k2 : ¬ x < y → rz_T w d mc ms M kc kn (pc + 3) Lc S G Q) : rz_T w d mc ms M kc kn pc Lc (.int y :: .int x :: S) G Q := fun p l e s m args below meth c H locs ls hc hS hR hl => lv_icmp_lt hc.1 hc.2.1 hd ht (fun q => k1 q p l e s m args below meth c H locs ls hc hS hR hl) (fun q => k2 q p l e s m args below meth c H locs ls hc hS hR hl)
theorem rz_icmp_ge {x y : Int32} {off : Int} {t : Nat} (hd : decode M.1 pc = .ok (.if_icmp .ge off, 3)) (ht : (pc : Int) + off = (t : Int)) (k1 : y ≤ x → rz_T w d mc ms M kc kn t Lc S G Q) (k2 : ¬ y ≤ x → rz_T w d mc ms M kc kn (pc + 3) Lc S G Q) : rz_T w d mc ms M kc kn pc Lc (.int y :: .int x :: S) G Q := fun p l e s m args below meth c H locs ls hc hS hR hl => lv_icmp_ge hc.1 hc.2.1 hd ht (fun q => k1 q p l e s m args below meth c H locs ls hc hS hR hl) (fun q => k2 q p l e s m args below meth c H locs ls hc hS hR hl)
theorem rz_icmp_gt {x y : Int32} {off : Int} {t : Nat} (hd : decode M.1 pc = .ok (.if_icmp .gt off, 3)) (ht : (pc : Int) + off = (t : Int)) (k1 : y < x → rz_T w d mc ms M kc kn t Lc S G Q) (k2 : ¬ y < x → rz_T w d mc ms M kc kn (pc + 3) Lc S G Q) : rz_T w d mc ms M kc kn pc Lc (.int y :: .int x :: S) G Q := fun p l e s m args below meth c H locs ls hc hS hR hl => lv_icmp_gt hc.1 hc.2.1 hd ht (fun q => k1 q p l e s m args below meth c H locs ls hc hS hR hl) (fun q => k2 q p l e s m args below meth c H locs ls hc hS hR hl)
theorem rz_icmp_le {x y : Int32} {off : Int} {t : Nat} (hd : decode M.1 pc = .ok (.if_icmp .le off, 3)) (ht : (pc : Int) + off = (t : Int)) (k1 : x ≤ y → rz_T w d mc ms M kc kn t Lc S G Q) (k2 : ¬ x ≤ y → rz_T w d mc ms M kc kn (pc + 3) Lc S G Q) : rz_T w d mc ms M kc kn pc Lc (.int y :: .int x :: S) G Q := fun p l e s m args below meth c H locs ls hc hS hR hl => lv_icmp_le hc.1 hc.2.1 hd ht (fun q => k1 q p l e s m args below meth c H locs ls hc hS hR hl) (fun q => k2 q p l e s m args below meth c H locs ls hc hS hR hl)
theorem rz_goto {off : Int} {t : Nat} (hd : decode M.1 pc = .ok (.goto off, 3)) (ht : (pc : Int) + off = (t : Int)) (k : rz_T w d mc ms M kc kn t Lc S G Q) : rz_T w d mc ms M kc kn pc Lc S G Q := fun p l e s m args below meth c H locs ls hc hS hR hl => lv_goto hc.1 hc.2.1 hd ht (k p l e s m args below meth c H locs ls hc hS hR hl)
theorem rz_ireturn {v : Int32} {ty : FieldType} (hd : decode M.1 pc = .ok (.ireturn, 1)) (hr : M.2.2.1 = some ty) (hn : narrow ty (.int v) = .int v) (hk : kc ≤ mc) (hk2 : kn ≤ ms) (hq : Q (some (.int v)) G) : rz_T w d mc ms M kc kn pc Lc [.int v] G Q := fun p l e s m args below meth c H locs ls hc hS hR hl => W.widen hk hk2 (W.zret (v := v) hc.1 hc.2.1 (hc.2.2.2.1.trans hr) hn (fun t ht hW => ⟨⟨some (.int v), G, rfl, hq, hc.2.2.2.2.2.2.2.2.1.warm hW, by rw [ht]; exact hR⟩, hS.F ht⟩) hS.2.2 hd hc.2.2.2.2.1)
theorem rz_return (hd : decode M.1 pc = .ok (.return_, 1)) (hr : M.2.2.1 = none) (hk : kc ≤ mc) (hk2 : kn ≤ ms) (hq : Q none G) : rz_T w d mc ms M kc kn pc Lc [] G Q := fun p l e s m args below meth c H locs ls hc hS hR hl => W.widen hk hk2 (W.vret hc.1 hc.2.1 (hc.2.2.2.1.trans hr) (fun t ht hW => ⟨⟨none, G, rfl, hq, hc.2.2.2.2.2.2.2.2.1.warm hW, by rw [ht]; exact hR⟩, hS.F ht⟩) hS.2.2 hd hc.2.2.2.2.1)
theorem rz_areturn {a : Nat} {n : String} (hd : decode M.1 pc = .ok (.areturn, 1)) (hr : M.2.2.1 = some (.object n)) (hk : kc ≤ mc) (hk2 : kn ≤ ms) (hq : Q (some (.ref a)) G) : rz_T w d mc ms M kc kn pc Lc [.ref a] G Q := fun p l e s m args below meth c H locs ls hc hS hR hl => W.widen hk hk2 (W.aret (v := .ref a) hc.1 hc.2.1 (hc.2.2.2.1.trans hr) (Or.inl ⟨n, rfl⟩) (Or.inr ⟨a, rfl⟩) (fun t ht hW => ⟨⟨some (.ref a), G, rfl, hq, hc.2.2.2.2.2.2.2.2.1.warm hW, by rw [ht]; exact hR⟩, hS.F ht⟩) hS.2.2 hd hc.2.2.2.2.1)
theorem rz_iaload {a n : Nat} {f : Nat → Int32} {i : Int32} (hd : decode M.1 pc = .ok (.iaload, 1)) (hG : G a = some (.inl (0, n, .inl f))) (hi : vp_in i n) (k : rz_T w d mc ms M kc kn (pc + 1) Lc (.int (f i.toNatClampNeg) :: S) G Q) : rz_T w d mc ms M kc kn pc Lc (.int i :: .ref a :: S) G Q := by
  intro p l e s m args below meth c H locs ls hc hS hR hl
  obtain ⟨L, q, hm, hq, hL, hP, hD⟩ := rz_get hR hG
  exact va_iald hc.1 hc.2.1 hc.2.2.2.2.2.2.2.2.1.1 hP q 0 hq rfl hi hd (k p l e s m args below meth c H locs ls hc hS hR hl)
theorem rz_laload {a n : Nat} {f : Nat → Int64} {i : Int32} (hd : decode M.1 pc = .ok (.laload, 1)) (hG : G a = some (.inl (1, n, .inr (.inl f)))) (hi : vp_in i n) (k : rz_T w d mc ms M kc kn (pc + 1) Lc (.long (f i.toNatClampNeg) :: S) G Q) : rz_T w d mc ms M kc kn pc Lc (.int i :: .ref a :: S) G Q := by
  intro p l e s m args below meth c H locs ls hc hS hR hl
  obtain ⟨L, q, hm, hq, hL, hP, hD⟩ := rz_get hR hG
  exact va_lald hc.1 hc.2.1 hc.2.2.2.2.2.2.2.2.1.1 hP q 1 hq rfl hi hd (k p l e s m args below meth c H locs ls hc hS hR hl)
theorem rz_baload {a n : Nat} {f : Nat → Int32} {i : Int32} (hd : decode M.1 pc = .ok (.baload, 1)) (hG : G a = some (.inl (2, n, .inl f))) (hi : vp_in i n) (k : rz_T w d mc ms M kc kn (pc + 1) Lc (.int (f i.toNatClampNeg) :: S) G Q) : rz_T w d mc ms M kc kn pc Lc (.int i :: .ref a :: S) G Q := by
  intro p l e s m args below meth c H locs ls hc hS hR hl
  obtain ⟨L, q, hm, hq, hL, hP, hD⟩ := rz_get hR hG
  exact va_bald hc.1 hc.2.1 hc.2.2.2.2.2.2.2.2.1.1 hP q 2 hq rfl hi hd (k p l e s m args below meth c H locs ls hc hS hR hl)
theorem rz_zaload {a n : Nat} {f : Nat → Int32} {i : Int32} (hd : decode M.1 pc = .ok (.baload, 1)) (hG : G a = some (.inl (3, n, .inl f))) (hi : vp_in i n) (k : rz_T w d mc ms M kc kn (pc + 1) Lc (.int (f i.toNatClampNeg) :: S) G Q) : rz_T w d mc ms M kc kn pc Lc (.int i :: .ref a :: S) G Q := by
  intro p l e s m args below meth c H locs ls hc hS hR hl
  obtain ⟨L, q, hm, hq, hL, hP, hD⟩ := rz_get hR hG
  exact va_zald hc.1 hc.2.1 hc.2.2.2.2.2.2.2.2.1.1 hP q 3 hq rfl hi hd (k p l e s m args below meth c H locs ls hc hS hR hl)
theorem rz_aaloadW {a n : Nat} {f : Nat → Option Nat} {i : Int32} (hd : decode M.1 pc = .ok (.aaload, 1)) (hG : G a = some (.inl (4, n, .inr (.inr (.inr (.inr f)))))) (hi : vp_in i n) (k : rz_T w d mc ms M kc kn (pc + 1) Lc (va_rf (f i.toNatClampNeg) :: S) G Q) : rz_T w d mc ms M kc kn pc Lc (.int i :: .ref a :: S) G Q := by
  intro p l e s m args below meth c H locs ls hc hS hR hl
  obtain ⟨L, q, hm, hq, hL, hP, hD⟩ := rz_get hR hG
  exact va_aldq hc.1 hc.2.1 hc.2.2.2.2.2.2.2.2.1.1 hP q 4 hq rfl hi hd (k p l e s m args below meth c H locs ls hc hS hR hl)
theorem rz_aaloadM {a n : Nat} {f : Nat → Option Nat} {i : Int32} (hd : decode M.1 pc = .ok (.aaload, 1)) (hG : G a = some (.inl (5, n, .inr (.inr (.inr (.inr f)))))) (hi : vp_in i n) (k : rz_T w d mc ms M kc kn (pc + 1) Lc (va_rf (f i.toNatClampNeg) :: S) G Q) : rz_T w d mc ms M kc kn pc Lc (.int i :: .ref a :: S) G Q := by
  intro p l e s m args below meth c H locs ls hc hS hR hl
  obtain ⟨L, q, hm, hq, hL, hP, hD⟩ := rz_get hR hG
  exact va_aldq hc.1 hc.2.1 hc.2.2.2.2.2.2.2.2.1.1 hP q 5 hq rfl hi hd (k p l e s m args below meth c H locs ls hc hS hR hl)
theorem rz_iastore {a n : Nat} {f : Nat → Int32} {i : Int32} {x : Int32} (hd : decode M.1 pc = .ok (.iastore, 1)) (hG : G a = some (.inl (0, n, .inl f))) (hi : vp_in i n) (k : rz_T w d mc ms M kc kn (pc + 1) Lc S (rz_up G a (.inl (0, n, .inl (upd f i.toNatClampNeg x)))) Q) : rz_T w d mc ms M kc kn pc Lc (.int x :: .int i :: .ref a :: S) G Q := by
  intro p l e s m args below meth c H locs ls hc hS hR hl
  obtain ⟨L, q, hm, hq, hL, hP, hD⟩ := rz_get hR hG
  exact va_iast hc.1 hc.2.1 hc.2.2.2.2.2.2.2.2.1.1 hP hD hS q 0 hq rfl hi hd (fun H1 locs1 hP1 hD1 hS1 => k p l e s m args below meth c H1 locs1 ls hc hS1 (rz_set' (H := H) (e1 := .inl (0, n, .inl (upd f i.toNatClampNeg x))) (rz_szS hc.2.2.2.2.2.2.2.2.2 hS1) hG hm hq hL hD hP1 hD1) hl)
theorem rz_lastore {a n : Nat} {f : Nat → Int64} {i : Int32} {x : Int64} (hd : decode M.1 pc = .ok (.lastore, 1)) (hG : G a = some (.inl (1, n, .inr (.inl f)))) (hi : vp_in i n) (k : rz_T w d mc ms M kc kn (pc + 1) Lc S (rz_up G a (.inl (1, n, .inr (.inl (vp_updL f i.toNatClampNeg x))))) Q) : rz_T w d mc ms M kc kn pc Lc (.long x :: .int i :: .ref a :: S) G Q := by
  intro p l e s m args below meth c H locs ls hc hS hR hl
  obtain ⟨L, q, hm, hq, hL, hP, hD⟩ := rz_get hR hG
  exact va_last hc.1 hc.2.1 hc.2.2.2.2.2.2.2.2.1.1 hP hD hS q 1 hq rfl hi hd (fun H1 locs1 hP1 hD1 hS1 => k p l e s m args below meth c H1 locs1 ls hc hS1 (rz_set' (H := H) (e1 := .inl (1, n, .inr (.inl (vp_updL f i.toNatClampNeg x)))) (rz_szS hc.2.2.2.2.2.2.2.2.2 hS1) hG hm hq hL hD hP1 hD1) hl)
theorem rz_bastore {a n : Nat} {f : Nat → Int32} {i : Int32} {x : Int32} (hd : decode M.1 pc = .ok (.bastore, 1)) (hG : G a = some (.inl (2, n, .inl f))) (hi : vp_in i n) (k : rz_T w d mc ms M kc kn (pc + 1) Lc S (rz_up G a (.inl (2, n, .inl (upd f i.toNatClampNeg (vp_nar .byte x))))) Q) : rz_T w d mc ms M kc kn pc Lc (.int x :: .int i :: .ref a :: S) G Q := by
  intro p l e s m args below meth c H locs ls hc hS hR hl
  obtain ⟨L, q, hm, hq, hL, hP, hD⟩ := rz_get hR hG
  exact va_bast hc.1 hc.2.1 hc.2.2.2.2.2.2.2.2.1.1 hP hD hS q 2 hq rfl hi hd (fun H1 locs1 hP1 hD1 hS1 => k p l e s m args below meth c H1 locs1 ls hc hS1 (rz_set' (H := H) (e1 := .inl (2, n, .inl (upd f i.toNatClampNeg (vp_nar .byte x)))) (rz_szS hc.2.2.2.2.2.2.2.2.2 hS1) hG hm hq hL hD hP1 hD1) hl)
theorem rz_zastore {a n : Nat} {f : Nat → Int32} {i : Int32} {x : Int32} (hd : decode M.1 pc = .ok (.bastore, 1)) (hG : G a = some (.inl (3, n, .inl f))) (hi : vp_in i n) (k : rz_T w d mc ms M kc kn (pc + 1) Lc S (rz_up G a (.inl (3, n, .inl (upd f i.toNatClampNeg (vp_nar .boolean x))))) Q) : rz_T w d mc ms M kc kn pc Lc (.int x :: .int i :: .ref a :: S) G Q := by
  intro p l e s m args below meth c H locs ls hc hS hR hl
  obtain ⟨L, q, hm, hq, hL, hP, hD⟩ := rz_get hR hG
  exact va_zast hc.1 hc.2.1 hc.2.2.2.2.2.2.2.2.1.1 hP hD hS q 3 hq rfl hi hd (fun H1 locs1 hP1 hD1 hS1 => k p l e s m args below meth c H1 locs1 ls hc hS1 (rz_set' (H := H) (e1 := .inl (3, n, .inl (upd f i.toNatClampNeg (vp_nar .boolean x)))) (rz_szS hc.2.2.2.2.2.2.2.2.2 hS1) hG hm hq hL hD hP1 hD1) hl)
theorem rz_aastoreW {a n v : Nat} {vs : List Value} {f : Nat → Option Nat} {i : Int32} (hd : decode M.1 pc = .ok (.aastore, 1)) (hG : G a = some (.inl (4, n, .inr (.inr (.inr (.inr f)))))) (hv : G v = some (.inr (0, vs))) (hi : vp_in i n) (k : rz_T w d mc ms M kc kn (pc + 1) Lc S (rz_up G a (.inl (4, n, .inr (.inr (.inr (.inr (va_up f i.toNatClampNeg (some v)))))))) Q) : rz_T w d mc ms M kc kn pc Lc (.ref v :: .int i :: .ref a :: S) G Q := by
  intro p l e s m args below meth c H locs ls hc hS hR hl
  obtain ⟨L, q, hm, hq, hL, hP, hD⟩ := rz_get hR hG
  have hmv : v ∈ L := (hL v).mpr (by rw [hv]; simp)
  obtain ⟨q2, hq2⟩ := va_pl_get (X := []) (f := rz_f w G) hmv
  have hq2 : (va_pl L (rz_f w G))[q2]? = some (v, .inr (0, vs)) := by
    have e1 : rz_f w G v = .inr (0, vs) := by simp only [rz_f, hv, rz_e]
    rw [← e1]; exact hq2
  exact va_astq hc.1 hc.2.1 hc.2.2.2.2.2.2.2.2.1.1 hP hD hS q 4 q2 0 hq rfl hq2 rfl hi hd (fun H1 locs1 hP1 hD1 hS1 => k p l e s m args below meth c H1 locs1 ls hc hS1 (rz_set' (H := H) (e1 := .inl (4, n, .inr (.inr (.inr (.inr (va_up f i.toNatClampNeg (some v))))))) (rz_szS hc.2.2.2.2.2.2.2.2.2 hS1) hG hm hq hL hD hP1 hD1) hl)
theorem rz_aastoreM {a n v : Nat} {vs : List Value} {f : Nat → Option Nat} {i : Int32} (hd : decode M.1 pc = .ok (.aastore, 1)) (hG : G a = some (.inl (5, n, .inr (.inr (.inr (.inr f)))))) (hv : G v = some (.inr (2, vs))) (hi : vp_in i n) (k : rz_T w d mc ms M kc kn (pc + 1) Lc S (rz_up G a (.inl (5, n, .inr (.inr (.inr (.inr (va_up f i.toNatClampNeg (some v)))))))) Q) : rz_T w d mc ms M kc kn pc Lc (.ref v :: .int i :: .ref a :: S) G Q := by
  intro p l e s m args below meth c H locs ls hc hS hR hl
  obtain ⟨L, q, hm, hq, hL, hP, hD⟩ := rz_get hR hG
  have hmv : v ∈ L := (hL v).mpr (by rw [hv]; simp)
  obtain ⟨q2, hq2⟩ := va_pl_get (X := []) (f := rz_f w G) hmv
  have hq2 : (va_pl L (rz_f w G))[q2]? = some (v, .inr (2, vs)) := by
    have e1 : rz_f w G v = .inr (2, vs) := by simp only [rz_f, hv, rz_e]
    rw [← e1]; exact hq2
  exact va_astq hc.1 hc.2.1 hc.2.2.2.2.2.2.2.2.1.1 hP hD hS q 5 q2 2 hq rfl hq2 rfl hi hd (fun H1 locs1 hP1 hD1 hS1 => k p l e s m args below meth c H1 locs1 ls hc hS1 (rz_set' (H := H) (e1 := .inl (5, n, .inr (.inr (.inr (.inr (va_up f i.toNatClampNeg (some v))))))) (rz_szS hc.2.2.2.2.2.2.2.2.2 hS1) hG hm hq hL hD hP1 hD1) hl)
theorem rz_alen {a t : Nat} {x : vp_A} (hd : decode M.1 pc = .ok (.arraylength, 1)) (hG : G a = some (.inl (t, x))) (ht : t < 6) (k : rz_T w d mc ms M kc kn (pc + 1) Lc (.int (nI x.1) :: S) G Q) : rz_T w d mc ms M kc kn pc Lc (.ref a :: S) G Q := by
  intro p l e s m args below meth c H locs ls hc hS hR hl
  obtain ⟨L, q, hm, hq, hL, hP, hD⟩ := rz_get hR hG
  obtain ⟨ty, hty⟩ : ∃ ty, (rz_tys w)[t]? = some (w.2.1 t, ty) := by
    rcases (show t = 0 ∨ t = 1 ∨ t = 2 ∨ t = 3 ∨ t = 4 ∨ t = 5 by omega) with rfl | rfl | rfl | rfl | rfl | rfl <;> exact ⟨_, rfl⟩
  exact va_alen hc.1 hc.2.1 hc.2.2.2.2.2.2.2.2.1.1 hP q t hq hty rfl hd (k p l e s m args below meth c H locs ls hc hS hR hl)
def rz_flb (oi idx ci kf : Nat) : Bool := rz_fls.any (fun q => decide (q.1 = (oi, idx, ci, kf)))
theorem rz_flb_ok {oi idx ci kf : Nat} (h : rz_flb oi idx ci kf = true) : ∃ r : vw_C, rz_cl[ci]? = some r ∧ kf < r.2.2 ∧ Cond.fieldLink (rz_on oi) idx (r.2.1 kf).1 (r.2.1 kf).2.1 (r.2.1 kf).2.2.1 ∈ rz_tb := by
  obtain ⟨q, hq, he⟩ := List.any_eq_true.mp h
  have he := of_decide_eq_true he
  have h1 := List.all_eq_true.mp rz_fls_ok q hq
  unfold rz_flok at h1
  rw [he] at h1
  dsimp only at h1
  cases hr : rz_cl[ci]? with
  | none => rw [hr] at h1; cases h1
  | some r =>
    rw [hr] at h1
    simp only [Bool.and_eq_true, decide_eq_true_eq] at h1
    exact ⟨r, rfl, h1.1, rz_inp _ h1.2 rfl⟩
def rz_ty (ci : Nat) : Nat → FieldType := match ci with
  | 0 => t_Word | 1 => t_Rows | 2 => t_Mach | 3 => t_Read | 4 => t_Pair | 5 => t_Dom | 6 => t_Res | 7 => t_Small | 8 => t_Bld | 9 => t_Desk | _ => t_Mod
theorem rz_clf {ci : Nat} {r : vw_C} (h : rz_cl[ci]? = some r) : (∀ w ∈ u_ws r.1 r.2.1 r.2.2, w ∈ rz_tb) ∧ (∀ k, k < r.2.2 → parseFieldDescriptor (r.2.1 k).2.2.1 = some (rz_ty ci k)) ∧ (∀ a, a < r.2.2 → ∀ b, b < r.2.2 → a ≠ b → (r.2.1 a).2.1 ≠ (r.2.1 b).2.1) := by
  match ci, h with
  | 0, h => cases h; exact ⟨i_Word, t_Word_ok, n_Word⟩
  | 1, h => cases h; exact ⟨i_Rows, t_Rows_ok, n_Rows⟩
  | 2, h => cases h; exact ⟨i_Mach, t_Mach_ok, n_Mach⟩
  | 3, h => cases h; exact ⟨i_Read, t_Read_ok, n_Read⟩
  | 4, h => cases h; exact ⟨i_Pair, t_Pair_ok, n_Pair⟩
  | 5, h => cases h; exact ⟨i_Dom, t_Dom_ok, n_Dom⟩
  | 6, h => cases h; exact ⟨i_Res, t_Res_ok, n_Res⟩
  | 7, h => cases h; exact ⟨i_Small, t_Small_ok, n_Small⟩
  | 8, h => cases h; exact ⟨i_Bld, t_Bld_ok, n_Bld⟩
  | 9, h => cases h; exact ⟨i_Desk, t_Desk_ok, n_Desk⟩
  | 10, h => cases h; exact ⟨i_Mod, t_Mod_ok, n_Mod⟩
  | k + 11, h => simp [rz_cl] at h
/-- the field may be written here: it isn't final, or this is its class's constructor -/
def rz_wr (M : rz_M) (ci kf : Nat) : Bool := match rz_cl[ci]? with
  | some r => if (r.2.1 kf).2.2.2 then decide (M.2.2.2.2 = "<init>") && decide ((r.2.1 kf).1 = rz_on M.2.2.2.1) else true
  | none => false
theorem rz_getf {a idx ci kf : Nat} {fs : List Value} {v : Value} (hd : decode M.1 pc = .ok (.getfield idx, 3)) (hf : rz_flb M.2.2.2.1 idx ci kf = true) (hG : G a = some (.inr (ci, fs))) (hv : fs[kf]? = some v) (k : rz_T w d mc ms M kc kn (pc + 3) Lc (v :: S) G Q) : rz_T w d mc ms M kc kn pc Lc (.ref a :: S) G Q := by
  intro p l e s m args below meth c H locs ls hc hS hR hl
  obtain ⟨L, q, hm, hq, hL, hP, hD⟩ := rz_get hR hG
  obtain ⟨r, hr, hk, hw⟩ := rz_flb_ok hf
  obtain ⟨f1, f2, f3⟩ := rz_clf hr
  exact va_get (C := r.1) (T := r.2.1) (N := r.2.2) hc.1 hc.2.1 hc.2.2.2.2.2.2.2.1 f1 hc.2.2.2.2.2.1 hc.2.2.2.2.2.2.2.2.1.1 hP q hq hr kf hk (hc.2.2.2.2.2.2.2.1 _ hw) (fun _ h9 => h9) hv hd (k p l e s m args below meth c H locs ls hc hS hR hl)
theorem rz_putf {a idx ci kf : Nat} {fs : List Value} {v : Value} (hd : decode M.1 pc = .ok (.putfield idx, 3)) (hf : rz_flb M.2.2.2.1 idx ci kf = true) (hwr : rz_wr M ci kf = true) (hG : G a = some (.inr (ci, fs))) (hn : narrow (rz_ty ci kf) v = v) (hfit : fits (rz_ty ci kf) v = true) (hlen : kf < fs.length) (k : rz_T w d mc ms M kc kn (pc + 3) Lc S (rz_up G a (.inr (ci, fs.set kf v))) Q) : rz_T w d mc ms M kc kn pc Lc (v :: .ref a :: S) G Q := by
  intro p l e s m args below meth c H locs ls hc hS hR hl
  obtain ⟨L, q, hm, hq, hL, hP, hD⟩ := rz_get hR hG
  obtain ⟨r, hr, hk, hw⟩ := rz_flb_ok hf
  obtain ⟨f1, f2, f3⟩ := rz_clf hr
  unfold rz_wr at hwr
  rw [hr] at hwr
  dsimp only at hwr
  by_cases hfin : (r.2.1 kf).2.2.2 = true
  · rw [if_pos hfin] at hwr
    simp only [Bool.and_eq_true, decide_eq_true_eq] at hwr
    exact va_putF (C := r.1) (T := r.2.1) (N := r.2.2) hc.1 hc.2.1 hc.2.2.2.2.2.2.2.1 f1 (rz_ty ci) f2 f3 hc.2.2.2.2.2.1 hc.2.2.2.2.2.2.2.2.1.1 hP hD hS q hq hr kf hk (hc.2.2.2.2.2.2.2.1 _ hw) (fun _ h9 => h9) hfin (hc.2.2.2.2.2.2.1.trans hwr.1) hwr.2 (f2 kf hk) hn hfit hlen hd
      (fun H1 locs1 hP1 hD1 hS1 => k p l e s m args below meth c H1 locs1 ls hc hS1 (rz_set' (H := H) (e1 := .inr (ci, fs.set kf v)) (rz_szS hc.2.2.2.2.2.2.2.2.2 hS1) hG hm hq hL hD hP1 hD1) hl)
  · exact va_put (C := r.1) (T := r.2.1) (N := r.2.2) hc.1 hc.2.1 hc.2.2.2.2.2.2.2.1 f1 (rz_ty ci) f2 f3 hc.2.2.2.2.2.1 hc.2.2.2.2.2.2.2.2.1.1 hP hD hS q hq hr kf hk (hc.2.2.2.2.2.2.2.1 _ hw) (fun _ h9 => h9) (by simpa using hfin) (f2 kf hk) hn hfit hlen hd
      (fun H1 locs1 hP1 hD1 hS1 => k p l e s m args below meth c H1 locs1 ls hc hS1 (rz_set' (H := H) (e1 := .inr (ci, fs.set kf v)) (rz_szS hc.2.2.2.2.2.2.2.2.2 hS1) hG hm hq hL hD hP1 hD1) hl)
end RZ
