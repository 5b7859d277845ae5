/-! methods that may throw: the same judgement with two ends. X: the method's handlers, what holds where it returns, what holds where it throws (the class's number) -/
abbrev ru_P : Type := List (Nat × Nat × Nat × Nat) × (Option Value → rz_G → Prop) × (Nat → rz_G → Prop)
def ru_n : Nat → String
  | 0 => "java/lang/IndexOutOfBoundsException"
  | 1 => "java/lang/IllegalArgumentException"
  | 2 => "java/lang/UnsupportedOperationException"
  | _ => "java/lang/IllegalStateException"
/-- an object of the exception's class -/
def ru_is (c : Nat) (a : Nat) (t : State) : Prop := ∃ cell, t.heap[a]? = some cell ∧ cell.vm = .none ∧ t.vm.findClass (ru_n c) = some cell.cls
/-- words that stay true though they are no good words: faces, statics; and classes that differ -/
def ru_fx : List Cond := [.declares (Bundle.init0 "java/lang/RuntimeException"), .declares (Bundle.init0 "java/lang/Exception"), .declares (Bundle.init0 Bundle.tN), .castable (ru_n 0) (ru_n 0), .castable (ru_n 1) (ru_n 1), .castable (ru_n 2) (ru_n 2), .castable (ru_n 3) (ru_n 3)]
def ru_sx : List Cond := [.laysStatic Bundle.tN "UNASSIGNED_STACK" Bundle.steD, .laysStatic Bundle.tN "SUPPRESSED_SENTINEL" Bundle.listD, .isRef (.static Bundle.tN "UNASSIGNED_STACK" Bundle.steD), .isRef (.static Bundle.tN "SUPPRESSED_SENTINEL" Bundle.listD)]
/-- no cell that may change is a class's statics -/
def ru_ns (w : rz_w) (s : State) : Prop := ∀ q cell, w.2.2 ≤ q → s.heap[q]? = some cell → cell.vm.isStatics = false
def ru_st (w : rz_w) (s : State) : Prop := (∃ s0 : State, (∀ x ∈ ru_fx ++ ru_sx, x.before #[] s0 = true) ∧ (∀ i j, i < 4 → j < 4 → i ≠ j → (Cond.not (.castable (ru_n i) (ru_n j))).before #[] s0 = true) ∧ s0.WarmedH s.vm ∧ s0.heap.size = w.2.2 ∧ ∀ q, q < w.2.2 → s.heap[q]? = s0.heap[q]?) ∧ ru_ns w s
def ru_h (x : Nat × Nat × Nat × Nat) : ExceptionTableEntry := { startPc := x.1, endPc := x.2.1, handlerPc := x.2.2.1, catchType := x.2.2.2 }
def ru_x (w : rz_w) (hs : List (Nat × Nat × Nat × Nat)) (l : Launch) (s : State) (c : Code) : Prop := (∀ e : Env, l.admits e → e.platform.stackTraces = false) ∧ c.exceptionTable.toList = hs.map ru_h ∧ ru_st w s
def ru_Q (w : rz_w) (X : ru_P) : State → Outcome → State → Prop := fun st oc t => (∃ (G : rz_G), ((∃ r, oc = .returned r ∧ X.2.1 r G ∧ (X.1 ≠ [] → ru_ns w st → ru_ns w t)) ∨ (∃ a c, oc = .threw a ∧ ru_is c a t ∧ X.2.2 c G ∧ (ru_ns w st → ru_ns w t))) ∧ rz_K w t ∧ rz_R w G t.heap) ∧ va_F (rz_A w) st t
/-- what may have been made: nothing where it returns and has no handlers -/
def ru_k (X : ru_P) (o : Outcome) (n : Nat) : Nat := match o with
  | .returned _ => if X.1 = [] then 0 else n
  | .threw _ => n
def ru_E (w : rz_w) (mc ms : Nat) (X : ru_P) (below : List Frame) (s : State) : State → Prop := fun t => ∃ o, t.status = .running ∧ Ended t below o ∧ ru_Q w X s o t ∧ ∃ L, (s.WarmedH t.vm ∧ s.sameButNew ({ t with vm := s.vm } : State) L (ru_k X o mc) (ru_k X o ms)) ∧ ∀ q ∈ L, rz_A w q.base
def ru_F (w : rz_w) (mc ms : Nat) (X : ru_P) (l : Launch) (below : List Frame) (s : State) (c : Code) : State → Prop := fun t => ru_x w X.1 l s c → ru_E w mc ms X below s t
def ru_T (w : rz_w) (d mc ms : Nat) (M : rz_M) (kc kn pc : Nat) (Lc : rz_L) (S : List Value) (G : rz_G) (X : ru_P) : Prop :=
  ∀ (p : Program) (l : Launch) (e : Env) (s : State) (m : MethodId) (args : Array Value) (below : List Frame) (meth : Method) (c : Code) (H : Heap) (locs : List Loc) (ls : Array Slot), rz_cx w M p s m args meth c → va_S (rz_A w) s.heap H locs → rz_R w G H → rz_l ls M.2.1 Lc →
    W p l e (rz_rm d mc ms) s m args below meth c H locs kc kn (ru_F w mc ms X l below s c) (F0 m pc ls S)
/-- a method's end that returns, having made nothing -/
theorem ru_of {w : rz_w} {X : ru_P} {p : Program} {l : Launch} {e : Env} {R : Room} {s : State} {m : MethodId} {args : Array Value} {below : List Frame} {meth : Method} {c : Code} {H : Heap} {locs : List Loc} {g : JFrame} {mc ms : Nat} (hX : X.1 = []) (h : W p l e R s m args below meth c H locs 0 0 (MQ below (rz_Q w X.2.1) args s 0 0 (rz_A w)) g) : W p l e R s m args below meth c H locs 0 0 (ru_F w mc ms X l below s c) g := by
  intro T hT Y
  obtain ⟨t, h1, o, h2, h3, ⟨⟨r, G', e1, e2, e3⟩, h4⟩, L, h5, h6⟩ := h T hT Y
  refine ⟨t, h1, fun _ => ⟨o, h2, h3, ⟨⟨G', Or.inl ⟨r, e1, e2, fun q => absurd hX q⟩, e3⟩, h4⟩, L, ⟨h5.2.1, ?_⟩, h6⟩⟩
  rw [e1]
  simp only [ru_k, if_pos hX]
  exact h5.2.2

section RU
variable {w : rz_w} {d mc ms : Nat} {M : rz_M} {kc kn pc : Nat} {Lc : rz_L} {S : List Value} {G : rz_G} {X : ru_P}
theorem ru_iadd {x y : Int32} (hd : decode M.1 pc = .ok (.iadd, 1)) (k : ru_T w d mc ms M kc kn (pc + 1) Lc (.int (x + y) :: S) G X) : ru_T w d mc ms M kc kn pc Lc (.int y :: .int x :: S) G X := fun p l e s m args below meth c H locs ls hc hS hR hl => lv_iadd hc.1 hc.2.1 hd (k p l e s m args below meth c H locs ls hc hS hR hl)
theorem ru_isub {x y : Int32} (hd : decode M.1 pc = .ok (.isub, 1)) (k : ru_T w d mc ms M kc kn (pc + 1) Lc (.int (x - y) :: S) G X) : ru_T w d mc ms M kc kn pc Lc (.int y :: .int x :: S) G X := fun p l e s m args below meth c H locs ls hc hS hR hl => lv_isub hc.1 hc.2.1 hd (k p l e s m args below meth c H locs ls hc hS hR hl)
theorem ru_imul {x y : Int32} (hd : decode M.1 pc = .ok (.imul, 1)) (k : ru_T w d mc ms M kc kn (pc + 1) Lc (.int (x * y) :: S) G X) : ru_T w d mc ms M kc kn pc Lc (.int y :: .int x :: S) G X := fun p l e s m args below meth c H locs ls hc hS hR hl => lv_imul hc.1 hc.2.1 hd (k p l e s m args below meth c H locs ls hc hS hR hl)
theorem ru_iand {x y : Int32} (hd : decode M.1 pc = .ok (.iand, 1)) (k : ru_T w d mc ms M kc kn (pc + 1) Lc (.int (x &&& y) :: S) G X) : ru_T w d mc ms M kc kn pc Lc (.int y :: .int x :: S) G X := fun p l e s m args below meth c H locs ls hc hS hR hl => lv_iand hc.1 hc.2.1 hd (k p l e s m args below meth c H locs ls hc hS hR hl)
theorem ru_ior {x y : Int32} (hd : decode M.1 pc = .ok (.ior, 1)) (k : ru_T w d mc ms M kc kn (pc + 1) Lc (.int (x ||| y) :: S) G X) : ru_T w d mc ms M kc kn pc Lc (.int y :: .int x :: S) G X := fun p l e s m args below meth c H locs ls hc hS hR hl => lv_ior hc.1 hc.2.1 hd (k p l e s m args below meth c H locs ls hc hS hR hl)
theorem ru_ixor {x y : Int32} (hd : decode M.1 pc = .ok (.ixor, 1)) (k : ru_T w d mc ms M kc kn (pc + 1) Lc (.int (x ^^^ y) :: S) G X) : ru_T w d mc ms M kc kn pc Lc (.int y :: .int x :: S) G X := fun p l e s m args below meth c H locs ls hc hS hR hl => lv_ixor hc.1 hc.2.1 hd (k p l e s m args below meth c H locs ls hc hS hR hl)
theorem ru_ishl {x y : Int32} (hd : decode M.1 pc = .ok (.ishl, 1)) (k : ru_T w d mc ms M kc kn (pc + 1) Lc (.int (x <<< (y &&& 31)) :: S) G X) : ru_T w d mc ms M kc kn pc Lc (.int y :: .int x :: S) G X := fun p l e s m args below meth c H locs ls hc hS hR hl => lv_ishl hc.1 hc.2.1 hd (k p l e s m args below meth c H locs ls hc hS hR hl)
theorem ru_ishr {x y : Int32} (hd : decode M.1 pc = .ok (.ishr, 1)) (k : ru_T w d mc ms M kc kn (pc + 1) Lc (.int (x >>> (y &&& 31)) :: S) G X) : ru_T w d mc ms M kc kn pc Lc (.int y :: .int x :: S) G X := fun p l e s m args below meth c H locs ls hc hS hR hl => lv_ishr hc.1 hc.2.1 hd (k p l e s m args below meth c H locs ls hc hS hR hl)
theorem ru_idiv {x y : Int32} (hd : decode M.1 pc = .ok (.idiv, 1)) (h0 : ¬ y = 0) (k : ru_T w d mc ms M kc kn (pc + 1) Lc (.int (x / y) :: S) G X) : ru_T w d mc ms M kc kn pc Lc (.int y :: .int x :: S) G X := fun p l e s m args below meth c H locs ls hc hS hR hl => lv_idiv hc.1 hc.2.1 hd h0 (k p l e s m args below meth c H locs ls hc hS hR hl)
theorem ru_irem {x y : Int32} (hd : decode M.1 pc = .ok (.irem, 1)) (h0 : ¬ y = 0) (k : ru_T w d mc ms M kc kn (pc + 1) Lc (.int (x - x / y * y) :: S) G X) : ru_T w d mc ms M kc kn pc Lc (.int y :: .int x :: S) G X := fun p l e s m args below meth c H locs ls hc hS hR hl => lv_irem hc.1 hc.2.1 hd h0 (k p l e s m args below meth c H locs ls hc hS hR hl)
theorem ru_iushr {x y : Int32} (hd : decode M.1 pc = .ok (.iushr, 1)) (k : ru_T w d mc ms M kc kn (pc + 1) Lc (.int ((x.toUInt32 >>> (y.toUInt32 &&& Int32.toUInt32 31)).toInt32) :: S) G X) : ru_T w d mc ms M kc kn pc Lc (.int y :: .int x :: S) G X := fun p l e s m args below meth c H locs ls hc hS hR hl => lv_iushr hc.1 hc.2.1 hd rfl (k p l e s m args below meth c H locs ls hc hS hR hl)
theorem ru_ineg {x : Int32} (hd : decode M.1 pc = .ok (.ineg, 1)) (k : ru_T w d mc ms M kc kn (pc + 1) Lc (.int (-x) :: S) G X) : ru_T w d mc ms M kc kn pc Lc (.int x :: S) G X := fun p l e s m args below meth c H locs ls hc hS hR hl => lv_ineg hc.1 hc.2.1 hd (k p l e s m args below meth c H locs ls hc hS hR hl)
theorem ru_ladd {x y : Int64} (hd : decode M.1 pc = .ok (.ladd, 1)) (k : ru_T w d mc ms M kc kn (pc + 1) Lc (.long (x + y) :: S) G X) : ru_T w d mc ms M kc kn pc Lc (.long y :: .long x :: S) G X := fun p l e s m args below meth c H locs ls hc hS hR hl => lv_ladd hc.1 hc.2.1 hd (k p l e s m args below meth c H locs ls hc hS hR hl)
theorem ru_lsub {x y : Int64} (hd : decode M.1 pc = .ok (.lsub, 1)) (k : ru_T w d mc ms M kc kn (pc + 1) Lc (.long (x - y) :: S) G X) : ru_T w d mc ms M kc kn pc Lc (.long y :: .long x :: S) G X := fun p l e s m args below meth c H locs ls hc hS hR hl => lv_lsub hc.1 hc.2.1 hd (k p l e s m args below meth c H locs ls hc hS hR hl)
theorem ru_lmul {x y : Int64} (hd : decode M.1 pc = .ok (.lmul, 1)) (k : ru_T w d mc ms M kc kn (pc + 1) Lc (.long (x * y) :: S) G X) : ru_T w d mc ms M kc kn pc Lc (.long y :: .long x :: S) G X := fun p l e s m args below meth c H locs ls hc hS hR hl => lv_lmul hc.1 hc.2.1 hd (k p l e s m args below meth c H locs ls hc hS hR hl)
theorem ru_land {x y : Int64} (hd : decode M.1 pc = .ok (.land, 1)) (k : ru_T w d mc ms M kc kn (pc + 1) Lc (.long (x &&& y) :: S) G X) : ru_T w d mc ms M kc kn pc Lc (.long y :: .long x :: S) G X := fun p l e s m args below meth c H locs ls hc hS hR hl => lv_land hc.1 hc.2.1 hd (k p l e s m args below meth c H locs ls hc hS hR hl)
theorem ru_lor {x y : Int64} (hd : decode M.1 pc = .ok (.lor, 1)) (k : ru_T w d mc ms M kc kn (pc + 1) Lc (.long (x ||| y) :: S) G X) : ru_T w d mc ms M kc kn pc Lc (.long y :: .long x :: S) G X := fun p l e s m args below meth c H locs ls hc hS hR hl => lv_lor hc.1 hc.2.1 hd (k p l e s m args below meth c H locs ls hc hS hR hl)
theorem ru_lxor {x y : Int64} (hd : decode M.1 pc = .ok (.lxor, 1)) (k : ru_T w d mc ms M kc kn (pc + 1) Lc (.long (x ^^^ y) :: S) G X) : ru_T w d mc ms M kc kn pc Lc (.long y :: .long x :: S) G X := fun p l e s m args below meth c H locs ls hc hS hR hl => lv_lxor hc.1 hc.2.1 hd (k p l e s m args below meth c H locs ls hc hS hR hl)
theorem ru_lshl {x : Int64} {y : Int32} (hd : decode M.1 pc = .ok (.lshl, 1)) (k : ru_T w d mc ms M kc kn (pc + 1) Lc (.long (x <<< (y.toInt64 &&& 63)) :: S) G X) : ru_T w d mc ms M kc kn pc Lc (.int y :: .long x :: S) G X := fun p l e s m args below meth c H locs ls hc hS hR hl => lv_lshl hc.1 hc.2.1 hd rfl (k p l e s m args below meth c H locs ls hc hS hR hl)
theorem ru_lushr {x : Int64} {y : Int32} (hd : decode M.1 pc = .ok (.lushr, 1)) (k : ru_T w d mc ms M kc kn (pc + 1) Lc (.long ((x.toUInt64 >>> (y.toInt64.toUInt64 &&& Int64.toUInt64 63)).toInt64) :: S) G X) : ru_T w d mc ms M kc kn pc Lc (.int y :: .long x :: S) G X := fun p l e s m args below meth c H locs ls hc hS hR hl => lv_lushr hc.1 hc.2.1 hd rfl (k p l e s m args below meth c H locs ls hc hS hR hl)
theorem ru_lcmp {x y : Int64} (hd : decode M.1 pc = .ok (.lcmp, 1)) (k : ru_T w d mc ms M kc kn (pc + 1) Lc (.int (lg_cmp x y) :: S) G X) : ru_T w d mc ms M kc kn pc Lc (.long y :: .long x :: S) G X := fun p l e s m args below meth c H locs ls hc hS hR hl => W.lcmp hc.1 hc.2.1 hd (k p l e s m args below meth c H locs ls hc hS hR hl)
theorem ru_i2l {x : Int32} (hd : decode M.1 pc = .ok (.i2l, 1)) (k : ru_T w d mc ms M kc kn (pc + 1) Lc (.long (x.toInt64) :: S) G X) : ru_T w d mc ms M kc kn pc Lc (.int x :: S) G X := fun p l e s m args below meth c H locs ls hc hS hR hl => lv_i2l hc.1 hc.2.1 hd rfl (k p l e s m args below meth c H locs ls hc hS hR hl)
theorem ru_l2i {x : Int64} (hd : decode M.1 pc = .ok (.l2i, 1)) (k : ru_T w d mc ms M kc kn (pc + 1) Lc (.int (x.toInt32) :: S) G X) : ru_T w d mc ms M kc kn pc Lc (.long x :: S) G X := fun p l e s m args below meth c H locs ls hc hS hR hl => lv_l2i hc.1 hc.2.1 hd rfl (k p l e s m args below meth c H locs ls hc hS hR hl)
theorem ru_i2b {x : Int32} (hd : decode M.1 pc = .ok (.i2b, 1)) (k : ru_T w d mc ms M kc kn (pc + 1) Lc (.int (x.toInt8.toInt32) :: S) G X) : ru_T w d mc ms M kc kn pc Lc (.int x :: S) G X := fun p l e s m args below meth c H locs ls hc hS hR hl => lv_i2b hc.1 hc.2.1 hd rfl (k p l e s m args below meth c H locs ls hc hS hR hl)
theorem ru_iconst {n : Int} (hd : decode M.1 pc = .ok (.iconst n, 1)) (k : ru_T w d mc ms M kc kn (pc + 1) Lc (.int (Int32.ofInt n) :: S) G X) : ru_T w d mc ms M kc kn pc Lc S G X := fun p l e s m args below meth c H locs ls hc hS hR hl => lv_iconst hc.1 hc.2.1 hd rfl (k p l e s m args below meth c H locs ls hc hS hR hl)
theorem ru_bipush {n : Int} (hd : decode M.1 pc = .ok (.bipush n, 2)) (k : ru_T w d mc ms M kc kn (pc + 2) Lc (.int ((Int8.ofInt n).toInt32) :: S) G X) : ru_T w d mc ms M kc kn pc Lc S G X := fun p l e s m args below meth c H locs ls hc hS hR hl => lv_bipush hc.1 hc.2.1 hd rfl (k p l e s m args below meth c H locs ls hc hS hR hl)
theorem ru_sipush {n : Int} (hd : decode M.1 pc = .ok (.sipush n, 3)) (k : ru_T w d mc ms M kc kn (pc + 3) Lc (.int ((Int16.ofInt n).toInt32) :: S) G X) : ru_T w d mc ms M kc kn pc Lc S G X := fun p l e s m args below meth c H locs ls hc hS hR hl => lv_sipush hc.1 hc.2.1 hd rfl (k p l e s m args below meth c H locs ls hc hS hR hl)
theorem ru_lconst {n : Fin 2} (hd : decode M.1 pc = .ok (.lconst n, 1)) (k : ru_T w d mc ms M kc kn (pc + 1) Lc (.long (Int64.ofNat (n : Nat)) :: S) G X) : ru_T w d mc ms M kc kn pc Lc S G X := fun p l e s m args below meth c H locs ls hc hS hR hl => lv_lconst hc.1 hc.2.1 hd rfl (k p l e s m args below meth c H locs ls hc hS hR hl)
theorem ru_iload_n {j : Fin 4} {x : Int32} (hd : decode M.1 pc = .ok (.iload_n j, 1)) (h : rz_at Lc j = some (.int x)) (k : ru_T w d mc ms M kc kn (pc + 1) Lc (.int x :: S) G X) : ru_T w d mc ms M kc kn pc Lc S G X := fun p l e s m args below meth c H locs ls hc hS hR hl => lv_iload_n hc.1 hc.2.1 hd rfl (hl.2.2 _ _ h) (k p l e s m args below meth c H locs ls hc hS hR hl)
theorem ru_iload {j : Nat} {x : Int32} (hd : decode M.1 pc = .ok (.iload j, 2)) (h : rz_at Lc j = some (.int x)) (k : ru_T w d mc ms M kc kn (pc + 2) Lc (.int x :: S) G X) : ru_T w d mc ms M kc kn pc Lc S G X := fun p l e s m args below meth c H locs ls hc hS hR hl => lv_iload hc.1 hc.2.1 hd (hl.2.2 _ _ h) (k p l e s m args below meth c H locs ls hc hS hR hl)
theorem ru_lload_n {j : Fin 4} {x : Int64} (hd : decode M.1 pc = .ok (.lload_n j, 1)) (h : rz_at Lc j = some (.long x)) (k : ru_T w d mc ms M kc kn (pc + 1) Lc (.long x :: S) G X) : ru_T w d mc ms M kc kn pc Lc S G X := fun p l e s m args below meth c H locs ls hc hS hR hl => lv_lload_n hc.1 hc.2.1 hd rfl (hl.2.2 _ _ h) (k p l e s m args below meth c H locs ls hc hS hR hl)
theorem ru_lload {j : Nat} {x : Int64} (hd : decode M.1 pc = .ok (.lload j, 2)) (h : rz_at Lc j = some (.long x)) (k : ru_T w d mc ms M kc kn (pc + 2) Lc (.long x :: S) G X) : ru_T w d mc ms M kc kn pc Lc S G X := fun p l e s m args below meth c H locs ls hc hS hR hl => lv_lload hc.1 hc.2.1 hd (hl.2.2 _ _ h) (k p l e s m args below meth c H locs ls hc hS hR hl)
theorem ru_aload_n {j : Fin 4} {x : Nat} (hd : decode M.1 pc = .ok (.aload_n j, 1)) (h : rz_at Lc j = some (.ref x)) (k : ru_T w d mc ms M kc kn (pc + 1) Lc (.ref x :: S) G X) : ru_T w d mc ms M kc kn pc Lc S G X := fun p l e s m args below meth c H locs ls hc hS hR hl => lv_aload_n hc.1 hc.2.1 hd rfl (hl.2.2 _ _ h) (k p l e s m args below meth c H locs ls hc hS hR hl)
theorem ru_aload {j : Nat} {x : Nat} (hd : decode M.1 pc = .ok (.aload j, 2)) (h : rz_at Lc j = some (.ref x)) (k : ru_T w d mc ms M kc kn (pc + 2) Lc (.ref x :: S) G X) : ru_T w d mc ms M kc kn pc Lc S G X := fun p l e s m args below meth c H locs ls hc hS hR hl => lv_aload hc.1 hc.2.1 hd (hl.2.2 _ _ h) (k p l e s m args below meth c H locs ls hc hS hR hl)
theorem ru_istore_n {j : Fin 4} {x : Int32} (hd : decode M.1 pc = .ok (.istore_n j, 1)) (h : (j : Nat) < M.2.1) (k : ru_T w d mc ms M kc kn (pc + 1) (rz_set Lc j (.int x)) S G X) : ru_T w d mc ms M kc kn pc Lc (.int x :: S) G X := fun p l e s m args below meth c H locs ls hc hS hR hl => lv_istore_n hc.1 hc.2.1 hd rfl hl.has h rfl (fun ls hl => k p l e s m args below meth c H locs ls hc hS hR (rz_l.set1 rfl hl))
theorem ru_istore {j : Nat} {x : Int32} (hd : decode M.1 pc = .ok (.istore j, 2)) (h : j < M.2.1) (k : ru_T w d mc ms M kc kn (pc + 2) (rz_set Lc j (.int x)) S G X) : ru_T w d mc ms M kc kn pc Lc (.int x :: S) G X := fun p l e s m args below meth c H locs ls hc hS hR hl => lv_istore hc.1 hc.2.1 hd hl.has h rfl (fun ls hl => k p l e s m args below meth c H locs ls hc hS hR (rz_l.set1 rfl hl))
theorem ru_astore_n {j : Fin 4} {x : Nat} (hd : decode M.1 pc = .ok (.astore_n j, 1)) (h : (j : Nat) < M.2.1) (k : ru_T w d mc ms M kc kn (pc + 1) (rz_set Lc j (.ref x)) S G X) : ru_T w d mc ms M kc kn pc Lc (.ref x :: S) G X := fun p l e s m args below meth c H locs ls hc hS hR hl => lv_astore_n hc.1 hc.2.1 hd rfl hl.has h rfl (fun ls hl => k p l e s m args below meth c H locs ls hc hS hR (rz_l.set1 rfl hl))
theorem ru_astore {j : Nat} {x : Nat} (hd : decode M.1 pc = .ok (.astore j, 2)) (h : j < M.2.1) (k : ru_T w d mc ms M kc kn (pc + 2) (rz_set Lc j (.ref x)) S G X) : ru_T w d mc ms M kc kn pc Lc (.ref x :: S) G X := fun p l e s m args below meth c H locs ls hc hS hR hl => lv_astore hc.1 hc.2.1 hd hl.has h rfl (fun ls hl => k p l e s m args below meth c H locs ls hc hS hR (rz_l.set1 rfl hl))
theorem ru_lstore_n {j : Fin 4} {x : Int64} (hd : decode M.1 pc = .ok (.lstore_n j, 1)) (h : (j : Nat) + 1 < M.2.1) (k : ru_T w d mc ms M kc kn (pc + 1) (rz_clr (rz_set Lc j (.long x)) (j + 1)) S G X) : ru_T w d mc ms M kc kn pc Lc (.long x :: S) G X := fun p l e s m args below meth c H locs ls hc hS hR hl => lv_lstore_n hc.1 hc.2.1 hd rfl hl.has h rfl (fun ls hl => k p l e s m args below meth c H locs ls hc hS hR (rz_l.set2 hl))
theorem ru_lstore {j : Nat} {x : Int64} (hd : decode M.1 pc = .ok (.lstore j, 2)) (h : j + 1 < M.2.1) (k : ru_T w d mc ms M kc kn (pc + 2) (rz_clr (rz_set Lc j (.long x)) (j + 1)) S G X) : ru_T w d mc ms M kc kn pc Lc (.long x :: S) G X := fun p l e s m args below meth c H locs ls hc hS hR hl => lv_lstore hc.1 hc.2.1 hd hl.has h rfl (fun ls hl => k p l e s m args below meth c H locs ls hc hS hR (rz_l.set2 hl))
theorem ru_iinc {j : Nat} {n : Int} {x : Int32} (hd : decode M.1 pc = .ok (.iinc j n, 3)) (h : j < M.2.1) (hx : rz_at Lc j = some (.int x)) (k : ru_T w d mc ms M kc kn (pc + 3) (rz_set Lc j (.int (x + Int32.ofInt n))) S G X) : ru_T w d mc ms M kc kn pc Lc S G X := by
  intro p l e s m args below meth c H locs ls hc hS hR hl
  obtain ⟨i, hi⟩ := List.getElem?_of_mem (rz_lv_mem.mpr hx)
  exact lv_iinc hc.1 hc.2.1 hd hl.has hi rfl h rfl (fun ls hl => k p l e s m args below meth c H locs ls hc hS hR (rz_l.set1 rfl hl))
theorem ru_dup {v : Value} (hd : decode M.1 pc = .ok (.dup, 1)) (h : v.category = 1) (k : ru_T w d mc ms M kc kn (pc + 1) Lc (v :: v :: S) G X) : ru_T w d mc ms M kc kn pc Lc (v :: S) G X := fun p l e s m args below meth c H locs ls hc hS hR hl => lv_dup hc.1 hc.2.1 hd h (k p l e s m args below meth c H locs ls hc hS hR hl)
theorem ru_pop {v : Value} (hd : decode M.1 pc = .ok (.pop, 1)) (h : v.category = 1) (k : ru_T w d mc ms M kc kn (pc + 1) Lc S G X) : ru_T w d mc ms M kc kn pc Lc (v :: S) G X := fun p l e s m args below meth c H locs ls hc hS hR hl => lv_pop hc.1 hc.2.1 hd h (k p l e s m args below meth c H locs ls hc hS hR hl)
theorem ru_dup2 {v u : Value} (hd : decode M.1 pc = .ok (.dup2, 1)) (h : v.category = 1) (h2 : u.category = 1) (k : ru_T w d mc ms M kc kn (pc + 1) Lc (v :: u :: v :: u :: S) G X) : ru_T w d mc ms M kc kn pc Lc (v :: u :: S) G X := fun p l e s m args below meth c H locs ls hc hS hR hl => lv_dup2_11 hc.1 hc.2.1 hd h h2 (k p l e s m args below meth c H locs ls hc hS hR hl)
theorem ru_if_eq {x : Int32} {off : Int} {t : Nat} (hd : decode M.1 pc = .ok (.ifCond .eq off, 3)) (ht : (pc : Int) + off = (t : Int)) (k1 : x = 0 → ru_T w d mc ms M kc kn t Lc S G X) (k2 : ¬ x = 0 → ru_T w d mc ms M kc kn (pc + 3) Lc S G X) : ru_T w d mc ms M kc kn pc Lc (.int x :: S) G X := fun p l e s m args below meth c H locs ls hc hS hR hl => lv_if_eq hc.1 hc.2.1 hd ht (fun q => k1 q p l e s m args below meth c H locs ls hc hS hR hl) (fun q => k2 q p l e s m args below meth c H locs ls hc hS hR hl)
theorem ru_if_ne {x : Int32} {off : Int} {t : Nat} (hd : decode M.1 pc = .ok (.ifCond .ne off, 3)) (ht : (pc : Int) + off = (t : Int)) (k1 : ¬ x = 0 → ru_T w d mc ms M kc kn t Lc S G X) (k2 : x = 0 → ru_T w d mc ms M kc kn (pc + 3) Lc S G X) : ru_T w d mc ms M kc kn pc Lc (.int x :: S) G X := fun p l e s m args below meth c H locs ls hc hS hR hl => lv_if_ne hc.1 hc.2.1 hd ht (fun q => k1 q p l e s m args below meth c H locs ls hc hS hR hl) (fun q => k2 q p l e s m args below meth c H locs ls hc hS hR hl)
theorem ru_if_lt {x : Int32} {off : Int} {t : Nat} (hd : decode M.1 pc = .ok (.ifCond .lt off, 3)) (ht : (pc : Int) + off = (t : Int)) (k1 : x < 0 → ru_T w d mc ms M kc kn t Lc S G X) (k2 : ¬ x < 0 → ru_T w d mc ms M kc kn (pc + 3) Lc S G X) : ru_T w d mc ms M kc kn pc Lc (.int x :: S) G X := fun p l e s m args below meth c H locs ls hc hS hR hl => lv_if_lt hc.1 hc.2.1 hd ht (fun q => k1 q p l e s m args below meth c H locs ls hc hS hR hl) (fun q => k2 q p l e s m args below meth c H locs ls hc hS hR hl)
theorem ru_if_ge {x : Int32} {off : Int} {t : Nat} (hd : decode M.1 pc = .ok (.ifCond .ge off, 3)) (ht : (pc : Int) + off = (t : Int)) (k1 : 0 ≤ x → ru_T w d mc ms M kc kn t Lc S G X) (k2 : ¬ 0 ≤ x → ru_T w d mc ms M kc kn (pc + 3) Lc S G X) : ru_T w d mc ms M kc kn pc Lc (.int x :: S) G X := fun p l e s m args below meth c H locs ls hc hS hR hl => lv_if_ge hc.1 hc.2.1 hd ht (fun q => k1 q p l e s m args below meth c H locs ls hc hS hR hl) (fun q => k2 q p l e s m args below meth c H locs ls hc hS hR hl)
theorem ru_if_gt {x : Int32} {off : Int} {t : Nat} (hd : decode M.1 pc = .ok (.ifCond .gt off, 3)) (ht : (pc : Int) + off = (t : Int)) (k1 : 0 < x → ru_T w d mc ms M kc kn t Lc S G X) (k2 : ¬ 0 < x → ru_T w d mc ms M kc kn (pc + 3) Lc S G X) : ru_T w d mc ms M kc kn pc Lc (.int x :: S) G X := fun p l e s m args below meth c H locs ls hc hS hR hl => lv_if_gt hc.1 hc.2.1 hd ht (fun q => k1 q p l e s m args below meth c H locs ls hc hS hR hl) (fun q => k2 q p l e s m args below meth c H locs ls hc hS hR hl)
theorem ru_if_le {x : Int32} {off : Int} {t : Nat} (hd : decode M.1 pc = .ok (.ifCond .le off, 3)) (ht : (pc : Int) + off = (t : Int)) (k1 : x ≤ 0 → ru_T w d mc ms M kc kn t Lc S G X) (k2 : ¬ x ≤ 0 → ru_T w d mc ms M kc kn (pc + 3) Lc S G X) : ru_T w d mc ms M kc kn pc Lc (.int x :: S) G X := fun p l e s m args below meth c H locs ls hc hS hR hl => lv_if_le hc.1 hc.2.1 hd ht (fun q => k1 q p l e s m args below meth c H locs ls hc hS hR hl) (fun q => k2 q p l e s m args below meth c H locs ls hc hS hR hl)
theorem ru_icmp_eq {x y : Int32} {off : Int} {t : Nat} (hd : decode M.1 pc = .ok (.if_icmp .eq off, 3)) (ht : (pc : Int) + off = (t : Int)) (k1 : x = y → ru_T w d mc ms M kc kn t Lc S G X) (k2 : ¬ x = y → ru_T w d mc ms M kc kn (pc + 3) Lc S G X) : ru_T w d mc ms M kc kn pc Lc (.int y :: .int x :: S) G X := fun p l e s m args below meth c H locs ls hc hS hR hl => lv_icmp_eq hc.1 hc.2.1 hd ht (fun q => k1 q p l e s m args below meth c H locs ls hc hS hR hl) (fun q => k2 q p l e s m args below meth c H locs ls hc hS hR hl)
theorem ru_icmp_ne {x y : Int32} {off : Int} {t : Nat} (hd : decode M.1 pc = .ok (.if_icmp .ne off, 3)) (ht : (pc : Int) + off = (t : Int)) (k1 : ¬ x = y → ru_T w d mc ms M kc kn t Lc S G X) (k2 : x = y → ru_T w d mc ms M kc kn (pc + 3) Lc S G X) : ru_T w d mc ms M kc kn pc Lc (.int y :: .int x :: S) G X := fun p l e s m args below meth c H locs ls hc hS hR hl => lv_icmp_ne hc.1 hc.2.1 hd ht (fun q => k1 q p l e s m args below meth c H locs ls hc hS hR hl) (fun q => k2 q p l e s m args below meth c H locs ls hc hS hR hl)
theorem ru_icmp_lt {x y : Int32} {off : Int} {t : Nat} (hd : decode M.1 pc = .ok (.if_icmp .lt off, 3)) (ht : (pc : Int) + off = (t : Int)) (k1 : x < y → ru_T w d mc ms M kc kn t Lc S G X) (k2 : ¬ x < y → ru_T w d mc ms M kc kn (pc + 3) Lc S G X) : ru_T w d mc ms M kc kn pc Lc (.int y :: .int x :: S) G X := fun p l e s m args below meth c H locs ls hc hS hR hl => lv_icmp_lt hc.1 hc.2.1 hd ht (fun q => k1 q p l e s m args below meth c H locs ls hc hS hR hl) (fun q => k2 q p l e s m args below meth c H locs ls hc hS hR hl)
theorem ru_icmp_ge {x y : Int32} {off : Int} {t : Nat} (hd : decode M.1 pc = .ok (.if_icmp .ge off, 3)) (ht : (pc : Int) + off = (t : Int)) (k1 : y ≤ x → ru_T w d mc ms M kc kn t Lc S G X) (k2 : ¬ y ≤ x → ru_T w d mc ms M kc kn (pc + 3) Lc S G X) : ru_T w d mc ms M kc kn pc Lc (.int y :: .int x :: S) G X := fun p l e s m args below meth c H locs ls hc hS hR hl => lv_icmp_ge hc.1 hc.2.1 hd ht (fun q => k1 q p l e s m args below meth c H locs ls hc hS hR hl) (fun q => k2 q p l e s m args below meth c H locs ls hc hS hR hl)
theorem ru_icmp_gt {x y : Int32} {off : Int} {t : Nat} (hd : decode M.1 pc = .ok (.if_icmp .gt off, 3)) (ht : (pc : Int) + off = (t : Int)) (k1 : y < x → ru_T w d mc ms M kc kn t Lc S G X) (k2 : ¬ y < x → ru_T w d mc ms M kc kn (pc + 3) Lc S G X) : ru_T w d mc ms M kc kn pc Lc (.int y :: .int x :: S) G X := fun p l e s m args below meth c H locs ls hc hS hR hl => lv_icmp_gt hc.1 hc.2.1 hd ht (fun q => k1 q p l e s m args below meth c H locs ls hc hS hR hl) (fun q => k2 q p l e s m args below meth c H locs ls hc hS hR hl)
theorem ru_icmp_le {x y : Int32} {off : Int} {t : Nat} (hd : decode M.1 pc = .ok (.if_icmp .le off, 3)) (ht : (pc : Int) + off = (t : Int)) (k1 : x ≤ y → ru_T w d mc ms M kc kn t Lc S G X) (k2 : ¬ x ≤ y → ru_T w d mc ms M kc kn (pc + 3) Lc S G X) : ru_T w d mc ms M kc kn pc Lc (.int y :: .int x :: S) G X := fun p l e s m args below meth c H locs ls hc hS hR hl => lv_icmp_le hc.1 hc.2.1 hd ht (fun q => k1 q p l e s m args below meth c H locs ls hc hS hR hl) (fun q => k2 q p l e s m args below meth c H locs ls hc hS hR hl)
theorem ru_goto {off : Int} {t : Nat} (hd : decode M.1 pc = .ok (.goto off, 3)) (ht : (pc : Int) + off = (t : Int)) (k : ru_T w d mc ms M kc kn t Lc S G X) : ru_T w d mc ms M kc kn pc Lc S G X := fun p l e s m args below meth c H locs ls hc hS hR hl => lv_goto hc.1 hc.2.1 hd ht (k p l e s m args below meth c H locs ls hc hS hR hl)
theorem ru_iaload {a n : Nat} {f : Nat → Int32} {i : Int32} (hd : decode M.1 pc = .ok (.iaload, 1)) (hG : G a = some (.inl (0, n, .inl f))) (hi : vp_in i n) (k : ru_T w d mc ms M kc kn (pc + 1) Lc (.int (f i.toNatClampNeg) :: S) G X) : ru_T w d mc ms M kc kn pc Lc (.int i :: .ref a :: S) G X := by
  intro p l e s m args below meth c H locs ls hc hS hR hl
  obtain ⟨L, q, hm, hq, hL, hP, hD⟩ := rz_get hR hG
  exact va_iald hc.1 hc.2.1 hc.2.2.2.2.2.2.2.2.1.1 hP q 0 hq rfl hi hd (k p l e s m args below meth c H locs ls hc hS hR hl)
theorem ru_laload {a n : Nat} {f : Nat → Int64} {i : Int32} (hd : decode M.1 pc = .ok (.laload, 1)) (hG : G a = some (.inl (1, n, .inr (.inl f)))) (hi : vp_in i n) (k : ru_T w d mc ms M kc kn (pc + 1) Lc (.long (f i.toNatClampNeg) :: S) G X) : ru_T w d mc ms M kc kn pc Lc (.int i :: .ref a :: S) G X := by
  intro p l e s m args below meth c H locs ls hc hS hR hl
  obtain ⟨L, q, hm, hq, hL, hP, hD⟩ := rz_get hR hG
  exact va_lald hc.1 hc.2.1 hc.2.2.2.2.2.2.2.2.1.1 hP q 1 hq rfl hi hd (k p l e s m args below meth c H locs ls hc hS hR hl)
theorem ru_baload {a n : Nat} {f : Nat → Int32} {i : Int32} (hd : decode M.1 pc = .ok (.baload, 1)) (hG : G a = some (.inl (2, n, .inl f))) (hi : vp_in i n) (k : ru_T w d mc ms M kc kn (pc + 1) Lc (.int (f i.toNatClampNeg) :: S) G X) : ru_T w d mc ms M kc kn pc Lc (.int i :: .ref a :: S) G X := by
  intro p l e s m args below meth c H locs ls hc hS hR hl
  obtain ⟨L, q, hm, hq, hL, hP, hD⟩ := rz_get hR hG
  exact va_bald hc.1 hc.2.1 hc.2.2.2.2.2.2.2.2.1.1 hP q 2 hq rfl hi hd (k p l e s m args below meth c H locs ls hc hS hR hl)
theorem ru_zaload {a n : Nat} {f : Nat → Int32} {i : Int32} (hd : decode M.1 pc = .ok (.baload, 1)) (hG : G a = some (.inl (3, n, .inl f))) (hi : vp_in i n) (k : ru_T w d mc ms M kc kn (pc + 1) Lc (.int (f i.toNatClampNeg) :: S) G X) : ru_T w d mc ms M kc kn pc Lc (.int i :: .ref a :: S) G X := by
  intro p l e s m args below meth c H locs ls hc hS hR hl
  obtain ⟨L, q, hm, hq, hL, hP, hD⟩ := rz_get hR hG
  exact va_zald hc.1 hc.2.1 hc.2.2.2.2.2.2.2.2.1.1 hP q 3 hq rfl hi hd (k p l e s m args below meth c H locs ls hc hS hR hl)
theorem ru_aaloadW {a n : Nat} {f : Nat → Option Nat} {i : Int32} (hd : decode M.1 pc = .ok (.aaload, 1)) (hG : G a = some (.inl (4, n, .inr (.inr (.inr (.inr f)))))) (hi : vp_in i n) (k : ru_T w d mc ms M kc kn (pc + 1) Lc (va_rf (f i.toNatClampNeg) :: S) G X) : ru_T w d mc ms M kc kn pc Lc (.int i :: .ref a :: S) G X := by
  intro p l e s m args below meth c H locs ls hc hS hR hl
  obtain ⟨L, q, hm, hq, hL, hP, hD⟩ := rz_get hR hG
  exact va_aldq hc.1 hc.2.1 hc.2.2.2.2.2.2.2.2.1.1 hP q 4 hq rfl hi hd (k p l e s m args below meth c H locs ls hc hS hR hl)
theorem ru_aaloadM {a n : Nat} {f : Nat → Option Nat} {i : Int32} (hd : decode M.1 pc = .ok (.aaload, 1)) (hG : G a = some (.inl (5, n, .inr (.inr (.inr (.inr f)))))) (hi : vp_in i n) (k : ru_T w d mc ms M kc kn (pc + 1) Lc (va_rf (f i.toNatClampNeg) :: S) G X) : ru_T w d mc ms M kc kn pc Lc (.int i :: .ref a :: S) G X := by
  intro p l e s m args below meth c H locs ls hc hS hR hl
  obtain ⟨L, q, hm, hq, hL, hP, hD⟩ := rz_get hR hG
  exact va_aldq hc.1 hc.2.1 hc.2.2.2.2.2.2.2.2.1.1 hP q 5 hq rfl hi hd (k p l e s m args below meth c H locs ls hc hS hR hl)
theorem ru_iastore {a n : Nat} {f : Nat → Int32} {i : Int32} {x : Int32} (hd : decode M.1 pc = .ok (.iastore, 1)) (hG : G a = some (.inl (0, n, .inl f))) (hi : vp_in i n) (k : ru_T w d mc ms M kc kn (pc + 1) Lc S (rz_up G a (.inl (0, n, .inl (upd f i.toNatClampNeg x)))) X) : ru_T w d mc ms M kc kn pc Lc (.int x :: .int i :: .ref a :: S) G X := by
  intro p l e s m args below meth c H locs ls hc hS hR hl
  obtain ⟨L, q, hm, hq, hL, hP, hD⟩ := rz_get hR hG
  exact va_iast hc.1 hc.2.1 hc.2.2.2.2.2.2.2.2.1.1 hP hD hS q 0 hq rfl hi hd (fun H1 locs1 hP1 hD1 hS1 => k p l e s m args below meth c H1 locs1 ls hc hS1 (rz_set' (H := H) (e1 := .inl (0, n, .inl (upd f i.toNatClampNeg x))) (rz_szS hc.2.2.2.2.2.2.2.2.2 hS1) hG hm hq hL hD hP1 hD1) hl)
theorem ru_lastore {a n : Nat} {f : Nat → Int64} {i : Int32} {x : Int64} (hd : decode M.1 pc = .ok (.lastore, 1)) (hG : G a = some (.inl (1, n, .inr (.inl f)))) (hi : vp_in i n) (k : ru_T w d mc ms M kc kn (pc + 1) Lc S (rz_up G a (.inl (1, n, .inr (.inl (vp_updL f i.toNatClampNeg x))))) X) : ru_T w d mc ms M kc kn pc Lc (.long x :: .int i :: .ref a :: S) G X := by
  intro p l e s m args below meth c H locs ls hc hS hR hl
  obtain ⟨L, q, hm, hq, hL, hP, hD⟩ := rz_get hR hG
  exact va_last hc.1 hc.2.1 hc.2.2.2.2.2.2.2.2.1.1 hP hD hS q 1 hq rfl hi hd (fun H1 locs1 hP1 hD1 hS1 => k p l e s m args below meth c H1 locs1 ls hc hS1 (rz_set' (H := H) (e1 := .inl (1, n, .inr (.inl (vp_updL f i.toNatClampNeg x)))) (rz_szS hc.2.2.2.2.2.2.2.2.2 hS1) hG hm hq hL hD hP1 hD1) hl)
theorem ru_bastore {a n : Nat} {f : Nat → Int32} {i : Int32} {x : Int32} (hd : decode M.1 pc = .ok (.bastore, 1)) (hG : G a = some (.inl (2, n, .inl f))) (hi : vp_in i n) (k : ru_T w d mc ms M kc kn (pc + 1) Lc S (rz_up G a (.inl (2, n, .inl (upd f i.toNatClampNeg (vp_nar .byte x))))) X) : ru_T w d mc ms M kc kn pc Lc (.int x :: .int i :: .ref a :: S) G X := by
  intro p l e s m args below meth c H locs ls hc hS hR hl
  obtain ⟨L, q, hm, hq, hL, hP, hD⟩ := rz_get hR hG
  exact va_bast hc.1 hc.2.1 hc.2.2.2.2.2.2.2.2.1.1 hP hD hS q 2 hq rfl hi hd (fun H1 locs1 hP1 hD1 hS1 => k p l e s m args below meth c H1 locs1 ls hc hS1 (rz_set' (H := H) (e1 := .inl (2, n, .inl (upd f i.toNatClampNeg (vp_nar .byte x)))) (rz_szS hc.2.2.2.2.2.2.2.2.2 hS1) hG hm hq hL hD hP1 hD1) hl)
theorem ru_zastore {a n : Nat} {f : Nat → Int32} {i : Int32} {x : Int32} (hd : decode M.1 pc = .ok (.bastore, 1)) (hG : G a = some (.inl (3, n, .inl f))) (hi : vp_in i n) (k : ru_T w d mc ms M kc kn (pc + 1) Lc S (rz_up G a (.inl (3, n, .inl (upd f i.toNatClampNeg (vp_nar .boolean x))))) X) : ru_T w d mc ms M kc kn pc Lc (.int x :: .int i :: .ref a :: S) G X := by
  intro p l e s m args below meth c H locs ls hc hS hR hl
  obtain ⟨L, q, hm, hq, hL, hP, hD⟩ := rz_get hR hG
  exact va_zast hc.1 hc.2.1 hc.2.2.2.2.2.2.2.2.1.1 hP hD hS q 3 hq rfl hi hd (fun H1 locs1 hP1 hD1 hS1 => k p l e s m args below meth c H1 locs1 ls hc hS1 (rz_set' (H := H) (e1 := .inl (3, n, .inl (upd f i.toNatClampNeg (vp_nar .boolean x)))) (rz_szS hc.2.2.2.2.2.2.2.2.2 hS1) hG hm hq hL hD hP1 hD1) hl)
theorem ru_aastoreW {a n v : Nat} {vs : List Value} {f : Nat → Option Nat} {i : Int32} (hd : decode M.1 pc = .ok (.aastore, 1)) (hG : G a = some (.inl (4, n, .inr (.inr (.inr (.inr f)))))) (hv : G v = some (.inr (0, vs))) (hi : vp_in i n) (k : ru_T w d mc ms M kc kn (pc + 1) Lc S (rz_up G a (.inl (4, n, .inr (.inr (.inr (.inr (va_up f i.toNatClampNeg (some v)))))))) X) : ru_T w d mc ms M kc kn pc Lc (.ref v :: .int i :: .ref a :: S) G X := by
  intro p l e s m args below meth c H locs ls hc hS hR hl
  obtain ⟨L, q, hm, hq, hL, hP, hD⟩ := rz_get hR hG
  have hmv : v ∈ L := (hL v).mpr (by rw [hv]; simp)
  obtain ⟨q2, hq2⟩ := va_pl_get (X := []) (f := rz_f w G) hmv
  have hq2 : (va_pl L (rz_f w G))[q2]? = some (v, .inr (0, vs)) := by
    have e1 : rz_f w G v = .inr (0, vs) := by simp only [rz_f, hv, rz_e]
    rw [← e1]; exact hq2
  exact va_astq hc.1 hc.2.1 hc.2.2.2.2.2.2.2.2.1.1 hP hD hS q 4 q2 0 hq rfl hq2 rfl hi hd (fun H1 locs1 hP1 hD1 hS1 => k p l e s m args below meth c H1 locs1 ls hc hS1 (rz_set' (H := H) (e1 := .inl (4, n, .inr (.inr (.inr (.inr (va_up f i.toNatClampNeg (some v))))))) (rz_szS hc.2.2.2.2.2.2.2.2.2 hS1) hG hm hq hL hD hP1 hD1) hl)
theorem ru_aastoreM {a n v : Nat} {vs : List Value} {f : Nat → Option Nat} {i : Int32} (hd : decode M.1 pc = .ok (.aastore, 1)) (hG : G a = some (.inl (5, n, .inr (.inr (.inr (.inr f)))))) (hv : G v = some (.inr (2, vs))) (hi : vp_in i n) (k : ru_T w d mc ms M kc kn (pc + 1) Lc S (rz_up G a (.inl (5, n, .inr (.inr (.inr (.inr (va_up f i.toNatClampNeg (some v)))))))) X) : ru_T w d mc ms M kc kn pc Lc (.ref v :: .int i :: .ref a :: S) G X := by
  intro p l e s m args below meth c H locs ls hc hS hR hl
  obtain ⟨L, q, hm, hq, hL, hP, hD⟩ := rz_get hR hG
  have hmv : v ∈ L := (hL v).mpr (by rw [hv]; simp)
  obtain ⟨q2, hq2⟩ := va_pl_get (X := []) (f := rz_f w G) hmv
  have hq2 : (va_pl L (rz_f w G))[q2]? = some (v, .inr (2, vs)) := by
    have e1 : rz_f w G v = .inr (2, vs) := by simp only [rz_f, hv, rz_e]
    rw [← e1]; exact hq2
  exact va_astq hc.1 hc.2.1 hc.2.2.2.2.2.2.2.2.1.1 hP hD hS q 5 q2 2 hq rfl hq2 rfl hi hd (fun H1 locs1 hP1 hD1 hS1 => k p l e s m args below meth c H1 locs1 ls hc hS1 (rz_set' (H := H) (e1 := .inl (5, n, .inr (.inr (.inr (.inr (va_up f i.toNatClampNeg (some v))))))) (rz_szS hc.2.2.2.2.2.2.2.2.2 hS1) hG hm hq hL hD hP1 hD1) hl)
theorem ru_alen {a t : Nat} {x : vp_A} (hd : decode M.1 pc = .ok (.arraylength, 1)) (hG : G a = some (.inl (t, x))) (ht : t < 6) (k : ru_T w d mc ms M kc kn (pc + 1) Lc (.int (nI x.1) :: S) G X) : ru_T w d mc ms M kc kn pc Lc (.ref a :: S) G X := by
  intro p l e s m args below meth c H locs ls hc hS hR hl
  obtain ⟨L, q, hm, hq, hL, hP, hD⟩ := rz_get hR hG
  obtain ⟨ty, hty⟩ : ∃ ty, (rz_tys w)[t]? = some (w.2.1 t, ty) := by
    rcases (show t = 0 ∨ t = 1 ∨ t = 2 ∨ t = 3 ∨ t = 4 ∨ t = 5 by omega) with rfl | rfl | rfl | rfl | rfl | rfl <;> exact ⟨_, rfl⟩
  exact va_alen hc.1 hc.2.1 hc.2.2.2.2.2.2.2.2.1.1 hP q t hq hty rfl hd (k p l e s m args below meth c H locs ls hc hS hR hl)
theorem ru_getf {a idx ci kf : Nat} {fs : List Value} {v : Value} (hd : decode M.1 pc = .ok (.getfield idx, 3)) (hf : rz_flb M.2.2.2.1 idx ci kf = true) (hG : G a = some (.inr (ci, fs))) (hv : fs[kf]? = some v) (k : ru_T w d mc ms M kc kn (pc + 3) Lc (v :: S) G X) : ru_T w d mc ms M kc kn pc Lc (.ref a :: S) G X := by
  intro p l e s m args below meth c H locs ls hc hS hR hl
  obtain ⟨L, q, hm, hq, hL, hP, hD⟩ := rz_get hR hG
  obtain ⟨r, hr, hk, hw⟩ := rz_flb_ok hf
  obtain ⟨f1, f2, f3⟩ := rz_clf hr
  exact va_get (C := r.1) (T := r.2.1) (N := r.2.2) hc.1 hc.2.1 hc.2.2.2.2.2.2.2.1 f1 hc.2.2.2.2.2.1 hc.2.2.2.2.2.2.2.2.1.1 hP q hq hr kf hk (hc.2.2.2.2.2.2.2.1 _ hw) (fun _ h9 => h9) hv hd (k p l e s m args below meth c H locs ls hc hS hR hl)
theorem ru_putf {a idx ci kf : Nat} {fs : List Value} {v : Value} (hd : decode M.1 pc = .ok (.putfield idx, 3)) (hf : rz_flb M.2.2.2.1 idx ci kf = true) (hwr : rz_wr M ci kf = true) (hG : G a = some (.inr (ci, fs))) (hn : narrow (rz_ty ci kf) v = v) (hfit : fits (rz_ty ci kf) v = true) (hlen : kf < fs.length) (k : ru_T w d mc ms M kc kn (pc + 3) Lc S (rz_up G a (.inr (ci, fs.set kf v))) X) : ru_T w d mc ms M kc kn pc Lc (v :: .ref a :: S) G X := by
  intro p l e s m args below meth c H locs ls hc hS hR hl
  obtain ⟨L, q, hm, hq, hL, hP, hD⟩ := rz_get hR hG
  obtain ⟨r, hr, hk, hw⟩ := rz_flb_ok hf
  obtain ⟨f1, f2, f3⟩ := rz_clf hr
  unfold rz_wr at hwr
  rw [hr] at hwr
  dsimp only at hwr
  by_cases hfin : (r.2.1 kf).2.2.2 = true
  · rw [if_pos hfin] at hwr
    simp only [Bool.and_eq_true, decide_eq_true_eq] at hwr
    exact va_putF (C := r.1) (T := r.2.1) (N := r.2.2) hc.1 hc.2.1 hc.2.2.2.2.2.2.2.1 f1 (rz_ty ci) f2 f3 hc.2.2.2.2.2.1 hc.2.2.2.2.2.2.2.2.1.1 hP hD hS q hq hr kf hk (hc.2.2.2.2.2.2.2.1 _ hw) (fun _ h9 => h9) hfin (hc.2.2.2.2.2.2.1.trans hwr.1) hwr.2 (f2 kf hk) hn hfit hlen hd
      (fun H1 locs1 hP1 hD1 hS1 => k p l e s m args below meth c H1 locs1 ls hc hS1 (rz_set' (H := H) (e1 := .inr (ci, fs.set kf v)) (rz_szS hc.2.2.2.2.2.2.2.2.2 hS1) hG hm hq hL hD hP1 hD1) hl)
  · exact va_put (C := r.1) (T := r.2.1) (N := r.2.2) hc.1 hc.2.1 hc.2.2.2.2.2.2.2.1 f1 (rz_ty ci) f2 f3 hc.2.2.2.2.2.1 hc.2.2.2.2.2.2.2.2.1.1 hP hD hS q hq hr kf hk (hc.2.2.2.2.2.2.2.1 _ hw) (fun _ h9 => h9) (by simpa using hfin) (f2 kf hk) hn hfit hlen hd
      (fun H1 locs1 hP1 hD1 hS1 => k p l e s m args below meth c H1 locs1 ls hc hS1 (rz_set' (H := H) (e1 := .inr (ci, fs.set kf v)) (rz_szS hc.2.2.2.2.2.2.2.2.2 hS1) hG hm hq hL hD hP1 hD1) hl)

theorem ru_ireturn {v : Int32} {ty : FieldType} (hd : decode M.1 pc = .ok (.ireturn, 1)) (hr : M.2.2.1 = some ty) (hn : narrow ty (.int v) = .int v) (hk : kc ≤ mc) (hk2 : kn ≤ ms) (hq : (kc = 0 ∧ kn = 0) ∧ X.1 = [] ∧ X.2.1 (some (.int v)) G) : ru_T w d mc ms M kc kn pc Lc [.int v] G X := by
  obtain ⟨⟨rfl, rfl⟩, hX, hq⟩ := hq
  exact fun p l e s m args below meth c H locs ls hc hS hR hl => ru_of hX (W.zret (v := v) hc.1 hc.2.1 (hc.2.2.2.1.trans hr) hn (fun t ht hW => ⟨⟨some (.int v), G, rfl, hq, hc.2.2.2.2.2.2.2.2.1.warm hW, by rw [ht]; exact hR⟩, hS.F ht⟩) hS.2.2 hd hc.2.2.2.2.1)
theorem ru_return (hd : decode M.1 pc = .ok (.return_, 1)) (hr : M.2.2.1 = none) (hk : kc ≤ mc) (hk2 : kn ≤ ms) (hq : (kc = 0 ∧ kn = 0) ∧ X.1 = [] ∧ X.2.1 none G) : ru_T w d mc ms M kc kn pc Lc [] G X := by
  obtain ⟨⟨rfl, rfl⟩, hX, hq⟩ := hq
  exact fun p l e s m args below meth c H locs ls hc hS hR hl => ru_of hX (W.vret hc.1 hc.2.1 (hc.2.2.2.1.trans hr) (fun t ht hW => ⟨⟨none, G, rfl, hq, hc.2.2.2.2.2.2.2.2.1.warm hW, by rw [ht]; exact hR⟩, hS.F ht⟩) hS.2.2 hd hc.2.2.2.2.1)
theorem ru_areturn {a : Nat} {n : String} (hd : decode M.1 pc = .ok (.areturn, 1)) (hr : M.2.2.1 = some (.object n)) (hk : kc ≤ mc) (hk2 : kn ≤ ms) (hq : (kc = 0 ∧ kn = 0) ∧ X.1 = [] ∧ X.2.1 (some (.ref a)) G) : ru_T w d mc ms M kc kn pc Lc [.ref a] G X := by
  obtain ⟨⟨rfl, rfl⟩, hX, hq⟩ := hq
  exact fun p l e s m args below meth c H locs ls hc hS hR hl => ru_of hX (W.aret (v := .ref a) hc.1 hc.2.1 (hc.2.2.2.1.trans hr) (Or.inl ⟨n, rfl⟩) (Or.inr ⟨a, rfl⟩) (fun t ht hW => ⟨⟨some (.ref a), G, rfl, hq, hc.2.2.2.2.2.2.2.2.1.warm hW, by rw [ht]; exact hR⟩, hS.F ht⟩) hS.2.2 hd hc.2.2.2.2.1)
end RU
section RUC
variable {w : rz_w} {d mc ms : Nat} {M : rz_M} {kc kn pc : Nat} {Lc : rz_L} {S : List Value} {G : rz_G} {X : ru_P} {Q' : Option Value → rz_G → Prop} {y : MethodName} {My : rz_M} {mc' ms' : Nat}
theorem ru_cont {p : Program} {l : Launch} {e : Env} {s : State} {m : MethodId} {args : Array Value} {below : List Frame} {meth : Method} {c : Code} {H : Heap} {locs : List Loc} {ls : Array Slot} {st0 : List Value} {a : Array Value} (hc : rz_cx w M p s m args meth c) (hS : va_S (rz_A w) s.heap H locs) (hl : rz_l ls M.2.1 Lc)
    (hr : va_Run p l e (rz_rm d mc ms) s m args below meth c H locs kc kn mc' ms' (F0 m pc ls st0) S (rz_Q w Q' a) (rz_A w))
    (k : ∀ r G', Q' r G' → ru_T w d mc ms M (kc + mc') (kn + ms') (pc + 3) Lc (r.toList ++ S) G' X) : W p l e (rz_rm d mc ms) s m args below meth c H locs kc kn (ru_F w mc ms X l below s c) (F0 m pc ls st0) := by
  intro T hT X
  obtain ⟨v, st₀, t, T', L, h0, X', hL, e1, e2, ⟨⟨r, G', hv, hq, hK, hR⟩, hz, hk⟩, st⟩ := hr T hT X
  cases hv
  rw [h0] at hz hk
  obtain ⟨t2, a1, b1⟩ := k v G' hq p l e s m args below meth c T'.heap (locs ++ L) ls hc
    ⟨Nat.le_trans hS.1 (by rw [e1]; exact hz), fun q h1 h2 => by rw [e1, hk q (Nat.lt_of_lt_of_le h1 hS.1) h2]; exact hS.2.1 q h1 h2, fun q hq => by
      rcases List.mem_append.mp hq with h | h
      · exact hS.2.2 q h
      · exact hL q h⟩ (by rw [e1]; exact hR) hl T' rfl X'
  exact ⟨t2, st t2 a1, b1⟩
theorem ru_callV {idx np : Nat} (hL : rz_lV M.2.2.2.1 idx y My np) {As : List Value} {b ci : Nat} {fs : List Value} (hd : decode M.1 pc = .ok (.invokevirtual idx, 3)) (hn : As.length = np) (hG : G b = some (.inr (ci, fs))) (hcl : (rz_cl[ci]?).map (·.1) = some y.cls) (hst : (S.map fun v => v.category).sum ≤ 8) (hk : kc + mc' ≤ mc) (hk2 : kn + ms' ≤ ms)
    (h : rz_C w d mc' ms' y My (.ref b :: As) G Q') (k : ∀ r G', Q' r G' → ru_T w (d + 1) mc ms M (kc + mc') (kn + ms') (pc + 3) Lc (r.toList ++ S) G' X) : ru_T w (d + 1) mc ms M kc kn pc Lc (As.reverse ++ .ref b :: S) G X := by
  intro p l e s m args below meth c H locs ls hc hS hR hl
  obtain ⟨L, q, hm, hq, hL2, hP, hD⟩ := rz_get hR hG
  obtain ⟨r, hr, hrn⟩ := Option.map_eq_some_iff.mp hcl
  have hK := hc.2.2.2.2.2.2.2.2.1
  have hts := hc.2.2.2.2.2.2.2.1
  have hrv := va_recv hK.1 hP hr hq
  rw [hrn] at hrv
  exact ru_cont hc hS hl (va_runV ⟨hc.1, hc.2.1, hc.2.2.1, hc.2.2.2.2.2.1, hts⟩ (h l) ⟨rz_cb hc hL.1 hL.2.1, hts _ hL.2.2.1, hts _ hL.2.2.2⟩ ⟨rz_blind, hrv, rz_pre hK hR⟩ rfl hn hl.1 rfl (lv_room hst) hd ⟨hk, hk2⟩) k
theorem ru_callS {idx np : Nat} (hL : rz_lS M.2.2.2.1 idx y My np) {As : List Value} (hd : decode M.1 pc = .ok (.invokestatic idx, 3)) (hn : As.length = np) (hst : (S.map fun v => v.category).sum ≤ 8) (hk : kc + mc' ≤ mc) (hk2 : kn + ms' ≤ ms)
    (h : rz_C w d mc' ms' y My As G Q') (k : ∀ r G', Q' r G' → ru_T w (d + 1) mc ms M (kc + mc') (kn + ms') (pc + 3) Lc (r.toList ++ S) G' X) : ru_T w (d + 1) mc ms M kc kn pc Lc (As.reverse ++ S) G X := by
  intro p l e s m args below meth c H locs ls hc hS hR hl
  have hK := hc.2.2.2.2.2.2.2.2.1
  have hts := hc.2.2.2.2.2.2.2.1
  exact ru_cont hc hS hl (va_runS ⟨hc.1, hc.2.1, hc.2.2.1, hc.2.2.2.2.2.1, hts⟩ (h l) ⟨rz_cb hc hL.1 hL.2.1, hts _ hL.2.2⟩ ⟨rz_blind, rz_pre hK hR⟩ rfl hn hl.1 rfl (lv_room hst) hd ⟨hk, hk2⟩) k
theorem ru_callI {idx np : Nat} (hL : rz_lI M.2.2.2.1 idx y My np) {As : List Value} {b : Nat} (hd : decode M.1 pc = .ok (.invokespecial idx, 3)) (hn : As.length = np) (hst : (S.map fun v => v.category).sum ≤ 8) (hk : kc + mc' ≤ mc) (hk2 : kn + ms' ≤ ms)
    (h : rz_C w d mc' ms' y My (.ref b :: As) G Q') (k : ∀ r G', Q' r G' → ru_T w (d + 1) mc ms M (kc + mc') (kn + ms') (pc + 3) Lc (r.toList ++ S) G' X) : ru_T w (d + 1) mc ms M kc kn pc Lc (As.reverse ++ .ref b :: S) G X := by
  intro p l e s m args below meth c H locs ls hc hS hR hl
  have hK := hc.2.2.2.2.2.2.2.2.1
  have hts := hc.2.2.2.2.2.2.2.1
  have hcb := rz_cb (d := d) (mc := mc) (ms := ms) (mc' := mc') (ms' := ms') hc hL.1 hL.2.1
  rw [hL.2.2.2.2] at hcb
  exact ru_cont hc hS hl (va_runI ⟨hc.1, hc.2.1, hc.2.2.1, hc.2.2.2.2.2.1, hts⟩ (h l) ⟨hcb, hL.2.2.2.1, hts _ hL.2.2.1⟩ ⟨rz_blind, rz_pre hK hR⟩ rfl hn hl.1 rfl (lv_room hst) hd ⟨hk, hk2⟩) k
theorem ru_callSN {idx np : Nat} (hL : rz_nS M.2.2.2.1 idx y My np) {As : List Value} (hd : decode M.1 pc = .ok (.invokestatic idx, 3)) (hn : As.length = np) (hst : (S.map fun v => v.category).sum ≤ 8) (hk : kc + mc' ≤ mc) (hk2 : kn + ms' ≤ ms)
    (h : rz_C w d mc' ms' y My As G Q') (k : ∀ r G', Q' r G' → ru_T w (d + 1) mc ms M (kc + mc') (kn + ms') (pc + 3) Lc (r.toList ++ S) G' X) : ru_T w (d + 1) mc ms M kc kn pc Lc (As.reverse ++ S) G X := by
  intro p l e s m args below meth c H locs ls hc hS hR hl
  have hK := hc.2.2.2.2.2.2.2.2.1
  have hts := hc.2.2.2.2.2.2.2.1
  exact ru_cont hc hS hl (va_runSN ⟨hc.1, hc.2.1, hc.2.2.1, hc.2.2.2.2.2.1, hts⟩ (h l) ⟨rz_cn hc hL.1 hL.2.1, hts _ hL.2.2, trivial⟩ ⟨rz_blind, rz_pre hK hR⟩ rfl hn hl.1 rfl (lv_room hst) hd ⟨hk, hk2⟩) k
theorem ru_callIN {idx np : Nat} (hL : rz_nI M.2.2.2.1 idx y My np) {As : List Value} {b : Nat} (hd : decode M.1 pc = .ok (.invokespecial idx, 3)) (hn : As.length = np) (hst : (S.map fun v => v.category).sum ≤ 8) (hk : kc + mc' ≤ mc) (hk2 : kn + ms' ≤ ms)
    (h : rz_C w d mc' ms' y My (.ref b :: As) G Q') (k : ∀ r G', Q' r G' → ru_T w (d + 1) mc ms M (kc + mc') (kn + ms') (pc + 3) Lc (r.toList ++ S) G' X) : ru_T w (d + 1) mc ms M kc kn pc Lc (As.reverse ++ .ref b :: S) G X := by
  intro p l e s m args below meth c H locs ls hc hS hR hl
  have hK := hc.2.2.2.2.2.2.2.2.1
  have hts := hc.2.2.2.2.2.2.2.1
  have hcb := rz_cn (d := d) (mc := mc) (ms := ms) (mc' := mc') (ms' := ms') hc hL.1 hL.2.1
  rw [hL.2.2.2.2] at hcb
  exact ru_cont hc hS hl (va_runIN ⟨hc.1, hc.2.1, hc.2.2.1, hc.2.2.2.2.2.1, hts⟩ (h l) ⟨hcb, hL.2.2.2.1, hts _ hL.2.2.1⟩ ⟨rz_blind, rz_pre hK hR⟩ rfl hn hl.1 rfl (lv_room hst) hd ⟨hk, hk2⟩) k

end RUC
section RUX
variable {w : rz_w} {d mc ms : Nat} {M : rz_M} {kc kn : Nat} {X : ru_P}
set_option maxHeartbeats 4000000 in
theorem ru_st_ok {i : rz_I} {pc : Nat} {L : rz_L} {S : List Value} {G : rz_G} (hk : kc ≤ mc) (hk2 : kn ≤ ms) (hd : rz_lk M pc i = true)
    (h : rz_st i pc L S G (fun L S G => ru_T w d mc ms M kc kn (pc + i.2.1) L S G X) (fun pc L S G => ru_T w d mc ms M kc kn pc L S G X) (fun r G => rz_nb M r ∧ ((kc = 0 ∧ kn = 0) ∧ X.1 = [] ∧ X.2.1 r G))) : ru_T w d mc ms M kc kn pc L S G X := by
  obtain ⟨i, len, ci, kf⟩ := i
  unfold rz_lk at hd
  unfold rz_st at h
  simp only [Bool.and_eq_true, decide_eq_true_eq] at hd
  obtain ⟨hd, ha⟩ := hd
  dsimp only at hd ha h
  split at h
  · simp only [decide_eq_true_eq] at ha; subst ha; unfold rz_i2 at h; split at h; exact ru_iadd hd h; exact h.elim
  · simp only [decide_eq_true_eq] at ha; subst ha; unfold rz_i2 at h; split at h; exact ru_isub hd h; exact h.elim
  · simp only [decide_eq_true_eq] at ha; subst ha; unfold rz_i2 at h; split at h; exact ru_imul hd h; exact h.elim
  · simp only [decide_eq_true_eq] at ha; subst ha; unfold rz_i2 at h; split at h; exact ru_iand hd h; exact h.elim
  · simp only [decide_eq_true_eq] at ha; subst ha; unfold rz_i2 at h; split at h; exact ru_ior hd h; exact h.elim
  · simp only [decide_eq_true_eq] at ha; subst ha; unfold rz_i2 at h; split at h; exact ru_ixor hd h; exact h.elim
  · simp only [decide_eq_true_eq] at ha; subst ha; unfold rz_i2 at h; split at h; exact ru_ishl hd h; exact h.elim
  · simp only [decide_eq_true_eq] at ha; subst ha; unfold rz_i2 at h; split at h; exact ru_ishr hd h; exact h.elim
  · simp only [decide_eq_true_eq] at ha; subst ha; unfold rz_i2 at h; split at h; exact ru_iushr hd h; exact h.elim
  · simp only [decide_eq_true_eq] at ha; subst ha; unfold rz_i2 at h; split at h; exact ru_idiv hd h.1 h.2; exact h.elim
  · simp only [decide_eq_true_eq] at ha; subst ha; unfold rz_i2 at h; split at h; exact ru_irem hd h.1 h.2; exact h.elim
  · simp only [decide_eq_true_eq] at ha; subst ha; unfold rz_i1 at h; split at h; exact ru_ineg hd h; exact h.elim
  · simp only [decide_eq_true_eq] at ha; subst ha; unfold rz_l2 at h; split at h; exact ru_ladd hd h; exact h.elim
  · simp only [decide_eq_true_eq] at ha; subst ha; unfold rz_l2 at h; split at h; exact ru_lsub hd h; exact h.elim
  · simp only [decide_eq_true_eq] at ha; subst ha; unfold rz_l2 at h; split at h; exact ru_lmul hd h; exact h.elim
  · simp only [decide_eq_true_eq] at ha; subst ha; unfold rz_l2 at h; split at h; exact ru_land hd h; exact h.elim
  · simp only [decide_eq_true_eq] at ha; subst ha; unfold rz_l2 at h; split at h; exact ru_lor hd h; exact h.elim
  · simp only [decide_eq_true_eq] at ha; subst ha; unfold rz_l2 at h; split at h; exact ru_lxor hd h; exact h.elim
  · simp only [decide_eq_true_eq] at ha; subst ha; unfold rz_li at h; split at h; exact ru_lshl hd h; exact h.elim
  · simp only [decide_eq_true_eq] at ha; subst ha; unfold rz_li at h; split at h; exact ru_lushr hd h; exact h.elim
  · simp only [decide_eq_true_eq] at ha; subst ha; unfold rz_l2 at h; split at h; exact ru_lcmp hd h; exact h.elim
  · simp only [decide_eq_true_eq] at ha; subst ha; unfold rz_i1 at h; split at h; exact ru_i2l hd h; exact h.elim
  · simp only [decide_eq_true_eq] at ha; subst ha; unfold rz_l1 at h; split at h; exact ru_l2i hd h; exact h.elim
  · simp only [decide_eq_true_eq] at ha; subst ha; unfold rz_i1 at h; split at h; exact ru_i2b hd h; exact h.elim
  · simp only [decide_eq_true_eq] at ha; subst ha; exact ru_iconst hd h
  · simp only [decide_eq_true_eq] at ha; subst ha; exact ru_bipush hd h
  · simp only [decide_eq_true_eq] at ha; subst ha; exact ru_sipush hd h
  · simp only [decide_eq_true_eq] at ha; subst ha; exact ru_lconst hd h
  · simp only [decide_eq_true_eq] at ha; subst ha; unfold rz_li0 at h; split at h; (next q => exact ru_iload_n hd q h); exact h.elim
  · simp only [decide_eq_true_eq] at ha; subst ha; unfold rz_li0 at h; split at h; (next q => exact ru_iload hd q h); exact h.elim
  · simp only [decide_eq_true_eq] at ha; subst ha; unfold rz_ll0 at h; split at h; (next q => exact ru_lload_n hd q h); exact h.elim
  · simp only [decide_eq_true_eq] at ha; subst ha; unfold rz_ll0 at h; split at h; (next q => exact ru_lload hd q h); exact h.elim
  · simp only [decide_eq_true_eq] at ha; subst ha; unfold rz_lr0 at h; split at h; (next q => exact ru_aload_n hd q h); exact h.elim
  · simp only [decide_eq_true_eq] at ha; subst ha; unfold rz_lr0 at h; split at h; (next q => exact ru_aload hd q h); exact h.elim
  · simp only [Bool.and_eq_true, decide_eq_true_eq] at ha; obtain ⟨ha, hb⟩ := ha; subst ha; unfold rz_i1 at h; split at h; exact ru_istore_n hd hb h; exact h.elim
  · simp only [Bool.and_eq_true, decide_eq_true_eq] at ha; obtain ⟨ha, hb⟩ := ha; subst ha; unfold rz_i1 at h; split at h; exact ru_istore hd hb h; exact h.elim
  · simp only [Bool.and_eq_true, decide_eq_true_eq] at ha; obtain ⟨ha, hb⟩ := ha; subst ha; unfold rz_r1 at h; split at h; exact ru_astore_n hd hb h; exact h.elim
  · simp only [Bool.and_eq_true, decide_eq_true_eq] at ha; obtain ⟨ha, hb⟩ := ha; subst ha; unfold rz_r1 at h; split at h; exact ru_astore hd hb h; exact h.elim
  · simp only [Bool.and_eq_true, decide_eq_true_eq] at ha; obtain ⟨ha, hb⟩ := ha; subst ha; unfold rz_l1 at h; split at h; exact ru_lstore_n hd hb h; exact h.elim
  · simp only [Bool.and_eq_true, decide_eq_true_eq] at ha; obtain ⟨ha, hb⟩ := ha; subst ha; unfold rz_l1 at h; split at h; exact ru_lstore hd hb h; exact h.elim
  · simp only [Bool.and_eq_true, decide_eq_true_eq] at ha; obtain ⟨ha, hb⟩ := ha; subst ha; unfold rz_li0 at h; split at h; (next q => exact ru_iinc hd hb q h); exact h.elim
  · simp only [decide_eq_true_eq] at ha; subst ha; unfold rz_v1 at h; split at h; exact ru_dup hd h.1 h.2; exact h.elim
  · simp only [decide_eq_true_eq] at ha; subst ha; unfold rz_v1 at h; split at h; exact ru_pop hd h.1 h.2; exact h.elim
  · simp only [decide_eq_true_eq] at ha; subst ha; unfold rz_v2 at h; split at h; exact ru_dup2 hd h.1 h.2.1 h.2.2; exact h.elim
  · simp only [Bool.and_eq_true, decide_eq_true_eq] at ha; obtain ⟨ha, hb⟩ := ha; subst ha; unfold rz_i1 at h; split at h; exact ru_if_eq hd (rz_tr_ok hb) h.1 h.2; exact h.elim
  · simp only [Bool.and_eq_true, decide_eq_true_eq] at ha; obtain ⟨ha, hb⟩ := ha; subst ha; unfold rz_i1 at h; split at h; exact ru_if_ne hd (rz_tr_ok hb) h.1 h.2; exact h.elim
  · simp only [Bool.and_eq_true, decide_eq_true_eq] at ha; obtain ⟨ha, hb⟩ := ha; subst ha; unfold rz_i1 at h; split at h; exact ru_if_lt hd (rz_tr_ok hb) h.1 h.2; exact h.elim
  · simp only [Bool.and_eq_true, decide_eq_true_eq] at ha; obtain ⟨ha, hb⟩ := ha; subst ha; unfold rz_i1 at h; split at h; exact ru_if_ge hd (rz_tr_ok hb) h.1 h.2; exact h.elim
  · simp only [Bool.and_eq_true, decide_eq_true_eq] at ha; obtain ⟨ha, hb⟩ := ha; subst ha; unfold rz_i1 at h; split at h; exact ru_if_gt hd (rz_tr_ok hb) h.1 h.2; exact h.elim
  · simp only [Bool.and_eq_true, decide_eq_true_eq] at ha; obtain ⟨ha, hb⟩ := ha; subst ha; unfold rz_i1 at h; split at h; exact ru_if_le hd (rz_tr_ok hb) h.1 h.2; exact h.elim
  · simp only [Bool.and_eq_true, decide_eq_true_eq] at ha; obtain ⟨ha, hb⟩ := ha; subst ha; unfold rz_i2 at h; split at h; exact ru_icmp_eq hd (rz_tr_ok hb) h.1 h.2; exact h.elim
  · simp only [Bool.and_eq_true, decide_eq_true_eq] at ha; obtain ⟨ha, hb⟩ := ha; subst ha; unfold rz_i2 at h; split at h; exact ru_icmp_ne hd (rz_tr_ok hb) h.1 h.2; exact h.elim
  · simp only [Bool.and_eq_true, decide_eq_true_eq] at ha; obtain ⟨ha, hb⟩ := ha; subst ha; unfold rz_i2 at h; split at h; exact ru_icmp_lt hd (rz_tr_ok hb) h.1 h.2; exact h.elim
  · simp only [Bool.and_eq_true, decide_eq_true_eq] at ha; obtain ⟨ha, hb⟩ := ha; subst ha; unfold rz_i2 at h; split at h; exact ru_icmp_ge hd (rz_tr_ok hb) h.1 h.2; exact h.elim
  · simp only [Bool.and_eq_true, decide_eq_true_eq] at ha; obtain ⟨ha, hb⟩ := ha; subst ha; unfold rz_i2 at h; split at h; exact ru_icmp_gt hd (rz_tr_ok hb) h.1 h.2; exact h.elim
  · simp only [Bool.and_eq_true, decide_eq_true_eq] at ha; obtain ⟨ha, hb⟩ := ha; subst ha; unfold rz_i2 at h; split at h; exact ru_icmp_le hd (rz_tr_ok hb) h.1 h.2; exact h.elim
  · simp only [Bool.and_eq_true, decide_eq_true_eq] at ha; obtain ⟨ha, hb⟩ := ha; subst ha; exact ru_goto hd (rz_tr_ok hb) h
  · simp only [Bool.and_eq_true, decide_eq_true_eq] at ha
    obtain ⟨ha, hb⟩ := ha
    subst ha
    split at h
    · rcases hb with hb | hb
      · exact ru_ireturn hd hb rfl hk hk2 h.2
      · exact ru_ireturn hd hb (by simp only [narrow, Value.int.injEq]; exact h.1 hb _ rfl) hk hk2 h.2
    · exact h.elim
  · simp only [Bool.and_eq_true, decide_eq_true_eq] at ha; obtain ⟨ha, hb⟩ := ha; subst ha; split at h; exact ru_return hd hb hk hk2 h.2; exact h.elim
  · simp only [Bool.and_eq_true, decide_eq_true_eq] at ha; obtain ⟨ha, hb⟩ := ha; subst ha; split at h; exact ru_areturn hd hb hk hk2 h.2; exact h.elim
  · simp only [decide_eq_true_eq] at ha; subst ha; unfold rz_ri at h; split at h; (unfold rz_ia at h; split at h; (next q => obtain ⟨rfl, h1, h2⟩ := h; exact ru_iaload hd q h1 h2); exact h.elim); exact h.elim
  · simp only [decide_eq_true_eq] at ha; subst ha; unfold rz_ri at h; split at h; (unfold rz_ia at h; split at h; (next q => obtain ⟨rfl | rfl, h1, h2⟩ := h; exact ru_baload hd q h1 h2; exact ru_zaload hd q h1 h2); exact h.elim); exact h.elim
  · simp only [decide_eq_true_eq] at ha; subst ha; unfold rz_ri at h; split at h; (unfold rz_la at h; split at h; (next q => obtain ⟨rfl, h1, h2⟩ := h; exact ru_laload hd q h1 h2); exact h.elim); exact h.elim
  · simp only [decide_eq_true_eq] at ha; subst ha; unfold rz_ri at h; split at h; (unfold rz_ra at h; split at h; (next q => obtain ⟨rfl | rfl, h1, h2⟩ := h; exact ru_aaloadW hd q h1 h2; exact ru_aaloadM hd q h1 h2); exact h.elim); exact h.elim
  · simp only [decide_eq_true_eq] at ha; subst ha; unfold rz_rii at h; split at h; (unfold rz_ia at h; split at h; (next q => obtain ⟨rfl, h1, h2⟩ := h; exact ru_iastore hd q h1 h2); exact h.elim); exact h.elim
  · simp only [decide_eq_true_eq] at ha; subst ha; unfold rz_rii at h; split at h; (unfold rz_ia at h; split at h; (next q => obtain ⟨rfl | rfl, h1, h2⟩ := h; exact ru_bastore hd q h1 h2; exact ru_zastore hd q h1 h2); exact h.elim); exact h.elim
  · simp only [decide_eq_true_eq] at ha; subst ha; unfold rz_ril at h; split at h; (unfold rz_la at h; split at h; (next q => obtain ⟨rfl, h1, h2⟩ := h; exact ru_lastore hd q h1 h2); exact h.elim); exact h.elim
  · simp only [decide_eq_true_eq] at ha; subst ha; unfold rz_r1 at h; split at h; (unfold rz_aa at h; split at h; (next q => exact ru_alen hd q h.1 h.2); exact h.elim); exact h.elim
  · simp only [Bool.and_eq_true, decide_eq_true_eq] at ha; obtain ⟨ha, hb⟩ := ha; subst ha; unfold rz_r1 at h; split at h; (unfold rz_ob at h; split at h; (next q => obtain ⟨rfl, h⟩ := h; unfold rz_fv at h; split at h; (next q2 => exact ru_getf hd hb q q2 h); exact h.elim); exact h.elim); exact h.elim
  · simp only [Bool.and_eq_true, decide_eq_true_eq] at ha; obtain ⟨⟨ha, hb⟩, hb2⟩ := ha; subst ha; unfold rz_vr at h; split at h; (unfold rz_ob at h; split at h; (next q => obtain ⟨rfl, h1, h2, h3⟩ := h; exact ru_putf hd hb hb2 q h1.1 h1.2 h2 h3); exact h.elim); exact h.elim
  · exact h.elim
theorem ru_blk (is : List rz_I) {pc : Nat} {L : rz_L} {S : List Value} {G : rz_G} (hd : rz_lks M pc is = true) (hk : kc ≤ mc) (hk2 : kn ≤ ms)
    (h : rz_ex is pc L S G (fun pc L S G => ru_T w d mc ms M kc kn pc L S G X) (fun r G => rz_nb M r ∧ ((kc = 0 ∧ kn = 0) ∧ X.1 = [] ∧ X.2.1 r G))) : ru_T w d mc ms M kc kn pc L S G X := by
  induction is generalizing pc L S G with
  | nil => exact h
  | cons i is ih =>
    simp only [rz_lks, Bool.and_eq_true] at hd
    exact ru_st_ok hk hk2 hd.1 (rz_st_mono (fun L S G h => ih hd.2 h) h)

end RUX
theorem ru_blk' (is : List rz_I) {w : rz_w} {d mc ms : Nat} {M : rz_M} {kc kn : Nat} {X : ru_P} {pc : Nat} {L : rz_L} {S : List Value} {G : rz_G} (hd : rz_lks M pc is = true) (hk : kc ≤ mc) (hk2 : kn ≤ ms)
    (h : ∀ (K : Nat → rz_L → List Value → rz_G → Prop) (R : Option Value → rz_G → Prop), (∀ pc L S G, ru_T w d mc ms M kc kn pc L S G X → K pc L S G) → (∀ r G, rz_nb M r → (kc = 0 ∧ kn = 0) ∧ X.1 = [] ∧ X.2.1 r G → R r G) → rz_ex is pc L S G K R) : ru_T w d mc ms M kc kn pc L S G X :=
  ru_blk is hd hk hk2 (h _ _ (fun _ _ _ _ q => q) (fun _ _ q1 q2 => ⟨q1, q2⟩))
section RUC0
variable {w : rz_w} {d mc ms : Nat} {M : rz_M} {kc kn pc : Nat} {Lc : rz_L} {S : List Value} {G : rz_G} {X : ru_P} {Q' : Option Value → rz_G → Prop} {y : MethodName} {My : rz_M}
theorem ru_cV {idx np : Nat} (hL : rz_lV M.2.2.2.1 idx y My np) {As : List Value} {b ci : Nat} {fs : List Value} (hd : decode M.1 pc = .ok (.invokevirtual idx, 3)) (hn : As.length = np) (hG : G b = some (.inr (ci, fs))) (hcl : (rz_cl[ci]?).map (·.1) = some y.cls) (hst : (S.map fun v => v.category).sum ≤ 8) (hk : kc ≤ mc) (hk2 : kn ≤ ms)
    (h : rz_C w d 0 0 y My (.ref b :: As) G Q') (k : ∀ r G', Q' r G' → ru_T w (d + 1) mc ms M kc kn (pc + 3) Lc (r.toList ++ S) G' X) : ru_T w (d + 1) mc ms M kc kn pc Lc (As.reverse ++ .ref b :: S) G X := ru_callV hL hd hn hG hcl hst hk hk2 h k
theorem ru_cS {idx np : Nat} (hL : rz_lS M.2.2.2.1 idx y My np) {As : List Value} (hd : decode M.1 pc = .ok (.invokestatic idx, 3)) (hn : As.length = np) (hst : (S.map fun v => v.category).sum ≤ 8) (hk : kc ≤ mc) (hk2 : kn ≤ ms)
    (h : rz_C w d 0 0 y My As G Q') (k : ∀ r G', Q' r G' → ru_T w (d + 1) mc ms M kc kn (pc + 3) Lc (r.toList ++ S) G' X) : ru_T w (d + 1) mc ms M kc kn pc Lc (As.reverse ++ S) G X := ru_callS hL hd hn hst hk hk2 h k
theorem ru_cN {idx np : Nat} (hL : rz_nS M.2.2.2.1 idx y My np) {As : List Value} (hd : decode M.1 pc = .ok (.invokestatic idx, 3)) (hn : As.length = np) (hst : (S.map fun v => v.category).sum ≤ 8) (hk : kc ≤ mc) (hk2 : kn ≤ ms)
    (h : rz_C w d 0 0 y My As G Q') (k : ∀ r G', Q' r G' → ru_T w (d + 1) mc ms M kc kn (pc + 3) Lc (r.toList ++ S) G' X) : ru_T w (d + 1) mc ms M kc kn pc Lc (As.reverse ++ S) G X := ru_callSN hL hd hn hst hk hk2 h k

end RUC0
