/-! constructors: the same judgement with the heap's size at the start known (X.1): what is made lies at the heap's end -/
abbrev rn_P : Type := Nat × (Option Value → rz_G → Prop)
/-- the heap's size, and that the arrays of words and of machines are known -/
def rn_z (n : Nat) (s : State) : Prop := s.heap.size = n ∧ va_AO "WriterDesk$Word" s ∧ va_AO "WriterDesk$Machine" s
def rn_F (w : rz_w) (mc ms : Nat) (X : rn_P) (args : Array Value) (below : List Frame) (s : State) : State → Prop := fun t => rn_z X.1 s → MQ below (rz_Q w X.2) args s mc ms (rz_A w) t
def rn_T (w : rz_w) (d mc ms : Nat) (M : rz_M) (kc kn pc : Nat) (Lc : rz_L) (S : List Value) (G : rz_G) (X : rn_P) : Prop :=
  ∀ (p : Program) (l : Launch) (e : Env) (s : State) (m : MethodId) (args : Array Value) (below : List Frame) (meth : Method) (c : Code) (H : Heap) (locs : List Loc) (ls : Array Slot), rz_cx w M p s m args meth c → va_S (rz_A w) s.heap H locs → rz_R w G H → rz_l ls M.2.1 Lc →
    W p l e (rz_rm d mc ms) s m args below meth c H locs kc kn (rn_F w mc ms X args below s) (F0 m pc ls S)
theorem rn_of {w : rz_w} {d mc ms : Nat} {M : rz_M} {kc kn pc : Nat} {Lc : rz_L} {S : List Value} {G : rz_G} {X : rn_P} (h : rz_T w d mc ms M kc kn pc Lc S G X.2) : rn_T w d mc ms M kc kn pc Lc S G X := by
  intro p l e s m args below meth c H locs ls hc hS hR hl T hT Y
  obtain ⟨t, h1, h2⟩ := h p l e s m args below meth c H locs ls hc hS hR hl T hT Y
  exact ⟨t, h1, fun _ => h2⟩
section RU
variable {w : rz_w} {d mc ms : Nat} {M : rz_M} {kc kn pc : Nat} {Lc : rz_L} {S : List Value} {G : rz_G} {X : rn_P}
theorem rn_iadd {x y : Int32} (hd : decode M.1 pc = .ok (.iadd, 1)) (k : rn_T w d mc ms M kc kn (pc + 1) Lc (.int (x + y) :: S) G X) : rn_T w d mc ms M kc kn pc Lc (.int y :: .int x :: S) G X := fun p l e s m args below meth c H locs ls hc hS hR hl => lv_iadd hc.1 hc.2.1 hd (k p l e s m args below meth c H locs ls hc hS hR hl)
theorem rn_isub {x y : Int32} (hd : decode M.1 pc = .ok (.isub, 1)) (k : rn_T w d mc ms M kc kn (pc + 1) Lc (.int (x - y) :: S) G X) : rn_T w d mc ms M kc kn pc Lc (.int y :: .int x :: S) G X := fun p l e s m args below meth c H locs ls hc hS hR hl => lv_isub hc.1 hc.2.1 hd (k p l e s m args below meth c H locs ls hc hS hR hl)
theorem rn_imul {x y : Int32} (hd : decode M.1 pc = .ok (.imul, 1)) (k : rn_T w d mc ms M kc kn (pc + 1) Lc (.int (x * y) :: S) G X) : rn_T w d mc ms M kc kn pc Lc (.int y :: .int x :: S) G X := fun p l e s m args below meth c H locs ls hc hS hR hl => lv_imul hc.1 hc.2.1 hd (k p l e s m args below meth c H locs ls hc hS hR hl)
theorem rn_iand {x y : Int32} (hd : decode M.1 pc = .ok (.iand, 1)) (k : rn_T w d mc ms M kc kn (pc + 1) Lc (.int (x &&& y) :: S) G X) : rn_T w d mc ms M kc kn pc Lc (.int y :: .int x :: S) G X := fun p l e s m args below meth c H locs ls hc hS hR hl => lv_iand hc.1 hc.2.1 hd (k p l e s m args below meth c H locs ls hc hS hR hl)
theorem rn_ior {x y : Int32} (hd : decode M.1 pc = .ok (.ior, 1)) (k : rn_T w d mc ms M kc kn (pc + 1) Lc (.int (x ||| y) :: S) G X) : rn_T w d mc ms M kc kn pc Lc (.int y :: .int x :: S) G X := fun p l e s m args below meth c H locs ls hc hS hR hl => lv_ior hc.1 hc.2.1 hd (k p l e s m args below meth c H locs ls hc hS hR hl)
theorem rn_ixor {x y : Int32} (hd : decode M.1 pc = .ok (.ixor, 1)) (k : rn_T w d mc ms M kc kn (pc + 1) Lc (.int (x ^^^ y) :: S) G X) : rn_T w d mc ms M kc kn pc Lc (.int y :: .int x :: S) G X := fun p l e s m args below meth c H locs ls hc hS hR hl => lv_ixor hc.1 hc.2.1 hd (k p l e s m args below meth c H locs ls hc hS hR hl)
theorem rn_ishl {x y : Int32} (hd : decode M.1 pc = .ok (.ishl, 1)) (k : rn_T w d mc ms M kc kn (pc + 1) Lc (.int (x <<< (y &&& 31)) :: S) G X) : rn_T w d mc ms M kc kn pc Lc (.int y :: .int x :: S) G X := fun p l e s m args below meth c H locs ls hc hS hR hl => lv_ishl hc.1 hc.2.1 hd (k p l e s m args below meth c H locs ls hc hS hR hl)
theorem rn_ishr {x y : Int32} (hd : decode M.1 pc = .ok (.ishr, 1)) (k : rn_T w d mc ms M kc kn (pc + 1) Lc (.int (x >>> (y &&& 31)) :: S) G X) : rn_T w d mc ms M kc kn pc Lc (.int y :: .int x :: S) G X := fun p l e s m args below meth c H locs ls hc hS hR hl => lv_ishr hc.1 hc.2.1 hd (k p l e s m args below meth c H locs ls hc hS hR hl)
theorem rn_idiv {x y : Int32} (hd : decode M.1 pc = .ok (.idiv, 1)) (h0 : ¬ y = 0) (k : rn_T w d mc ms M kc kn (pc + 1) Lc (.int (x / y) :: S) G X) : rn_T w d mc ms M kc kn pc Lc (.int y :: .int x :: S) G X := fun p l e s m args below meth c H locs ls hc hS hR hl => lv_idiv hc.1 hc.2.1 hd h0 (k p l e s m args below meth c H locs ls hc hS hR hl)
theorem rn_irem {x y : Int32} (hd : decode M.1 pc = .ok (.irem, 1)) (h0 : ¬ y = 0) (k : rn_T w d mc ms M kc kn (pc + 1) Lc (.int (x - x / y * y) :: S) G X) : rn_T w d mc ms M kc kn pc Lc (.int y :: .int x :: S) G X := fun p l e s m args below meth c H locs ls hc hS hR hl => lv_irem hc.1 hc.2.1 hd h0 (k p l e s m args below meth c H locs ls hc hS hR hl)
theorem rn_iushr {x y : Int32} (hd : decode M.1 pc = .ok (.iushr, 1)) (k : rn_T w d mc ms M kc kn (pc + 1) Lc (.int ((x.toUInt32 >>> (y.toUInt32 &&& Int32.toUInt32 31)).toInt32) :: S) G X) : rn_T w d mc ms M kc kn pc Lc (.int y :: .int x :: S) G X := fun p l e s m args below meth c H locs ls hc hS hR hl => lv_iushr hc.1 hc.2.1 hd rfl (k p l e s m args below meth c H locs ls hc hS hR hl)
theorem rn_ineg {x : Int32} (hd : decode M.1 pc = .ok (.ineg, 1)) (k : rn_T w d mc ms M kc kn (pc + 1) Lc (.int (-x) :: S) G X) : rn_T w d mc ms M kc kn pc Lc (.int x :: S) G X := fun p l e s m args below meth c H locs ls hc hS hR hl => lv_ineg hc.1 hc.2.1 hd (k p l e s m args below meth c H locs ls hc hS hR hl)
theorem rn_ladd {x y : Int64} (hd : decode M.1 pc = .ok (.ladd, 1)) (k : rn_T w d mc ms M kc kn (pc + 1) Lc (.long (x + y) :: S) G X) : rn_T w d mc ms M kc kn pc Lc (.long y :: .long x :: S) G X := fun p l e s m args below meth c H locs ls hc hS hR hl => lv_ladd hc.1 hc.2.1 hd (k p l e s m args below meth c H locs ls hc hS hR hl)
theorem rn_lsub {x y : Int64} (hd : decode M.1 pc = .ok (.lsub, 1)) (k : rn_T w d mc ms M kc kn (pc + 1) Lc (.long (x - y) :: S) G X) : rn_T w d mc ms M kc kn pc Lc (.long y :: .long x :: S) G X := fun p l e s m args below meth c H locs ls hc hS hR hl => lv_lsub hc.1 hc.2.1 hd (k p l e s m args below meth c H locs ls hc hS hR hl)
theorem rn_lmul {x y : Int64} (hd : decode M.1 pc = .ok (.lmul, 1)) (k : rn_T w d mc ms M kc kn (pc + 1) Lc (.long (x * y) :: S) G X) : rn_T w d mc ms M kc kn pc Lc (.long y :: .long x :: S) G X := fun p l e s m args below meth c H locs ls hc hS hR hl => lv_lmul hc.1 hc.2.1 hd (k p l e s m args below meth c H locs ls hc hS hR hl)
theorem rn_land {x y : Int64} (hd : decode M.1 pc = .ok (.land, 1)) (k : rn_T w d mc ms M kc kn (pc + 1) Lc (.long (x &&& y) :: S) G X) : rn_T w d mc ms M kc kn pc Lc (.long y :: .long x :: S) G X := fun p l e s m args below meth c H locs ls hc hS hR hl => lv_land hc.1 hc.2.1 hd (k p l e s m args below meth c H locs ls hc hS hR hl)
theorem rn_lor {x y : Int64} (hd : decode M.1 pc = .ok (.lor, 1)) (k : rn_T w d mc ms M kc kn (pc + 1) Lc (.long (x ||| y) :: S) G X) : rn_T w d mc ms M kc kn pc Lc (.long y :: .long x :: S) G X := fun p l e s m args below meth c H locs ls hc hS hR hl => lv_lor hc.1 hc.2.1 hd (k p l e s m args below meth c H locs ls hc hS hR hl)
theorem rn_lxor {x y : Int64} (hd : decode M.1 pc = .ok (.lxor, 1)) (k : rn_T w d mc ms M kc kn (pc + 1) Lc (.long (x ^^^ y) :: S) G X) : rn_T w d mc ms M kc kn pc Lc (.long y :: .long x :: S) G X := fun p l e s m args below meth c H locs ls hc hS hR hl => lv_lxor hc.1 hc.2.1 hd (k p l e s m args below meth c H locs ls hc hS hR hl)
theorem rn_lshl {x : Int64} {y : Int32} (hd : decode M.1 pc = .ok (.lshl, 1)) (k : rn_T w d mc ms M kc kn (pc + 1) Lc (.long (x <<< (y.toInt64 &&& 63)) :: S) G X) : rn_T w d mc ms M kc kn pc Lc (.int y :: .long x :: S) G X := fun p l e s m args below meth c H locs ls hc hS hR hl => lv_lshl hc.1 hc.2.1 hd rfl (k p l e s m args below meth c H locs ls hc hS hR hl)
theorem rn_lushr {x : Int64} {y : Int32} (hd : decode M.1 pc = .ok (.lushr, 1)) (k : rn_T w d mc ms M kc kn (pc + 1) Lc (.long ((x.toUInt64 >>> (y.toInt64.toUInt64 &&& Int64.toUInt64 63)).toInt64) :: S) G X) : rn_T w d mc ms M kc kn pc Lc (.int y :: .long x :: S) G X := fun p l e s m args below meth c H locs ls hc hS hR hl => lv_lushr hc.1 hc.2.1 hd rfl (k p l e s m args below meth c H locs ls hc hS hR hl)
theorem rn_lcmp {x y : Int64} (hd : decode M.1 pc = .ok (.lcmp, 1)) (k : rn_T w d mc ms M kc kn (pc + 1) Lc (.int (lg_cmp x y) :: S) G X) : rn_T w d mc ms M kc kn pc Lc (.long y :: .long x :: S) G X := fun p l e s m args below meth c H locs ls hc hS hR hl => W.lcmp hc.1 hc.2.1 hd (k p l e s m args below meth c H locs ls hc hS hR hl)
theorem rn_i2l {x : Int32} (hd : decode M.1 pc = .ok (.i2l, 1)) (k : rn_T w d mc ms M kc kn (pc + 1) Lc (.long (x.toInt64) :: S) G X) : rn_T w d mc ms M kc kn pc Lc (.int x :: S) G X := fun p l e s m args below meth c H locs ls hc hS hR hl => lv_i2l hc.1 hc.2.1 hd rfl (k p l e s m args below meth c H locs ls hc hS hR hl)
theorem rn_l2i {x : Int64} (hd : decode M.1 pc = .ok (.l2i, 1)) (k : rn_T w d mc ms M kc kn (pc + 1) Lc (.int (x.toInt32) :: S) G X) : rn_T w d mc ms M kc kn pc Lc (.long x :: S) G X := fun p l e s m args below meth c H locs ls hc hS hR hl => lv_l2i hc.1 hc.2.1 hd rfl (k p l e s m args below meth c H locs ls hc hS hR hl)
theorem rn_i2b {x : Int32} (hd : decode M.1 pc = .ok (.i2b, 1)) (k : rn_T w d mc ms M kc kn (pc + 1) Lc (.int (x.toInt8.toInt32) :: S) G X) : rn_T w d mc ms M kc kn pc Lc (.int x :: S) G X := fun p l e s m args below meth c H locs ls hc hS hR hl => lv_i2b hc.1 hc.2.1 hd rfl (k p l e s m args below meth c H locs ls hc hS hR hl)
theorem rn_iconst {n : Int} (hd : decode M.1 pc = .ok (.iconst n, 1)) (k : rn_T w d mc ms M kc kn (pc + 1) Lc (.int (Int32.ofInt n) :: S) G X) : rn_T w d mc ms M kc kn pc Lc S G X := fun p l e s m args below meth c H locs ls hc hS hR hl => lv_iconst hc.1 hc.2.1 hd rfl (k p l e s m args below meth c H locs ls hc hS hR hl)
theorem rn_bipush {n : Int} (hd : decode M.1 pc = .ok (.bipush n, 2)) (k : rn_T w d mc ms M kc kn (pc + 2) Lc (.int ((Int8.ofInt n).toInt32) :: S) G X) : rn_T w d mc ms M kc kn pc Lc S G X := fun p l e s m args below meth c H locs ls hc hS hR hl => lv_bipush hc.1 hc.2.1 hd rfl (k p l e s m args below meth c H locs ls hc hS hR hl)
theorem rn_sipush {n : Int} (hd : decode M.1 pc = .ok (.sipush n, 3)) (k : rn_T w d mc ms M kc kn (pc + 3) Lc (.int ((Int16.ofInt n).toInt32) :: S) G X) : rn_T w d mc ms M kc kn pc Lc S G X := fun p l e s m args below meth c H locs ls hc hS hR hl => lv_sipush hc.1 hc.2.1 hd rfl (k p l e s m args below meth c H locs ls hc hS hR hl)
theorem rn_lconst {n : Fin 2} (hd : decode M.1 pc = .ok (.lconst n, 1)) (k : rn_T w d mc ms M kc kn (pc + 1) Lc (.long (Int64.ofNat (n : Nat)) :: S) G X) : rn_T w d mc ms M kc kn pc Lc S G X := fun p l e s m args below meth c H locs ls hc hS hR hl => lv_lconst hc.1 hc.2.1 hd rfl (k p l e s m args below meth c H locs ls hc hS hR hl)
theorem rn_iload_n {j : Fin 4} {x : Int32} (hd : decode M.1 pc = .ok (.iload_n j, 1)) (h : rz_at Lc j = some (.int x)) (k : rn_T w d mc ms M kc kn (pc + 1) Lc (.int x :: S) G X) : rn_T w d mc ms M kc kn pc Lc S G X := fun p l e s m args below meth c H locs ls hc hS hR hl => lv_iload_n hc.1 hc.2.1 hd rfl (hl.2.2 _ _ h) (k p l e s m args below meth c H locs ls hc hS hR hl)
theorem rn_iload {j : Nat} {x : Int32} (hd : decode M.1 pc = .ok (.iload j, 2)) (h : rz_at Lc j = some (.int x)) (k : rn_T w d mc ms M kc kn (pc + 2) Lc (.int x :: S) G X) : rn_T w d mc ms M kc kn pc Lc S G X := fun p l e s m args below meth c H locs ls hc hS hR hl => lv_iload hc.1 hc.2.1 hd (hl.2.2 _ _ h) (k p l e s m args below meth c H locs ls hc hS hR hl)
theorem rn_lload_n {j : Fin 4} {x : Int64} (hd : decode M.1 pc = .ok (.lload_n j, 1)) (h : rz_at Lc j = some (.long x)) (k : rn_T w d mc ms M kc kn (pc + 1) Lc (.long x :: S) G X) : rn_T w d mc ms M kc kn pc Lc S G X := fun p l e s m args below meth c H locs ls hc hS hR hl => lv_lload_n hc.1 hc.2.1 hd rfl (hl.2.2 _ _ h) (k p l e s m args below meth c H locs ls hc hS hR hl)
theorem rn_lload {j : Nat} {x : Int64} (hd : decode M.1 pc = .ok (.lload j, 2)) (h : rz_at Lc j = some (.long x)) (k : rn_T w d mc ms M kc kn (pc + 2) Lc (.long x :: S) G X) : rn_T w d mc ms M kc kn pc Lc S G X := fun p l e s m args below meth c H locs ls hc hS hR hl => lv_lload hc.1 hc.2.1 hd (hl.2.2 _ _ h) (k p l e s m args below meth c H locs ls hc hS hR hl)
theorem rn_aload_n {j : Fin 4} {x : Nat} (hd : decode M.1 pc = .ok (.aload_n j, 1)) (h : rz_at Lc j = some (.ref x)) (k : rn_T w d mc ms M kc kn (pc + 1) Lc (.ref x :: S) G X) : rn_T w d mc ms M kc kn pc Lc S G X := fun p l e s m args below meth c H locs ls hc hS hR hl => lv_aload_n hc.1 hc.2.1 hd rfl (hl.2.2 _ _ h) (k p l e s m args below meth c H locs ls hc hS hR hl)
theorem rn_aload {j : Nat} {x : Nat} (hd : decode M.1 pc = .ok (.aload j, 2)) (h : rz_at Lc j = some (.ref x)) (k : rn_T w d mc ms M kc kn (pc + 2) Lc (.ref x :: S) G X) : rn_T w d mc ms M kc kn pc Lc S G X := fun p l e s m args below meth c H locs ls hc hS hR hl => lv_aload hc.1 hc.2.1 hd (hl.2.2 _ _ h) (k p l e s m args below meth c H locs ls hc hS hR hl)
theorem rn_istore_n {j : Fin 4} {x : Int32} (hd : decode M.1 pc = .ok (.istore_n j, 1)) (h : (j : Nat) < M.2.1) (k : rn_T w d mc ms M kc kn (pc + 1) (rz_set Lc j (.int x)) S G X) : rn_T w d mc ms M kc kn pc Lc (.int x :: S) G X := fun p l e s m args below meth c H locs ls hc hS hR hl => lv_istore_n hc.1 hc.2.1 hd rfl hl.has h rfl (fun ls hl => k p l e s m args below meth c H locs ls hc hS hR (rz_l.set1 rfl hl))
theorem rn_istore {j : Nat} {x : Int32} (hd : decode M.1 pc = .ok (.istore j, 2)) (h : j < M.2.1) (k : rn_T w d mc ms M kc kn (pc + 2) (rz_set Lc j (.int x)) S G X) : rn_T w d mc ms M kc kn pc Lc (.int x :: S) G X := fun p l e s m args below meth c H locs ls hc hS hR hl => lv_istore hc.1 hc.2.1 hd hl.has h rfl (fun ls hl => k p l e s m args below meth c H locs ls hc hS hR (rz_l.set1 rfl hl))
theorem rn_astore_n {j : Fin 4} {x : Nat} (hd : decode M.1 pc = .ok (.astore_n j, 1)) (h : (j : Nat) < M.2.1) (k : rn_T w d mc ms M kc kn (pc + 1) (rz_set Lc j (.ref x)) S G X) : rn_T w d mc ms M kc kn pc Lc (.ref x :: S) G X := fun p l e s m args below meth c H locs ls hc hS hR hl => lv_astore_n hc.1 hc.2.1 hd rfl hl.has h rfl (fun ls hl => k p l e s m args below meth c H locs ls hc hS hR (rz_l.set1 rfl hl))
theorem rn_astore {j : Nat} {x : Nat} (hd : decode M.1 pc = .ok (.astore j, 2)) (h : j < M.2.1) (k : rn_T w d mc ms M kc kn (pc + 2) (rz_set Lc j (.ref x)) S G X) : rn_T w d mc ms M kc kn pc Lc (.ref x :: S) G X := fun p l e s m args below meth c H locs ls hc hS hR hl => lv_astore hc.1 hc.2.1 hd hl.has h rfl (fun ls hl => k p l e s m args below meth c H locs ls hc hS hR (rz_l.set1 rfl hl))
theorem rn_lstore_n {j : Fin 4} {x : Int64} (hd : decode M.1 pc = .ok (.lstore_n j, 1)) (h : (j : Nat) + 1 < M.2.1) (k : rn_T w d mc ms M kc kn (pc + 1) (rz_clr (rz_set Lc j (.long x)) (j + 1)) S G X) : rn_T w d mc ms M kc kn pc Lc (.long x :: S) G X := fun p l e s m args below meth c H locs ls hc hS hR hl => lv_lstore_n hc.1 hc.2.1 hd rfl hl.has h rfl (fun ls hl => k p l e s m args below meth c H locs ls hc hS hR (rz_l.set2 hl))
theorem rn_lstore {j : Nat} {x : Int64} (hd : decode M.1 pc = .ok (.lstore j, 2)) (h : j + 1 < M.2.1) (k : rn_T w d mc ms M kc kn (pc + 2) (rz_clr (rz_set Lc j (.long x)) (j + 1)) S G X) : rn_T w d mc ms M kc kn pc Lc (.long x :: S) G X := fun p l e s m args below meth c H locs ls hc hS hR hl => lv_lstore hc.1 hc.2.1 hd hl.has h rfl (fun ls hl => k p l e s m args below meth c H locs ls hc hS hR (rz_l.set2 hl))
theorem rn_iinc {j : Nat} {n : Int} {x : Int32} (hd : decode M.1 pc = .ok (.iinc j n, 3)) (h : j < M.2.1) (hx : rz_at Lc j = some (.int x)) (k : rn_T w d mc ms M kc kn (pc + 3) (rz_set Lc j (.int (x + Int32.ofInt n))) S G X) : rn_T w d mc ms M kc kn pc Lc S G X := by
  intro p l e s m args below meth c H locs ls hc hS hR hl
  obtain ⟨i, hi⟩ := List.getElem?_of_mem (rz_lv_mem.mpr hx)
  exact lv_iinc hc.1 hc.2.1 hd hl.has hi rfl h rfl (fun ls hl => k p l e s m args below meth c H locs ls hc hS hR (rz_l.set1 rfl hl))
theorem rn_dup {v : Value} (hd : decode M.1 pc = .ok (.dup, 1)) (h : v.category = 1) (k : rn_T w d mc ms M kc kn (pc + 1) Lc (v :: v :: S) G X) : rn_T w d mc ms M kc kn pc Lc (v :: S) G X := fun p l e s m args below meth c H locs ls hc hS hR hl => lv_dup hc.1 hc.2.1 hd h (k p l e s m args below meth c H locs ls hc hS hR hl)
theorem rn_pop {v : Value} (hd : decode M.1 pc = .ok (.pop, 1)) (h : v.category = 1) (k : rn_T w d mc ms M kc kn (pc + 1) Lc S G X) : rn_T w d mc ms M kc kn pc Lc (v :: S) G X := fun p l e s m args below meth c H locs ls hc hS hR hl => lv_pop hc.1 hc.2.1 hd h (k p l e s m args below meth c H locs ls hc hS hR hl)
theorem rn_dup2 {v u : Value} (hd : decode M.1 pc = .ok (.dup2, 1)) (h : v.category = 1) (h2 : u.category = 1) (k : rn_T w d mc ms M kc kn (pc + 1) Lc (v :: u :: v :: u :: S) G X) : rn_T w d mc ms M kc kn pc Lc (v :: u :: S) G X := fun p l e s m args below meth c H locs ls hc hS hR hl => lv_dup2_11 hc.1 hc.2.1 hd h h2 (k p l e s m args below meth c H locs ls hc hS hR hl)
theorem rn_if_eq {x : Int32} {off : Int} {t : Nat} (hd : decode M.1 pc = .ok (.ifCond .eq off, 3)) (ht : (pc : Int) + off = (t : Int)) (k1 : x = 0 → rn_T w d mc ms M kc kn t Lc S G X) (k2 : ¬ x = 0 → rn_T w d mc ms M kc kn (pc + 3) Lc S G X) : rn_T w d mc ms M kc kn pc Lc (.int x :: S) G X := fun p l e s m args below meth c H locs ls hc hS hR hl => lv_if_eq hc.1 hc.2.1 hd ht (fun q => k1 q p l e s m args below meth c H locs ls hc hS hR hl) (fun q => k2 q p l e s m args below meth c H locs ls hc hS hR hl)
theorem rn_if_ne {x : Int32} {off : Int} {t : Nat} (hd : decode M.1 pc = .ok (.ifCond .ne off, 3)) (ht : (pc : Int) + off = (t : Int)) (k1 : ¬ x = 0 → rn_T w d mc ms M kc kn t Lc S G X) (k2 : x = 0 → rn_T w d mc ms M kc kn (pc + 3) Lc S G X) : rn_T w d mc ms M kc kn pc Lc (.int x :: S) G X := fun p l e s m args below meth c H locs ls hc hS hR hl => lv_if_ne hc.1 hc.2.1 hd ht (fun q => k1 q p l e s m args below meth c H locs ls hc hS hR hl) (fun q => k2 q p l e s m args below meth c H locs ls hc hS hR hl)
theorem rn_if_lt {x : Int32} {off : Int} {t : Nat} (hd : decode M.1 pc = .ok (.ifCond .lt off, 3)) (ht : (pc : Int) + off = (t : Int)) (k1 : x < 0 → rn_T w d mc ms M kc kn t Lc S G X) (k2 : ¬ x < 0 → rn_T w d mc ms M kc kn (pc + 3) Lc S G X) : rn_T w d mc ms M kc kn pc Lc (.int x :: S) G X := fun p l e s m args below meth c H locs ls hc hS hR hl => lv_if_lt hc.1 hc.2.1 hd ht (fun q => k1 q p l e s m args below meth c H locs ls hc hS hR hl) (fun q => k2 q p l e s m args below meth c H locs ls hc hS hR hl)
theorem rn_if_ge {x : Int32} {off : Int} {t : Nat} (hd : decode M.1 pc = .ok (.ifCond .ge off, 3)) (ht : (pc : Int) + off = (t : Int)) (k1 : 0 ≤ x → rn_T w d mc ms M kc kn t Lc S G X) (k2 : ¬ 0 ≤ x → rn_T w d mc ms M kc kn (pc + 3) Lc S G X) : rn_T w d mc ms M kc kn pc Lc (.int x :: S) G X := fun p l e s m args below meth c H locs ls hc hS hR hl => lv_if_ge hc.1 hc.2.1 hd ht (fun q => k1 q p l e s m args below meth c H locs ls hc hS hR hl) (fun q => k2 q p l e s m args below meth c H locs ls hc hS hR hl)
theorem rn_if_gt {x : Int32} {off : Int} {t : Nat} (hd : decode M.1 pc = .ok (.ifCond .gt off, 3)) (ht : (pc : Int) + off = (t : Int)) (k1 : 0 < x → rn_T w d mc ms M kc kn t Lc S G X) (k2 : ¬ 0 < x → rn_T w d mc ms M kc kn (pc + 3) Lc S G X) : rn_T w d mc ms M kc kn pc Lc (.int x :: S) G X := fun p l e s m args below meth c H locs ls hc hS hR hl => lv_if_gt hc.1 hc.2.1 hd ht (fun q => k1 q p l e s m args below meth c H locs ls hc hS hR hl) (fun q => k2 q p l e s m args below meth c H locs ls hc hS hR hl)
theorem rn_if_le {x : Int32} {off : Int} {t : Nat} (hd : decode M.1 pc = .ok (.ifCond .le off, 3)) (ht : (pc : Int) + off = (t : Int)) (k1 : x ≤ 0 → rn_T w d mc ms M kc kn t Lc S G X) (k2 : ¬ x ≤ 0 → rn_T w d mc ms M kc kn (pc + 3) Lc S G X) : rn_T w d mc ms M kc kn pc Lc (.int x :: S) G X := fun p l e s m args below meth c H locs ls hc hS hR hl => lv_if_le hc.1 hc.2.1 hd ht (fun q => k1 q p l e s m args below meth c H locs ls hc hS hR hl) (fun q => k2 q p l e s m args below meth c H locs ls hc hS hR hl)
theorem rn_icmp_eq {x y : Int32} {off : Int} {t : Nat} (hd : decode M.1 pc = .ok (.if_icmp .eq off, 3)) (ht : (pc : Int) + off = (t : Int)) (k1 : x = y → rn_T w d mc ms M kc kn t Lc S G X) (k2 : ¬ x = y → rn_T w d mc ms M kc kn (pc + 3) Lc S G X) : rn_T w d mc ms M kc kn pc Lc (.int y :: .int x :: S) G X := fun p l e s m args below meth c H locs ls hc hS hR hl => lv_icmp_eq hc.1 hc.2.1 hd ht (fun q => k1 q p l e s m args below meth c H locs ls hc hS hR hl) (fun q => k2 q p l e s m args below meth c H locs ls hc hS hR hl)
theorem rn_icmp_ne {x y : Int32} {off : Int} {t : Nat} (hd : decode M.1 pc = .ok (.if_icmp .ne off, 3)) (ht : (pc : Int) + off = (t : Int)) (k1 : ¬ x = y → rn_T w d mc ms M kc kn t Lc S G X) (k2 : x = y → rn_T w d mc ms M kc kn (pc + 3) Lc S G X) : rn_T w d mc ms M kc kn pc Lc (.int y :: .int x :: S) G X := fun p l e s m args below meth c H locs ls hc hS hR hl => lv_icmp_ne hc.1 hc.2.1 hd ht (fun q => k1 q p l e s m args below meth c H locs ls hc hS hR hl) (fun q => k2 q p l e s m args below meth c H locs ls hc hS hR hl)
theorem rn_icmp_lt {x y : Int32} {off : Int} {t : Nat} (hd : decode M.1 pc = .ok (.if_icmp .lt off, 3)) (ht : (pc : Int) + off = (t : Int)) (k1 : x < y → rn_T w d mc ms M kc kn t Lc S G X) (k2 : ¬ x < y → rn_T w d mc ms M kc kn (pc + 3) Lc S G X) : rn_T w d mc ms M kc kn pc Lc (.int y :: .int x :: S) G X := fun p l e s m args below meth c H locs ls hc hS hR hl => lv_icmp_lt hc.1 hc.2.1 hd ht (fun q => k1 q p l e s m args below meth c H locs ls hc hS hR hl) (fun q => k2 q p l e s m args below meth c H locs ls hc hS hR hl)
theorem rn_icmp_ge {x y : Int32} {off : Int} {t : Nat} (hd : decode M.1 pc = .ok (.if_icmp .ge off, 3)) (ht : (pc : Int) + off = (t : Int)) (k1 : y ≤ x → rn_T w d mc ms M kc kn t Lc S G X) (k2 : ¬ y ≤ x → rn_T w d mc ms M kc kn (pc + 3) Lc S G X) : rn_T w d mc ms M kc kn pc Lc (.int y :: .int x :: S) G X := fun p l e s m args below meth c H locs ls hc hS hR hl => lv_icmp_ge hc.1 hc.2.1 hd ht (fun q => k1 q p l e s m args below meth c H locs ls hc hS hR hl) (fun q => k2 q p l e s m args below meth c H locs ls hc hS hR hl)
theorem rn_icmp_gt {x y : Int32} {off : Int} {t : Nat} (hd : decode M.1 pc = .ok (.if_icmp .gt off, 3)) (ht : (pc : Int) + off = (t : Int)) (k1 : y < x → rn_T w d mc ms M kc kn t Lc S G X) (k2 : ¬ y < x → rn_T w d mc ms M kc kn (pc + 3) Lc S G X) : rn_T w d mc ms M kc kn pc Lc (.int y :: .int x :: S) G X := fun p l e s m args below meth c H locs ls hc hS hR hl => lv_icmp_gt hc.1 hc.2.1 hd ht (fun q => k1 q p l e s m args below meth c H locs ls hc hS hR hl) (fun q => k2 q p l e s m args below meth c H locs ls hc hS hR hl)
theorem rn_icmp_le {x y : Int32} {off : Int} {t : Nat} (hd : decode M.1 pc = .ok (.if_icmp .le off, 3)) (ht : (pc : Int) + off = (t : Int)) (k1 : x ≤ y → rn_T w d mc ms M kc kn t Lc S G X) (k2 : ¬ x ≤ y → rn_T w d mc ms M kc kn (pc + 3) Lc S G X) : rn_T w d mc ms M kc kn pc Lc (.int y :: .int x :: S) G X := fun p l e s m args below meth c H locs ls hc hS hR hl => lv_icmp_le hc.1 hc.2.1 hd ht (fun q => k1 q p l e s m args below meth c H locs ls hc hS hR hl) (fun q => k2 q p l e s m args below meth c H locs ls hc hS hR hl)
theorem rn_goto {off : Int} {t : Nat} (hd : decode M.1 pc = .ok (.goto off, 3)) (ht : (pc : Int) + off = (t : Int)) (k : rn_T w d mc ms M kc kn t Lc S G X) : rn_T w d mc ms M kc kn pc Lc S G X := fun p l e s m args below meth c H locs ls hc hS hR hl => lv_goto hc.1 hc.2.1 hd ht (k p l e s m args below meth c H locs ls hc hS hR hl)
theorem rn_iaload {a n : Nat} {f : Nat → Int32} {i : Int32} (hd : decode M.1 pc = .ok (.iaload, 1)) (hG : G a = some (.inl (0, n, .inl f))) (hi : vp_in i n) (k : rn_T w d mc ms M kc kn (pc + 1) Lc (.int (f i.toNatClampNeg) :: S) G X) : rn_T w d mc ms M kc kn pc Lc (.int i :: .ref a :: S) G X := by
  intro p l e s m args below meth c H locs ls hc hS hR hl
  obtain ⟨L, q, hm, hq, hL, hP, hD⟩ := rz_get hR hG
  exact va_iald hc.1 hc.2.1 hc.2.2.2.2.2.2.2.2.1.1 hP q 0 hq rfl hi hd (k p l e s m args below meth c H locs ls hc hS hR hl)
theorem rn_laload {a n : Nat} {f : Nat → Int64} {i : Int32} (hd : decode M.1 pc = .ok (.laload, 1)) (hG : G a = some (.inl (1, n, .inr (.inl f)))) (hi : vp_in i n) (k : rn_T w d mc ms M kc kn (pc + 1) Lc (.long (f i.toNatClampNeg) :: S) G X) : rn_T w d mc ms M kc kn pc Lc (.int i :: .ref a :: S) G X := by
  intro p l e s m args below meth c H locs ls hc hS hR hl
  obtain ⟨L, q, hm, hq, hL, hP, hD⟩ := rz_get hR hG
  exact va_lald hc.1 hc.2.1 hc.2.2.2.2.2.2.2.2.1.1 hP q 1 hq rfl hi hd (k p l e s m args below meth c H locs ls hc hS hR hl)
theorem rn_baload {a n : Nat} {f : Nat → Int32} {i : Int32} (hd : decode M.1 pc = .ok (.baload, 1)) (hG : G a = some (.inl (2, n, .inl f))) (hi : vp_in i n) (k : rn_T w d mc ms M kc kn (pc + 1) Lc (.int (f i.toNatClampNeg) :: S) G X) : rn_T w d mc ms M kc kn pc Lc (.int i :: .ref a :: S) G X := by
  intro p l e s m args below meth c H locs ls hc hS hR hl
  obtain ⟨L, q, hm, hq, hL, hP, hD⟩ := rz_get hR hG
  exact va_bald hc.1 hc.2.1 hc.2.2.2.2.2.2.2.2.1.1 hP q 2 hq rfl hi hd (k p l e s m args below meth c H locs ls hc hS hR hl)
theorem rn_zaload {a n : Nat} {f : Nat → Int32} {i : Int32} (hd : decode M.1 pc = .ok (.baload, 1)) (hG : G a = some (.inl (3, n, .inl f))) (hi : vp_in i n) (k : rn_T w d mc ms M kc kn (pc + 1) Lc (.int (f i.toNatClampNeg) :: S) G X) : rn_T w d mc ms M kc kn pc Lc (.int i :: .ref a :: S) G X := by
  intro p l e s m args below meth c H locs ls hc hS hR hl
  obtain ⟨L, q, hm, hq, hL, hP, hD⟩ := rz_get hR hG
  exact va_zald hc.1 hc.2.1 hc.2.2.2.2.2.2.2.2.1.1 hP q 3 hq rfl hi hd (k p l e s m args below meth c H locs ls hc hS hR hl)
theorem rn_aaloadW {a n : Nat} {f : Nat → Option Nat} {i : Int32} (hd : decode M.1 pc = .ok (.aaload, 1)) (hG : G a = some (.inl (4, n, .inr (.inr (.inr (.inr f)))))) (hi : vp_in i n) (k : rn_T w d mc ms M kc kn (pc + 1) Lc (va_rf (f i.toNatClampNeg) :: S) G X) : rn_T w d mc ms M kc kn pc Lc (.int i :: .ref a :: S) G X := by
  intro p l e s m args below meth c H locs ls hc hS hR hl
  obtain ⟨L, q, hm, hq, hL, hP, hD⟩ := rz_get hR hG
  exact va_aldq hc.1 hc.2.1 hc.2.2.2.2.2.2.2.2.1.1 hP q 4 hq rfl hi hd (k p l e s m args below meth c H locs ls hc hS hR hl)
theorem rn_aaloadM {a n : Nat} {f : Nat → Option Nat} {i : Int32} (hd : decode M.1 pc = .ok (.aaload, 1)) (hG : G a = some (.inl (5, n, .inr (.inr (.inr (.inr f)))))) (hi : vp_in i n) (k : rn_T w d mc ms M kc kn (pc + 1) Lc (va_rf (f i.toNatClampNeg) :: S) G X) : rn_T w d mc ms M kc kn pc Lc (.int i :: .ref a :: S) G X := by
  intro p l e s m args below meth c H locs ls hc hS hR hl
  obtain ⟨L, q, hm, hq, hL, hP, hD⟩ := rz_get hR hG
  exact va_aldq hc.1 hc.2.1 hc.2.2.2.2.2.2.2.2.1.1 hP q 5 hq rfl hi hd (k p l e s m args below meth c H locs ls hc hS hR hl)
theorem rn_iastore {a n : Nat} {f : Nat → Int32} {i : Int32} {x : Int32} (hd : decode M.1 pc = .ok (.iastore, 1)) (hG : G a = some (.inl (0, n, .inl f))) (hi : vp_in i n) (k : rn_T w d mc ms M kc kn (pc + 1) Lc S (rz_up G a (.inl (0, n, .inl (upd f i.toNatClampNeg x)))) X) : rn_T w d mc ms M kc kn pc Lc (.int x :: .int i :: .ref a :: S) G X := by
  intro p l e s m args below meth c H locs ls hc hS hR hl
  obtain ⟨L, q, hm, hq, hL, hP, hD⟩ := rz_get hR hG
  exact va_iast hc.1 hc.2.1 hc.2.2.2.2.2.2.2.2.1.1 hP hD hS q 0 hq rfl hi hd (fun H1 locs1 hP1 hD1 hS1 => k p l e s m args below meth c H1 locs1 ls hc hS1 (rz_set' (H := H) (e1 := .inl (0, n, .inl (upd f i.toNatClampNeg x))) (rz_szS hc.2.2.2.2.2.2.2.2.2 hS1) hG hm hq hL hD hP1 hD1) hl)
theorem rn_lastore {a n : Nat} {f : Nat → Int64} {i : Int32} {x : Int64} (hd : decode M.1 pc = .ok (.lastore, 1)) (hG : G a = some (.inl (1, n, .inr (.inl f)))) (hi : vp_in i n) (k : rn_T w d mc ms M kc kn (pc + 1) Lc S (rz_up G a (.inl (1, n, .inr (.inl (vp_updL f i.toNatClampNeg x))))) X) : rn_T w d mc ms M kc kn pc Lc (.long x :: .int i :: .ref a :: S) G X := by
  intro p l e s m args below meth c H locs ls hc hS hR hl
  obtain ⟨L, q, hm, hq, hL, hP, hD⟩ := rz_get hR hG
  exact va_last hc.1 hc.2.1 hc.2.2.2.2.2.2.2.2.1.1 hP hD hS q 1 hq rfl hi hd (fun H1 locs1 hP1 hD1 hS1 => k p l e s m args below meth c H1 locs1 ls hc hS1 (rz_set' (H := H) (e1 := .inl (1, n, .inr (.inl (vp_updL f i.toNatClampNeg x)))) (rz_szS hc.2.2.2.2.2.2.2.2.2 hS1) hG hm hq hL hD hP1 hD1) hl)
theorem rn_bastore {a n : Nat} {f : Nat → Int32} {i : Int32} {x : Int32} (hd : decode M.1 pc = .ok (.bastore, 1)) (hG : G a = some (.inl (2, n, .inl f))) (hi : vp_in i n) (k : rn_T w d mc ms M kc kn (pc + 1) Lc S (rz_up G a (.inl (2, n, .inl (upd f i.toNatClampNeg (vp_nar .byte x))))) X) : rn_T w d mc ms M kc kn pc Lc (.int x :: .int i :: .ref a :: S) G X := by
  intro p l e s m args below meth c H locs ls hc hS hR hl
  obtain ⟨L, q, hm, hq, hL, hP, hD⟩ := rz_get hR hG
  exact va_bast hc.1 hc.2.1 hc.2.2.2.2.2.2.2.2.1.1 hP hD hS q 2 hq rfl hi hd (fun H1 locs1 hP1 hD1 hS1 => k p l e s m args below meth c H1 locs1 ls hc hS1 (rz_set' (H := H) (e1 := .inl (2, n, .inl (upd f i.toNatClampNeg (vp_nar .byte x)))) (rz_szS hc.2.2.2.2.2.2.2.2.2 hS1) hG hm hq hL hD hP1 hD1) hl)
theorem rn_zastore {a n : Nat} {f : Nat → Int32} {i : Int32} {x : Int32} (hd : decode M.1 pc = .ok (.bastore, 1)) (hG : G a = some (.inl (3, n, .inl f))) (hi : vp_in i n) (k : rn_T w d mc ms M kc kn (pc + 1) Lc S (rz_up G a (.inl (3, n, .inl (upd f i.toNatClampNeg (vp_nar .boolean x))))) X) : rn_T w d mc ms M kc kn pc Lc (.int x :: .int i :: .ref a :: S) G X := by
  intro p l e s m args below meth c H locs ls hc hS hR hl
  obtain ⟨L, q, hm, hq, hL, hP, hD⟩ := rz_get hR hG
  exact va_zast hc.1 hc.2.1 hc.2.2.2.2.2.2.2.2.1.1 hP hD hS q 3 hq rfl hi hd (fun H1 locs1 hP1 hD1 hS1 => k p l e s m args below meth c H1 locs1 ls hc hS1 (rz_set' (H := H) (e1 := .inl (3, n, .inl (upd f i.toNatClampNeg (vp_nar .boolean x)))) (rz_szS hc.2.2.2.2.2.2.2.2.2 hS1) hG hm hq hL hD hP1 hD1) hl)
theorem rn_aastoreW {a n v : Nat} {vs : List Value} {f : Nat → Option Nat} {i : Int32} (hd : decode M.1 pc = .ok (.aastore, 1)) (hG : G a = some (.inl (4, n, .inr (.inr (.inr (.inr f)))))) (hv : G v = some (.inr (0, vs))) (hi : vp_in i n) (k : rn_T w d mc ms M kc kn (pc + 1) Lc S (rz_up G a (.inl (4, n, .inr (.inr (.inr (.inr (va_up f i.toNatClampNeg (some v)))))))) X) : rn_T w d mc ms M kc kn pc Lc (.ref v :: .int i :: .ref a :: S) G X := by
  intro p l e s m args below meth c H locs ls hc hS hR hl
  obtain ⟨L, q, hm, hq, hL, hP, hD⟩ := rz_get hR hG
  have hmv : v ∈ L := (hL v).mpr (by rw [hv]; simp)
  obtain ⟨q2, hq2⟩ := va_pl_get (X := []) (f := rz_f w G) hmv
  have hq2 : (va_pl L (rz_f w G))[q2]? = some (v, .inr (0, vs)) := by
    have e1 : rz_f w G v = .inr (0, vs) := by simp only [rz_f, hv, rz_e]
    rw [← e1]; exact hq2
  exact va_astq hc.1 hc.2.1 hc.2.2.2.2.2.2.2.2.1.1 hP hD hS q 4 q2 0 hq rfl hq2 rfl hi hd (fun H1 locs1 hP1 hD1 hS1 => k p l e s m args below meth c H1 locs1 ls hc hS1 (rz_set' (H := H) (e1 := .inl (4, n, .inr (.inr (.inr (.inr (va_up f i.toNatClampNeg (some v))))))) (rz_szS hc.2.2.2.2.2.2.2.2.2 hS1) hG hm hq hL hD hP1 hD1) hl)
theorem rn_aastoreM {a n v : Nat} {vs : List Value} {f : Nat → Option Nat} {i : Int32} (hd : decode M.1 pc = .ok (.aastore, 1)) (hG : G a = some (.inl (5, n, .inr (.inr (.inr (.inr f)))))) (hv : G v = some (.inr (2, vs))) (hi : vp_in i n) (k : rn_T w d mc ms M kc kn (pc + 1) Lc S (rz_up G a (.inl (5, n, .inr (.inr (.inr (.inr (va_up f i.toNatClampNeg (some v)))))))) X) : rn_T w d mc ms M kc kn pc Lc (.ref v :: .int i :: .ref a :: S) G X := by
  intro p l e s m args below meth c H locs ls hc hS hR hl
  obtain ⟨L, q, hm, hq, hL, hP, hD⟩ := rz_get hR hG
  have hmv : v ∈ L := (hL v).mpr (by rw [hv]; simp)
  obtain ⟨q2, hq2⟩ := va_pl_get (X := []) (f := rz_f w G) hmv
  have hq2 : (va_pl L (rz_f w G))[q2]? = some (v, .inr (2, vs)) := by
    have e1 : rz_f w G v = .inr (2, vs) := by simp only [rz_f, hv, rz_e]
    rw [← e1]; exact hq2
  exact va_astq hc.1 hc.2.1 hc.2.2.2.2.2.2.2.2.1.1 hP hD hS q 5 q2 2 hq rfl hq2 rfl hi hd (fun H1 locs1 hP1 hD1 hS1 => k p l e s m args below meth c H1 locs1 ls hc hS1 (rz_set' (H := H) (e1 := .inl (5, n, .inr (.inr (.inr (.inr (va_up f i.toNatClampNeg (some v))))))) (rz_szS hc.2.2.2.2.2.2.2.2.2 hS1) hG hm hq hL hD hP1 hD1) hl)
theorem rn_alen {a t : Nat} {x : vp_A} (hd : decode M.1 pc = .ok (.arraylength, 1)) (hG : G a = some (.inl (t, x))) (ht : t < 6) (k : rn_T w d mc ms M kc kn (pc + 1) Lc (.int (nI x.1) :: S) G X) : rn_T w d mc ms M kc kn pc Lc (.ref a :: S) G X := by
  intro p l e s m args below meth c H locs ls hc hS hR hl
  obtain ⟨L, q, hm, hq, hL, hP, hD⟩ := rz_get hR hG
  obtain ⟨ty, hty⟩ : ∃ ty, (rz_tys w)[t]? = some (w.2.1 t, ty) := by
    rcases (show t = 0 ∨ t = 1 ∨ t = 2 ∨ t = 3 ∨ t = 4 ∨ t = 5 by omega) with rfl | rfl | rfl | rfl | rfl | rfl <;> exact ⟨_, rfl⟩
  exact va_alen hc.1 hc.2.1 hc.2.2.2.2.2.2.2.2.1.1 hP q t hq hty rfl hd (k p l e s m args below meth c H locs ls hc hS hR hl)
theorem rn_getf {a idx ci kf : Nat} {fs : List Value} {v : Value} (hd : decode M.1 pc = .ok (.getfield idx, 3)) (hf : rz_flb M.2.2.2.1 idx ci kf = true) (hG : G a = some (.inr (ci, fs))) (hv : fs[kf]? = some v) (k : rn_T w d mc ms M kc kn (pc + 3) Lc (v :: S) G X) : rn_T w d mc ms M kc kn pc Lc (.ref a :: S) G X := by
  intro p l e s m args below meth c H locs ls hc hS hR hl
  obtain ⟨L, q, hm, hq, hL, hP, hD⟩ := rz_get hR hG
  obtain ⟨r, hr, hk, hw⟩ := rz_flb_ok hf
  obtain ⟨f1, f2, f3⟩ := rz_clf hr
  exact va_get (C := r.1) (T := r.2.1) (N := r.2.2) hc.1 hc.2.1 hc.2.2.2.2.2.2.2.1 f1 hc.2.2.2.2.2.1 hc.2.2.2.2.2.2.2.2.1.1 hP q hq hr kf hk (hc.2.2.2.2.2.2.2.1 _ hw) (fun _ h9 => h9) hv hd (k p l e s m args below meth c H locs ls hc hS hR hl)
theorem rn_putf {a idx ci kf : Nat} {fs : List Value} {v : Value} (hd : decode M.1 pc = .ok (.putfield idx, 3)) (hf : rz_flb M.2.2.2.1 idx ci kf = true) (hwr : rz_wr M ci kf = true) (hG : G a = some (.inr (ci, fs))) (hn : narrow (rz_ty ci kf) v = v) (hfit : fits (rz_ty ci kf) v = true) (hlen : kf < fs.length) (k : rn_T w d mc ms M kc kn (pc + 3) Lc S (rz_up G a (.inr (ci, fs.set kf v))) X) : rn_T w d mc ms M kc kn pc Lc (v :: .ref a :: S) G X := by
  intro p l e s m args below meth c H locs ls hc hS hR hl
  obtain ⟨L, q, hm, hq, hL, hP, hD⟩ := rz_get hR hG
  obtain ⟨r, hr, hk, hw⟩ := rz_flb_ok hf
  obtain ⟨f1, f2, f3⟩ := rz_clf hr
  unfold rz_wr at hwr
  rw [hr] at hwr
  dsimp only at hwr
  by_cases hfin : (r.2.1 kf).2.2.2 = true
  · rw [if_pos hfin] at hwr
    simp only [Bool.and_eq_true, decide_eq_true_eq] at hwr
    exact va_putF (C := r.1) (T := r.2.1) (N := r.2.2) hc.1 hc.2.1 hc.2.2.2.2.2.2.2.1 f1 (rz_ty ci) f2 f3 hc.2.2.2.2.2.1 hc.2.2.2.2.2.2.2.2.1.1 hP hD hS q hq hr kf hk (hc.2.2.2.2.2.2.2.1 _ hw) (fun _ h9 => h9) hfin (hc.2.2.2.2.2.2.1.trans hwr.1) hwr.2 (f2 kf hk) hn hfit hlen hd
      (fun H1 locs1 hP1 hD1 hS1 => k p l e s m args below meth c H1 locs1 ls hc hS1 (rz_set' (H := H) (e1 := .inr (ci, fs.set kf v)) (rz_szS hc.2.2.2.2.2.2.2.2.2 hS1) hG hm hq hL hD hP1 hD1) hl)
  · exact va_put (C := r.1) (T := r.2.1) (N := r.2.2) hc.1 hc.2.1 hc.2.2.2.2.2.2.2.1 f1 (rz_ty ci) f2 f3 hc.2.2.2.2.2.1 hc.2.2.2.2.2.2.2.2.1.1 hP hD hS q hq hr kf hk (hc.2.2.2.2.2.2.2.1 _ hw) (fun _ h9 => h9) (by simpa using hfin) (f2 kf hk) hn hfit hlen hd
      (fun H1 locs1 hP1 hD1 hS1 => k p l e s m args below meth c H1 locs1 ls hc hS1 (rz_set' (H := H) (e1 := .inr (ci, fs.set kf v)) (rz_szS hc.2.2.2.2.2.2.2.2.2 hS1) hG hm hq hL hD hP1 hD1) hl)

theorem rn_ireturn {v : Int32} {ty : FieldType} (hd : decode M.1 pc = .ok (.ireturn, 1)) (hr : M.2.2.1 = some ty) (hn : narrow ty (.int v) = .int v) (hk : kc ≤ mc) (hk2 : kn ≤ ms) (hq : X.2 (some (.int v)) G) : rn_T w d mc ms M kc kn pc Lc [.int v] G X := rn_of (rz_ireturn hd hr hn hk hk2 hq)
theorem rn_return (hd : decode M.1 pc = .ok (.return_, 1)) (hr : M.2.2.1 = none) (hk : kc ≤ mc) (hk2 : kn ≤ ms) (hq : X.2 none G) : rn_T w d mc ms M kc kn pc Lc [] G X := rn_of (rz_return hd hr hk hk2 hq)
theorem rn_areturn {a : Nat} {n : String} (hd : decode M.1 pc = .ok (.areturn, 1)) (hr : M.2.2.1 = some (.object n)) (hk : kc ≤ mc) (hk2 : kn ≤ ms) (hq : X.2 (some (.ref a)) G) : rn_T w d mc ms M kc kn pc Lc [.ref a] G X := rn_of (rz_areturn hd hr hk hk2 hq)
end RU
section RUC
variable {w : rz_w} {d mc ms : Nat} {M : rz_M} {kc kn pc : Nat} {Lc : rz_L} {S : List Value} {G : rz_G} {X : rn_P} {Q' : Option Value → rz_G → Prop} {y : MethodName} {My : rz_M} {mc' ms' : Nat}
theorem rn_cont {p : Program} {l : Launch} {e : Env} {s : State} {m : MethodId} {args : Array Value} {below : List Frame} {meth : Method} {c : Code} {H : Heap} {locs : List Loc} {ls : Array Slot} {st0 : List Value} {a : Array Value} (hc : rz_cx w M p s m args meth c) (hS : va_S (rz_A w) s.heap H locs) (hl : rz_l ls M.2.1 Lc)
    (hr : va_Run p l e (rz_rm d mc ms) s m args below meth c H locs kc kn mc' ms' (F0 m pc ls st0) S (rz_Q w Q' a) (rz_A w))
    (k : ∀ r G', Q' r G' → rn_T w d mc ms M (kc + mc') (kn + ms') (pc + 3) Lc (r.toList ++ S) G' X) : W p l e (rz_rm d mc ms) s m args below meth c H locs kc kn (rn_F w mc ms X args below s) (F0 m pc ls st0) := by
  intro T hT X
  obtain ⟨v, st₀, t, T', L, h0, X', hL, e1, e2, ⟨⟨r, G', hv, hq, hK, hR⟩, hz, hk⟩, st⟩ := hr T hT X
  cases hv
  rw [h0] at hz hk
  obtain ⟨t2, a1, b1⟩ := k v G' hq p l e s m args below meth c T'.heap (locs ++ L) ls hc
    ⟨Nat.le_trans hS.1 (by rw [e1]; exact hz), fun q h1 h2 => by rw [e1, hk q (Nat.lt_of_lt_of_le h1 hS.1) h2]; exact hS.2.1 q h1 h2, fun q hq => by
      rcases List.mem_append.mp hq with h | h
      · exact hS.2.2 q h
      · exact hL q h⟩ (by rw [e1]; exact hR) hl T' rfl X'
  exact ⟨t2, st t2 a1, b1⟩
theorem rn_callV {idx np : Nat} (hL : rz_lV M.2.2.2.1 idx y My np) {As : List Value} {b ci : Nat} {fs : List Value} (hd : decode M.1 pc = .ok (.invokevirtual idx, 3)) (hn : As.length = np) (hG : G b = some (.inr (ci, fs))) (hcl : (rz_cl[ci]?).map (·.1) = some y.cls) (hst : (S.map fun v => v.category).sum ≤ 8) (hk : kc + mc' ≤ mc) (hk2 : kn + ms' ≤ ms)
    (h : rz_C w d mc' ms' y My (.ref b :: As) G Q') (k : ∀ r G', Q' r G' → rn_T w (d + 1) mc ms M (kc + mc') (kn + ms') (pc + 3) Lc (r.toList ++ S) G' X) : rn_T w (d + 1) mc ms M kc kn pc Lc (As.reverse ++ .ref b :: S) G X := by
  intro p l e s m args below meth c H locs ls hc hS hR hl
  obtain ⟨L, q, hm, hq, hL2, hP, hD⟩ := rz_get hR hG
  obtain ⟨r, hr, hrn⟩ := Option.map_eq_some_iff.mp hcl
  have hK := hc.2.2.2.2.2.2.2.2.1
  have hts := hc.2.2.2.2.2.2.2.1
  have hrv := va_recv hK.1 hP hr hq
  rw [hrn] at hrv
  exact rn_cont hc hS hl (va_runV ⟨hc.1, hc.2.1, hc.2.2.1, hc.2.2.2.2.2.1, hts⟩ (h l) ⟨rz_cb hc hL.1 hL.2.1, hts _ hL.2.2.1, hts _ hL.2.2.2⟩ ⟨rz_blind, hrv, rz_pre hK hR⟩ rfl hn hl.1 rfl (lv_room hst) hd ⟨hk, hk2⟩) k
theorem rn_callS {idx np : Nat} (hL : rz_lS M.2.2.2.1 idx y My np) {As : List Value} (hd : decode M.1 pc = .ok (.invokestatic idx, 3)) (hn : As.length = np) (hst : (S.map fun v => v.category).sum ≤ 8) (hk : kc + mc' ≤ mc) (hk2 : kn + ms' ≤ ms)
    (h : rz_C w d mc' ms' y My As G Q') (k : ∀ r G', Q' r G' → rn_T w (d + 1) mc ms M (kc + mc') (kn + ms') (pc + 3) Lc (r.toList ++ S) G' X) : rn_T w (d + 1) mc ms M kc kn pc Lc (As.reverse ++ S) G X := by
  intro p l e s m args below meth c H locs ls hc hS hR hl
  have hK := hc.2.2.2.2.2.2.2.2.1
  have hts := hc.2.2.2.2.2.2.2.1
  exact rn_cont hc hS hl (va_runS ⟨hc.1, hc.2.1, hc.2.2.1, hc.2.2.2.2.2.1, hts⟩ (h l) ⟨rz_cb hc hL.1 hL.2.1, hts _ hL.2.2⟩ ⟨rz_blind, rz_pre hK hR⟩ rfl hn hl.1 rfl (lv_room hst) hd ⟨hk, hk2⟩) k
theorem rn_callI {idx np : Nat} (hL : rz_lI M.2.2.2.1 idx y My np) {As : List Value} {b : Nat} (hd : decode M.1 pc = .ok (.invokespecial idx, 3)) (hn : As.length = np) (hst : (S.map fun v => v.category).sum ≤ 8) (hk : kc + mc' ≤ mc) (hk2 : kn + ms' ≤ ms)
    (h : rz_C w d mc' ms' y My (.ref b :: As) G Q') (k : ∀ r G', Q' r G' → rn_T w (d + 1) mc ms M (kc + mc') (kn + ms') (pc + 3) Lc (r.toList ++ S) G' X) : rn_T w (d + 1) mc ms M kc kn pc Lc (As.reverse ++ .ref b :: S) G X := by
  intro p l e s m args below meth c H locs ls hc hS hR hl
  have hK := hc.2.2.2.2.2.2.2.2.1
  have hts := hc.2.2.2.2.2.2.2.1
  have hcb := rz_cb (d := d) (mc := mc) (ms := ms) (mc' := mc') (ms' := ms') hc hL.1 hL.2.1
  rw [hL.2.2.2.2] at hcb
  exact rn_cont hc hS hl (va_runI ⟨hc.1, hc.2.1, hc.2.2.1, hc.2.2.2.2.2.1, hts⟩ (h l) ⟨hcb, hL.2.2.2.1, hts _ hL.2.2.1⟩ ⟨rz_blind, rz_pre hK hR⟩ rfl hn hl.1 rfl (lv_room hst) hd ⟨hk, hk2⟩) k
theorem rn_callSN {idx np : Nat} (hL : rz_nS M.2.2.2.1 idx y My np) {As : List Value} (hd : decode M.1 pc = .ok (.invokestatic idx, 3)) (hn : As.length = np) (hst : (S.map fun v => v.category).sum ≤ 8) (hk : kc + mc' ≤ mc) (hk2 : kn + ms' ≤ ms)
    (h : rz_C w d mc' ms' y My As G Q') (k : ∀ r G', Q' r G' → rn_T w (d + 1) mc ms M (kc + mc') (kn + ms') (pc + 3) Lc (r.toList ++ S) G' X) : rn_T w (d + 1) mc ms M kc kn pc Lc (As.reverse ++ S) G X := by
  intro p l e s m args below meth c H locs ls hc hS hR hl
  have hK := hc.2.2.2.2.2.2.2.2.1
  have hts := hc.2.2.2.2.2.2.2.1
  exact rn_cont hc hS hl (va_runSN ⟨hc.1, hc.2.1, hc.2.2.1, hc.2.2.2.2.2.1, hts⟩ (h l) ⟨rz_cn hc hL.1 hL.2.1, hts _ hL.2.2, trivial⟩ ⟨rz_blind, rz_pre hK hR⟩ rfl hn hl.1 rfl (lv_room hst) hd ⟨hk, hk2⟩) k
theorem rn_callIN {idx np : Nat} (hL : rz_nI M.2.2.2.1 idx y My np) {As : List Value} {b : Nat} (hd : decode M.1 pc = .ok (.invokespecial idx, 3)) (hn : As.length = np) (hst : (S.map fun v => v.category).sum ≤ 8) (hk : kc + mc' ≤ mc) (hk2 : kn + ms' ≤ ms)
    (h : rz_C w d mc' ms' y My (.ref b :: As) G Q') (k : ∀ r G', Q' r G' → rn_T w (d + 1) mc ms M (kc + mc') (kn + ms') (pc + 3) Lc (r.toList ++ S) G' X) : rn_T w (d + 1) mc ms M kc kn pc Lc (As.reverse ++ .ref b :: S) G X := by
  intro p l e s m args below meth c H locs ls hc hS hR hl
  have hK := hc.2.2.2.2.2.2.2.2.1
  have hts := hc.2.2.2.2.2.2.2.1
  have hcb := rz_cn (d := d) (mc := mc) (ms := ms) (mc' := mc') (ms' := ms') hc hL.1 hL.2.1
  rw [hL.2.2.2.2] at hcb
  exact rn_cont hc hS hl (va_runIN ⟨hc.1, hc.2.1, hc.2.2.1, hc.2.2.2.2.2.1, hts⟩ (h l) ⟨hcb, hL.2.2.2.1, hts _ hL.2.2.1⟩ ⟨rz_blind, rz_pre hK hR⟩ rfl hn hl.1 rfl (lv_room hst) hd ⟨hk, hk2⟩) k

end RUC
section RUX
variable {w : rz_w} {d mc ms : Nat} {M : rz_M} {kc kn : Nat} {X : rn_P}
set_option maxHeartbeats 4000000 in
theorem rn_st_ok {i : rz_I} {pc : Nat} {L : rz_L} {S : List Value} {G : rz_G} (hk : kc ≤ mc) (hk2 : kn ≤ ms) (hd : rz_lk M pc i = true)
    (h : rz_st i pc L S G (fun L S G => rn_T w d mc ms M kc kn (pc + i.2.1) L S G X) (fun pc L S G => rn_T w d mc ms M kc kn pc L S G X) (fun r G => rz_nb M r ∧ X.2 r G)) : rn_T w d mc ms M kc kn pc L S G X := by
  obtain ⟨i, len, ci, kf⟩ := i
  unfold rz_lk at hd
  unfold rz_st at h
  simp only [Bool.and_eq_true, decide_eq_true_eq] at hd
  obtain ⟨hd, ha⟩ := hd
  dsimp only at hd ha h
  split at h
  · simp only [decide_eq_true_eq] at ha; subst ha; unfold rz_i2 at h; split at h; exact rn_iadd hd h; exact h.elim
  · simp only [decide_eq_true_eq] at ha; subst ha; unfold rz_i2 at h; split at h; exact rn_isub hd h; exact h.elim
  · simp only [decide_eq_true_eq] at ha; subst ha; unfold rz_i2 at h; split at h; exact rn_imul hd h; exact h.elim
  · simp only [decide_eq_true_eq] at ha; subst ha; unfold rz_i2 at h; split at h; exact rn_iand hd h; exact h.elim
  · simp only [decide_eq_true_eq] at ha; subst ha; unfold rz_i2 at h; split at h; exact rn_ior hd h; exact h.elim
  · simp only [decide_eq_true_eq] at ha; subst ha; unfold rz_i2 at h; split at h; exact rn_ixor hd h; exact h.elim
  · simp only [decide_eq_true_eq] at ha; subst ha; unfold rz_i2 at h; split at h; exact rn_ishl hd h; exact h.elim
  · simp only [decide_eq_true_eq] at ha; subst ha; unfold rz_i2 at h; split at h; exact rn_ishr hd h; exact h.elim
  · simp only [decide_eq_true_eq] at ha; subst ha; unfold rz_i2 at h; split at h; exact rn_iushr hd h; exact h.elim
  · simp only [decide_eq_true_eq] at ha; subst ha; unfold rz_i2 at h; split at h; exact rn_idiv hd h.1 h.2; exact h.elim
  · simp only [decide_eq_true_eq] at ha; subst ha; unfold rz_i2 at h; split at h; exact rn_irem hd h.1 h.2; exact h.elim
  · simp only [decide_eq_true_eq] at ha; subst ha; unfold rz_i1 at h; split at h; exact rn_ineg hd h; exact h.elim
  · simp only [decide_eq_true_eq] at ha; subst ha; unfold rz_l2 at h; split at h; exact rn_ladd hd h; exact h.elim
  · simp only [decide_eq_true_eq] at ha; subst ha; unfold rz_l2 at h; split at h; exact rn_lsub hd h; exact h.elim
  · simp only [decide_eq_true_eq] at ha; subst ha; unfold rz_l2 at h; split at h; exact rn_lmul hd h; exact h.elim
  · simp only [decide_eq_true_eq] at ha; subst ha; unfold rz_l2 at h; split at h; exact rn_land hd h; exact h.elim
  · simp only [decide_eq_true_eq] at ha; subst ha; unfold rz_l2 at h; split at h; exact rn_lor hd h; exact h.elim
  · simp only [decide_eq_true_eq] at ha; subst ha; unfold rz_l2 at h; split at h; exact rn_lxor hd h; exact h.elim
  · simp only [decide_eq_true_eq] at ha; subst ha; unfold rz_li at h; split at h; exact rn_lshl hd h; exact h.elim
  · simp only [decide_eq_true_eq] at ha; subst ha; unfold rz_li at h; split at h; exact rn_lushr hd h; exact h.elim
  · simp only [decide_eq_true_eq] at ha; subst ha; unfold rz_l2 at h; split at h; exact rn_lcmp hd h; exact h.elim
  · simp only [decide_eq_true_eq] at ha; subst ha; unfold rz_i1 at h; split at h; exact rn_i2l hd h; exact h.elim
  · simp only [decide_eq_true_eq] at ha; subst ha; unfold rz_l1 at h; split at h; exact rn_l2i hd h; exact h.elim
  · simp only [decide_eq_true_eq] at ha; subst ha; unfold rz_i1 at h; split at h; exact rn_i2b hd h; exact h.elim
  · simp only [decide_eq_true_eq] at ha; subst ha; exact rn_iconst hd h
  · simp only [decide_eq_true_eq] at ha; subst ha; exact rn_bipush hd h
  · simp only [decide_eq_true_eq] at ha; subst ha; exact rn_sipush hd h
  · simp only [decide_eq_true_eq] at ha; subst ha; exact rn_lconst hd h
  · simp only [decide_eq_true_eq] at ha; subst ha; unfold rz_li0 at h; split at h; (next q => exact rn_iload_n hd q h); exact h.elim
  · simp only [decide_eq_true_eq] at ha; subst ha; unfold rz_li0 at h; split at h; (next q => exact rn_iload hd q h); exact h.elim
  · simp only [decide_eq_true_eq] at ha; subst ha; unfold rz_ll0 at h; split at h; (next q => exact rn_lload_n hd q h); exact h.elim
  · simp only [decide_eq_true_eq] at ha; subst ha; unfold rz_ll0 at h; split at h; (next q => exact rn_lload hd q h); exact h.elim
  · simp only [decide_eq_true_eq] at ha; subst ha; unfold rz_lr0 at h; split at h; (next q => exact rn_aload_n hd q h); exact h.elim
  · simp only [decide_eq_true_eq] at ha; subst ha; unfold rz_lr0 at h; split at h; (next q => exact rn_aload hd q h); exact h.elim
  · simp only [Bool.and_eq_true, decide_eq_true_eq] at ha; obtain ⟨ha, hb⟩ := ha; subst ha; unfold rz_i1 at h; split at h; exact rn_istore_n hd hb h; exact h.elim
  · simp only [Bool.and_eq_true, decide_eq_true_eq] at ha; obtain ⟨ha, hb⟩ := ha; subst ha; unfold rz_i1 at h; split at h; exact rn_istore hd hb h; exact h.elim
  · simp only [Bool.and_eq_true, decide_eq_true_eq] at ha; obtain ⟨ha, hb⟩ := ha; subst ha; unfold rz_r1 at h; split at h; exact rn_astore_n hd hb h; exact h.elim
  · simp only [Bool.and_eq_true, decide_eq_true_eq] at ha; obtain ⟨ha, hb⟩ := ha; subst ha; unfold rz_r1 at h; split at h; exact rn_astore hd hb h; exact h.elim
  · simp only [Bool.and_eq_true, decide_eq_true_eq] at ha; obtain ⟨ha, hb⟩ := ha; subst ha; unfold rz_l1 at h; split at h; exact rn_lstore_n hd hb h; exact h.elim
  · simp only [Bool.and_eq_true, decide_eq_true_eq] at ha; obtain ⟨ha, hb⟩ := ha; subst ha; unfold rz_l1 at h; split at h; exact rn_lstore hd hb h; exact h.elim
  · simp only [Bool.and_eq_true, decide_eq_true_eq] at ha; obtain ⟨ha, hb⟩ := ha; subst ha; unfold rz_li0 at h; split at h; (next q => exact rn_iinc hd hb q h); exact h.elim
  · simp only [decide_eq_true_eq] at ha; subst ha; unfold rz_v1 at h; split at h; exact rn_dup hd h.1 h.2; exact h.elim
  · simp only [decide_eq_true_eq] at ha; subst ha; unfold rz_v1 at h; split at h; exact rn_pop hd h.1 h.2; exact h.elim
  · simp only [decide_eq_true_eq] at ha; subst ha; unfold rz_v2 at h; split at h; exact rn_dup2 hd h.1 h.2.1 h.2.2; exact h.elim
  · simp only [Bool.and_eq_true, decide_eq_true_eq] at ha; obtain ⟨ha, hb⟩ := ha; subst ha; unfold rz_i1 at h; split at h; exact rn_if_eq hd (rz_tr_ok hb) h.1 h.2; exact h.elim
  · simp only [Bool.and_eq_true, decide_eq_true_eq] at ha; obtain ⟨ha, hb⟩ := ha; subst ha; unfold rz_i1 at h; split at h; exact rn_if_ne hd (rz_tr_ok hb) h.1 h.2; exact h.elim
  · simp only [Bool.and_eq_true, decide_eq_true_eq] at ha; obtain ⟨ha, hb⟩ := ha; subst ha; unfold rz_i1 at h; split at h; exact rn_if_lt hd (rz_tr_ok hb) h.1 h.2; exact h.elim
  · simp only [Bool.and_eq_true, decide_eq_true_eq] at ha; obtain ⟨ha, hb⟩ := ha; subst ha; unfold rz_i1 at h; split at h; exact rn_if_ge hd (rz_tr_ok hb) h.1 h.2; exact h.elim
  · simp only [Bool.and_eq_true, decide_eq_true_eq] at ha; obtain ⟨ha, hb⟩ := ha; subst ha; unfold rz_i1 at h; split at h; exact rn_if_gt hd (rz_tr_ok hb) h.1 h.2; exact h.elim
  · simp only [Bool.and_eq_true, decide_eq_true_eq] at ha; obtain ⟨ha, hb⟩ := ha; subst ha; unfold rz_i1 at h; split at h; exact rn_if_le hd (rz_tr_ok hb) h.1 h.2; exact h.elim
  · simp only [Bool.and_eq_true, decide_eq_true_eq] at ha; obtain ⟨ha, hb⟩ := ha; subst ha; unfold rz_i2 at h; split at h; exact rn_icmp_eq hd (rz_tr_ok hb) h.1 h.2; exact h.elim
  · simp only [Bool.and_eq_true, decide_eq_true_eq] at ha; obtain ⟨ha, hb⟩ := ha; subst ha; unfold rz_i2 at h; split at h; exact rn_icmp_ne hd (rz_tr_ok hb) h.1 h.2; exact h.elim
  · simp only [Bool.and_eq_true, decide_eq_true_eq] at ha; obtain ⟨ha, hb⟩ := ha; subst ha; unfold rz_i2 at h; split at h; exact rn_icmp_lt hd (rz_tr_ok hb) h.1 h.2; exact h.elim
  · simp only [Bool.and_eq_true, decide_eq_true_eq] at ha; obtain ⟨ha, hb⟩ := ha; subst ha; unfold rz_i2 at h; split at h; exact rn_icmp_ge hd (rz_tr_ok hb) h.1 h.2; exact h.elim
  · simp only [Bool.and_eq_true, decide_eq_true_eq] at ha; obtain ⟨ha, hb⟩ := ha; subst ha; unfold rz_i2 at h; split at h; exact rn_icmp_gt hd (rz_tr_ok hb) h.1 h.2; exact h.elim
  · simp only [Bool.and_eq_true, decide_eq_true_eq] at ha; obtain ⟨ha, hb⟩ := ha; subst ha; unfold rz_i2 at h; split at h; exact rn_icmp_le hd (rz_tr_ok hb) h.1 h.2; exact h.elim
  · simp only [Bool.and_eq_true, decide_eq_true_eq] at ha; obtain ⟨ha, hb⟩ := ha; subst ha; exact rn_goto hd (rz_tr_ok hb) h
  · simp only [Bool.and_eq_true, decide_eq_true_eq] at ha
    obtain ⟨ha, hb⟩ := ha
    subst ha
    split at h
    · rcases hb with hb | hb
      · exact rn_ireturn hd hb rfl hk hk2 h.2
      · exact rn_ireturn hd hb (by simp only [narrow, Value.int.injEq]; exact h.1 hb _ rfl) hk hk2 h.2
    · exact h.elim
  · simp only [Bool.and_eq_true, decide_eq_true_eq] at ha; obtain ⟨ha, hb⟩ := ha; subst ha; split at h; exact rn_return hd hb hk hk2 h.2; exact h.elim
  · simp only [Bool.and_eq_true, decide_eq_true_eq] at ha; obtain ⟨ha, hb⟩ := ha; subst ha; split at h; exact rn_areturn hd hb hk hk2 h.2; exact h.elim
  · simp only [decide_eq_true_eq] at ha; subst ha; unfold rz_ri at h; split at h; (unfold rz_ia at h; split at h; (next q => obtain ⟨rfl, h1, h2⟩ := h; exact rn_iaload hd q h1 h2); exact h.elim); exact h.elim
  · simp only [decide_eq_true_eq] at ha; subst ha; unfold rz_ri at h; split at h; (unfold rz_ia at h; split at h; (next q => obtain ⟨rfl | rfl, h1, h2⟩ := h; exact rn_baload hd q h1 h2; exact rn_zaload hd q h1 h2); exact h.elim); exact h.elim
  · simp only [decide_eq_true_eq] at ha; subst ha; unfold rz_ri at h; split at h; (unfold rz_la at h; split at h; (next q => obtain ⟨rfl, h1, h2⟩ := h; exact rn_laload hd q h1 h2); exact h.elim); exact h.elim
  · simp only [decide_eq_true_eq] at ha; subst ha; unfold rz_ri at h; split at h; (unfold rz_ra at h; split at h; (next q => obtain ⟨rfl | rfl, h1, h2⟩ := h; exact rn_aaloadW hd q h1 h2; exact rn_aaloadM hd q h1 h2); exact h.elim); exact h.elim
  · simp only [decide_eq_true_eq] at ha; subst ha; unfold rz_rii at h; split at h; (unfold rz_ia at h; split at h; (next q => obtain ⟨rfl, h1, h2⟩ := h; exact rn_iastore hd q h1 h2); exact h.elim); exact h.elim
  · simp only [decide_eq_true_eq] at ha; subst ha; unfold rz_rii at h; split at h; (unfold rz_ia at h; split at h; (next q => obtain ⟨rfl | rfl, h1, h2⟩ := h; exact rn_bastore hd q h1 h2; exact rn_zastore hd q h1 h2); exact h.elim); exact h.elim
  · simp only [decide_eq_true_eq] at ha; subst ha; unfold rz_ril at h; split at h; (unfold rz_la at h; split at h; (next q => obtain ⟨rfl, h1, h2⟩ := h; exact rn_lastore hd q h1 h2); exact h.elim); exact h.elim
  · simp only [decide_eq_true_eq] at ha; subst ha; unfold rz_r1 at h; split at h; (unfold rz_aa at h; split at h; (next q => exact rn_alen hd q h.1 h.2); exact h.elim); exact h.elim
  · simp only [Bool.and_eq_true, decide_eq_true_eq] at ha; obtain ⟨ha, hb⟩ := ha; subst ha; unfold rz_r1 at h; split at h; (unfold rz_ob at h; split at h; (next q => obtain ⟨rfl, h⟩ := h; unfold rz_fv at h; split at h; (next q2 => exact rn_getf hd hb q q2 h); exact h.elim); exact h.elim); exact h.elim
  · simp only [Bool.and_eq_true, decide_eq_true_eq] at ha; obtain ⟨⟨ha, hb⟩, hb2⟩ := ha; subst ha; unfold rz_vr at h; split at h; (unfold rz_ob at h; split at h; (next q => obtain ⟨rfl, h1, h2, h3⟩ := h; exact rn_putf hd hb hb2 q h1.1 h1.2 h2 h3); exact h.elim); exact h.elim
  · exact h.elim
theorem rn_blk (is : List rz_I) {pc : Nat} {L : rz_L} {S : List Value} {G : rz_G} (hd : rz_lks M pc is = true) (hk : kc ≤ mc) (hk2 : kn ≤ ms)
    (h : rz_ex is pc L S G (fun pc L S G => rn_T w d mc ms M kc kn pc L S G X) (fun r G => rz_nb M r ∧ X.2 r G)) : rn_T w d mc ms M kc kn pc L S G X := by
  induction is generalizing pc L S G with
  | nil => exact h
  | cons i is ih =>
    simp only [rz_lks, Bool.and_eq_true] at hd
    exact rn_st_ok hk hk2 hd.1 (rz_st_mono (fun L S G h => ih hd.2 h) h)

end RUX
theorem rn_blk' (is : List rz_I) {w : rz_w} {d mc ms : Nat} {M : rz_M} {kc kn : Nat} {X : rn_P} {pc : Nat} {L : rz_L} {S : List Value} {G : rz_G} (hd : rz_lks M pc is = true) (hk : kc ≤ mc) (hk2 : kn ≤ ms)
    (h : ∀ (K : Nat → rz_L → List Value → rz_G → Prop) (R : Option Value → rz_G → Prop), (∀ pc L S G, rn_T w d mc ms M kc kn pc L S G X → K pc L S G) → (∀ r G, rz_nb M r → X.2 r G → R r G) → rz_ex is pc L S G K R) : rn_T w d mc ms M kc kn pc L S G X :=
  rn_blk is hd hk hk2 (h _ _ (fun _ _ _ _ q => q) (fun _ _ q1 q2 => ⟨q1, q2⟩))
section RUC0
variable {w : rz_w} {d mc ms : Nat} {M : rz_M} {kc kn pc : Nat} {Lc : rz_L} {S : List Value} {G : rz_G} {X : rn_P} {Q' : Option Value → rz_G → Prop} {y : MethodName} {My : rz_M}
theorem rn_cV {idx np : Nat} (hL : rz_lV M.2.2.2.1 idx y My np) {As : List Value} {b ci : Nat} {fs : List Value} (hd : decode M.1 pc = .ok (.invokevirtual idx, 3)) (hn : As.length = np) (hG : G b = some (.inr (ci, fs))) (hcl : (rz_cl[ci]?).map (·.1) = some y.cls) (hst : (S.map fun v => v.category).sum ≤ 8) (hk : kc ≤ mc) (hk2 : kn ≤ ms)
    (h : rz_C w d 0 0 y My (.ref b :: As) G Q') (k : ∀ r G', Q' r G' → rn_T w (d + 1) mc ms M kc kn (pc + 3) Lc (r.toList ++ S) G' X) : rn_T w (d + 1) mc ms M kc kn pc Lc (As.reverse ++ .ref b :: S) G X := rn_callV hL hd hn hG hcl hst hk hk2 h k
theorem rn_cS {idx np : Nat} (hL : rz_lS M.2.2.2.1 idx y My np) {As : List Value} (hd : decode M.1 pc = .ok (.invokestatic idx, 3)) (hn : As.length = np) (hst : (S.map fun v => v.category).sum ≤ 8) (hk : kc ≤ mc) (hk2 : kn ≤ ms)
    (h : rz_C w d 0 0 y My As G Q') (k : ∀ r G', Q' r G' → rn_T w (d + 1) mc ms M kc kn (pc + 3) Lc (r.toList ++ S) G' X) : rn_T w (d + 1) mc ms M kc kn pc Lc (As.reverse ++ S) G X := rn_callS hL hd hn hst hk hk2 h k
theorem rn_cN {idx np : Nat} (hL : rz_nS M.2.2.2.1 idx y My np) {As : List Value} (hd : decode M.1 pc = .ok (.invokestatic idx, 3)) (hn : As.length = np) (hst : (S.map fun v => v.category).sum ≤ 8) (hk : kc ≤ mc) (hk2 : kn ≤ ms)
    (h : rz_C w d 0 0 y My As G Q') (k : ∀ r G', Q' r G' → rn_T w (d + 1) mc ms M kc kn (pc + 3) Lc (r.toList ++ S) G' X) : rn_T w (d + 1) mc ms M kc kn pc Lc (As.reverse ++ S) G X := rn_callSN hL hd hn hst hk hk2 h k

end RUC0

def rn_C (w : rz_w) (d mc ms : Nat) (y : MethodName) (M : rz_M) (as : List Value) (G : rz_G) (n : Nat) (Q : Option Value → rz_G → Prop) : Prop :=
  ∀ l : Launch, Met l y (rz_ws y M) (rz_rm d mc ms) (va_Pc as (fun U => rz_K w U ∧ rz_R w G U.heap ∧ rn_z n U)) (rz_Q w Q) mc ms (rz_A w)
theorem rn_enter {w : rz_w} {d mc ms : Nat} {y : MethodName} {M : rz_M} {as : List Value} {G : rz_G} {n : Nat} {Q : Option Value → rz_G → Prop} (Lc : rz_L) (hy : plainName y.cls = true) (ho : rz_on M.2.2.2.1 = y.cls) (hn : y.name = M.2.2.2.2) (hlen : (lg_sl as).length ≤ M.2.1) (hL : rz_pad M.2.1 (rz_en as) = Lc)
    (h : rn_T w d mc ms M 0 0 0 Lc [] G (n, Q)) : rn_C w d mc ms y M as G n Q := by
  intro l
  refine Met.ofW (cc := M.1) (maxL := M.2.1) (ret := M.2.2.1) hy rfl ?_
  intro p e s m args below meth c s₁ B hml hv
  obtain ⟨rfl, hK, hR, hz⟩ := hv
  have hts := atoms_spec (ws := rz_ws y M) B.pre
  have hown : s.vm.findClass y.cls = some m.cls := findClass_of_methodNamed B.named
  have hlocks := B.notSynchronized
  have hin : meth.name = y.name := (name_of_methodNamed B.named B.method).1
  have hl := lv_entry as (n := M.2.1) hlen
  rw [lg_entry_eq]
  generalize (lg_sl as ++ List.replicate (M.2.1 - (lg_sl as).length) Slot.unset).toArray = ls at hl ⊢
  have key := h p l e s m as.toArray below meth c s.heap [] ls ⟨B.exec, B.bytes, hml, B.returns, hlocks, by rw [ho]; exact hown, hin.trans hn, fun x hx => hts x (List.mem_cons_of_mem _ hx), hK, fun q hq => Nat.le_trans hR.1 hq⟩ va_S.rf hR (by
    refine ⟨hl.1, hl.2.1, fun i v hv => ?_⟩
    rw [← hL] at hv
    have h1 := rz_en_at as 0 i v (rz_at_app _ _ _ _ hv)
    rw [Nat.zero_add] at h1
    exact hl.2.2 (i, v) h1)
  intro T hT Y
  obtain ⟨t, a1, b⟩ := key T hT Y
  exact ⟨t, a1, b hz⟩
/-- a new cell at the heap's end -/
theorem rz_R_push {w : rz_w} {G : rz_G} {H H1 : Heap} {e : rz_E} (h : rz_R w G H) (hz : H1.size = H.size + 1) (ho : ∀ q, q < H.size → H1[q]? = H[q]?) (he : va_at w.1 rz_cl (H.size, rz_e w (some e)) H1) : rz_R w (rz_up G H.size e) H1 := by
  obtain ⟨h1, L, hL, hP, hD⟩ := h
  have hlt : ∀ a ∈ L, a < H.size := fun a ha => by
    obtain ⟨k, hk⟩ := va_pl_get (X := []) (f := rz_f w G) ha
    exact (hP k _ hk).lt
  have hnot : H.size ∉ L := fun q => Nat.lt_irrefl _ (hlt _ q)
  have hpl : va_pl L (rz_f w (rz_up G H.size e)) = va_pl L (rz_f w G) := by
    apply List.map_congr_left
    intro a ha
    have : a ≠ H.size := fun q => hnot (q ▸ ha)
    simp only [rz_f, rz_up, if_neg this]
  have happ : va_pl (L ++ [H.size]) (rz_f w (rz_up G H.size e)) = va_pl L (rz_f w G) ++ [(H.size, rz_e w (some e))] := by
    have e1 : va_pl (L ++ [H.size]) (rz_f w (rz_up G H.size e)) = va_pl L (rz_f w (rz_up G H.size e)) ++ [(H.size, rz_f w (rz_up G H.size e) H.size)] := by simp [va_pl]
    rw [e1, hpl]
    simp only [rz_f, rz_up, if_true]
  refine ⟨by omega, L ++ [H.size], fun a => ?_, ?_, ?_⟩
  · rw [List.mem_append, List.mem_singleton, hL a]
    by_cases c : a = H.size
    · subst c; simp [rz_up]
    · rw [rz_up_n _ _ c]; simp [c]
  · rw [happ]
    refine (hP.kept (fun k q hk => ho q.1 (hP k q hk).lt)).app (fun k q hk => ?_)
    have hk0 : k < 1 := (List.getElem?_eq_some_iff.mp hk).1
    rw [show k = 0 by omega] at hk
    cases hk
    exact he
  · rw [happ]
    exact hD.push hP rfl h1
section RNN
variable {w : rz_w} {d mc ms : Nat} {M : rz_M} {kc kn pc : Nat} {Lc : rz_L} {S : List Value} {G : rz_G} {X : rn_P}
theorem rn_size {p : Program} {l : Launch} {e : Env} {R : Room} {s : State} {m : MethodId} {args : Array Value} {below : List Frame} {meth : Method} {c : Code} {H : Heap} {locs : List Loc} {T : State} (hS : va_S (rz_A w) s.heap H locs) (hR : rz_R w G H) (hT : T.heap = H) (Y : Stand p l e R s m args below meth c T locs kc kn) (hz : s.heap.size = X.1) (hf : kc = 0 ∨ ∃ a, a + 1 = X.1 + kc ∧ G a ≠ none) : H.size = X.1 + kc := by
  have h1 := Y.heapSize
  rw [hT, hz] at h1
  have h2 := hS.1
  rcases hf with rfl | ⟨a, ha, hG⟩
  · omega
  · cases hg : G a with
    | none => exact absurd hg hG
    | some x =>
      obtain ⟨L, k, -, hk, -, hP, -⟩ := rz_get hR hg
      have := (hP k _ hk).lt
      dsimp only at this
      omega
theorem rn_new {ci idx : Nat} {r : vw_C} {fs : List Value} (hr : rz_cl[ci]? = some r) (hcl : Cond.classLink (rz_on M.2.2.2.1) idx r.1 ∈ rz_tb) (hins : Cond.instantiable r.1 r.2.2 ∈ rz_tb) (hini : Cond.initialized r.1 ∈ rz_tb) (hd : decode M.1 pc = .ok (.new idx, 3)) (hfs : ∀ j, j < r.2.2 → defaultValue (rz_ty ci j) = vp_V fs j) (hf : kc = 0 ∨ ∃ a, a + 1 = X.1 + kc ∧ G a ≠ none) (hk : kc + 1 ≤ mc) (hk2 : kn + r.2.2 ≤ ms)
    (k : rn_T w d mc ms M (kc + 1) (kn + r.2.2) (pc + 3) Lc (.ref (X.1 + kc) :: S) (rz_up G (X.1 + kc) (.inr (ci, fs))) X) : rn_T w d mc ms M kc kn pc Lc S G X := by
  intro p l e s m args below meth c H locs ls hc hS hR hl T hT Y
  by_cases hz : rn_z X.1 s
  rotate_left
  · exact ⟨_, Steps.refl _, fun h => absurd h hz⟩
  have hsz := rn_size hS hR hT Y hz.1 hf
  obtain ⟨c1, c2, c3, c4, c5, c6, c7, c8, c9, c10⟩ := id hc
  obtain ⟨f1, f2, f3⟩ := rz_clf hr
  have hKn := c9.1.1 ci r hr
  suffices key : W p l e (rz_rm d mc ms) s m args below meth c H locs kc kn (rn_F w mc ms X args below s) (F0 m pc ls S) from key T hT Y
  refine W.newcK c1 c2 c6 (c8 _ hcl) (c8 _ hins) (c8 _ hini) rfl hd hk hk2 hKn.2.1 hsz fun H1 kC hkC e1 z1 o1 => ?_
  have hR1 := rz_R_push (e := .inr (ci, fs)) (H1 := H1) hR (by rw [hsz]; exact z1) (fun q hq => o1 q (by rw [← hsz]; exact hq)) ⟨_, hr, (u_born (rz_ty ci) c8 f1 hKn hkC (by rw [hsz]; exact e1) f2).to hfs⟩
  rw [hsz] at hR1
  exact k p l e s m args below meth c H1 locs ls hc ⟨Nat.le_trans hS.1 (by omega), fun x h1 h2 => (o1 x (by rw [← hsz]; exact Nat.lt_of_lt_of_le h1 hS.1)).trans (hS.2.1 x h1 h2), hS.2.2⟩ hR1 hl
theorem rn_newa {atype : ArrayType} {ti N : Nat} {a0 : vp_A} (hti : (rz_tys w)[ti]? = some (w.2.1 ti, newarray.typeOf atype)) (harr : Cond.arrayClass (newarray.typeOf atype) ∈ rz_tb) (ha : ∀ cA : ClassId, vp_cell cA a0 = arrV cA N (fun _ => defaultValue (newarray.typeOf atype))) (hN : N < 2 ^ 20) (hd : decode M.1 pc = .ok (.newarray atype, 2)) (hf : kc = 0 ∨ ∃ a, a + 1 = X.1 + kc ∧ G a ≠ none) (hk : kc + 1 ≤ mc) (hk2 : kn + N ≤ ms) (hnm : ∀ (U : State) (cA : ClassId), va_RA U cA (newarray.typeOf atype) → U.vm.findClass ("[" ++ (newarray.typeOf atype).toString) = some cA)
    (hbb : componentBytes (newarray.typeOf atype) ≤ 8) (k : rn_T w d mc ms M (kc + 1) (kn + N) (pc + 2) Lc (.ref (X.1 + kc) :: S) (rz_up G (X.1 + kc) (.inl (ti, a0))) X) : rn_T w d mc ms M kc kn pc Lc (.int (nI N) :: S) G X := by
  intro p l e s m args below meth c H locs ls hc hS hR hl T hT Y
  by_cases hz : rn_z X.1 s
  rotate_left
  · exact ⟨_, Steps.refl _, fun h => absurd h hz⟩
  have hsz := rn_size hS hR hT Y hz.1 hf
  obtain ⟨c1, c2, c3, c4, c5, c6, c7, c8, c9, c10⟩ := id hc
  have hb1 : N * componentBytes (newarray.typeOf atype) ≤ 536870912 := Nat.le_trans (Nat.mul_le_mul_left N hbb) (by omega)
  suffices key : W p l e (rz_rm d mc ms) s m args below meth c H locs kc kn (rn_F w mc ms X args below s) (F0 m pc ls (.int (nI N) :: S)) from key T hT Y
  refine va_newaK c1 c2 (c8 _ harr) rfl hd rfl (nI_pos (by omega)) (nI_clamp (by omega)) hb1 hk hk2 hsz fun H1 cA e1 z1 o1 hAr hNm => ?_
  have hcA : cA = w.2.1 ti := by
    have h1 := hnm s _ (c9.1.2 ti _ hti).2
    rw [hNm] at h1
    exact Option.some.inj h1
  subst hcA
  have hR1 := rz_R_push (e := .inl (ti, a0)) (H1 := H1) hR (by rw [hsz]; exact z1) (fun q hq => o1 q (by rw [← hsz]; exact hq)) (by
    show H1[H.size]? = some (vp_cell _ _)
    rw [ha, hsz]
    exact e1)
  rw [hsz] at hR1
  exact k p l e s m args below meth c H1 locs ls hc ⟨Nat.le_trans hS.1 (by omega), fun x h1 h2 => (o1 x (by rw [← hsz]; exact Nat.lt_of_lt_of_le h1 hS.1)).trans (hS.2.1 x h1 h2), hS.2.2⟩ hR1 hl
theorem rn_newq {idx ti N : Nat} {C : String} (hti : (rz_tys w)[ti]? = some (w.2.1 ti, .object C)) (hcl : Cond.classLink (rz_on M.2.2.2.1) idx C ∈ rz_tb) (hao : ∀ s, rn_z X.1 s → va_AO C s) (hN : N < 2 ^ 20) (hd : decode M.1 pc = .ok (.anewarray idx, 3)) (hf : kc = 0 ∨ ∃ a, a + 1 = X.1 + kc ∧ G a ≠ none) (hk : kc + 1 ≤ mc) (hk2 : kn + N ≤ ms)
    (k : rn_T w d mc ms M (kc + 1) (kn + N) (pc + 3) Lc (.ref (X.1 + kc) :: S) (rz_up G (X.1 + kc) (.inl (ti, N, .inr (.inr (.inr (.inr (fun _ => none))))))) X) : rn_T w d mc ms M kc kn pc Lc (.int (nI N) :: S) G X := by
  intro p l e s m args below meth c H locs ls hc hS hR hl T hT Y
  by_cases hz : rn_z X.1 s
  rotate_left
  · exact ⟨_, Steps.refl _, fun h => absurd h hz⟩
  have hsz := rn_size hS hR hT Y hz.1 hf
  obtain ⟨c1, c2, c3, c4, c5, c6, c7, c8, c9, c10⟩ := id hc
  have hcN : (nI N).toNatClampNeg = N := nI_clamp (by omega)
  suffices key : W p l e (rz_rm d mc ms) s m args below meth c H locs kc kn (rn_F w mc ms X args below s) (F0 m pc ls (.int (nI N) :: S)) from key T hT Y
  refine W.anew c1 c2 c6 (c8 _ hcl) (va_AO.use (hao s hz)) rfl hd rfl (nI_pos (by omega)) (by rw [hcN]; omega) hk (by rw [hcN]; exact hk2) fun cA kA comp g1 g2 g3 g4 => ?_
  rw [hcN]
  generalize hH1 : H.push ({ cls := cA, slots := Array.replicate N .null, vm := .none } : Cell) = H1
  have z1 : H1.size = H.size + 1 := by rw [← hH1, Array.size_push]
  have e1 : H1[H.size]? = some (arrV cA N (fun _ => .null)) := by rw [← hH1, Array.getElem?_push_size, ← arrV_new]
  have o1 : ∀ q : Nat, q < H.size → H1[q]? = H[q]? := fun q hq => by rw [← hH1, Array.getElem?_push, if_neg (Nat.ne_of_lt hq)]
  have hcA : cA = w.2.1 ti := by
    obtain ⟨_, _, _, _, _, h1⟩ := (c9.1.2 ti _ hti).2
    rw [g1] at h1
    exact Option.some.inj h1
  subst hcA
  have hR1 := rz_R_push (e := .inl (ti, N, .inr (.inr (.inr (.inr (fun _ => none)))))) (H1 := H1) hR z1 o1 (by
    show H1[H.size]? = some (vp_cell _ _)
    rw [vp_cell_q]
    exact e1)
  rw [hsz] at hR1 ⊢
  exact k p l e s m args below meth c H1 locs ls hc ⟨Nat.le_trans hS.1 (by omega), fun x h1 h2 => (o1 x (Nat.lt_of_lt_of_le h1 hS.1)).trans (hS.2.1 x h1 h2), hS.2.2⟩ hR1 hl
end RNN
