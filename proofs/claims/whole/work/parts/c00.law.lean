/-! the law: its judgement. X: whether the heap's new cells are known to be no statics; the heap's size at the start; the script's cell, length, ints; what holds at the end -/
abbrev rl_P : Type := Bool × Nat × (Nat × Nat × (Nat → Int32)) × (Option Value → rz_G → Prop)
def rl_n (w : rz_w) (H : Heap) : Prop := ∀ (q : Nat) (cell : Cell), w.2.2 ≤ q → H[q]? = some cell → cell.vm.isStatics = false
def rl_z (w : rz_w) (X : rl_P) (l : Launch) (s : State) : Prop := rn_z X.2.1 s ∧ (∀ e : Env, l.admits e → e.platform.stackTraces = false) ∧ ru_st w s ∧ va_X X.2.2.1.1 X.2.2.1.2.1 X.2.2.1.2.2 s s.heap ∧ X.2.2.1.1 < w.2.2
def rl_F (w : rz_w) (mc ms : Nat) (X : rl_P) (l : Launch) (args : Array Value) (below : List Frame) (s : State) : State → Prop := fun t => rl_z w X l s → MQ below (rz_Q w X.2.2.2) args s mc ms (rz_A w) t
def rl_T (w : rz_w) (d mc ms : Nat) (M : rz_M) (kc kn pc : Nat) (Lc : rz_L) (S : List Value) (G : rz_G) (X : rl_P) : Prop :=
  ∀ (p : Program) (l : Launch) (e : Env) (s : State) (m : MethodId) (args : Array Value) (below : List Frame) (meth : Method) (c : Code) (H : Heap) (locs : List Loc) (ls : Array Slot), rz_cx w M p s m args meth c → va_S (rz_A w) s.heap H locs → rz_R w G H → (X.1 = true → rl_n w H) → rz_l ls M.2.1 Lc →
    W p l e (rz_rm d mc ms) s m args below meth c H locs kc kn (rl_F w mc ms X l args below s) (F0 m pc ls S)
section RL
variable {w : rz_w} {d mc ms : Nat} {M : rz_M} {kc kn pc : Nat} {Lc : rz_L} {S : List Value} {G : rz_G} {X : rl_P}
theorem rl_of (h : rz_T w d mc ms M kc kn pc Lc S G X.2.2.2) : rl_T w d mc ms M kc kn pc Lc S G X := by
  intro p l e s m args below meth c H locs ls hc hS hR hN hl T hT Y
  obtain ⟨t, h1, h2⟩ := h p l e s m args below meth c H locs ls hc hS hR hl T hT Y
  exact ⟨t, h1, fun _ => h2⟩
theorem rl_widen {kc' kn' : Nat} (h1 : kc ≤ kc') (h2 : kn ≤ kn') (k : rl_T w d mc ms M kc' kn' pc Lc S G X) : rl_T w d mc ms M kc kn pc Lc S G X := fun p l e s m args below meth c H locs ls hc hS hR hN hl => W.widen h1 h2 (k p l e s m args below meth c H locs ls hc hS hR hN hl)
theorem rl_iadd {x y : Int32} (hd : decode M.1 pc = .ok (.iadd, 1)) (k : rl_T w d mc ms M kc kn (pc + 1) Lc (.int (x + y) :: S) G X) : rl_T w d mc ms M kc kn pc Lc (.int y :: .int x :: S) G X := fun p l e s m args below meth c H locs ls hc hS hR hN hl => lv_iadd hc.1 hc.2.1 hd (k p l e s m args below meth c H locs ls hc hS hR hN hl)
theorem rl_isub {x y : Int32} (hd : decode M.1 pc = .ok (.isub, 1)) (k : rl_T w d mc ms M kc kn (pc + 1) Lc (.int (x - y) :: S) G X) : rl_T w d mc ms M kc kn pc Lc (.int y :: .int x :: S) G X := fun p l e s m args below meth c H locs ls hc hS hR hN hl => lv_isub hc.1 hc.2.1 hd (k p l e s m args below meth c H locs ls hc hS hR hN hl)
theorem rl_iand {x y : Int32} (hd : decode M.1 pc = .ok (.iand, 1)) (k : rl_T w d mc ms M kc kn (pc + 1) Lc (.int (x &&& y) :: S) G X) : rl_T w d mc ms M kc kn pc Lc (.int y :: .int x :: S) G X := fun p l e s m args below meth c H locs ls hc hS hR hN hl => lv_iand hc.1 hc.2.1 hd (k p l e s m args below meth c H locs ls hc hS hR hN hl)
theorem rl_lcmp {x y : Int64} (hd : decode M.1 pc = .ok (.lcmp, 1)) (k : rl_T w d mc ms M kc kn (pc + 1) Lc (.int (lg_cmp x y) :: S) G X) : rl_T w d mc ms M kc kn pc Lc (.long y :: .long x :: S) G X := fun p l e s m args below meth c H locs ls hc hS hR hN hl => W.lcmp hc.1 hc.2.1 hd (k p l e s m args below meth c H locs ls hc hS hR hN hl)
theorem rl_i2l {x : Int32} (hd : decode M.1 pc = .ok (.i2l, 1)) (k : rl_T w d mc ms M kc kn (pc + 1) Lc (.long (x.toInt64) :: S) G X) : rl_T w d mc ms M kc kn pc Lc (.int x :: S) G X := fun p l e s m args below meth c H locs ls hc hS hR hN hl => lv_i2l hc.1 hc.2.1 hd rfl (k p l e s m args below meth c H locs ls hc hS hR hN hl)
theorem rl_iconst {n : Int} (hd : decode M.1 pc = .ok (.iconst n, 1)) (k : rl_T w d mc ms M kc kn (pc + 1) Lc (.int (Int32.ofInt n) :: S) G X) : rl_T w d mc ms M kc kn pc Lc S G X := fun p l e s m args below meth c H locs ls hc hS hR hN hl => lv_iconst hc.1 hc.2.1 hd rfl (k p l e s m args below meth c H locs ls hc hS hR hN hl)
theorem rl_bipush {n : Int} (hd : decode M.1 pc = .ok (.bipush n, 2)) (k : rl_T w d mc ms M kc kn (pc + 2) Lc (.int ((Int8.ofInt n).toInt32) :: S) G X) : rl_T w d mc ms M kc kn pc Lc S G X := fun p l e s m args below meth c H locs ls hc hS hR hN hl => lv_bipush hc.1 hc.2.1 hd rfl (k p l e s m args below meth c H locs ls hc hS hR hN hl)
theorem rl_lconst {n : Fin 2} (hd : decode M.1 pc = .ok (.lconst n, 1)) (k : rl_T w d mc ms M kc kn (pc + 1) Lc (.long (Int64.ofNat (n : Nat)) :: S) G X) : rl_T w d mc ms M kc kn pc Lc S G X := fun p l e s m args below meth c H locs ls hc hS hR hN hl => lv_lconst hc.1 hc.2.1 hd rfl (k p l e s m args below meth c H locs ls hc hS hR hN hl)
theorem rl_iload {j : Nat} {x : Int32} (hd : decode M.1 pc = .ok (.iload j, 2)) (h : rz_at Lc j = some (.int x)) (k : rl_T w d mc ms M kc kn (pc + 2) Lc (.int x :: S) G X) : rl_T w d mc ms M kc kn pc Lc S G X := fun p l e s m args below meth c H locs ls hc hS hR hN hl => lv_iload hc.1 hc.2.1 hd (hl.2.2 _ _ h) (k p l e s m args below meth c H locs ls hc hS hR hN hl)
theorem rl_aload_n {j : Fin 4} {x : Nat} (hd : decode M.1 pc = .ok (.aload_n j, 1)) (h : rz_at Lc j = some (.ref x)) (k : rl_T w d mc ms M kc kn (pc + 1) Lc (.ref x :: S) G X) : rl_T w d mc ms M kc kn pc Lc S G X := fun p l e s m args below meth c H locs ls hc hS hR hN hl => lv_aload_n hc.1 hc.2.1 hd rfl (hl.2.2 _ _ h) (k p l e s m args below meth c H locs ls hc hS hR hN hl)
theorem rl_istore {j : Nat} {x : Int32} (hd : decode M.1 pc = .ok (.istore j, 2)) (h : j < M.2.1) (k : rl_T w d mc ms M kc kn (pc + 2) (rz_set Lc j (.int x)) S G X) : rl_T w d mc ms M kc kn pc Lc (.int x :: S) G X := fun p l e s m args below meth c H locs ls hc hS hR hN hl => lv_istore hc.1 hc.2.1 hd hl.has h rfl (fun ls hl => k p l e s m args below meth c H locs ls hc hS hR hN (rz_l.set1 rfl hl))
theorem rl_astore_n {j : Fin 4} {x : Nat} (hd : decode M.1 pc = .ok (.astore_n j, 1)) (h : (j : Nat) < M.2.1) (k : rl_T w d mc ms M kc kn (pc + 1) (rz_set Lc j (.ref x)) S G X) : rl_T w d mc ms M kc kn pc Lc (.ref x :: S) G X := fun p l e s m args below meth c H locs ls hc hS hR hN hl => lv_astore_n hc.1 hc.2.1 hd rfl hl.has h rfl (fun ls hl => k p l e s m args below meth c H locs ls hc hS hR hN (rz_l.set1 rfl hl))
theorem rl_dup {v : Value} (hd : decode M.1 pc = .ok (.dup, 1)) (h : v.category = 1) (k : rl_T w d mc ms M kc kn (pc + 1) Lc (v :: v :: S) G X) : rl_T w d mc ms M kc kn pc Lc (v :: S) G X := fun p l e s m args below meth c H locs ls hc hS hR hN hl => lv_dup hc.1 hc.2.1 hd h (k p l e s m args below meth c H locs ls hc hS hR hN hl)
theorem rl_pop {v : Value} (hd : decode M.1 pc = .ok (.pop, 1)) (h : v.category = 1) (k : rl_T w d mc ms M kc kn (pc + 1) Lc S G X) : rl_T w d mc ms M kc kn pc Lc (v :: S) G X := fun p l e s m args below meth c H locs ls hc hS hR hN hl => lv_pop hc.1 hc.2.1 hd h (k p l e s m args below meth c H locs ls hc hS hR hN hl)
theorem rl_if_eq {x : Int32} {off : Int} {t : Nat} (hd : decode M.1 pc = .ok (.ifCond .eq off, 3)) (ht : (pc : Int) + off = (t : Int)) (k1 : x = 0 → rl_T w d mc ms M kc kn t Lc S G X) (k2 : ¬ x = 0 → rl_T w d mc ms M kc kn (pc + 3) Lc S G X) : rl_T w d mc ms M kc kn pc Lc (.int x :: S) G X := fun p l e s m args below meth c H locs ls hc hS hR hN hl => lv_if_eq hc.1 hc.2.1 hd ht (fun q => k1 q p l e s m args below meth c H locs ls hc hS hR hN hl) (fun q => k2 q p l e s m args below meth c H locs ls hc hS hR hN hl)
theorem rl_if_ne {x : Int32} {off : Int} {t : Nat} (hd : decode M.1 pc = .ok (.ifCond .ne off, 3)) (ht : (pc : Int) + off = (t : Int)) (k1 : ¬ x = 0 → rl_T w d mc ms M kc kn t Lc S G X) (k2 : x = 0 → rl_T w d mc ms M kc kn (pc + 3) Lc S G X) : rl_T w d mc ms M kc kn pc Lc (.int x :: S) G X := fun p l e s m args below meth c H locs ls hc hS hR hN hl => lv_if_ne hc.1 hc.2.1 hd ht (fun q => k1 q p l e s m args below meth c H locs ls hc hS hR hN hl) (fun q => k2 q p l e s m args below meth c H locs ls hc hS hR hN hl)
theorem rl_icmp_eq {x y : Int32} {off : Int} {t : Nat} (hd : decode M.1 pc = .ok (.if_icmp .eq off, 3)) (ht : (pc : Int) + off = (t : Int)) (k1 : x = y → rl_T w d mc ms M kc kn t Lc S G X) (k2 : ¬ x = y → rl_T w d mc ms M kc kn (pc + 3) Lc S G X) : rl_T w d mc ms M kc kn pc Lc (.int y :: .int x :: S) G X := fun p l e s m args below meth c H locs ls hc hS hR hN hl => lv_icmp_eq hc.1 hc.2.1 hd ht (fun q => k1 q p l e s m args below meth c H locs ls hc hS hR hN hl) (fun q => k2 q p l e s m args below meth c H locs ls hc hS hR hN hl)
theorem rl_icmp_gt {x y : Int32} {off : Int} {t : Nat} (hd : decode M.1 pc = .ok (.if_icmp .gt off, 3)) (ht : (pc : Int) + off = (t : Int)) (k1 : y < x → rl_T w d mc ms M kc kn t Lc S G X) (k2 : ¬ y < x → rl_T w d mc ms M kc kn (pc + 3) Lc S G X) : rl_T w d mc ms M kc kn pc Lc (.int y :: .int x :: S) G X := fun p l e s m args below meth c H locs ls hc hS hR hN hl => lv_icmp_gt hc.1 hc.2.1 hd ht (fun q => k1 q p l e s m args below meth c H locs ls hc hS hR hN hl) (fun q => k2 q p l e s m args below meth c H locs ls hc hS hR hN hl)
theorem rl_goto {off : Int} {t : Nat} (hd : decode M.1 pc = .ok (.goto off, 3)) (ht : (pc : Int) + off = (t : Int)) (k : rl_T w d mc ms M kc kn t Lc S G X) : rl_T w d mc ms M kc kn pc Lc S G X := fun p l e s m args below meth c H locs ls hc hS hR hN hl => lv_goto hc.1 hc.2.1 hd ht (k p l e s m args below meth c H locs ls hc hS hR hN hl)
theorem rl_iinc {j : Nat} {n : Int} {x : Int32} (hd : decode M.1 pc = .ok (.iinc j n, 3)) (h : j < M.2.1) (hx : rz_at Lc j = some (.int x)) (k : rl_T w d mc ms M kc kn (pc + 3) (rz_set Lc j (.int (x + Int32.ofInt n))) S G X) : rl_T w d mc ms M kc kn pc Lc S G X := by
  intro p l e s m args below meth c H locs ls hc hS hR hN hl
  obtain ⟨i, hi⟩ := List.getElem?_of_mem (rz_lv_mem.mpr hx)
  exact lv_iinc hc.1 hc.2.1 hd hl.has hi rfl h rfl (fun ls hl => k p l e s m args below meth c H locs ls hc hS hR hN (rz_l.set1 rfl hl))
theorem rl_laload {a n : Nat} {f : Nat → Int64} {i : Int32} (hd : decode M.1 pc = .ok (.laload, 1)) (hG : G a = some (.inl (1, n, .inr (.inl f)))) (hi : vp_in i n) (k : rl_T w d mc ms M kc kn (pc + 1) Lc (.long (f i.toNatClampNeg) :: S) G X) : rl_T w d mc ms M kc kn pc Lc (.int i :: .ref a :: S) G X := by
  intro p l e s m args below meth c H locs ls hc hS hR hN hl
  obtain ⟨L, q, hm, hq, hL, hP, hD⟩ := rz_get hR hG
  exact va_lald hc.1 hc.2.1 hc.2.2.2.2.2.2.2.2.1.1 hP q 1 hq rfl hi hd (k p l e s m args below meth c H locs ls hc hS hR hN hl)
theorem rl_tin {dflt lo hi : Int} {offs : Array Int} {len : Nat} {x : Int32} {off : Int} {tgt : Nat} (hd : decode M.1 pc = .ok (.tableswitch dflt lo hi offs, len)) (h1 : ¬ x.toInt < lo) (h2 : ¬ hi < x.toInt) (ho : offs[(x.toInt - lo).toNat]? = some off) (ht : (pc : Int) + off = (tgt : Int)) (k : rl_T w d mc ms M kc kn tgt Lc S G X) : rl_T w d mc ms M kc kn pc Lc (.int x :: S) G X := fun p l e s m args below meth c H locs ls hc hS hR hN hl => lv_tableIn hc.1 hc.2.1 hd h1 h2 ho ht (k p l e s m args below meth c H locs ls hc hS hR hN hl)
theorem rl_tout {dflt lo hi : Int} {offs : Array Int} {len : Nat} {x : Int32} {tgt : Nat} (hd : decode M.1 pc = .ok (.tableswitch dflt lo hi offs, len)) (h : x.toInt < lo ∨ hi < x.toInt) (ht : (pc : Int) + dflt = (tgt : Int)) (k : rl_T w d mc ms M kc kn tgt Lc S G X) : rl_T w d mc ms M kc kn pc Lc (.int x :: S) G X := fun p l e s m args below meth c H locs ls hc hS hR hN hl => lv_tableOut hc.1 hc.2.1 hd h ht (k p l e s m args below meth c H locs ls hc hS hR hN hl)
theorem rl_b {l : Launch} {s : State} (hz : rl_z w X l s) : X.2.2.1.1 < s.heap.size ∧ ¬ rz_A w X.2.2.1.1 := by
  obtain ⟨scr, h1, -⟩ := hz.2.2.2.1
  exact ⟨(Array.getElem?_eq_some_iff.mp h1).1, Nat.not_le.mpr hz.2.2.2.2⟩
/-- the script: an int of it -/
theorem rl_sld {b L : Nat} {xs : Nat → Int32} (hX : X.2.2.1 = (b, L, xs)) {i : Int32} (hd : decode M.1 pc = .ok (.iaload, 1)) (hi : vp_in i L) (k : rl_T w d mc ms M kc kn (pc + 1) Lc (.int (xs i.toNatClampNeg) :: S) G X) : rl_T w d mc ms M kc kn pc Lc (.int i :: .ref b :: S) G X := by
  intro p l e s m args below meth c H locs ls hc hS hR hN hl T hT Y
  by_cases hz : rl_z w X l s
  rotate_left
  · exact ⟨_, Steps.refl _, fun h => absurd h hz⟩
  obtain ⟨h1, h2⟩ := rl_b hz
  have h3 := hz.2.2.2.1
  rw [hX] at h1 h2 h3
  exact va_sld hc.1 hc.2.1 h3 h1 h2 hS hi hd (k p l e s m args below meth c H locs ls hc hS hR hN hl) T hT Y
/-- .. its length -/
theorem rl_slen {b L : Nat} {xs : Nat → Int32} (hX : X.2.2.1 = (b, L, xs)) (hd : decode M.1 pc = .ok (.arraylength, 1)) (k : rl_T w d mc ms M kc kn (pc + 1) Lc (.int (Int32.ofNat L) :: S) G X) : rl_T w d mc ms M kc kn pc Lc (.ref b :: S) G X := by
  intro p l e s m args below meth c H locs ls hc hS hR hN hl T hT Y
  by_cases hz : rl_z w X l s
  rotate_left
  · exact ⟨_, Steps.refl _, fun h => absurd h hz⟩
  obtain ⟨h1, h2⟩ := rl_b hz
  have h3 := hz.2.2.2.1
  rw [hX] at h1 h2 h3
  exact va_slen hc.1 hc.2.1 h3 h1 h2 hS hd (k p l e s m args below meth c H locs ls hc hS hR hN hl) T hT Y
end RL
theorem rl_blind {w : rz_w} {G : rz_G} {as : List Value} : FrameBlind (va_Pc as (fun U => rz_K w U ∧ rz_R w G U.heap ∧ ru_st w U)) := by
  intro a U g mk h
  obtain ⟨h1, h2, h3, h4⟩ := h
  have h0 := rz_blind (w := w) (G := G) (as := as) a U g mk ⟨h1, h2, h3⟩
  exact ⟨h0.1, h0.2.1, h0.2.2, h4⟩
/-- what makes nothing makes no statics -/
theorem rl_met {l : Launch} {w : rz_w} {y : MethodName} {ws : List Cond} {rm : Room} {Pc : Array Value → State → Prop} {Qc : Array Value → State → Outcome → State → Prop} {free : Addr → Prop} (h : Met l y ws rm Pc Qc 0 0 free) : Met l y ws rm Pc (fun a st o t => Qc a st o t ∧ (ru_ns w st → ru_ns w t)) 0 0 free := by
  intro p e ha hc hk s m args below hf happ hP hK
  obtain ⟨n, o, h1, h2, h3, hq, L, hFE, hL⟩ := h p e ha hc hk s m args below hf happ hP hK
  exact ⟨n, o, h1, h2, h3, ⟨hq, fun hn => ru_ns_keep (t := { stepsAlone p.tables e n s with vm := s.vm }) hFE.2.2 hn⟩, L, hFE, hL⟩
/-- what the tables say of a wrapper -/
def rl_lW (oi idx : Nat) (y : MethodName) (My : rz_M) (hs : List (Nat × Nat × Nat × Nat)) (np : Nat) : Prop := Cond.initialized y.cls ∈ rz_tb ∧ Cond.codeWith y My.1 My.2.1 My.2.2.1 hs ∈ rz_tb ∧ (y.cls ≠ "java/lang/invoke/MethodHandle" ∧ y.cls ≠ "java/lang/invoke/VarHandle") ∧ (parseMethodDescriptor y.desc).map (fun d => d.parameters.length) = some np ∧ My.2.1 ≤ 21 ∧ Cond.methodLink (rz_on oi) idx y ∈ rz_tb ∧ Cond.static y ∈ rz_tb
section RLC
variable {w : rz_w} {d mc ms : Nat} {M : rz_M} {kc kn pc : Nat} {Lc : rz_L} {S : List Value} {G : rz_G} {X : rl_P} {Q' : Option Value → rz_G → Prop} {y : MethodName} {My : rz_M} {mc' ms' : Nat} {hs : List (Nat × Nat × Nat × Nat)}
/-- a call of a wrapper -/
theorem rl_cW {idx np : Nat} (hL : rl_lW M.2.2.2.1 idx y My hs np) {As : List Value} (hd : decode M.1 pc = .ok (.invokestatic idx, 3)) (hn : As.length = np) (hst : (S.map fun v => v.category).sum ≤ 8) (hX1 : X.1 = true) (hk : kc + mc' ≤ mc) (hk2 : kn + ms' ≤ ms)
    (h : rz_CW w d mc' ms' y My hs As G Q') (k : ∀ r G', Q' r G' → rl_T w (d + 1) mc ms M (kc + mc') (kn + ms') (pc + 3) Lc (r.toList ++ S) G' X) : rl_T w (d + 1) mc ms M kc kn pc Lc (As.reverse ++ S) G X := by
  intro p l e s m args below meth c H locs ls hc hS hR hN hl T hT Y
  by_cases hz : rl_z w X l s
  rotate_left
  · exact ⟨_, Steps.refl _, fun h => absurd h hz⟩
  obtain ⟨g1, g2, g3, g4, g5, g6, g7⟩ := hL
  obtain ⟨hz1, hz2, hz3, hz4, hz5⟩ := id hz
  obtain ⟨c1, c2, c3, c4, c5, c6, c7, c8, c9, c10⟩ := id hc
  have hN := hN hX1
  have hM : Met l y (.codeWith y My.1 My.2.1 My.2.2.1 hs :: rz_tb) (rz_rm d mc' ms') (va_Pc As (fun U => rz_K w U ∧ rz_R w G U.heap ∧ ru_st w U)) (fun a st o t => rz_Q w Q' a st o t ∧ (ru_ns w st → ru_ns w t)) mc' ms' (rz_A w) := h l hz2
  have hgood : ∀ x ∈ rz_tb, x ∈ rz_tb ∧ ((x.onTables && x.keeps) = true ∨ ∃ ty, x = .arrayClass ty) := fun x hx => ⟨hx, good_of_word (List.mem_filter.mp hx).2⟩
  have hG : GoodIn rz_tb (.codeWith y My.1 My.2.1 My.2.2.1 hs :: rz_tb) := by
    intro x hx
    rcases List.mem_cons.mp hx with rfl | hx
    · exact hgood _ g2
    · exact hgood x hx
  have hB := va_backW (R := rz_rm (d + 1) mc ms) (p := p) (e := e) (below := below) (s := s) (sargs := args) (len := 3) (W := 8) (hh := hs) (bytes := My.1) (maxL := My.2.1) (ret := My.2.2.1) hM rl_blind rfl rfl (Nat.le_refl _) (by show 8 + (My.2.1 + 11) + 40 * d ≤ 40 * (d + 1); omega) (pay_in c8 hG) List.mem_cons_self (fun a' U hW => pay_in c8 hG _ (List.mem_cons_of_mem _ g1) a' U hW)
  obtain ⟨mk, methM, cM, hnamed, hmethM, -, -, -, -, -, -, hsigM⟩ := Cond.codeWith_spec (c8 _ g2)
  have hstatic : methM.isStatic = true := Cond.static_spec hnamed hmethM (c8 _ g7)
  obtain ⟨kP, hkP, -⟩ := className_of_methodNamed hnamed
  have hinitP : kP.init = .initialized := Cond.initialized_spec (findClass_of_methodNamed hnamed) hkP (c8 _ g1)
  obtain ⟨vm₁, X₁, hstep₁⟩ := Y.invokestatic c1 c6 (c8 _ g6) hnamed hmethM hstatic hkP hinitP g3 (g := F0 m pc ls (As.reverse ++ S)) rfl (argsL := As) (rest := S) (hn.trans (rz_len g4 _ hsigM)) rfl (by rw [c2]; exact hd)
  have hpre : va_Pc As (fun U => rz_K w U ∧ rz_R w G U.heap ∧ ru_st w U) As.toArray (T.setVm vm₁) := by
    refine ⟨rfl, c9.warm X₁.warmed, by show rz_R w G T.heap; rw [hT]; exact hR, ru_st_mv hz3 X₁.warmed (fun q hq => ?_) (fun q cell hq hcell => hN q cell hq (by rw [← hT]; exact hcell))⟩
    show T.heap[q]? = _
    rw [hT]
    exact hS.2.1 q (Nat.lt_of_lt_of_le hq (rz_szS c10 va_S.rf)) (fun h => absurd h (Nat.not_le.mpr hq))
  obtain ⟨v, ⟨T', L', k', n'⟩, X', hpost, hsteps⟩ := hB m meth c ⟨T.setVm vm₁, locs, kc, kn⟩ (F0 m pc ls S) (.invokestatic idx) mk As.toArray X₁ rfl (hl.1.trans c3.symm) (by rw [c2]; exact hd) (lv_room hst) (X₁.named hnamed) ⟨hk, hk2, hpre⟩
  obtain ⟨g', mk', t, L, e1, e2, ⟨⟨⟨r, G', hv, hq, hK2, hR2⟩, hz', hk'⟩, hns⟩, h1, hL, h2, h3⟩ := hpost
  dsimp only [Pt.U, Pt.locs, Pt.cells, Pt.slots] at X' e1 e2 h1 h2 h3 hsteps
  subst h1; subst h2; subst h3
  cases hv
  have hst0 : ((T.setVm vm₁).calling g' mk' As.toArray).heap = H := hT
  rw [hst0] at hz' hk'
  have hns' : rl_n w T'.heap := fun q cell hq hcell => hns (fun q cell hq hcell => hN q cell hq (by rw [← hT]; exact hcell)) q cell hq (by rw [← e1]; exact hcell)
  obtain ⟨t2, a1, b1⟩ := k v G' hq p l e s m args below meth c T'.heap (locs ++ L) ls hc
    ⟨Nat.le_trans hS.1 (by rw [e1]; exact hz'), fun q h1 h2 => by rw [e1, hk' q (Nat.lt_of_lt_of_le h1 hS.1) h2]; exact hS.2.1 q h1 h2, fun q hq => by
      rcases List.mem_append.mp hq with h | h
      · exact hS.2.2 q h
      · exact hL q h⟩ (by rw [e1]; exact hR2) (fun _ => hns') hl T' rfl X'
  exact ⟨t2, hstep₁ _ fun acts => by rw [doInvoke_state]; exact hsteps.trans a1, b1⟩
/-- a call that makes nothing -/
theorem rl_cV {idx np : Nat} (hL : rz_lV M.2.2.2.1 idx y My np) {As : List Value} {b ci : Nat} {fs : List Value} (hd : decode M.1 pc = .ok (.invokevirtual idx, 3)) (hn : As.length = np) (hG : G b = some (.inr (ci, fs))) (hcl : (rz_cl[ci]?).map (·.1) = some y.cls) (hst : (S.map fun v => v.category).sum ≤ 8) (hX1 : X.1 = true) (hk : kc ≤ mc) (hk2 : kn ≤ ms)
    (h : rz_C w d 0 0 y My (.ref b :: As) G Q') (k : ∀ r G', Q' r G' → rl_T w (d + 1) mc ms M kc kn (pc + 3) Lc (r.toList ++ S) G' X) : rl_T w (d + 1) mc ms M kc kn pc Lc (As.reverse ++ .ref b :: S) G X := by
  intro p l e s m args below meth c H locs ls hc hS hR hN hl T hT Y
  have hN := hN hX1
  obtain ⟨L0, q0, hm0, hq0, hL2, hP, hD⟩ := rz_get hR hG
  obtain ⟨r0, hr0, hrn⟩ := Option.map_eq_some_iff.mp hcl
  have hK := hc.2.2.2.2.2.2.2.2.1
  have hts := hc.2.2.2.2.2.2.2.1
  have hrv := va_recv hK.1 hP hr0 hq0
  rw [hrn] at hrv
  obtain ⟨v, st₀, t, T', L, h0, X', hL, e1, e2, ⟨⟨⟨r, G', hv, hq, hK2, hR2⟩, hz, hk'⟩, hns⟩, st⟩ := va_runV (cells := kc) (slots := kn) (locs := locs) (below := below) (meth := meth) (e := e) ⟨hc.1, hc.2.1, hc.2.2.1, hc.2.2.2.2.2.1, hts⟩ (rl_met (w := w) (h l)) ⟨rz_cb (mc := mc) (ms := ms) hc hL.1 hL.2.1, hts _ hL.2.2.1, hts _ hL.2.2.2⟩ ⟨rz_blind, hrv, rz_pre hK hR⟩ (g := F0 m pc ls (As.reverse ++ .ref b :: S)) rfl hn hl.1 rfl (lv_room hst) hd ⟨hk, hk2⟩ T hT Y
  cases hv
  rw [h0] at hz hk'
  have hns' : rl_n w T'.heap := fun q cell hq hcell => hns (fun q cell hq hcell => hN q cell hq (by rw [← h0]; exact hcell)) q cell hq (by rw [← e1]; exact hcell)
  obtain ⟨t2, a1, b1⟩ := k v G' hq p l e s m args below meth c T'.heap (locs ++ L) ls hc
    ⟨Nat.le_trans hS.1 (by rw [e1]; exact hz), fun q h1 h2 => by rw [e1, hk' q (Nat.lt_of_lt_of_le h1 hS.1) h2]; exact hS.2.1 q h1 h2, fun q hq => by
      rcases List.mem_append.mp hq with h | h
      · exact hS.2.2 q h
      · exact hL q h⟩ (by rw [e1]; exact hR2) (fun _ => hns') hl T' rfl X'
  exact ⟨t2, st t2 a1, b1⟩
/-- a constructor -/
theorem rl_cI {idx np : Nat} (hL : rz_lI M.2.2.2.1 idx y My np) {As : List Value} {b : Nat} (hd : decode M.1 pc = .ok (.invokespecial idx, 3)) (hn : As.length = np) (hst : (S.map fun v => v.category).sum ≤ 8) (hX1 : X.1 = false) (hf : kc = 0 ∨ ∃ a, a + 1 = X.2.1 + kc ∧ G a ≠ none) (hk : kc + mc' ≤ mc) (hk2 : kn + ms' ≤ ms)
    (h : rn_C w d mc' ms' y My (.ref b :: As) G (X.2.1 + kc) Q') (k : ∀ r G', Q' r G' → rl_T w (d + 1) mc ms M (kc + mc') (kn + ms') (pc + 3) Lc (r.toList ++ S) G' X) : rl_T w (d + 1) mc ms M kc kn pc Lc (As.reverse ++ .ref b :: S) G X := by
  intro p l e s m args below meth c H locs ls hc hS hR hN hl T hT Y
  by_cases hz : rl_z w X l s
  rotate_left
  · exact ⟨_, Steps.refl _, fun h => absurd h hz⟩
  have hsz := rn_size (X := (X.2.1, X.2.2.2)) hS hR hT Y hz.1.1 hf
  have hK := hc.2.2.2.2.2.2.2.2.1
  have hts := hc.2.2.2.2.2.2.2.1
  have hcb := rz_cb (d := d) (mc := mc) (ms := ms) (mc' := mc') (ms' := ms') hc hL.1 hL.2.1
  rw [hL.2.2.2.2] at hcb
  obtain ⟨v, st₀, t, T', L, h0, X', hL', e1, e2, ⟨⟨r, G', hv, hq, hK2, hR2⟩, hz', hk'⟩, st⟩ := va_runI (cells := kc) (slots := kn) (locs := locs) (below := below) (meth := meth) (e := e) ⟨hc.1, hc.2.1, hc.2.2.1, hc.2.2.2.2.2.1, hts⟩ (h l) ⟨hcb, hL.2.2.2.1, hts _ hL.2.2.1⟩ ⟨rn_blind, fun U hU hW => ⟨rfl, hK.warm hW, by rw [hU]; exact hR, by rw [hU]; exact hsz, va_AO.moved hW.alike hz.1.2.1, va_AO.moved hW.alike hz.1.2.2⟩⟩ (g := F0 m pc ls (As.reverse ++ .ref b :: S)) rfl hn hl.1 rfl (lv_room hst) hd ⟨hk, hk2⟩ T hT Y
  cases hv
  rw [h0] at hz' hk'
  obtain ⟨t2, a1, b1⟩ := k v G' hq p l e s m args below meth c T'.heap (locs ++ L) ls hc
    ⟨Nat.le_trans hS.1 (by rw [e1]; exact hz'), fun q h1 h2 => by rw [e1, hk' q (Nat.lt_of_lt_of_le h1 hS.1) h2]; exact hS.2.1 q h1 h2, fun q hq => by
      rcases List.mem_append.mp hq with h | h
      · exact hS.2.2 q h
      · exact hL' q h⟩ (by rw [e1]; exact hR2) (fun q => by rw [hX1] at q; cases q) hl T' rfl X'
  exact ⟨t2, st t2 a1, b1⟩
theorem rl_new {ci idx : Nat} {r : vw_C} {fs : List Value} (hr : rz_cl[ci]? = some r) (hcl : Cond.classLink (rz_on M.2.2.2.1) idx r.1 ∈ rz_tb) (hins : Cond.instantiable r.1 r.2.2 ∈ rz_tb) (hini : Cond.initialized r.1 ∈ rz_tb) (hd : decode M.1 pc = .ok (.new idx, 3)) (hfs : ∀ j, j < r.2.2 → defaultValue (rz_ty ci j) = vp_V fs j) (hX1 : X.1 = false) (hf : kc = 0 ∨ ∃ a, a + 1 = X.2.1 + kc ∧ G a ≠ none) (hk : kc + 1 ≤ mc) (hk2 : kn + r.2.2 ≤ ms)
    (k : rl_T w d mc ms M (kc + 1) (kn + r.2.2) (pc + 3) Lc (.ref (X.2.1 + kc) :: S) (rz_up G (X.2.1 + kc) (.inr (ci, fs))) X) : rl_T w d mc ms M kc kn pc Lc S G X := by
  intro p l e s m args below meth c H locs ls hc hS hR hN hl T hT Y
  by_cases hz : rl_z w X l s
  rotate_left
  · exact ⟨_, Steps.refl _, fun h => absurd h hz⟩
  have hsz := rn_size (X := (X.2.1, X.2.2.2)) hS hR hT Y hz.1.1 hf
  have hsz : H.size = X.2.1 + kc := hsz
  obtain ⟨c1, c2, c3, c4, c5, c6, c7, c8, c9, c10⟩ := id hc
  obtain ⟨f1, f2, f3⟩ := rz_clf hr
  have hKn := c9.1.1 ci r hr
  suffices key : W p l e (rz_rm d mc ms) s m args below meth c H locs kc kn (rl_F w mc ms X l args below s) (F0 m pc ls S) from key T hT Y
  refine W.newcK c1 c2 c6 (c8 _ hcl) (c8 _ hins) (c8 _ hini) rfl hd hk hk2 hKn.2.1 hsz fun H1 kC hkC e1 z1 o1 => ?_
  have hR1 := rz_R_push (e := .inr (ci, fs)) (H1 := H1) hR (by rw [hsz]; exact z1) (fun q hq => o1 q (by rw [← hsz]; exact hq)) ⟨_, hr, (u_born (rz_ty ci) c8 f1 hKn hkC (by rw [hsz]; exact e1) f2).to hfs⟩
  rw [hsz] at hR1
  exact k p l e s m args below meth c H1 locs ls hc ⟨Nat.le_trans hS.1 (by omega), fun x h1 h2 => (o1 x (by rw [← hsz]; exact Nat.lt_of_lt_of_le h1 hS.1)).trans (hS.2.1 x h1 h2), hS.2.2⟩ hR1 (fun q => by rw [hX1] at q; cases q) hl
theorem rl_newa {atype : ArrayType} {ti N : Nat} {a0 : vp_A} (hti : (rz_tys w)[ti]? = some (w.2.1 ti, newarray.typeOf atype)) (harr : Cond.arrayClass (newarray.typeOf atype) ∈ rz_tb) (ha : ∀ cA : ClassId, vp_cell cA a0 = arrV cA N (fun _ => defaultValue (newarray.typeOf atype))) (hN0 : N < 2 ^ 20) (hd : decode M.1 pc = .ok (.newarray atype, 2)) (hX1 : X.1 = false) (hf : kc = 0 ∨ ∃ a, a + 1 = X.2.1 + kc ∧ G a ≠ none) (hk : kc + 1 ≤ mc) (hk2 : kn + N ≤ ms) (hnm : ∀ (U : State) (cA : ClassId), va_RA U cA (newarray.typeOf atype) → U.vm.findClass ("[" ++ (newarray.typeOf atype).toString) = some cA)
    (hbb : componentBytes (newarray.typeOf atype) ≤ 8) (k : rl_T w d mc ms M (kc + 1) (kn + N) (pc + 2) Lc (.ref (X.2.1 + kc) :: S) (rz_up G (X.2.1 + kc) (.inl (ti, a0))) X) : rl_T w d mc ms M kc kn pc Lc (.int (nI N) :: S) G X := by
  intro p l e s m args below meth c H locs ls hc hS hR hN hl T hT Y
  by_cases hz : rl_z w X l s
  rotate_left
  · exact ⟨_, Steps.refl _, fun h => absurd h hz⟩
  have hsz := rn_size (X := (X.2.1, X.2.2.2)) hS hR hT Y hz.1.1 hf
  have hsz : H.size = X.2.1 + kc := hsz
  obtain ⟨c1, c2, c3, c4, c5, c6, c7, c8, c9, c10⟩ := id hc
  have hb1 : N * componentBytes (newarray.typeOf atype) ≤ 536870912 := Nat.le_trans (Nat.mul_le_mul_left N hbb) (by omega)
  suffices key : W p l e (rz_rm d mc ms) s m args below meth c H locs kc kn (rl_F w mc ms X l args below s) (F0 m pc ls (.int (nI N) :: S)) from key T hT Y
  refine va_newaK c1 c2 (c8 _ harr) rfl hd rfl (nI_pos (by omega)) (nI_clamp (by omega)) hb1 hk hk2 hsz fun H1 cA e1 z1 o1 hAr hNm => ?_
  have hcA : cA = w.2.1 ti := by
    have h1 := hnm s _ (c9.1.2 ti _ hti).2
    rw [hNm] at h1
    exact Option.some.inj h1
  subst hcA
  have hR1 := rz_R_push (e := .inl (ti, a0)) (H1 := H1) hR (by rw [hsz]; exact z1) (fun q hq => o1 q (by rw [← hsz]; exact hq)) (by
    show H1[H.size]? = some (vp_cell _ _)
    rw [ha, hsz]
    exact e1)
  rw [hsz] at hR1
  exact k p l e s m args below meth c H1 locs ls hc ⟨Nat.le_trans hS.1 (by omega), fun x h1 h2 => (o1 x (by rw [← hsz]; exact Nat.lt_of_lt_of_le h1 hS.1)).trans (hS.2.1 x h1 h2), hS.2.2⟩ hR1 (fun q => by rw [hX1] at q; cases q) hl
/-- every new cell is one of ours: none is statics -/
theorem rl_sw {n : Nat} {Y0 : (Nat × Nat × (Nat → Int32)) × (Option Value → rz_G → Prop)} (hw : w.2.2 = n) (hall : ∀ q, n ≤ q → q < n + kc → G q ≠ none) (hpos : 0 < kc) (k : rl_T w d mc ms M kc kn pc Lc S G (true, n, Y0)) : rl_T w d mc ms M kc kn pc Lc S G (false, n, Y0) := by
  intro p l e s m args below meth c H locs ls hc hS hR hN hl T hT Y
  by_cases hz : rl_z w (false, n, Y0) l s
  rotate_left
  · exact ⟨_, Steps.refl _, fun h => absurd h hz⟩
  have hsz := rn_size (X := (n, Y0.2)) hS hR hT Y hz.1.1 (Or.inr ⟨n + kc - 1, by show n + kc - 1 + 1 = n + kc; omega, hall _ (by omega) (by omega)⟩)
  have hsz : H.size = n + kc := hsz
  refine k p l e s m args below meth c H locs ls hc hS hR (fun _ q cell hq hcell => ?_) hl T hT Y
  have hlt := (Array.getElem?_eq_some_iff.mp hcell).1
  cases hg : G q with
  | none => exact absurd hg (hall q (by omega) (by omega))
  | some x =>
    obtain ⟨L, k', -, hk', -, hP, -⟩ := rz_get hR hg
    have hat := hP k' _ hk'
    match x, hat with
    | .inl (t, a), hat =>
      have hat : H[q]? = some (vp_cell (w.2.1 t) a) := hat
      rw [hcell] at hat
      cases hat
      rcases a with ⟨n', f | f | f | f | f⟩ <;> rfl
    | .inr o, hat =>
      obtain ⟨q', h1, cell', g1, g2, g3, -⟩ := hat
      rw [hcell] at g1
      cases g1
      rw [g3]; rfl
end RLC
/-! the wrappers: names, and what the tables say of them -/
def y_Law_machine : MethodName := ⟨"WriterDeskLaw", "machine", "(LWriterDesk;II)I"⟩
abbrev m_Law_machine : rz_M := (method_3_code, 4, some .int, 11, "machine")
abbrev h_Law_machine : List (Nat × Nat × Nat × Nat) := [(0, 6, 9, 13), (0, 6, 12, 15)]
theorem l_Law_machine : rl_lW 11 69 y_Law_machine m_Law_machine h_Law_machine 3 := ⟨rz_j1 0 rfl rfl, rz_j2 208 rfl rfl, ⟨by decide +kernel, by decide +kernel⟩, by decide +kernel, by decide +kernel, rz_j2 206 rfl rfl, rz_j2 207 rfl rfl⟩
def y_Law_edge : MethodName := ⟨"WriterDeskLaw", "edge", "(LWriterDesk;IIIIII[J)I"⟩
abbrev m_Law_edge : rz_M := (method_4_code, 9, some .int, 11, "edge")
abbrev h_Law_edge : List (Nat × Nat × Nat × Nat) := [(0, 18, 21, 13), (0, 18, 25, 15), (0, 18, 29, 21)]
theorem l_Law_edge : rl_lW 11 79 y_Law_edge m_Law_edge h_Law_edge 8 := ⟨rz_j1 0 rfl rfl, rz_j3 68 rfl rfl, ⟨by decide +kernel, by decide +kernel⟩, by decide +kernel, by decide +kernel, rz_j3 66 rfl rfl, rz_j3 67 rfl rfl⟩
def y_Law_last : MethodName := ⟨"WriterDeskLaw", "last", "(LWriterDesk;IIII)I"⟩
abbrev m_Law_last : rz_M := (method_5_code, 6, some .int, 11, "last")
abbrev h_Law_last : List (Nat × Nat × Nat × Nat) := [(0, 9, 12, 13), (0, 9, 16, 15)]
theorem l_Law_last : rl_lW 11 83 y_Law_last m_Law_last h_Law_last 5 := ⟨rz_j1 0 rfl rfl, rz_j3 107 rfl rfl, ⟨by decide +kernel, by decide +kernel⟩, by decide +kernel, by decide +kernel, rz_j3 105 rfl rfl, rz_j3 106 rfl rfl⟩
def y_Law_first : MethodName := ⟨"WriterDeskLaw", "first", "(LWriterDesk;III)I"⟩
abbrev m_Law_first : rz_M := (method_6_code, 5, some .int, 11, "first")
abbrev h_Law_first : List (Nat × Nat × Nat × Nat) := [(0, 7, 10, 13), (0, 7, 14, 15)]
theorem l_Law_first : rl_lW 11 87 y_Law_first m_Law_first h_Law_first 4 := ⟨rz_j1 0 rfl rfl, rz_j3 122 rfl rfl, ⟨by decide +kernel, by decide +kernel⟩, by decide +kernel, by decide +kernel, rz_j3 120 rfl rfl, rz_j3 121 rfl rfl⟩
def y_Law_useful : MethodName := ⟨"WriterDeskLaw", "useful", "(LWriterDesk;I[J)I"⟩
abbrev m_Law_useful : rz_M := (method_7_code, 4, some .int, 11, "useful")
abbrev h_Law_useful : List (Nat × Nat × Nat × Nat) := [(0, 9, 12, 13)]
theorem l_Law_useful : rl_lW 11 91 y_Law_useful m_Law_useful h_Law_useful 3 := ⟨rz_j1 0 rfl rfl, rz_j3 129 rfl rfl, ⟨by decide +kernel, by decide +kernel⟩, by decide +kernel, by decide +kernel, rz_j3 127 rfl rfl, rz_j3 128 rfl rfl⟩
def y_Law_read : MethodName := ⟨"WriterDeskLaw", "read", "(LWriterDesk;IIII[J)I"⟩
abbrev m_Law_read : rz_M := (method_8_code, 7, some .int, 11, "read")
abbrev h_Law_read : List (Nat × Nat × Nat × Nat) := [(0, 14, 17, 13), (0, 14, 21, 15), (0, 14, 25, 21)]
theorem l_Law_read : rl_lW 11 95 y_Law_read m_Law_read h_Law_read 6 := ⟨rz_j1 0 rfl rfl, rz_j3 169 rfl rfl, ⟨by decide +kernel, by decide +kernel⟩, by decide +kernel, by decide +kernel, rz_j3 167 rfl rfl, rz_j3 168 rfl rfl⟩
def y_Law_isFunction : MethodName := ⟨"WriterDeskLaw", "isFunction", "(LWriterDesk;I[J)I"⟩
abbrev m_Law_isFunction : rz_M := (method_9_code, 4, some .int, 11, "isFunction")
abbrev h_Law_isFunction : List (Nat × Nat × Nat × Nat) := [(0, 16, 19, 13)]
theorem l_Law_isFunction : rl_lW 11 99 y_Law_isFunction m_Law_isFunction h_Law_isFunction 3 := ⟨rz_j1 0 rfl rfl, rz_j4 39 rfl rfl, ⟨by decide +kernel, by decide +kernel⟩, by decide +kernel, by decide +kernel, rz_j4 37 rfl rfl, rz_j4 38 rfl rfl⟩
def y_Law_isSame : MethodName := ⟨"WriterDeskLaw", "isSame", "(LWriterDesk;II[J)I"⟩
abbrev m_Law_isSame : rz_M := (method_10_code, 5, some .int, 11, "isSame")
abbrev h_Law_isSame : List (Nat × Nat × Nat × Nat) := [(0, 17, 20, 13), (0, 17, 24, 47)]
theorem l_Law_isSame : rl_lW 11 102 y_Law_isSame m_Law_isSame h_Law_isSame 4 := ⟨rz_j1 0 rfl rfl, rz_j4 122 rfl rfl, ⟨by decide +kernel, by decide +kernel⟩, by decide +kernel, by decide +kernel, rz_j4 120 rfl rfl, rz_j4 121 rfl rfl⟩
def y_Law_isSteady : MethodName := ⟨"WriterDeskLaw", "isSteady", "(LWriterDesk;I[J)I"⟩
abbrev m_Law_isSteady : rz_M := (method_11_code, 4, some .int, 11, "isSteady")
abbrev h_Law_isSteady : List (Nat × Nat × Nat × Nat) := [(0, 16, 19, 13), (0, 16, 22, 47), (0, 16, 25, 21)]
theorem l_Law_isSteady : rl_lW 11 106 y_Law_isSteady m_Law_isSteady h_Law_isSteady 3 := ⟨rz_j1 0 rfl rfl, rz_j4 172 rfl rfl, ⟨by decide +kernel, by decide +kernel⟩, by decide +kernel, by decide +kernel, rz_j4 170 rfl rfl, rz_j4 171 rfl rfl⟩
def y_Law_smallest : MethodName := ⟨"WriterDeskLaw", "smallest", "(LWriterDesk;I[J)I"⟩
abbrev m_Law_smallest : rz_M := (method_12_code, 4, some .int, 11, "smallest")
abbrev h_Law_smallest : List (Nat × Nat × Nat × Nat) := [(0, 9, 12, 13), (0, 9, 15, 47), (0, 9, 18, 21)]
theorem l_Law_smallest : rl_lW 11 109 y_Law_smallest m_Law_smallest h_Law_smallest 3 := ⟨rz_j1 0 rfl rfl, rz_j4 214 rfl rfl, ⟨by decide +kernel, by decide +kernel⟩, by decide +kernel, by decide +kernel, rz_j4 212 rfl rfl, rz_j4 213 rfl rfl⟩
def y_Law_next : MethodName := ⟨"WriterDeskLaw", "next", "(LWriterDesk;II[J)I"⟩
abbrev m_Law_next : rz_M := (method_13_code, 5, some .int, 11, "next")
abbrev h_Law_next : List (Nat × Nat × Nat × Nat) := [(0, 10, 13, 47), (0, 10, 17, 15)]
theorem l_Law_next : rl_lW 11 112 y_Law_next m_Law_next h_Law_next 4 := ⟨rz_j1 0 rfl rfl, rz_j5 63 rfl rfl, ⟨by decide +kernel, by decide +kernel⟩, by decide +kernel, by decide +kernel, rz_j5 61 rfl rfl, rz_j5 62 rfl rfl⟩
def y_Law_ends : MethodName := ⟨"WriterDeskLaw", "ends", "(LWriterDesk;I[J)I"⟩
abbrev m_Law_ends : rz_M := (method_14_code, 4, some .int, 11, "ends")
abbrev h_Law_ends : List (Nat × Nat × Nat × Nat) := [(0, 16, 19, 47), (0, 16, 22, 15)]
theorem l_Law_ends : rl_lW 11 115 y_Law_ends m_Law_ends h_Law_ends 3 := ⟨rz_j1 0 rfl rfl, rz_j5 74 rfl rfl, ⟨by decide +kernel, by decide +kernel⟩, by decide +kernel, by decide +kernel, rz_j5 72 rfl rfl, rz_j5 73 rfl rfl⟩
def y_Law_sign : MethodName := ⟨"WriterDeskLaw", "sign", "(LWriterDesk;I[J)I"⟩
abbrev m_Law_sign : rz_M := (method_15_code, 4, some .int, 11, "sign")
abbrev h_Law_sign : List (Nat × Nat × Nat × Nat) := [(0, 9, 12, 13)]
theorem l_Law_sign : rl_lW 11 122 y_Law_sign m_Law_sign h_Law_sign 3 := ⟨rz_j1 0 rfl rfl, rz_j5 81 rfl rfl, ⟨by decide +kernel, by decide +kernel⟩, by decide +kernel, by decide +kernel, rz_j5 79 rfl rfl, rz_j5 80 rfl rfl⟩
