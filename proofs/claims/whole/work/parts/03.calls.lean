/-! entering a method; calls; a stretch of instructions at once -/
theorem rz_good {y : MethodName} {M : rz_M} (h : Cond.code y M.1 M.2.1 M.2.2.1 ∈ rz_tb) : GoodIn rz_tb (rz_ws y M) := by
  have hg : ∀ x ∈ rz_tb, x ∈ rz_tb ∧ ((x.onTables && x.keeps) = true ∨ ∃ ty, x = .arrayClass ty) := fun x hx => ⟨hx, good_of_word (List.mem_filter.mp hx).2⟩
  intro x hx
  rcases List.mem_cons.mp hx with rfl | hx
  · exact hg _ h
  · exact hg x hx
theorem rz_enter {w : rz_w} {d mc ms : Nat} {y : MethodName} {M : rz_M} {as : List Value} {G : rz_G} {Q : Option Value → rz_G → Prop} (hy : plainName y.cls = true) (ho : rz_on M.2.2.2.1 = y.cls) (hn : y.name = M.2.2.2.2) (hlen : (lg_sl as).length ≤ M.2.1)
    (h : rz_T w d mc ms M 0 0 0 (rz_pad M.2.1 (rz_en as)) [] G Q) : rz_C w d mc ms y M as G Q := by
  intro l
  refine Met.ofW (cc := M.1) (maxL := M.2.1) (ret := M.2.2.1) hy rfl ?_
  intro p e s m args below meth c s₁ B hml hv
  obtain ⟨rfl, hK, hR⟩ := hv
  have hts := atoms_spec (ws := rz_ws y M) B.pre
  have hown : s.vm.findClass y.cls = some m.cls := findClass_of_methodNamed B.named
  have hlocks := B.notSynchronized
  have hin : meth.name = y.name := (name_of_methodNamed B.named B.method).1
  have hl := lv_entry as (n := M.2.1) hlen
  rw [lg_entry_eq]
  generalize (lg_sl as ++ List.replicate (M.2.1 - (lg_sl as).length) Slot.unset).toArray = ls at hl ⊢
  refine h p l e s m _ below meth c s.heap [] ls ⟨B.exec, B.bytes, hml, B.returns, hlocks, by rw [ho]; exact hown, hin.trans hn, fun x hx => hts x (List.mem_cons_of_mem _ hx), hK, fun q hq => Nat.le_trans hR.1 hq⟩ va_S.rf hR ?_
  refine ⟨hl.1, hl.2.1, fun i v hv => ?_⟩
  have h1 := rz_en_at as 0 i v (rz_at_app _ _ _ _ hv)
  rw [Nat.zero_add] at h1
  exact hl.2.2 (i, v) h1
/-- a weaker end, more room -/
theorem rz_T.mono {w : rz_w} {d mc ms : Nat} {M : rz_M} {kc kn pc : Nat} {Lc : rz_L} {S : List Value} {G : rz_G} {Q Q' : Option Value → rz_G → Prop} (h : rz_T w d mc ms M kc kn pc Lc S G Q) (hq : ∀ r G, Q r G → Q' r G) : rz_T w d mc ms M kc kn pc Lc S G Q' := by
  intro p l e s m args below meth c H locs ls hc hS hR hl T hT X
  obtain ⟨t, h1, o, h2, h3, ⟨⟨r, G', e1, e2, e3⟩, h4⟩, h5⟩ := h p l e s m args below meth c H locs ls hc hS hR hl T hT X
  exact ⟨t, h1, o, h2, h3, ⟨⟨r, G', e1, hq _ _ e2, e3⟩, h4⟩, h5⟩
theorem rz_blind {w : rz_w} {G : rz_G} {as : List Value} : FrameBlind (va_Pc as (fun U => rz_K w U ∧ rz_R w G U.heap)) := by
  intro a U g mk h
  obtain ⟨h1, h2, h3⟩ := h
  refine ⟨h1, ⟨va_K.moved (u := U) (U := U.calling g mk a) (Vm.Alike.refl U.vm) h2.1, fun x hx => ?_⟩, h3⟩
  have hon : x.onTables = true := by
    simp only [rz_nest, List.mem_cons, List.not_mem_nil, or_false] at hx
    rcases hx with rfl | rfl | rfl | rfl | rfl | rfl <;> rfl
  exact va_Nw.same (u := U) (U := U.calling g mk a) hon rfl (h2.2 x hx)
section RZC
variable {w : rz_w} {d mc ms : Nat} {M : rz_M} {kc kn pc : Nat} {Lc : rz_L} {S : List Value} {G : rz_G} {Q Q' : Option Value → rz_G → Prop} {y : MethodName} {My : rz_M} {mc' ms' : Nat}
theorem rz_cont {p : Program} {l : Launch} {e : Env} {s : State} {m : MethodId} {args : Array Value} {below : List Frame} {meth : Method} {c : Code} {H : Heap} {locs : List Loc} {ls : Array Slot} {st0 : List Value} {a : Array Value} (hc : rz_cx w M p s m args meth c) (hS : va_S (rz_A w) s.heap H locs) (hl : rz_l ls M.2.1 Lc)
    (hr : va_Run p l e (rz_rm d mc ms) s m args below meth c H locs kc kn mc' ms' (F0 m pc ls st0) S (rz_Q w Q' a) (rz_A w))
    (k : ∀ r G', Q' r G' → rz_T w d mc ms M (kc + mc') (kn + ms') (pc + 3) Lc (r.toList ++ S) G' Q) : W p l e (rz_rm d mc ms) s m args below meth c H locs kc kn (MQ below (rz_Q w Q) args s mc ms (rz_A w)) (F0 m pc ls st0) := by
  intro T hT X
  obtain ⟨v, st₀, t, T', L, h0, X', hL, e1, e2, ⟨⟨r, G', hv, hq, hK, hR⟩, hz, hk⟩, st⟩ := hr T hT X
  cases hv
  rw [h0] at hz hk
  obtain ⟨t2, a1, b1⟩ := k v G' hq p l e s m args below meth c T'.heap (locs ++ L) ls hc
    ⟨Nat.le_trans hS.1 (by rw [e1]; exact hz), fun q h1 h2 => by rw [e1, hk q (Nat.lt_of_lt_of_le h1 hS.1) h2]; exact hS.2.1 q h1 h2, fun q hq => by
      rcases List.mem_append.mp hq with h | h
      · exact hS.2.2 q h
      · exact hL q h⟩ (by rw [e1]; exact hR) hl T' rfl X'
  exact ⟨t2, st t2 a1, b1⟩
/-- what the tables say of a call's target -/
def rz_tg (y : MethodName) (My : rz_M) (np : Nat) : Prop := Cond.initialized y.cls ∈ rz_tb ∧ Cond.code y My.1 My.2.1 My.2.2.1 ∈ rz_tb ∧ (y.cls ≠ "java/lang/invoke/MethodHandle" ∧ y.cls ≠ "java/lang/invoke/VarHandle") ∧ (parseMethodDescriptor y.desc).map (fun d => d.parameters.length) = some np ∧ My.2.1 ≤ 21
def rz_lV (oi idx : Nat) (y : MethodName) (My : rz_M) (np : Nat) : Prop := rz_tg y My np ∧ Cond.methodLink (rz_on oi) idx y ∈ rz_tb ∧ Cond.instanceMethod y ∈ rz_tb ∧ Cond.selects y.cls y y ∈ rz_tb
def rz_lS (oi idx : Nat) (y : MethodName) (My : rz_M) (np : Nat) : Prop := rz_tg y My np ∧ Cond.methodLink (rz_on oi) idx y ∈ rz_tb ∧ Cond.static y ∈ rz_tb
def rz_lI (oi idx : Nat) (y : MethodName) (My : rz_M) (np : Nat) : Prop := rz_tg y My np ∧ Cond.methodLink (rz_on oi) idx y ∈ rz_tb ∧ Cond.instanceMethod y ∈ rz_tb ∧ y.name = "<init>" ∧ My.2.2.1 = none
def rz_nS (oi idx : Nat) (y : MethodName) (My : rz_M) (np : Nat) : Prop := rz_tg y My np ∧ Cond.methodLinkNest (rz_on oi) idx y "WriterDesk" ∈ rz_nest ∧ Cond.static y ∈ rz_tb
def rz_nI (oi idx : Nat) (y : MethodName) (My : rz_M) (np : Nat) : Prop := rz_tg y My np ∧ Cond.methodLinkNest (rz_on oi) idx y "WriterDesk" ∈ rz_nest ∧ Cond.instanceMethod y ∈ rz_tb ∧ y.name = "<init>" ∧ My.2.2.1 = none
theorem rz_len {y : MethodName} {np : Nat} (h : (parseMethodDescriptor y.desc).map (fun d => d.parameters.length) = some np) : ∀ sig, parseMethodDescriptor y.desc = some sig → np = sig.parameters.length := by
  intro sig hs
  rw [hs] at h
  exact (Option.some.inj h).symm
theorem rz_cb {p : Program} {s : State} {m : MethodId} {args : Array Value} {meth : Method} {c : Code} {oi idx np : Nat} (hc : rz_cx w M p s m args meth c) (h : rz_tg y My np) (hl : Cond.methodLink (rz_on oi) idx y ∈ rz_tb) : CallB (rz_rm (d + 1) mc ms) s args (rz_on oi) idx y My.1 My.2.1 My.2.2.1 (rz_ws y My) (rz_rm d mc' ms') mc' ms' np := by
  obtain ⟨h1, h2, h3, h4, h5⟩ := h
  have hts := hc.2.2.2.2.2.2.2.1
  exact ⟨rfl, rfl, Nat.le_refl _, by show 8 + (My.2.1 + 11) + 40 * d ≤ 40 * (d + 1); omega, pay_in hts (rz_good h2), List.mem_cons_self, hts _ h2, hts _ h1, h3, rz_len h4, hts _ hl⟩
theorem rz_cn {p : Program} {s : State} {m : MethodId} {args : Array Value} {meth : Method} {c : Code} {oi idx np : Nat} (hc : rz_cx w M p s m args meth c) (h : rz_tg y My np) (hl : Cond.methodLinkNest (rz_on oi) idx y "WriterDesk" ∈ rz_nest) : va_CN (rz_rm (d + 1) mc ms) s args (rz_on oi) idx y "WriterDesk" My.1 My.2.1 My.2.2.1 (rz_ws y My) (rz_rm d mc' ms') mc' ms' np := by
  obtain ⟨h1, h2, h3, h4, h5⟩ := h
  have hts := hc.2.2.2.2.2.2.2.1
  exact ⟨⟨rfl, rfl, Nat.le_refl _, by show 8 + (My.2.1 + 11) + 40 * d ≤ 40 * (d + 1); omega, pay_in hts (rz_good h2), List.mem_cons_self⟩, hts _ h2, hts _ h1, h3, rz_len h4, va_Nw.use rfl (hc.2.2.2.2.2.2.2.2.1.2 _ hl)⟩
theorem rz_pre {s : State} {H : Heap} {as : List Value} (hK : rz_K w s) (hR : rz_R w G H) : ∀ U : State, U.heap = H → s.WarmedH U.vm → va_Pc as (fun U => rz_K w U ∧ rz_R w G U.heap) as.toArray U := fun U hU hW => ⟨rfl, hK.warm hW, by rw [hU]; exact hR⟩
theorem rz_callV {idx np : Nat} (hL : rz_lV M.2.2.2.1 idx y My np) {As : List Value} {b ci : Nat} {fs : List Value} (hd : decode M.1 pc = .ok (.invokevirtual idx, 3)) (hn : As.length = np) (hG : G b = some (.inr (ci, fs))) (hcl : (rz_cl[ci]?).map (·.1) = some y.cls) (hst : (S.map fun v => v.category).sum ≤ 8) (hk : kc + mc' ≤ mc) (hk2 : kn + ms' ≤ ms)
    (h : rz_C w d mc' ms' y My (.ref b :: As) G Q') (k : ∀ r G', Q' r G' → rz_T w (d + 1) mc ms M (kc + mc') (kn + ms') (pc + 3) Lc (r.toList ++ S) G' Q) : rz_T w (d + 1) mc ms M kc kn pc Lc (As.reverse ++ .ref b :: S) G Q := by
  intro p l e s m args below meth c H locs ls hc hS hR hl
  obtain ⟨L, q, hm, hq, hL2, hP, hD⟩ := rz_get hR hG
  obtain ⟨r, hr, hrn⟩ := Option.map_eq_some_iff.mp hcl
  have hK := hc.2.2.2.2.2.2.2.2.1
  have hts := hc.2.2.2.2.2.2.2.1
  have hrv := va_recv hK.1 hP hr hq
  rw [hrn] at hrv
  exact rz_cont hc hS hl (va_runV ⟨hc.1, hc.2.1, hc.2.2.1, hc.2.2.2.2.2.1, hts⟩ (h l) ⟨rz_cb hc hL.1 hL.2.1, hts _ hL.2.2.1, hts _ hL.2.2.2⟩ ⟨rz_blind, hrv, rz_pre hK hR⟩ rfl hn hl.1 rfl (lv_room hst) hd ⟨hk, hk2⟩) k
theorem rz_callS {idx np : Nat} (hL : rz_lS M.2.2.2.1 idx y My np) {As : List Value} (hd : decode M.1 pc = .ok (.invokestatic idx, 3)) (hn : As.length = np) (hst : (S.map fun v => v.category).sum ≤ 8) (hk : kc + mc' ≤ mc) (hk2 : kn + ms' ≤ ms)
    (h : rz_C w d mc' ms' y My As G Q') (k : ∀ r G', Q' r G' → rz_T w (d + 1) mc ms M (kc + mc') (kn + ms') (pc + 3) Lc (r.toList ++ S) G' Q) : rz_T w (d + 1) mc ms M kc kn pc Lc (As.reverse ++ S) G Q := by
  intro p l e s m args below meth c H locs ls hc hS hR hl
  have hK := hc.2.2.2.2.2.2.2.2.1
  have hts := hc.2.2.2.2.2.2.2.1
  exact rz_cont hc hS hl (va_runS ⟨hc.1, hc.2.1, hc.2.2.1, hc.2.2.2.2.2.1, hts⟩ (h l) ⟨rz_cb hc hL.1 hL.2.1, hts _ hL.2.2⟩ ⟨rz_blind, rz_pre hK hR⟩ rfl hn hl.1 rfl (lv_room hst) hd ⟨hk, hk2⟩) k
theorem rz_callI {idx np : Nat} (hL : rz_lI M.2.2.2.1 idx y My np) {As : List Value} {b : Nat} (hd : decode M.1 pc = .ok (.invokespecial idx, 3)) (hn : As.length = np) (hst : (S.map fun v => v.category).sum ≤ 8) (hk : kc + mc' ≤ mc) (hk2 : kn + ms' ≤ ms)
    (h : rz_C w d mc' ms' y My (.ref b :: As) G Q') (k : ∀ r G', Q' r G' → rz_T w (d + 1) mc ms M (kc + mc') (kn + ms') (pc + 3) Lc (r.toList ++ S) G' Q) : rz_T w (d + 1) mc ms M kc kn pc Lc (As.reverse ++ .ref b :: S) G Q := by
  intro p l e s m args below meth c H locs ls hc hS hR hl
  have hK := hc.2.2.2.2.2.2.2.2.1
  have hts := hc.2.2.2.2.2.2.2.1
  have hcb := rz_cb (d := d) (mc := mc) (ms := ms) (mc' := mc') (ms' := ms') hc hL.1 hL.2.1
  rw [hL.2.2.2.2] at hcb
  exact rz_cont hc hS hl (va_runI ⟨hc.1, hc.2.1, hc.2.2.1, hc.2.2.2.2.2.1, hts⟩ (h l) ⟨hcb, hL.2.2.2.1, hts _ hL.2.2.1⟩ ⟨rz_blind, rz_pre hK hR⟩ rfl hn hl.1 rfl (lv_room hst) hd ⟨hk, hk2⟩) k
theorem rz_callSN {idx np : Nat} (hL : rz_nS M.2.2.2.1 idx y My np) {As : List Value} (hd : decode M.1 pc = .ok (.invokestatic idx, 3)) (hn : As.length = np) (hst : (S.map fun v => v.category).sum ≤ 8) (hk : kc + mc' ≤ mc) (hk2 : kn + ms' ≤ ms)
    (h : rz_C w d mc' ms' y My As G Q') (k : ∀ r G', Q' r G' → rz_T w (d + 1) mc ms M (kc + mc') (kn + ms') (pc + 3) Lc (r.toList ++ S) G' Q) : rz_T w (d + 1) mc ms M kc kn pc Lc (As.reverse ++ S) G Q := by
  intro p l e s m args below meth c H locs ls hc hS hR hl
  have hK := hc.2.2.2.2.2.2.2.2.1
  have hts := hc.2.2.2.2.2.2.2.1
  exact rz_cont hc hS hl (va_runSN ⟨hc.1, hc.2.1, hc.2.2.1, hc.2.2.2.2.2.1, hts⟩ (h l) ⟨rz_cn hc hL.1 hL.2.1, hts _ hL.2.2, trivial⟩ ⟨rz_blind, rz_pre hK hR⟩ rfl hn hl.1 rfl (lv_room hst) hd ⟨hk, hk2⟩) k
theorem rz_callIN {idx np : Nat} (hL : rz_nI M.2.2.2.1 idx y My np) {As : List Value} {b : Nat} (hd : decode M.1 pc = .ok (.invokespecial idx, 3)) (hn : As.length = np) (hst : (S.map fun v => v.category).sum ≤ 8) (hk : kc + mc' ≤ mc) (hk2 : kn + ms' ≤ ms)
    (h : rz_C w d mc' ms' y My (.ref b :: As) G Q') (k : ∀ r G', Q' r G' → rz_T w (d + 1) mc ms M (kc + mc') (kn + ms') (pc + 3) Lc (r.toList ++ S) G' Q) : rz_T w (d + 1) mc ms M kc kn pc Lc (As.reverse ++ .ref b :: S) G Q := by
  intro p l e s m args below meth c H locs ls hc hS hR hl
  have hK := hc.2.2.2.2.2.2.2.2.1
  have hts := hc.2.2.2.2.2.2.2.1
  have hcb := rz_cn (d := d) (mc := mc) (ms := ms) (mc' := mc') (ms' := ms') hc hL.1 hL.2.1
  rw [hL.2.2.2.2] at hcb
  exact rz_cont hc hS hl (va_runIN ⟨hc.1, hc.2.1, hc.2.2.1, hc.2.2.2.2.2.1, hts⟩ (h l) ⟨hcb, hL.2.2.2.1, hts _ hL.2.2.1⟩ ⟨rz_blind, rz_pre hK hR⟩ rfl hn hl.1 rfl (lv_room hst) hd ⟨hk, hk2⟩) k
end RZC
/-! the executor: an element is (instruction, its length, and for fields the class and the field's number) -/
abbrev rz_I : Type := Instr × Nat × Nat × Nat
def rz_i1 (S : List Value) (f : Int32 → List Value → Prop) : Prop := match S with | .int x :: S => f x S | _ => False
def rz_i2 (S : List Value) (f : Int32 → Int32 → List Value → Prop) : Prop := match S with | .int y :: .int x :: S => f x y S | _ => False
def rz_l1 (S : List Value) (f : Int64 → List Value → Prop) : Prop := match S with | .long x :: S => f x S | _ => False
def rz_l2 (S : List Value) (f : Int64 → Int64 → List Value → Prop) : Prop := match S with | .long y :: .long x :: S => f x y S | _ => False
def rz_li (S : List Value) (f : Int64 → Int32 → List Value → Prop) : Prop := match S with | .int y :: .long x :: S => f x y S | _ => False
def rz_r1 (S : List Value) (f : Nat → List Value → Prop) : Prop := match S with | .ref x :: S => f x S | _ => False
def rz_ri (S : List Value) (f : Nat → Int32 → List Value → Prop) : Prop := match S with | .int i :: .ref a :: S => f a i S | _ => False
def rz_rii (S : List Value) (f : Nat → Int32 → Int32 → List Value → Prop) : Prop := match S with | .int x :: .int i :: .ref a :: S => f a i x S | _ => False
def rz_ril (S : List Value) (f : Nat → Int32 → Int64 → List Value → Prop) : Prop := match S with | .long x :: .int i :: .ref a :: S => f a i x S | _ => False
def rz_rir (S : List Value) (f : Nat → Int32 → Nat → List Value → Prop) : Prop := match S with | .ref x :: .int i :: .ref a :: S => f a i x S | _ => False
def rz_vr (S : List Value) (f : Nat → Value → List Value → Prop) : Prop := match S with | v :: .ref a :: S => f a v S | _ => False
def rz_v1 (S : List Value) (f : Value → List Value → Prop) : Prop := match S with | v :: S => v.category = 1 ∧ f v S | _ => False
def rz_v2 (S : List Value) (f : Value → Value → List Value → Prop) : Prop := match S with | v :: u :: S => v.category = 1 ∧ u.category = 1 ∧ f v u S | _ => False
def rz_li0 (L : rz_L) (j : Nat) (f : Int32 → Prop) : Prop := match rz_at L j with | some (.int x) => f x | _ => False
def rz_ll0 (L : rz_L) (j : Nat) (f : Int64 → Prop) : Prop := match rz_at L j with | some (.long x) => f x | _ => False
def rz_lr0 (L : rz_L) (j : Nat) (f : Nat → Prop) : Prop := match rz_at L j with | some (.ref x) => f x | _ => False
def rz_ob (G : rz_G) (a ci : Nat) (f : List Value → Prop) : Prop := match G a with | some (.inr (c, fs)) => c = ci ∧ f fs | _ => False
def rz_ia (G : rz_G) (a : Nat) (f : Nat → Nat → (Nat → Int32) → Prop) : Prop := match G a with | some (.inl (t, n, .inl g)) => f t n g | _ => False
def rz_la (G : rz_G) (a : Nat) (f : Nat → (Nat → Int64) → Prop) : Prop := match G a with | some (.inl (t, n, .inr (.inl g))) => t = 1 ∧ f n g | _ => False
def rz_ra (G : rz_G) (a : Nat) (f : Nat → Nat → (Nat → Option Nat) → Prop) : Prop := match G a with | some (.inl (t, n, .inr (.inr (.inr (.inr g))))) => f t n g | _ => False
def rz_aa (G : rz_G) (a : Nat) (f : Nat → Nat → Prop) : Prop := match G a with | some (.inl (t, x)) => f t x.1 | _ => False
def rz_fv (fs : List Value) (k : Nat) (f : Value → Prop) : Prop := match fs[k]? with | some v => f v | none => False
def rz_tr (pc : Nat) (off : Int) : Nat := ((pc : Int) + off).toNat
def rz_fit (ty : FieldType) (v : Value) : Prop := narrow ty v = v ∧ fits ty v = true
def rz_st (i : rz_I) (pc : Nat) (L : rz_L) (S : List Value) (G : rz_G) (N : rz_L → List Value → rz_G → Prop) (K : Nat → rz_L → List Value → rz_G → Prop) (Rt : Option Value → rz_G → Prop) : Prop :=
  match i.1 with
  | .iadd => rz_i2 S (fun x y S => N L (.int (x + y) :: S) G)
  | .isub => rz_i2 S (fun x y S => N L (.int (x - y) :: S) G)
  | .imul => rz_i2 S (fun x y S => N L (.int (x * y) :: S) G)
  | .iand => rz_i2 S (fun x y S => N L (.int (x &&& y) :: S) G)
  | .ior => rz_i2 S (fun x y S => N L (.int (x ||| y) :: S) G)
  | .ixor => rz_i2 S (fun x y S => N L (.int (x ^^^ y) :: S) G)
  | .ishl => rz_i2 S (fun x y S => N L (.int (x <<< (y &&& 31)) :: S) G)
  | .ishr => rz_i2 S (fun x y S => N L (.int (x >>> (y &&& 31)) :: S) G)
  | .iushr => rz_i2 S (fun x y S => N L (.int ((x.toUInt32 >>> (y.toUInt32 &&& Int32.toUInt32 31)).toInt32) :: S) G)
  | .idiv => rz_i2 S (fun x y S => ¬ y = 0 ∧ N L (.int (x / y) :: S) G)
  | .irem => rz_i2 S (fun x y S => ¬ y = 0 ∧ N L (.int (x - x / y * y) :: S) G)
  | .ineg => rz_i1 S (fun x S => N L (.int (-x) :: S) G)
  | .ladd => rz_l2 S (fun x y S => N L (.long (x + y) :: S) G)
  | .lsub => rz_l2 S (fun x y S => N L (.long (x - y) :: S) G)
  | .lmul => rz_l2 S (fun x y S => N L (.long (x * y) :: S) G)
  | .land => rz_l2 S (fun x y S => N L (.long (x &&& y) :: S) G)
  | .lor => rz_l2 S (fun x y S => N L (.long (x ||| y) :: S) G)
  | .lxor => rz_l2 S (fun x y S => N L (.long (x ^^^ y) :: S) G)
  | .lshl => rz_li S (fun x y S => N L (.long (x <<< (y.toInt64 &&& 63)) :: S) G)
  | .lushr => rz_li S (fun x y S => N L (.long ((x.toUInt64 >>> (y.toInt64.toUInt64 &&& Int64.toUInt64 63)).toInt64) :: S) G)
  | .lcmp => rz_l2 S (fun x y S => N L (.int (lg_cmp x y) :: S) G)
  | .i2l => rz_i1 S (fun x S => N L (.long (x.toInt64) :: S) G)
  | .l2i => rz_l1 S (fun x S => N L (.int (x.toInt32) :: S) G)
  | .i2b => rz_i1 S (fun x S => N L (.int (x.toInt8.toInt32) :: S) G)
  | .iconst n => N L (.int (Int32.ofInt n) :: S) G
  | .bipush n => N L (.int ((Int8.ofInt n).toInt32) :: S) G
  | .sipush n => N L (.int ((Int16.ofInt n).toInt32) :: S) G
  | .lconst n => N L (.long (Int64.ofNat (n : Nat)) :: S) G
  | .iload_n j => rz_li0 L j (fun x => N L (.int x :: S) G)
  | .iload j => rz_li0 L j (fun x => N L (.int x :: S) G)
  | .lload_n j => rz_ll0 L j (fun x => N L (.long x :: S) G)
  | .lload j => rz_ll0 L j (fun x => N L (.long x :: S) G)
  | .aload_n j => rz_lr0 L j (fun x => N L (.ref x :: S) G)
  | .aload j => rz_lr0 L j (fun x => N L (.ref x :: S) G)
  | .istore_n j => rz_i1 S (fun x S => N (rz_set L j (.int x)) S G)
  | .istore j => rz_i1 S (fun x S => N (rz_set L j (.int x)) S G)
  | .astore_n j => rz_r1 S (fun x S => N (rz_set L j (.ref x)) S G)
  | .astore j => rz_r1 S (fun x S => N (rz_set L j (.ref x)) S G)
  | .lstore_n j => rz_l1 S (fun x S => N (rz_clr (rz_set L j (.long x)) (j + 1)) S G)
  | .lstore j => rz_l1 S (fun x S => N (rz_clr (rz_set L j (.long x)) (j + 1)) S G)
  | .iinc j n => rz_li0 L j (fun x => N (rz_set L j (.int (x + Int32.ofInt n))) S G)
  | .dup => rz_v1 S (fun v S => N L (v :: v :: S) G)
  | .pop => rz_v1 S (fun _ S => N L S G)
  | .dup2 => rz_v2 S (fun v u S => N L (v :: u :: v :: u :: S) G)
  | .ifCond .eq o => rz_i1 S (fun x S => (x = 0 → K (rz_tr pc o) L S G) ∧ (¬ x = 0 → N L S G))
  | .ifCond .ne o => rz_i1 S (fun x S => (¬ x = 0 → K (rz_tr pc o) L S G) ∧ (x = 0 → N L S G))
  | .ifCond .lt o => rz_i1 S (fun x S => (x < 0 → K (rz_tr pc o) L S G) ∧ (¬ x < 0 → N L S G))
  | .ifCond .ge o => rz_i1 S (fun x S => (0 ≤ x → K (rz_tr pc o) L S G) ∧ (¬ 0 ≤ x → N L S G))
  | .ifCond .gt o => rz_i1 S (fun x S => (0 < x → K (rz_tr pc o) L S G) ∧ (¬ 0 < x → N L S G))
  | .ifCond .le o => rz_i1 S (fun x S => (x ≤ 0 → K (rz_tr pc o) L S G) ∧ (¬ x ≤ 0 → N L S G))
  | .if_icmp .eq o => rz_i2 S (fun x y S => (x = y → K (rz_tr pc o) L S G) ∧ (¬ x = y → N L S G))
  | .if_icmp .ne o => rz_i2 S (fun x y S => (¬ x = y → K (rz_tr pc o) L S G) ∧ (x = y → N L S G))
  | .if_icmp .lt o => rz_i2 S (fun x y S => (x < y → K (rz_tr pc o) L S G) ∧ (¬ x < y → N L S G))
  | .if_icmp .ge o => rz_i2 S (fun x y S => (y ≤ x → K (rz_tr pc o) L S G) ∧ (¬ y ≤ x → N L S G))
  | .if_icmp .gt o => rz_i2 S (fun x y S => (y < x → K (rz_tr pc o) L S G) ∧ (¬ y < x → N L S G))
  | .if_icmp .le o => rz_i2 S (fun x y S => (x ≤ y → K (rz_tr pc o) L S G) ∧ (¬ x ≤ y → N L S G))
  | .goto o => K (rz_tr pc o) L S G
  | .ireturn => match S with | [.int v] => Rt (some (.int v)) G | _ => False
  | .return_ => match S with | [] => Rt none G | _ => False
  | .areturn => match S with | [.ref v] => Rt (some (.ref v)) G | _ => False
  | .iaload => rz_ri S (fun a i S => rz_ia G a (fun t n f => t = 0 ∧ vp_in i n ∧ N L (.int (f i.toNatClampNeg) :: S) G))
  | .baload => rz_ri S (fun a i S => rz_ia G a (fun t n f => (t = 2 ∨ t = 3) ∧ vp_in i n ∧ N L (.int (f i.toNatClampNeg) :: S) G))
  | .laload => rz_ri S (fun a i S => rz_la G a (fun n f => vp_in i n ∧ N L (.long (f i.toNatClampNeg) :: S) G))
  | .aaload => rz_ri S (fun a i S => rz_ra G a (fun t n f => (t = 4 ∨ t = 5) ∧ vp_in i n ∧ N L (va_rf (f i.toNatClampNeg) :: S) G))
  | .iastore => rz_rii S (fun a i x S => rz_ia G a (fun t n f => t = 0 ∧ vp_in i n ∧ N L S (rz_up G a (.inl (0, n, .inl (upd f i.toNatClampNeg x))))))
  | .bastore => rz_rii S (fun a i x S => rz_ia G a (fun t n f => (t = 2 ∨ t = 3) ∧ vp_in i n ∧ N L S (rz_up G a (.inl (t, n, .inl (upd f i.toNatClampNeg (vp_nar (if t = 2 then .byte else .boolean) x)))))))
  | .lastore => rz_ril S (fun a i x S => rz_la G a (fun n f => vp_in i n ∧ N L S (rz_up G a (.inl (1, n, .inr (.inl (vp_updL f i.toNatClampNeg x)))))))
  | .arraylength => rz_r1 S (fun a S => rz_aa G a (fun t n => t < 6 ∧ N L (.int (nI n) :: S) G))
  | .getfield _ => rz_r1 S (fun a S => rz_ob G a i.2.2.1 (fun fs => rz_fv fs i.2.2.2 (fun v => N L (v :: S) G)))
  | .putfield _ => rz_vr S (fun a v S => rz_ob G a i.2.2.1 (fun fs => rz_fit (rz_ty i.2.2.1 i.2.2.2) v ∧ i.2.2.2 < fs.length ∧ N L S (rz_up G a (.inr (i.2.2.1, fs.set i.2.2.2 v)))))
  | _ => False
def rz_ex : List rz_I → Nat → rz_L → List Value → rz_G → (Nat → rz_L → List Value → rz_G → Prop) → (Option Value → rz_G → Prop) → Prop
  | [], pc, L, S, G, K, _ => K pc L S G
  | i :: is, pc, L, S, G, K, Rt => rz_st i pc L S G (fun L S G => rz_ex is (pc + i.2.1) L S G K Rt) K Rt
/-- what must be so of one instruction, by looking -/
def rz_lk (M : rz_M) (pc : Nat) (i : rz_I) : Bool := decide (decode M.1 pc = .ok (i.1, i.2.1)) && match i.1 with
  | .ifCond _ o => decide (i.2.1 = 3) && decide (0 ≤ (pc : Int) + o)
  | .if_icmp _ o => decide (i.2.1 = 3) && decide (0 ≤ (pc : Int) + o)
  | .goto o => decide (i.2.1 = 3) && decide (0 ≤ (pc : Int) + o)
  | .getfield k => decide (i.2.1 = 3) && rz_flb M.2.2.2.1 k i.2.2.1 i.2.2.2
  | .putfield k => decide (i.2.1 = 3) && rz_flb M.2.2.2.1 k i.2.2.1 i.2.2.2 && rz_wr M i.2.2.1 i.2.2.2
  | .istore_n j => decide (i.2.1 = 1) && decide ((j : Nat) < M.2.1)
  | .istore j => decide (i.2.1 = 2) && decide (j < M.2.1)
  | .astore_n j => decide (i.2.1 = 1) && decide ((j : Nat) < M.2.1)
  | .astore j => decide (i.2.1 = 2) && decide (j < M.2.1)
  | .lstore_n j => decide (i.2.1 = 1) && decide ((j : Nat) + 1 < M.2.1)
  | .lstore j => decide (i.2.1 = 2) && decide (j + 1 < M.2.1)
  | .iinc j _ => decide (i.2.1 = 3) && decide (j < M.2.1)
  | .iload _ => decide (i.2.1 = 2)
  | .lload _ => decide (i.2.1 = 2)
  | .aload _ => decide (i.2.1 = 2)
  | .bipush _ => decide (i.2.1 = 2)
  | .sipush _ => decide (i.2.1 = 3)
  | .areturn => decide (i.2.1 = 1) && decide (M.2.2.1 = some (.object "WriterDesk$Machine"))
  | .return_ => decide (i.2.1 = 1) && decide (M.2.2.1 = none)
  | .ireturn => decide (i.2.1 = 1) && decide (M.2.2.1 = some .int ∨ M.2.2.1 = some .boolean)
  | _ => decide (i.2.1 = 1)
def rz_lks (M : rz_M) : Nat → List rz_I → Bool
  | _, [] => true
  | pc, i :: is => rz_lk M pc i && rz_lks M (pc + i.2.1) is
/-- a value that a boolean method may answer -/
def rz_nb (M : rz_M) (r : Option Value) : Prop := M.2.2.1 = some .boolean → ∀ v, r = some (.int v) → v &&& 1 = v
section RZX
variable {w : rz_w} {d mc ms : Nat} {M : rz_M} {kc kn : Nat} {Q : Option Value → rz_G → Prop}
theorem rz_tr_ok {pc : Nat} {o : Int} (h : 0 ≤ (pc : Int) + o) : (pc : Int) + o = (rz_tr pc o : Int) := (Int.toNat_of_nonneg h).symm
set_option maxHeartbeats 4000000 in
theorem rz_st_ok {i : rz_I} {pc : Nat} {L : rz_L} {S : List Value} {G : rz_G} (hk : kc ≤ mc) (hk2 : kn ≤ ms) (hd : rz_lk M pc i = true)
    (h : rz_st i pc L S G (fun L S G => rz_T w d mc ms M kc kn (pc + i.2.1) L S G Q) (fun pc L S G => rz_T w d mc ms M kc kn pc L S G Q) (fun r G => rz_nb M r ∧ Q r G)) : rz_T w d mc ms M kc kn pc L S G Q := by
  obtain ⟨i, len, ci, kf⟩ := i
  unfold rz_lk at hd
  unfold rz_st at h
  simp only [Bool.and_eq_true, decide_eq_true_eq] at hd
  obtain ⟨hd, ha⟩ := hd
  dsimp only at hd ha h
  split at h
  · simp only [decide_eq_true_eq] at ha; subst ha; unfold rz_i2 at h; split at h; exact rz_iadd hd h; exact h.elim
  · simp only [decide_eq_true_eq] at ha; subst ha; unfold rz_i2 at h; split at h; exact rz_isub hd h; exact h.elim
  · simp only [decide_eq_true_eq] at ha; subst ha; unfold rz_i2 at h; split at h; exact rz_imul hd h; exact h.elim
  · simp only [decide_eq_true_eq] at ha; subst ha; unfold rz_i2 at h; split at h; exact rz_iand hd h; exact h.elim
  · simp only [decide_eq_true_eq] at ha; subst ha; unfold rz_i2 at h; split at h; exact rz_ior hd h; exact h.elim
  · simp only [decide_eq_true_eq] at ha; subst ha; unfold rz_i2 at h; split at h; exact rz_ixor hd h; exact h.elim
  · simp only [decide_eq_true_eq] at ha; subst ha; unfold rz_i2 at h; split at h; exact rz_ishl hd h; exact h.elim
  · simp only [decide_eq_true_eq] at ha; subst ha; unfold rz_i2 at h; split at h; exact rz_ishr hd h; exact h.elim
  · simp only [decide_eq_true_eq] at ha; subst ha; unfold rz_i2 at h; split at h; exact rz_iushr hd h; exact h.elim
  · simp only [decide_eq_true_eq] at ha; subst ha; unfold rz_i2 at h; split at h; exact rz_idiv hd h.1 h.2; exact h.elim
  · simp only [decide_eq_true_eq] at ha; subst ha; unfold rz_i2 at h; split at h; exact rz_irem hd h.1 h.2; exact h.elim
  · simp only [decide_eq_true_eq] at ha; subst ha; unfold rz_i1 at h; split at h; exact rz_ineg hd h; exact h.elim
  · simp only [decide_eq_true_eq] at ha; subst ha; unfold rz_l2 at h; split at h; exact rz_ladd hd h; exact h.elim
  · simp only [decide_eq_true_eq] at ha; subst ha; unfold rz_l2 at h; split at h; exact rz_lsub hd h; exact h.elim
  · simp only [decide_eq_true_eq] at ha; subst ha; unfold rz_l2 at h; split at h; exact rz_lmul hd h; exact h.elim
  · simp only [decide_eq_true_eq] at ha; subst ha; unfold rz_l2 at h; split at h; exact rz_land hd h; exact h.elim
  · simp only [decide_eq_true_eq] at ha; subst ha; unfold rz_l2 at h; split at h; exact rz_lor hd h; exact h.elim
  · simp only [decide_eq_true_eq] at ha; subst ha; unfold rz_l2 at h; split at h; exact rz_lxor hd h; exact h.elim
  · simp only [decide_eq_true_eq] at ha; subst ha; unfold rz_li at h; split at h; exact rz_lshl hd h; exact h.elim
  · simp only [decide_eq_true_eq] at ha; subst ha; unfold rz_li at h; split at h; exact rz_lushr hd h; exact h.elim
  · simp only [decide_eq_true_eq] at ha; subst ha; unfold rz_l2 at h; split at h; exact rz_lcmp hd h; exact h.elim
  · simp only [decide_eq_true_eq] at ha; subst ha; unfold rz_i1 at h; split at h; exact rz_i2l hd h; exact h.elim
  · simp only [decide_eq_true_eq] at ha; subst ha; unfold rz_l1 at h; split at h; exact rz_l2i hd h; exact h.elim
  · simp only [decide_eq_true_eq] at ha; subst ha; unfold rz_i1 at h; split at h; exact rz_i2b hd h; exact h.elim
  · simp only [decide_eq_true_eq] at ha; subst ha; exact rz_iconst hd h
  · simp only [decide_eq_true_eq] at ha; subst ha; exact rz_bipush hd h
  · simp only [decide_eq_true_eq] at ha; subst ha; exact rz_sipush hd h
  · simp only [decide_eq_true_eq] at ha; subst ha; exact rz_lconst hd h
  · simp only [decide_eq_true_eq] at ha; subst ha; unfold rz_li0 at h; split at h; (next q => exact rz_iload_n hd q h); exact h.elim
  · simp only [decide_eq_true_eq] at ha; subst ha; unfold rz_li0 at h; split at h; (next q => exact rz_iload hd q h); exact h.elim
  · simp only [decide_eq_true_eq] at ha; subst ha; unfold rz_ll0 at h; split at h; (next q => exact rz_lload_n hd q h); exact h.elim
  · simp only [decide_eq_true_eq] at ha; subst ha; unfold rz_ll0 at h; split at h; (next q => exact rz_lload hd q h); exact h.elim
  · simp only [decide_eq_true_eq] at ha; subst ha; unfold rz_lr0 at h; split at h; (next q => exact rz_aload_n hd q h); exact h.elim
  · simp only [decide_eq_true_eq] at ha; subst ha; unfold rz_lr0 at h; split at h; (next q => exact rz_aload hd q h); exact h.elim
  · simp only [Bool.and_eq_true, decide_eq_true_eq] at ha; obtain ⟨ha, hb⟩ := ha; subst ha; unfold rz_i1 at h; split at h; exact rz_istore_n hd hb h; exact h.elim
  · simp only [Bool.and_eq_true, decide_eq_true_eq] at ha; obtain ⟨ha, hb⟩ := ha; subst ha; unfold rz_i1 at h; split at h; exact rz_istore hd hb h; exact h.elim
  · simp only [Bool.and_eq_true, decide_eq_true_eq] at ha; obtain ⟨ha, hb⟩ := ha; subst ha; unfold rz_r1 at h; split at h; exact rz_astore_n hd hb h; exact h.elim
  · simp only [Bool.and_eq_true, decide_eq_true_eq] at ha; obtain ⟨ha, hb⟩ := ha; subst ha; unfold rz_r1 at h; split at h; exact rz_astore hd hb h; exact h.elim
  · simp only [Bool.and_eq_true, decide_eq_true_eq] at ha; obtain ⟨ha, hb⟩ := ha; subst ha; unfold rz_l1 at h; split at h; exact rz_lstore_n hd hb h; exact h.elim
  · simp only [Bool.and_eq_true, decide_eq_true_eq] at ha; obtain ⟨ha, hb⟩ := ha; subst ha; unfold rz_l1 at h; split at h; exact rz_lstore hd hb h; exact h.elim
  · simp only [Bool.and_eq_true, decide_eq_true_eq] at ha; obtain ⟨ha, hb⟩ := ha; subst ha; unfold rz_li0 at h; split at h; (next q => exact rz_iinc hd hb q h); exact h.elim
  · simp only [decide_eq_true_eq] at ha; subst ha; unfold rz_v1 at h; split at h; exact rz_dup hd h.1 h.2; exact h.elim
  · simp only [decide_eq_true_eq] at ha; subst ha; unfold rz_v1 at h; split at h; exact rz_pop hd h.1 h.2; exact h.elim
  · simp only [decide_eq_true_eq] at ha; subst ha; unfold rz_v2 at h; split at h; exact rz_dup2 hd h.1 h.2.1 h.2.2; exact h.elim
  · simp only [Bool.and_eq_true, decide_eq_true_eq] at ha; obtain ⟨ha, hb⟩ := ha; subst ha; unfold rz_i1 at h; split at h; exact rz_if_eq hd (rz_tr_ok hb) h.1 h.2; exact h.elim
  · simp only [Bool.and_eq_true, decide_eq_true_eq] at ha; obtain ⟨ha, hb⟩ := ha; subst ha; unfold rz_i1 at h; split at h; exact rz_if_ne hd (rz_tr_ok hb) h.1 h.2; exact h.elim
  · simp only [Bool.and_eq_true, decide_eq_true_eq] at ha; obtain ⟨ha, hb⟩ := ha; subst ha; unfold rz_i1 at h; split at h; exact rz_if_lt hd (rz_tr_ok hb) h.1 h.2; exact h.elim
  · simp only [Bool.and_eq_true, decide_eq_true_eq] at ha; obtain ⟨ha, hb⟩ := ha; subst ha; unfold rz_i1 at h; split at h; exact rz_if_ge hd (rz_tr_ok hb) h.1 h.2; exact h.elim
  · simp only [Bool.and_eq_true, decide_eq_true_eq] at ha; obtain ⟨ha, hb⟩ := ha; subst ha; unfold rz_i1 at h; split at h; exact rz_if_gt hd (rz_tr_ok hb) h.1 h.2; exact h.elim
  · simp only [Bool.and_eq_true, decide_eq_true_eq] at ha; obtain ⟨ha, hb⟩ := ha; subst ha; unfold rz_i1 at h; split at h; exact rz_if_le hd (rz_tr_ok hb) h.1 h.2; exact h.elim
  · simp only [Bool.and_eq_true, decide_eq_true_eq] at ha; obtain ⟨ha, hb⟩ := ha; subst ha; unfold rz_i2 at h; split at h; exact rz_icmp_eq hd (rz_tr_ok hb) h.1 h.2; exact h.elim
  · simp only [Bool.and_eq_true, decide_eq_true_eq] at ha; obtain ⟨ha, hb⟩ := ha; subst ha; unfold rz_i2 at h; split at h; exact rz_icmp_ne hd (rz_tr_ok hb) h.1 h.2; exact h.elim
  · simp only [Bool.and_eq_true, decide_eq_true_eq] at ha; obtain ⟨ha, hb⟩ := ha; subst ha; unfold rz_i2 at h; split at h; exact rz_icmp_lt hd (rz_tr_ok hb) h.1 h.2; exact h.elim
  · simp only [Bool.and_eq_true, decide_eq_true_eq] at ha; obtain ⟨ha, hb⟩ := ha; subst ha; unfold rz_i2 at h; split at h; exact rz_icmp_ge hd (rz_tr_ok hb) h.1 h.2; exact h.elim
  · simp only [Bool.and_eq_true, decide_eq_true_eq] at ha; obtain ⟨ha, hb⟩ := ha; subst ha; unfold rz_i2 at h; split at h; exact rz_icmp_gt hd (rz_tr_ok hb) h.1 h.2; exact h.elim
  · simp only [Bool.and_eq_true, decide_eq_true_eq] at ha; obtain ⟨ha, hb⟩ := ha; subst ha; unfold rz_i2 at h; split at h; exact rz_icmp_le hd (rz_tr_ok hb) h.1 h.2; exact h.elim
  · simp only [Bool.and_eq_true, decide_eq_true_eq] at ha; obtain ⟨ha, hb⟩ := ha; subst ha; exact rz_goto hd (rz_tr_ok hb) h
  · simp only [Bool.and_eq_true, decide_eq_true_eq] at ha
    obtain ⟨ha, hb⟩ := ha
    subst ha
    split at h
    · rcases hb with hb | hb
      · exact rz_ireturn hd hb rfl hk hk2 h.2
      · exact rz_ireturn hd hb (by simp only [narrow, Value.int.injEq]; exact h.1 hb _ rfl) hk hk2 h.2
    · exact h.elim
  · simp only [Bool.and_eq_true, decide_eq_true_eq] at ha; obtain ⟨ha, hb⟩ := ha; subst ha; split at h; exact rz_return hd hb hk hk2 h.2; exact h.elim
  · simp only [Bool.and_eq_true, decide_eq_true_eq] at ha; obtain ⟨ha, hb⟩ := ha; subst ha; split at h; exact rz_areturn hd hb hk hk2 h.2; exact h.elim
  · simp only [decide_eq_true_eq] at ha; subst ha; unfold rz_ri at h; split at h; (unfold rz_ia at h; split at h; (next q => obtain ⟨rfl, h1, h2⟩ := h; exact rz_iaload hd q h1 h2); exact h.elim); exact h.elim
  · simp only [decide_eq_true_eq] at ha; subst ha; unfold rz_ri at h; split at h; (unfold rz_ia at h; split at h; (next q => obtain ⟨rfl | rfl, h1, h2⟩ := h; exact rz_baload hd q h1 h2; exact rz_zaload hd q h1 h2); exact h.elim); exact h.elim
  · simp only [decide_eq_true_eq] at ha; subst ha; unfold rz_ri at h; split at h; (unfold rz_la at h; split at h; (next q => obtain ⟨rfl, h1, h2⟩ := h; exact rz_laload hd q h1 h2); exact h.elim); exact h.elim
  · simp only [decide_eq_true_eq] at ha; subst ha; unfold rz_ri at h; split at h; (unfold rz_ra at h; split at h; (next q => obtain ⟨rfl | rfl, h1, h2⟩ := h; exact rz_aaloadW hd q h1 h2; exact rz_aaloadM hd q h1 h2); exact h.elim); exact h.elim
  · simp only [decide_eq_true_eq] at ha; subst ha; unfold rz_rii at h; split at h; (unfold rz_ia at h; split at h; (next q => obtain ⟨rfl, h1, h2⟩ := h; exact rz_iastore hd q h1 h2); exact h.elim); exact h.elim
  · simp only [decide_eq_true_eq] at ha; subst ha; unfold rz_rii at h; split at h; (unfold rz_ia at h; split at h; (next q => obtain ⟨rfl | rfl, h1, h2⟩ := h; exact rz_bastore hd q h1 h2; exact rz_zastore hd q h1 h2); exact h.elim); exact h.elim
  · simp only [decide_eq_true_eq] at ha; subst ha; unfold rz_ril at h; split at h; (unfold rz_la at h; split at h; (next q => obtain ⟨rfl, h1, h2⟩ := h; exact rz_lastore hd q h1 h2); exact h.elim); exact h.elim
  · simp only [decide_eq_true_eq] at ha; subst ha; unfold rz_r1 at h; split at h; (unfold rz_aa at h; split at h; (next q => exact rz_alen hd q h.1 h.2); exact h.elim); exact h.elim
  · simp only [Bool.and_eq_true, decide_eq_true_eq] at ha; obtain ⟨ha, hb⟩ := ha; subst ha; unfold rz_r1 at h; split at h; (unfold rz_ob at h; split at h; (next q => obtain ⟨rfl, h⟩ := h; unfold rz_fv at h; split at h; (next q2 => exact rz_getf hd hb q q2 h); exact h.elim); exact h.elim); exact h.elim
  · simp only [Bool.and_eq_true, decide_eq_true_eq] at ha; obtain ⟨⟨ha, hb⟩, hb2⟩ := ha; subst ha; unfold rz_vr at h; split at h; (unfold rz_ob at h; split at h; (next q => obtain ⟨rfl, h1, h2, h3⟩ := h; exact rz_putf hd hb hb2 q h1.1 h1.2 h2 h3); exact h.elim); exact h.elim
  · exact h.elim
theorem rz_r1_m {S : List Value} {f g : Nat → List Value → Prop} (h : ∀ x S, f x S → g x S) (k : rz_r1 S f) : rz_r1 S g := by
  unfold rz_r1 at k ⊢; split at k <;> first | exact h _ _ k | exact k
theorem rz_vr_m {S : List Value} {f g : Nat → Value → List Value → Prop} (h : ∀ x v S, f x v S → g x v S) (k : rz_vr S f) : rz_vr S g := by
  unfold rz_vr at k ⊢; split at k <;> first | exact h _ _ _ k | exact k
theorem rz_fv_m {fs : List Value} {j : Nat} {f g : Value → Prop} (h : ∀ x, f x → g x) (k : rz_fv fs j f) : rz_fv fs j g := by
  unfold rz_fv at k ⊢; cases q : fs[j]? with
  | none => rw [q] at k; exact k
  | some v => rw [q] at k; exact h _ k
theorem rz_ob_m {G : rz_G} {a ci : Nat} {f g : List Value → Prop} (h : ∀ x, f x → g x) (k : rz_ob G a ci f) : rz_ob G a ci g := by
  unfold rz_ob at k ⊢; split at k <;> first | exact ⟨k.1, h _ k.2⟩ | exact k
set_option maxHeartbeats 4000000 in
theorem rz_st_mono {i : rz_I} {pc : Nat} {L : rz_L} {S : List Value} {G : rz_G} {N N' : rz_L → List Value → rz_G → Prop} {K : Nat → rz_L → List Value → rz_G → Prop} {Rt : Option Value → rz_G → Prop} (hN : ∀ L S G, N L S G → N' L S G) (h : rz_st i pc L S G N K Rt) : rz_st i pc L S G N' K Rt := by
  obtain ⟨i, len, ci, kf⟩ := i
  unfold rz_st at h ⊢
  dsimp only at h ⊢
  split at h <;> (try dsimp only) <;> first
    | exact hN _ _ _ h
    | exact h
    | (unfold rz_i1 at h ⊢; split at h <;> first | exact hN _ _ _ h | exact ⟨h.1, fun q => hN _ _ _ (h.2 q)⟩ | exact h)
    | (unfold rz_i2 at h ⊢; split at h <;> first | exact hN _ _ _ h | exact ⟨h.1, hN _ _ _ h.2⟩ | exact ⟨h.1, fun q => hN _ _ _ (h.2 q)⟩ | exact h)
    | (unfold rz_l1 at h ⊢; split at h <;> first | exact hN _ _ _ h | exact h)
    | (unfold rz_l2 at h ⊢; split at h <;> first | exact hN _ _ _ h | exact h)
    | (unfold rz_li at h ⊢; split at h <;> first | exact hN _ _ _ h | exact h)
    | (unfold rz_li0 at h ⊢; split at h <;> first | exact hN _ _ _ h | exact h)
    | (unfold rz_ll0 at h ⊢; split at h <;> first | exact hN _ _ _ h | exact h)
    | (unfold rz_lr0 at h ⊢; split at h <;> first | exact hN _ _ _ h | exact h)
    | (unfold rz_v1 at h ⊢; split at h <;> first | exact ⟨h.1, hN _ _ _ h.2⟩ | exact h)
    | (unfold rz_v2 at h ⊢; split at h <;> first | exact ⟨h.1, h.2.1, hN _ _ _ h.2.2⟩ | exact h)
    | (unfold rz_ri at h ⊢; split at h <;> first | (unfold rz_ia at h ⊢; split at h <;> first | exact ⟨h.1, h.2.1, hN _ _ _ h.2.2⟩ | exact h) | (unfold rz_la at h ⊢; split at h <;> first | exact ⟨h.1, h.2.1, hN _ _ _ h.2.2⟩ | exact h) | (unfold rz_ra at h ⊢; split at h <;> first | exact ⟨h.1, h.2.1, hN _ _ _ h.2.2⟩ | exact h) | exact h)
    | (unfold rz_rii at h ⊢; split at h <;> first | (unfold rz_ia at h ⊢; split at h <;> first | exact ⟨h.1, h.2.1, hN _ _ _ h.2.2⟩ | exact h) | exact h)
    | (unfold rz_ril at h ⊢; split at h <;> first | (unfold rz_la at h ⊢; split at h <;> first | exact ⟨h.1, h.2.1, hN _ _ _ h.2.2⟩ | exact h) | exact h)
    | exact rz_r1_m (fun a S => rz_ob_m (fun fs => rz_fv_m (fun v => hN _ _ _))) h
    | exact rz_vr_m (fun a v S => rz_ob_m (fun fs k => ⟨k.1, k.2.1, hN _ _ _ k.2.2⟩)) h
    | (unfold rz_r1 at h ⊢; split at h <;> first | exact hN _ _ _ h | (unfold rz_aa at h ⊢; split at h <;> first | exact ⟨h.1, hN _ _ _ h.2⟩ | exact h) | (unfold rz_ob at h ⊢; split at h <;> first | (refine ⟨h.1, ?_⟩; have h2 := h.2; unfold rz_fv at h2 ⊢; split at h2 <;> first | exact hN _ _ _ h2 | exact h2) | exact h) | exact h)
    | (unfold rz_vr at h ⊢; split at h <;> first | (unfold rz_ob at h ⊢; split at h <;> first | exact ⟨h.1, h.2.1, h.2.2.1, hN _ _ _ h.2.2.2⟩ | exact h) | exact h)
theorem rz_blk (is : List rz_I) {pc : Nat} {L : rz_L} {S : List Value} {G : rz_G} (hd : rz_lks M pc is = true) (hk : kc ≤ mc) (hk2 : kn ≤ ms)
    (h : rz_ex is pc L S G (fun pc L S G => rz_T w d mc ms M kc kn pc L S G Q) (fun r G => rz_nb M r ∧ Q r G)) : rz_T w d mc ms M kc kn pc L S G Q := by
  induction is generalizing pc L S G with
  | nil => exact h
  | cons i is ih =>
    simp only [rz_lks, Bool.and_eq_true] at hd
    exact rz_st_ok hk hk2 hd.1 (rz_st_mono (fun L S G h => ih hd.2 h) h)
end RZX
