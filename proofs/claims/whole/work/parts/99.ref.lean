/-! the reference: follow -/
def xf_mk (p q : Nat) (b : Bool) (u v : List Nat) : ps_nd := (p, q, b || ps_ap u v, if b then [] else ps_cl u v, if b then [] else ps_cr u v)
theorem xf_cs (p q : Nat) (b : Bool) (u v : List Nat) : ((b || ps_ap u v) = true ∧ xf_mk p q b u v = (p, q, true, [], [])) ∨ (b = false ∧ ps_ap u v = false ∧ v.length < u.length ∧ lcpn u v = v.length ∧ xf_mk p q b u v = (p, q, false, u.drop (lcpn u v), [])) ∨ (b = false ∧ ps_ap u v = false ∧ u.length ≤ v.length ∧ lcpn u v = u.length ∧ xf_mk p q b u v = (p, q, false, [], v.drop (lcpn u v))) := by
  cases b with
  | true => exact Or.inl ⟨rfl, by simp [xf_mk]⟩
  | false =>
    cases c : ps_ap u v with
    | true => exact Or.inl ⟨rfl, by simp [xf_mk, ps_cl, ps_cr, c]⟩
    | false =>
      right
      have hle := lcpn_le u v
      have c' := c
      simp only [ps_ap, ← lcpn_wd, Bool.and_eq_false_iff, decide_eq_false_iff_not] at c'
      by_cases q1 : v.length < u.length
      · left
        have e : lcpn u v = v.length := by omega
        refine ⟨rfl, rfl, q1, e, ?_⟩
        simp only [xf_mk, ps_cl, ps_cr, c, ← lcpn_wd]
        rw [List.drop_of_length_le (l := v) (by omega)]
        simp
      · right
        have e : lcpn u v = u.length := by omega
        refine ⟨rfl, rfl, by omega, e, ?_⟩
        simp only [xf_mk, ps_cl, ps_cr, c, ← lcpn_wd]
        rw [List.drop_of_length_le (l := u) (by omega)]
        simp
theorem xf_ok {p q : Nat} {b : Bool} {u v : List Nat} (hp : p < 6) (hq : q < 6) (hu : ∀ x ∈ u, x < 8) (hv : ∀ x ∈ v, x < 8) : xn_ok (xf_mk p q b u v) := by
  rcases xf_cs p q b u v with ⟨-, e⟩ | ⟨-, -, -, -, e⟩ | ⟨-, -, -, -, e⟩ <;> rw [e]
  · exact ⟨hp, hq, fun _ => ⟨rfl, rfl⟩, Or.inl rfl, by simp, by simp⟩
  · exact ⟨hp, hq, fun h => (by cases h), Or.inr rfl, fun x hx => hu x (List.mem_of_mem_drop hx), by simp⟩
  · exact ⟨hp, hq, fun h => (by cases h), Or.inl rfl, by simp, fun x hx => hv x (List.mem_of_mem_drop hx)⟩
theorem xn_ext {n n' : ps_nd} (h : xn_ok n) (h' : xn_ok n') (e1 : n.1 = n'.1) (e2 : n.2.1 = n'.2.1) (e3 : xn_sd n = xn_sd n') (e4 : xn_rs n = xn_rs n') : n = n' := by
  obtain ⟨p, q, c, u, v⟩ := n
  obtain ⟨p', q', c', u', v'⟩ := n'
  rcases xn_rs_le h with ⟨a1, a2, a3, a4, a5⟩ | ⟨a1, a2, a3, a4⟩ | ⟨a1, a2, a3, a4⟩ <;> rcases xn_rs_le h' with ⟨b1, b2, b3, b4, b5⟩ | ⟨b1, b2, b3, b4⟩ | ⟨b1, b2, b3, b4⟩ <;> simp_all
/-- how full a pair is: a clash counts twice -/
def xk_c (N : List xn_T) (p q : Nat) : Nat := (N.map (fun x => if x.1.1 = p ∧ x.1.2.1 = q then (if x.1.2.2.1 then 2 else 1) else 0)).sum
def xk_n (N : List xn_T) (p q : Nat) : Nat := N.countP (fun x => decide (x.1.1 = p) && decide (x.1.2.1 = q))
def xk_is (A : Nat → Nat → Int32) (N : List xn_T) : Prop := ∀ p q, p < 6 → q < 6 → A 37 (6 * p + q) = nI (xk_c N p q) ∧ xk_c N p q ≤ 3 ∧ xk_n N p q ≤ 2 ∧ xk_n N p q ≤ xk_c N p q
theorem xk_c_app (N : List xn_T) (x : xn_T) (p q : Nat) : xk_c (N ++ [x]) p q = xk_c N p q + if x.1.1 = p ∧ x.1.2.1 = q then (if x.1.2.2.1 then 2 else 1) else 0 := by
  simp [xk_c, List.sum_append_nat]
theorem xk_n_app (N : List xn_T) (x : xn_T) (p q : Nat) : xk_n (N ++ [x]) p q = xk_n N p q + if x.1.1 = p ∧ x.1.2.1 = q then 1 else 0 := by
  simp only [xk_n, List.countP_append, List.countP_singleton, Bool.and_eq_true, decide_eq_true_eq]
theorem xk_sum : ∀ (n : Nat) (L : List Nat), (∀ x ∈ L, x < n) → ((List.range n).map (fun i => L.countP (fun x => decide (x = i)))).sum = L.length := by
  intro n L
  induction L with
  | nil =>
    intro _
    have : ∀ l : List Nat, (l.map (fun i => ([] : List Nat).countP (fun x => decide (x = i)))).sum = 0 := fun l => by induction l with | nil => rfl | cons a l ih => rw [List.map_cons, List.sum_cons, ih]; rfl
    rw [this]; rfl
  | cons y L ih =>
    intro h
    have ih := ih (fun x hx => h x (List.mem_cons_of_mem _ hx))
    have hy := h y List.mem_cons_self
    rw [List.length_cons, ← ih]
    clear ih
    have key : ∀ m, ((List.range m).map (fun i => (y :: L).countP (fun x => decide (x = i)))).sum = ((List.range m).map (fun i => L.countP (fun x => decide (x = i)))).sum + if y < m then 1 else 0 := by
      intro m
      induction m with
      | zero => simp
      | succ m ih =>
        rw [List.range_succ, List.map_append, List.map_append, List.sum_append_nat, List.sum_append_nat, ih]
        simp only [List.map_cons, List.map_nil, List.sum_cons, List.sum_nil, List.countP_cons, decide_eq_true_eq]
        by_cases e : y = m
        · subst e; simp; omega
        · rw [if_neg e]
          by_cases c : y < m
          · rw [if_pos c, if_pos (by omega)]; omega
          · rw [if_neg c, if_neg (by omega)]; omega
    rw [key n, if_pos hy]
theorem xk_bd {f : Nat → Nat} : ∀ (n : Nat), (∀ i, i < n → f i ≤ 2) → ((List.range n).map f).sum ≤ 2 * n ∧ ∀ k, k < n → f k < 2 → ((List.range n).map f).sum < 2 * n := by
  intro n
  induction n with
  | zero => intro _; simp
  | succ n ih =>
    intro h
    obtain ⟨i1, i2⟩ := ih (fun i hi => h i (by omega))
    rw [List.range_succ, List.map_append, List.sum_append_nat]
    simp only [List.map_cons, List.map_nil, List.sum_cons, List.sum_nil, Nat.add_zero]
    have hn := h n (by omega)
    refine ⟨by omega, fun k hk hk2 => ?_⟩
    by_cases c : k = n
    · subst c; omega
    · have := i2 k (by omega) hk2
      omega
theorem xk_72 {N : List xn_T} {p q : Nat} (hN : ∀ x ∈ N, x.1.1 < 6 ∧ x.1.2.1 < 6) (h : ∀ p q, p < 6 → q < 6 → xk_n N p q ≤ 2) (hp : p < 6) (hq : q < 6) (h2 : xk_n N p q < 2) : N.length < 72 := by
  have e := xk_sum 36 (N.map (fun x => 6 * x.1.1 + x.1.2.1)) (fun y hy => by
    obtain ⟨x, hx, rfl⟩ := List.mem_map.mp hy
    have := hN x hx; omega)
  rw [List.length_map] at e
  have hc : ∀ i, i < 36 → (N.map (fun x => 6 * x.1.1 + x.1.2.1)).countP (fun x => decide (x = i)) = xk_n N (i / 6) (i % 6) := by
    intro i hi
    rw [List.countP_map, xk_n]
    refine List.countP_congr (fun x hx => ?_)
    have := hN x hx
    simp only [Function.comp, decide_eq_true_eq, Bool.and_eq_true]
    constructor
    · intro q; omega
    · rintro ⟨q1, q2⟩; omega
  have := (xk_bd (f := fun i => (N.map (fun x => 6 * x.1.1 + x.1.2.1)).countP (fun x => decide (x = i))) 36 (fun i hi => by
    show (N.map (fun x => 6 * x.1.1 + x.1.2.1)).countP (fun x => decide (x = i)) ≤ 2
    rw [hc i hi]; exact h _ _ (by omega) (by omega))).2 (6 * p + q) (by omega) (by
    show (N.map (fun x => 6 * x.1.1 + x.1.2.1)).countP (fun x => decide (x = 6 * p + q)) < 2
    rw [hc _ (by omega), show (6 * p + q) / 6 = p by omega, show (6 * p + q) % 6 = q by omega]; exact h2)
  omega
/-- a node is followed: kept, unless its pair can't end, is full, or knows it -/
def xf_add (c : Nat → Bool) (N : List xn_T) (n : ps_nd) (o : Nat) : List xn_T := if c (6 * n.1 + n.2.1) = false ∨ 2 ≤ xk_c N n.1 n.2.1 ∨ n ∈ N.map (fun x => x.1) then N else N ++ [(n, o)]
set_option maxRecDepth 100000 in
set_option maxHeartbeats 4000000 in
theorem c_Mod_follow {w : rz_w} {d : Nat} {G : rz_G} {a : Nat} {I : Nat → Int32} {A : Nat → Nat → Int32} {u v : List Nat} {N : List xn_T} {c : Nat → Bool} {p q o B0 b0 : Nat} {b : Bool} (h12 : re_12 I A u v) (hN : xn_ns B0 b0 I A N) (hk : xk_is A N) (hc : ∀ i, i < 36 → A 25 i = rz_b (c i)) (hp : p < 6) (hq : q < 6) (ho : o < 4100) (hu8 : ∀ x ∈ u, x < 8) (hv8 : ∀ x ∈ v, x < 8) (hu : u.length ≤ B0 + b0 * N.length) (hv : v.length ≤ B0 + b0 * N.length) (hB : B0 + b0 * 72 ≤ 2000) : rz_C w (d + 1) 0 0 y_Mod_follow m_Mod_follow [.ref a, .int (nI p), .int (nI q), .int (rz_b b), .int (nI o)] (re_put G a I A) (fun (r : Option Value) (G' : rz_G) => r = none ∧ ∃ I' A', G' = re_put G a I' A' ∧ fi [30] I I' ∧ fa [31, 32, 33, 34, 35, 36, 37] A A' ∧ xn_ns B0 b0 I' A' (xf_add c N (xf_mk p q b u v) o) ∧ xk_is A' (xf_add c N (xf_mk p q b u v) o)) := by
  generalize hQ : (fun (r : Option Value) (G' : rz_G) => r = none ∧ ∃ I' A', G' = re_put G a I' A' ∧ fi [30] I I' ∧ fa [31, 32, 33, 34, 35, 36, 37] A A' ∧ xn_ns B0 b0 I' A' (xf_add c N (xf_mk p q b u v) o) ∧ xk_is A' (xf_add c N (xf_mk p q b u v) o)) = Q
  obtain ⟨n1, n2, n3⟩ := id hN
  obtain ⟨l1, l2, l3, l4, l5, l6, l7, l8⟩ := id h12
  obtain ⟨k1, k2, k3, k4⟩ := hk p q hp hq
  have hbb : b0 * N.length ≤ b0 * 72 := Nat.mul_le_mul_left _ n2
  have hle := lcpn_le u v
  generalize hn : xf_mk p q b u v = n at *
  have nok : xn_ok n := by rw [← hn]; exact xf_ok hp hq hu8 hv8
  have np : n.1 = p := by rw [← hn]; rfl
  have nq : n.2.1 = q := by rw [← hn]; rfl
  have hkeep : ∀ {x : Prop}, (c (6 * p + q) = false ∨ 2 ≤ xk_c N p q ∨ n ∈ N.map (fun x => x.1)) → xf_add c N n o = N := fun h => by
    unfold xf_add; rw [np, nq, if_pos h]
  have hcpq := hc (6 * p + q) (by omega)
  by_cases hout : c (6 * p + q) = false ∨ 2 ≤ xk_c N p q
  · have hxa : xf_add c N n o = N := hkeep (x := True) (by rcases hout with h | h; exact Or.inl h; exact Or.inr (Or.inl h))
    refine rz_enter' [some (.ref a), some (.int (nI p)), some (.int (nI q)), some (.int (rz_b b)), some (.int (nI o)), none, none, none, none, none, none, none, none] (by decide +kernel) rfl rfl (Nat.le_of_ble_eq_true rfl) rfl ?_
    refine rz_blk' [(.aload_n 0, 1, 0, 0), (.getfield 80, 3, 10, 25), (.bipush 6, 2, 0, 0), (.iload_n 1, 1, 0, 0), (.imul, 1, 0, 0), (.iload_n 2, 1, 0, 0), (.iadd, 1, 0, 0), (.baload, 1, 0, 0), (.ifCond .eq 18, 3, 0, 0)] (by decide +kernel) (Nat.le_refl _) (Nat.le_refl _) (fun K R hK hR => ?_)
    simp only [Nat.reduceEqDiff, false_or, or_false, or_true, reduceIte, rw_b6, ↓rx_aload_n0, ↓rx_baload, ↓rx_bipush, ↓rx_getfield, ↓rx_iadd, ↓rx_ifCond_eq, ↓rx_iload_n1, ↓rx_iload_n2, ↓rx_imul, ↓rx_nil, ↓ry_i1, ↓ry_i2, ↓ry_iau, ↓ry_li0s, ↓ry_li0z, ↓ry_lr0s, ↓ry_lr0z, ↓ry_obu, ↓ry_r1, ↓ry_ri, true_and, true_or, re_a25, ↓re_F25, ↓re_i25, ↓re_ob, hcpq, k1, rz_set, rz_nol, rz_clr, List.set_cons_zero, List.set_cons_succ, rz_tr, Nat.reduceAdd, Int.reduceAdd, Int.reduceToNat, Int.reduceSub, Int.reduceNeg, Int.cast_ofNat_Int]
    try simp (disch := omega) only [hcpq, k1, rb_0, pk_us, pk_un, va_up_self, va_up_ne, nI_add, pk_mul, nI_clamp, vp_inT, nI_ltI, nI_leI, nI_eqI, pk_sub, true_and, and_true]
    refine ⟨fun q1 => hK _ _ _ _ ?_, fun q1 => hK _ _ _ _ ?_⟩
    · -- 11 taken
      refine rz_blk' [(.return_, 1, 0, 0)] (by decide +kernel) (Nat.le_refl _) (Nat.le_refl _) (fun K R hK hR => ?_)
      simp only [↓rx_nil, ↓rx_return_, hcpq, k1, rz_set, rz_nol, rz_clr, List.set_cons_zero, List.set_cons_succ, rz_tr, Nat.reduceAdd, Int.reduceAdd, Int.reduceToNat, Int.reduceSub, Int.reduceNeg, Int.cast_ofNat_Int]
      try simp (disch := omega) only [hcpq, k1, rb_0, pk_us, pk_un, va_up_self, va_up_ne, nI_add, pk_mul, nI_clamp, vp_inT, nI_ltI, nI_leI, nI_eqI, pk_sub, true_and, and_true]
      refine hR _ _ (rz_nb_i (by decide)) ?_
      rw [← hQ]
      refine ⟨rfl, _, _, rfl, fi.rf, fa.rf, ?_, ?_⟩
      · rw [hxa]; exact hN
      · rw [hxa]; exact hk
    · -- 11 not taken
      refine rz_blk' [(.aload_n 0, 1, 0, 0), (.getfield 108, 3, 10, 37), (.bipush 6, 2, 0, 0), (.iload_n 1, 1, 0, 0), (.imul, 1, 0, 0), (.iload_n 2, 1, 0, 0), (.iadd, 1, 0, 0), (.iaload, 1, 0, 0), (.iconst 2, 1, 0, 0), (.if_icmp .lt 4, 3, 0, 0)] (by decide +kernel) (Nat.le_refl _) (Nat.le_refl _) (fun K R hK hR => ?_)
      simp only [rw_b6, rw_c2, ↓rx_aload_n0, ↓rx_bipush, ↓rx_getfield, ↓rx_iadd, ↓rx_iaload, ↓rx_iconst, ↓rx_if_icmp_lt, ↓rx_iload_n1, ↓rx_iload_n2, ↓rx_imul, ↓rx_nil, ↓ry_i2, ↓ry_iau, ↓ry_li0s, ↓ry_li0z, ↓ry_lr0s, ↓ry_lr0z, ↓ry_obu, ↓ry_r1, ↓ry_ri, true_and, re_a37, ↓re_F37, ↓re_i37, ↓re_ob, hcpq, k1, rz_set, rz_nol, rz_clr, List.set_cons_zero, List.set_cons_succ, rz_tr, Nat.reduceAdd, Int.reduceAdd, Int.reduceToNat, Int.reduceSub, Int.reduceNeg, Int.cast_ofNat_Int]
      try simp (disch := omega) only [hcpq, k1, rb_0, pk_us, pk_un, va_up_self, va_up_ne, nI_add, pk_mul, nI_clamp, vp_inT, nI_ltI, nI_leI, nI_eqI, pk_sub, true_and, and_true]
      refine ⟨fun q2 => by
  rcases hout with h | h
  · simp_all
  · omega, fun q2 => hK _ _ _ _ ?_⟩
      refine rz_blk' [(.return_, 1, 0, 0)] (by decide +kernel) (Nat.le_refl _) (Nat.le_refl _) (fun K R hK hR => ?_)
      simp only [↓rx_nil, ↓rx_return_, hcpq, k1, rz_set, rz_nol, rz_clr, List.set_cons_zero, List.set_cons_succ, rz_tr, Nat.reduceAdd, Int.reduceAdd, Int.reduceToNat, Int.reduceSub, Int.reduceNeg, Int.cast_ofNat_Int]
      try simp (disch := omega) only [hcpq, k1, rb_0, pk_us, pk_un, va_up_self, va_up_ne, nI_add, pk_mul, nI_clamp, vp_inT, nI_ltI, nI_leI, nI_eqI, pk_sub, true_and, and_true]
      refine hR _ _ (rz_nb_i (by decide)) ?_
      rw [← hQ]
      refine ⟨rfl, _, _, rfl, fi.rf, fa.rf, ?_, ?_⟩
      · rw [hxa]; exact hN
      · rw [hxa]; exact hk
  have hct : c (6 * p + q) = true := by
    cases h : c (6 * p + q) with
    | true => rfl
    | false => exact absurd (Or.inl h) hout
  have hk2 : xk_c N p q < 2 := by
    refine Nat.lt_of_not_le (fun h => hout (Or.inr h))
  have h72 : N.length < 72 := xk_72 (fun x hx => by
    obtain ⟨i, hi, rfl⟩ := List.mem_iff_getElem.mp hx
    have := (n3 i hi).2.2.2.2.2.2.1
    exact ⟨this.1, this.2.1⟩) (fun p q hp hq => (hk p q hp hq).2.2.1) hp hq (by omega)
  have hcs := xf_cs p q b u v
  rw [hn] at hcs
  have hsd : xn_sd n < 3 := by unfold xn_sd; split <;> (try split) <;> omega
  have hrsl : (xn_rs n).length ≤ B0 + b0 * N.length := by
    rcases hcs with ⟨e1, e2⟩ | ⟨e1, e2, e3, e4, e5⟩ | ⟨e1, e2, e3, e4, e5⟩
    · rw [e2]; simp [xn_rs]
    · rw [e5]; simp only [xn_rs]; rw [if_neg (by simp), if_pos (by simp; omega), List.length_drop]; omega
    · rw [e5]; simp only [xn_rs]; rw [if_neg (by simp), if_neg (by simp), List.length_drop]; omega
  have hrs8 : ∀ x ∈ xn_rs n, x < 8 := by
    rcases xn_rs_le nok with ⟨e1, e2, e3, e4, e5⟩ | ⟨e3, e4, e5, e6⟩ | ⟨e3, e4, e5, e6⟩
    · rw [e5]; simp
    · rw [e5]; exact nok.2.2.2.2.1
    · rw [e5]; exact nok.2.2.2.2.2
  have hrs : ∀ k (h : k < (xn_rs n).length), (xn_sd n = 0 ∧ A 28 (lcpn u v + k) = nI (xn_rs n)[k]) ∨ (xn_sd n ≠ 0 ∧ A 29 (lcpn u v + k) = nI (xn_rs n)[k]) := by
    rcases hcs with ⟨e1, e2⟩ | ⟨e1, e2, e3, e4, e5⟩ | ⟨e1, e2, e3, e4, e5⟩
    · intro k h
      rw [show xn_rs n = [] by rw [e2]; simp [xn_rs]] at h
      simp at h
    · have z : xn_rs n = u.drop (lcpn u v) := by rw [e5]; simp only [xn_rs]; rw [if_neg (by simp), if_pos (by simp; omega)]
      have z2 : xn_sd n = 0 := by rw [e5]; simp only [xn_sd]; rw [if_neg (by simp), if_pos (by simp; omega)]
      intro k h
      left
      refine ⟨z2, ?_⟩
      have h' : k < (u.drop (lcpn u v)).length := by rw [← z]; exact h
      rw [List.length_drop] at h'
      have := l3 (lcpn u v + k) (by omega)
      rw [Nat.zero_add] at this
      rw [this]
      simp only [z, List.getElem_drop]
    · have z : xn_rs n = v.drop (lcpn u v) := by rw [e5]; simp only [xn_rs]; rw [if_neg (by simp), if_neg (by simp)]
      have z2 : xn_sd n = 1 := by rw [e5]; simp only [xn_sd]; rw [if_neg (by simp), if_neg (by simp)]
      intro k h
      right
      refine ⟨by omega, ?_⟩
      have h' : k < (v.drop (lcpn u v)).length := by rw [← z]; exact h
      rw [List.length_drop] at h'
      have := l4 (lcpn u v + k) (by omega)
      rw [Nat.zero_add] at this
      rw [this]
      simp only [z, List.getElem_drop]
  generalize hRR : xn_rs n = RR at *
  generalize hB1 : va_up A 35 (cp (A 35) (2100 * N.length) (wsg RR) 0 RR.length) = B
  have hB35 : B 35 = cp (A 35) (2100 * N.length) (wsg RR) 0 RR.length := by rw [← hB1, va_up_self]
  have hBo : ∀ f, f ≠ 35 → B f = A f := fun f hf => by rw [← hB1, va_up_ne _ _ hf]
  have hBf : sg (B 35) (2100 * N.length) RR := by rw [hB35]; exact sg_cp sg_wsg (Nat.le_refl _)
  have hfaB : fa [31, 32, 33, 34, 35, 36, 37] A B := fun f hf => hBo f (by intro e; subst e; revert hf; decide)
  have hb72 : ∀ i, i < 72 → B0 + b0 * i ≤ 2000 := fun i hi => by
    have := Nat.mul_le_mul_left b0 (Nat.le_of_lt hi); omega
  have hBn : ∀ i (h : i < N.length), B 31 i = nI N[i].1.1 ∧ B 32 i = nI N[i].1.2.1 ∧ B 33 i = nI (xn_sd N[i].1) ∧ B 34 i = nI (xn_rs N[i].1).length ∧ sg (B 35) (2100 * i) (xn_rs N[i].1) ∧ B 36 i = nI N[i].2 ∧ xn_ok N[i].1 ∧ (xn_rs N[i].1).length ≤ B0 + b0 * i ∧ N[i].2 < 4100 := fun i h => by
    obtain ⟨y1, y2, y3, y4, y5, y6, y7, y8, y9⟩ := n3 i h
    have := hb72 i (by omega)
    rw [hBo 31 (by decide), hBo 32 (by decide), hBo 33 (by decide), hBo 34 (by decide), hBo 36 (by decide), hB35]
    exact ⟨y1, y2, y3, y4, y5.k (fun x q1 q2 => cp_out (by omega)), y6, y7, y8, y9⟩
  have e37 := hBo 37 (by decide)
  have hend : ∀ (kn : Bool) (z11 z12 : Option Value), kn = decide (n ∈ N.map (fun x => x.1)) → rz_T w (d + 1) 0 0 m_Mod_follow 0 0 327 [some (.ref a), some (.int (nI p)), some (.int (nI q)), some (.int (rz_b b)), some (.int (nI o)), some (.int (nI (lcpn u v))), some (.int (rz_b n.2.2.1)), some (.int (nI (xn_sd n))), some (.int (nI (RR).length)), some (.int (nI N.length)), some (.int (rz_b kn)), z11, z12] [] (re_put G a I B) Q := by
    intro kn z11 z12 hkn
    cases kn with
    | true =>
      have hxa : xf_add c N n o = N := hkeep (x := True) (Or.inr (Or.inr (of_decide_eq_true hkn.symm)))
      refine rz_blk' [(.iload 10, 2, 0, 0), (.ifCond .eq 4, 3, 0, 0)] (by decide +kernel) (Nat.le_refl _) (Nat.le_refl _) (fun K R hK hR => ?_)
      simp only [↓rx_ifCond_eq, ↓rx_iload, ↓rx_nil, ↓ry_i1, ↓ry_li0s, ↓ry_li0z, rz_set, rz_nol, rz_clr, List.set_cons_zero, List.set_cons_succ, rz_tr, Nat.reduceAdd, Int.reduceAdd, Int.reduceToNat, Int.reduceSub, Int.reduceNeg, Int.cast_ofNat_Int]
      try simp (disch := omega) only [pk_us, pk_un, va_up_self, va_up_ne, nI_add, pk_mul, nI_clamp, vp_inT, nI_ltI, nI_leI, nI_eqI, pk_sub, true_and, and_true]
      refine ⟨fun q3 => absurd q3 (by decide), fun q3 => hK _ _ _ _ ?_⟩
      refine rz_blk' [(.return_, 1, 0, 0)] (by decide +kernel) (Nat.le_refl _) (Nat.le_refl _) (fun K R hK hR => ?_)
      simp only [↓rx_nil, ↓rx_return_, rz_set, rz_nol, rz_clr, List.set_cons_zero, List.set_cons_succ, rz_tr, Nat.reduceAdd, Int.reduceAdd, Int.reduceToNat, Int.reduceSub, Int.reduceNeg, Int.cast_ofNat_Int]
      try simp (disch := omega) only [pk_us, pk_un, va_up_self, va_up_ne, nI_add, pk_mul, nI_clamp, vp_inT, nI_ltI, nI_leI, nI_eqI, pk_sub, true_and, and_true]
      refine hR _ _ (rz_nb_i (by decide)) ?_
      rw [← hQ]
      refine ⟨rfl, _, _, rfl, fi.rf, hfaB, ?_, ?_⟩
      · rw [hxa]; exact ⟨n1, n2, hBn⟩
      · rw [hxa]; intro p q hp hq; rw [e37]; exact hk p q hp hq
    | false =>
      have hxa : xf_add c N n o = N ++ [(n, o)] := by
        unfold xf_add
        rw [np, nq, if_neg]
        rintro (h | h | h)
        · rw [hct] at h; cases h
        · omega
        · exact of_decide_eq_false hkn.symm h
      refine rz_blk' [(.iload 10, 2, 0, 0), (.ifCond .eq 4, 3, 0, 0)] (by decide +kernel) (Nat.le_refl _) (Nat.le_refl _) (fun K R hK hR => ?_)
      simp only [↓rx_ifCond_eq, ↓rx_iload, ↓rx_nil, ↓ry_i1, ↓ry_li0s, ↓ry_li0z, n1, e37, k1, re_a37, ↓re_i37, rz_set, rz_nol, rz_clr, List.set_cons_zero, List.set_cons_succ, rz_tr, Nat.reduceAdd, Int.reduceAdd, Int.reduceToNat, Int.reduceSub, Int.reduceNeg, Int.cast_ofNat_Int]
      try simp (disch := omega) only [n1, e37, k1, rb_0, pk_us, pk_un, va_up_self, va_up_ne, nI_add, pk_mul, nI_clamp, vp_inT, nI_ltI, nI_leI, nI_eqI, pk_sub, true_and, and_true]
      refine ⟨fun q4 => hK _ _ _ _ ?_, fun q4 => by first | exact absurd rfl q4 | exact absurd trivial q4⟩
      refine rz_blk' [(.aload_n 0, 1, 0, 0), (.getfield 89, 3, 10, 31), (.iload 9, 2, 0, 0), (.iload_n 1, 1, 0, 0), (.iastore, 1, 0, 0)] (by decide +kernel) (Nat.le_refl _) (Nat.le_refl _) (fun K R hK hR => ?_)
      simp only [↓rx_aload_n0, ↓rx_getfield, ↓rx_iastore, ↓rx_iload, ↓rx_iload_n1, ↓rx_nil, ↓ry_iau, ↓ry_li0s, ↓ry_li0z, ↓ry_lr0s, ↓ry_lr0z, ↓ry_obu, ↓ry_r1, ↓ry_rii, true_and, re_a31, ↓re_F31, ↓re_i31, ↓re_ob, n1, e37, k1, re_a37, ↓re_i37, rz_set, rz_nol, rz_clr, List.set_cons_zero, List.set_cons_succ, rz_tr, Nat.reduceAdd, Int.reduceAdd, Int.reduceToNat, Int.reduceSub, Int.reduceNeg, Int.cast_ofNat_Int]
      try simp (disch := omega) only [n1, e37, k1, rb_0, pk_us, pk_un, va_up_self, va_up_ne, nI_add, pk_mul, nI_clamp, vp_inT, nI_ltI, nI_leI, nI_eqI, pk_sub, true_and, and_true]
      refine hK _ _ _ _ ?_
      refine rz_blk' [(.aload_n 0, 1, 0, 0), (.getfield 92, 3, 10, 32), (.iload 9, 2, 0, 0), (.iload_n 2, 1, 0, 0), (.iastore, 1, 0, 0)] (by decide +kernel) (Nat.le_refl _) (Nat.le_refl _) (fun K R hK hR => ?_)
      simp only [↓rx_aload_n0, ↓rx_getfield, ↓rx_iastore, ↓rx_iload, ↓rx_iload_n2, ↓rx_nil, ↓ry_iau, ↓ry_li0s, ↓ry_li0z, ↓ry_lr0s, ↓ry_lr0z, ↓ry_obu, ↓ry_r1, ↓ry_rii, true_and, re_a32, ↓re_F32, ↓re_i32, ↓re_ob, n1, e37, k1, re_a37, ↓re_i37, rz_set, rz_nol, rz_clr, List.set_cons_zero, List.set_cons_succ, rz_tr, Nat.reduceAdd, Int.reduceAdd, Int.reduceToNat, Int.reduceSub, Int.reduceNeg, Int.cast_ofNat_Int]
      try simp (disch := omega) only [n1, e37, k1, rb_0, pk_us, pk_un, va_up_self, va_up_ne, nI_add, pk_mul, nI_clamp, vp_inT, nI_ltI, nI_leI, nI_eqI, pk_sub, true_and, and_true]
      refine hK _ _ _ _ ?_
      refine rz_blk' [(.aload_n 0, 1, 0, 0), (.getfield 95, 3, 10, 33), (.iload 9, 2, 0, 0), (.iload 7, 2, 0, 0), (.iastore, 1, 0, 0)] (by decide +kernel) (Nat.le_refl _) (Nat.le_refl _) (fun K R hK hR => ?_)
      simp only [↓rx_aload_n0, ↓rx_getfield, ↓rx_iastore, ↓rx_iload, ↓rx_nil, ↓ry_iau, ↓ry_li0s, ↓ry_li0z, ↓ry_lr0s, ↓ry_lr0z, ↓ry_obu, ↓ry_r1, ↓ry_rii, true_and, re_a33, ↓re_F33, ↓re_i33, ↓re_ob, n1, e37, k1, re_a37, ↓re_i37, rz_set, rz_nol, rz_clr, List.set_cons_zero, List.set_cons_succ, rz_tr, Nat.reduceAdd, Int.reduceAdd, Int.reduceToNat, Int.reduceSub, Int.reduceNeg, Int.cast_ofNat_Int]
      try simp (disch := omega) only [n1, e37, k1, rb_0, pk_us, pk_un, va_up_self, va_up_ne, nI_add, pk_mul, nI_clamp, vp_inT, nI_ltI, nI_leI, nI_eqI, pk_sub, true_and, and_true]
      refine hK _ _ _ _ ?_
      refine rz_blk' [(.aload_n 0, 1, 0, 0), (.getfield 98, 3, 10, 34), (.iload 9, 2, 0, 0), (.iload 8, 2, 0, 0), (.iastore, 1, 0, 0)] (by decide +kernel) (Nat.le_refl _) (Nat.le_refl _) (fun K R hK hR => ?_)
      simp only [↓rx_aload_n0, ↓rx_getfield, ↓rx_iastore, ↓rx_iload, ↓rx_nil, ↓ry_iau, ↓ry_li0s, ↓ry_li0z, ↓ry_lr0s, ↓ry_lr0z, ↓ry_obu, ↓ry_r1, ↓ry_rii, true_and, re_a34, ↓re_F34, ↓re_i34, ↓re_ob, n1, e37, k1, re_a37, ↓re_i37, rz_set, rz_nol, rz_clr, List.set_cons_zero, List.set_cons_succ, rz_tr, Nat.reduceAdd, Int.reduceAdd, Int.reduceToNat, Int.reduceSub, Int.reduceNeg, Int.cast_ofNat_Int]
      try simp (disch := omega) only [n1, e37, k1, rb_0, pk_us, pk_un, va_up_self, va_up_ne, nI_add, pk_mul, nI_clamp, vp_inT, nI_ltI, nI_leI, nI_eqI, pk_sub, true_and, and_true]
      refine hK _ _ _ _ ?_
      refine rz_blk' [(.aload_n 0, 1, 0, 0), (.getfield 105, 3, 10, 36), (.iload 9, 2, 0, 0), (.iload 4, 2, 0, 0), (.iastore, 1, 0, 0)] (by decide +kernel) (Nat.le_refl _) (Nat.le_refl _) (fun K R hK hR => ?_)
      simp only [↓rx_aload_n0, ↓rx_getfield, ↓rx_iastore, ↓rx_iload, ↓rx_nil, ↓ry_iau, ↓ry_li0s, ↓ry_li0z, ↓ry_lr0s, ↓ry_lr0z, ↓ry_obu, ↓ry_r1, ↓ry_rii, true_and, re_a36, ↓re_F36, ↓re_i36, ↓re_ob, n1, e37, k1, re_a37, ↓re_i37, rz_set, rz_nol, rz_clr, List.set_cons_zero, List.set_cons_succ, rz_tr, Nat.reduceAdd, Int.reduceAdd, Int.reduceToNat, Int.reduceSub, Int.reduceNeg, Int.cast_ofNat_Int]
      try simp (disch := omega) only [n1, e37, k1, rb_0, pk_us, pk_un, va_up_self, va_up_ne, nI_add, pk_mul, nI_clamp, vp_inT, nI_ltI, nI_leI, nI_eqI, pk_sub, true_and, and_true]
      refine hK _ _ _ _ ?_
      refine rz_blk' [(.aload_n 0, 1, 0, 0), (.dup, 1, 0, 0), (.getfield 263, 3, 10, 30), (.iconst 1, 1, 0, 0), (.iadd, 1, 0, 0), (.putfield 263, 3, 10, 30)] (by decide +kernel) (Nat.le_refl _) (Nat.le_refl _) (fun K R hK hR => ?_)
      simp only [List.length_cons, List.length_nil, Nat.reduceLT, rf_10_30, rw_c1, ↓rx_aload_n0, ↓rx_dup, ↓rx_getfield, ↓rx_iadd, ↓rx_iconst, ↓rx_nil, ↓rx_putfield, ↓ry_i2, ↓ry_lr0s, ↓ry_lr0z, ↓ry_obu, ↓ry_r1, ↓ry_v1i, ↓ry_v1r, ↓ry_vr, true_and, re_len, re_u30, ↓re_F30, ↓re_ob, n1, e37, k1, re_a37, ↓re_i37, rz_set, rz_nol, rz_clr, List.set_cons_zero, List.set_cons_succ, rz_tr, Nat.reduceAdd, Int.reduceAdd, Int.reduceToNat, Int.reduceSub, Int.reduceNeg, Int.cast_ofNat_Int]
      try simp (disch := omega) only [n1, e37, k1, rb_0, pk_us, pk_un, va_up_self, va_up_ne, nI_add, pk_mul, nI_clamp, vp_inT, nI_ltI, nI_leI, nI_eqI, pk_sub, true_and, and_true]
      refine hK _ _ _ _ ?_
      refine rz_blk' [(.aload_n 0, 1, 0, 0), (.getfield 108, 3, 10, 37), (.bipush 6, 2, 0, 0), (.iload_n 1, 1, 0, 0), (.imul, 1, 0, 0), (.iload_n 2, 1, 0, 0), (.iadd, 1, 0, 0), (.dup2, 1, 0, 0), (.iaload, 1, 0, 0), (.iload 6, 2, 0, 0), (.ifCond .eq 7, 3, 0, 0)] (by decide +kernel) (Nat.le_refl _) (Nat.le_refl _) (fun K R hK hR => ?_)
      simp only [rw_b6, ↓rx_aload_n0, ↓rx_bipush, ↓rx_dup2, ↓rx_getfield, ↓rx_iadd, ↓rx_iaload, ↓rx_ifCond_eq, ↓rx_iload, ↓rx_iload_n1, ↓rx_iload_n2, ↓rx_imul, ↓rx_nil, ↓ry_i1, ↓ry_i2, ↓ry_iau, ↓ry_li0s, ↓ry_li0z, ↓ry_lr0s, ↓ry_lr0z, ↓ry_obu, ↓ry_r1, ↓ry_ri, ↓ry_v2, true_and, re_a37, ↓re_F37, ↓re_i37, ↓re_ob, n1, e37, k1, re_a37, ↓re_i37, rz_set, rz_nol, rz_clr, List.set_cons_zero, List.set_cons_succ, rz_tr, Nat.reduceAdd, Int.reduceAdd, Int.reduceToNat, Int.reduceSub, Int.reduceNeg, Int.cast_ofNat_Int]
      try simp (disch := omega) only [n1, e37, k1, rb_0, pk_us, pk_un, va_up_self, va_up_ne, nI_add, pk_mul, nI_clamp, vp_inT, nI_ltI, nI_leI, nI_eqI, pk_sub, true_and, and_true]
      refine ⟨fun q5 => hK _ _ _ _ ?_, fun q5 => hK _ _ _ _ ?_⟩
      · -- 400 taken
        refine rz_blk' [(.iconst 1, 1, 0, 0), (.iadd, 1, 0, 0), (.iastore, 1, 0, 0)] (by decide +kernel) (Nat.le_refl _) (Nat.le_refl _) (fun K R hK hR => ?_)
        simp only [rw_c1, ↓rx_iadd, ↓rx_iastore, ↓rx_iconst, ↓rx_nil, ↓ry_i2, ↓ry_iau, ↓ry_rii, true_and, n1, e37, k1, re_a37, ↓re_i37, rz_set, rz_nol, rz_clr, List.set_cons_zero, List.set_cons_succ, rz_tr, Nat.reduceAdd, Int.reduceAdd, Int.reduceToNat, Int.reduceSub, Int.reduceNeg, Int.cast_ofNat_Int]
        try simp (disch := omega) only [n1, e37, k1, rb_0, pk_us, pk_un, va_up_self, va_up_ne, nI_add, pk_mul, nI_clamp, vp_inT, nI_ltI, nI_leI, nI_eqI, pk_sub, true_and, and_true]
        refine hK _ _ _ _ ?_
        refine rz_blk' [(.return_, 1, 0, 0)] (by decide +kernel) (Nat.le_refl _) (Nat.le_refl _) (fun K R hK hR => ?_)
        simp only [↓rx_nil, ↓rx_return_, n1, e37, k1, re_a37, ↓re_i37, rz_set, rz_nol, rz_clr, List.set_cons_zero, List.set_cons_succ, rz_tr, Nat.reduceAdd, Int.reduceAdd, Int.reduceToNat, Int.reduceSub, Int.reduceNeg, Int.cast_ofNat_Int]
        try simp (disch := omega) only [n1, e37, k1, rb_0, pk_us, pk_un, va_up_self, va_up_ne, nI_add, pk_mul, nI_clamp, vp_inT, nI_ltI, nI_leI, nI_eqI, pk_sub, true_and, and_true]
        refine hR _ _ (rz_nb_i (by decide)) ?_
        rw [← hQ]
        refine ⟨rfl, _, _, rfl, fi.rf.u rfl, (((((hfaB.u rfl).u rfl).u rfl).u rfl).u rfl).u rfl, ?_, ?_⟩
        · rw [hxa]
          generalize hC : va_up (va_up (va_up (va_up (va_up B 31 _) 32 _) 33 _) 34 _) 36 _ = C
          have h31 : C 31 = upd (B 31) N.length (nI p) := by rw [← hC]; simp [va_up]
          have h32 : C 32 = upd (B 32) N.length (nI q) := by rw [← hC]; simp [va_up]
          have h33 : C 33 = upd (B 33) N.length (nI (xn_sd n)) := by rw [← hC]; simp [va_up]
          have h34 : C 34 = upd (B 34) N.length (nI RR.length) := by rw [← hC]; simp [va_up]
          have h35 : C 35 = B 35 := by rw [← hC]; simp [va_up]
          have h36 : C 36 = upd (B 36) N.length (nI o) := by rw [← hC]; simp [va_up]
          refine ⟨by rw [pk_us]; simp, by simp; omega, fun i h => ?_⟩
          simp only [List.length_append, List.length_cons, List.length_nil, Nat.zero_add] at h
          rw [va_up_ne _ _ (by decide), va_up_ne _ _ (by decide), va_up_ne _ _ (by decide), va_up_ne _ _ (by decide), va_up_ne _ _ (by decide), va_up_ne _ _ (by decide), h31, h32, h33, h34, h35, h36]
          by_cases ci : i < N.length
          · rw [pk_un (by omega), pk_un (by omega), pk_un (by omega), pk_un (by omega), pk_un (by omega), List.getElem_append_left ci]
            exact hBn i ci
          · have c' : i = N.length := by omega
            subst c'
            rw [pk_us, pk_us, pk_us, pk_us, pk_us, List.getElem_append_right (Nat.le_refl _)]
            simp only [Nat.sub_self, List.getElem_cons_zero, np, nq, hRR]
            exact ⟨trivial, trivial, trivial, trivial, hBf, trivial, nok, hrsl, ho⟩
        · rw [hxa]
          intro p' q' hp' hq'
          have hk' := hk p' q' hp' hq'
          rw [va_up_self, xk_c_app, xk_n_app]
          simp only [np, nq]
          by_cases e : p = p' ∧ q = q'
          · obtain ⟨rfl, rfl⟩ := e
            first
              | (have hcl : n.2.2.1 = false := (by assumption)
                 refine ⟨?_, ?_, ?_, ?_⟩
                 · rw [pk_us]; simp [hcl]
                 · simp [hcl]; omega
                 · simp; omega
                 · simp [hcl]; omega)
              | (have hcl : n.2.2.1 = true := (by simpa using q5)
                 refine ⟨?_, ?_, ?_, ?_⟩
                 · rw [pk_us]; simp [hcl]
                 · simp [hcl]; omega
                 · simp; omega
                 · simp [hcl]; omega)
          · rw [if_neg e, if_neg e, pk_un (by omega)]
            simpa using hk'
      · -- 400 not taken
        refine rz_blk' [(.iconst 2, 1, 0, 0), (.goto 4, 3, 0, 0)] (by decide +kernel) (Nat.le_refl _) (Nat.le_refl _) (fun K R hK hR => ?_)
        simp only [rw_c2, ↓rx_goto, ↓rx_iconst, ↓rx_nil, n1, e37, k1, re_a37, ↓re_i37, rz_set, rz_nol, rz_clr, List.set_cons_zero, List.set_cons_succ, rz_tr, Nat.reduceAdd, Int.reduceAdd, Int.reduceToNat, Int.reduceSub, Int.reduceNeg, Int.cast_ofNat_Int]
        try simp (disch := omega) only [n1, e37, k1, rb_0, pk_us, pk_un, va_up_self, va_up_ne, nI_add, pk_mul, nI_clamp, vp_inT, nI_ltI, nI_leI, nI_eqI, pk_sub, true_and, and_true]
        refine hK _ _ _ _ ?_
        refine rz_blk' [(.iadd, 1, 0, 0), (.iastore, 1, 0, 0)] (by decide +kernel) (Nat.le_refl _) (Nat.le_refl _) (fun K R hK hR => ?_)
        simp only [↓rx_iadd, ↓rx_iastore, ↓rx_nil, ↓ry_i2, ↓ry_iau, ↓ry_rii, true_and, n1, e37, k1, re_a37, ↓re_i37, rz_set, rz_nol, rz_clr, List.set_cons_zero, List.set_cons_succ, rz_tr, Nat.reduceAdd, Int.reduceAdd, Int.reduceToNat, Int.reduceSub, Int.reduceNeg, Int.cast_ofNat_Int]
        try simp (disch := omega) only [n1, e37, k1, rb_0, pk_us, pk_un, va_up_self, va_up_ne, nI_add, pk_mul, nI_clamp, vp_inT, nI_ltI, nI_leI, nI_eqI, pk_sub, true_and, and_true]
        refine hK _ _ _ _ ?_
        refine rz_blk' [(.return_, 1, 0, 0)] (by decide +kernel) (Nat.le_refl _) (Nat.le_refl _) (fun K R hK hR => ?_)
        simp only [↓rx_nil, ↓rx_return_, n1, e37, k1, re_a37, ↓re_i37, rz_set, rz_nol, rz_clr, List.set_cons_zero, List.set_cons_succ, rz_tr, Nat.reduceAdd, Int.reduceAdd, Int.reduceToNat, Int.reduceSub, Int.reduceNeg, Int.cast_ofNat_Int]
        try simp (disch := omega) only [n1, e37, k1, rb_0, pk_us, pk_un, va_up_self, va_up_ne, nI_add, pk_mul, nI_clamp, vp_inT, nI_ltI, nI_leI, nI_eqI, pk_sub, true_and, and_true]
        refine hR _ _ (rz_nb_i (by decide)) ?_
        rw [← hQ]
        refine ⟨rfl, _, _, rfl, fi.rf.u rfl, (((((hfaB.u rfl).u rfl).u rfl).u rfl).u rfl).u rfl, ?_, ?_⟩
        · rw [hxa]
          generalize hC : va_up (va_up (va_up (va_up (va_up B 31 _) 32 _) 33 _) 34 _) 36 _ = C
          have h31 : C 31 = upd (B 31) N.length (nI p) := by rw [← hC]; simp [va_up]
          have h32 : C 32 = upd (B 32) N.length (nI q) := by rw [← hC]; simp [va_up]
          have h33 : C 33 = upd (B 33) N.length (nI (xn_sd n)) := by rw [← hC]; simp [va_up]
          have h34 : C 34 = upd (B 34) N.length (nI RR.length) := by rw [← hC]; simp [va_up]
          have h35 : C 35 = B 35 := by rw [← hC]; simp [va_up]
          have h36 : C 36 = upd (B 36) N.length (nI o) := by rw [← hC]; simp [va_up]
          refine ⟨by rw [pk_us]; simp, by simp; omega, fun i h => ?_⟩
          simp only [List.length_append, List.length_cons, List.length_nil, Nat.zero_add] at h
          rw [va_up_ne _ _ (by decide), va_up_ne _ _ (by decide), va_up_ne _ _ (by decide), va_up_ne _ _ (by decide), va_up_ne _ _ (by decide), va_up_ne _ _ (by decide), h31, h32, h33, h34, h35, h36]
          by_cases ci : i < N.length
          · rw [pk_un (by omega), pk_un (by omega), pk_un (by omega), pk_un (by omega), pk_un (by omega), List.getElem_append_left ci]
            exact hBn i ci
          · have c' : i = N.length := by omega
            subst c'
            rw [pk_us, pk_us, pk_us, pk_us, pk_us, List.getElem_append_right (Nat.le_refl _)]
            simp only [Nat.sub_self, List.getElem_cons_zero, np, nq, hRR]
            exact ⟨trivial, trivial, trivial, trivial, hBf, trivial, nok, hrsl, ho⟩
        · rw [hxa]
          intro p' q' hp' hq'
          have hk' := hk p' q' hp' hq'
          rw [va_up_self, xk_c_app, xk_n_app]
          simp only [np, nq]
          by_cases e : p = p' ∧ q = q'
          · obtain ⟨rfl, rfl⟩ := e
            first
              | (have hcl : n.2.2.1 = false := (by assumption)
                 refine ⟨?_, ?_, ?_, ?_⟩
                 · rw [pk_us]; simp [hcl]
                 · simp [hcl]; omega
                 · simp; omega
                 · simp [hcl]; omega)
              | (have hcl : n.2.2.1 = true := (by simpa using q5)
                 refine ⟨?_, ?_, ?_, ?_⟩
                 · rw [pk_us]; simp [hcl]
                 · simp [hcl]; omega
                 · simp; omega
                 · simp [hcl]; omega)
          · rw [if_neg e, if_neg e, pk_un (by omega)]
            simpa using hk'
  have il : ∀ (w0 : Nat) (hw0 : w0 < N.length), (∀ (kn : Bool) (z12 : Option Value), kn = decide (N[w0].1 = n) → rz_T w (d + 1) 0 0 m_Mod_follow 0 0 321 [some (.ref a), some (.int (nI p)), some (.int (nI q)), some (.int (rz_b b)), some (.int (nI o)), some (.int (nI (lcpn u v))), some (.int (rz_b n.2.2.1)), some (.int (nI (xn_sd n))), some (.int (nI (RR).length)), some (.int (nI N.length)), some (.int (rz_b kn)), some (.int (nI w0)), z12] [] (re_put G a I B) Q) → ∀ (j i : Nat) (kn : Bool), i + j = RR.length → (kn = true ↔ (N[w0].1.1 = p ∧ N[w0].1.2.1 = q ∧ xn_sd N[w0].1 = xn_sd n ∧ (xn_rs N[w0].1).length = RR.length ∧ ∀ k, k < i → (xn_rs N[w0].1)[k]? = RR[k]?)) → rz_T w (d + 1) 0 0 m_Mod_follow 0 0 265 [some (.ref a), some (.int (nI p)), some (.int (nI q)), some (.int (rz_b b)), some (.int (nI o)), some (.int (nI (lcpn u v))), some (.int (rz_b n.2.2.1)), some (.int (nI (xn_sd n))), some (.int (nI (RR).length)), some (.int (nI N.length)), some (.int (rz_b kn)), some (.int (nI w0)), some (.int (nI i))] [] (re_put G a I B) Q := by
    intro w0 hw0 hx j
    obtain ⟨y1, y2, y3, y4, y5, y6, y7, y8, y9⟩ := hBn w0 hw0
    have hb := hb72 w0 (by omega)
    have hx0 : ∀ (z12 : Option Value), N[w0].1 ≠ n → rz_T w (d + 1) 0 0 m_Mod_follow 0 0 321 [some (.ref a), some (.int (nI p)), some (.int (nI q)), some (.int (rz_b b)), some (.int (nI o)), some (.int (nI (lcpn u v))), some (.int (rz_b n.2.2.1)), some (.int (nI (xn_sd n))), some (.int (nI (RR).length)), some (.int (nI N.length)), some (.int (rz_b false)), some (.int (nI w0)), z12] [] (re_put G a I B) Q := fun z12 hne => hx false z12 (decide_eq_false hne).symm
    induction j with
    | zero =>
      intro i kn hij hkn
      have hi : i = RR.length := by omega
      subst hi
      have hfin := hx kn (some (.int (nI RR.length))) (by
        rw [Bool.eq_iff_iff, hkn, decide_eq_true_eq]
        constructor
        · rintro ⟨c1, c2, c3, c4, c5⟩
          refine xn_ext y7 nok (c1.trans np.symm) (c2.trans nq.symm) c3 ?_
          rw [hRR]
          refine List.ext_getElem? fun k => ?_
          by_cases ck : k < RR.length
          · exact c5 k ck
          · rw [List.getElem?_eq_none (l := xn_rs N[w0].1) (by omega), List.getElem?_eq_none (l := RR) (by omega)]
        · intro e
          rw [e, hRR]
          exact ⟨np, nq, rfl, rfl, fun _ _ => rfl⟩)
      refine rz_blk' [(.iload 12, 2, 0, 0), (.iload 8, 2, 0, 0), (.if_icmp .ge 52, 3, 0, 0)] (by decide +kernel) (Nat.le_refl _) (Nat.le_refl _) (fun K R hK hR => ?_)
      simp only [↓rx_if_icmp_ge, ↓rx_iload, ↓rx_nil, ↓ry_i2, ↓ry_li0s, ↓ry_li0z, rz_set, rz_nol, rz_clr, List.set_cons_zero, List.set_cons_succ, rz_tr, Nat.reduceAdd, Int.reduceAdd, Int.reduceToNat, Int.reduceSub, Int.reduceNeg, Int.cast_ofNat_Int]
      try simp (disch := omega) only [pk_us, pk_un, va_up_self, va_up_ne, nI_add, pk_mul, nI_clamp, vp_inT, nI_ltI, nI_leI, nI_eqI, pk_sub, true_and, and_true]
      refine ⟨fun q6 => hK _ _ _ _ ?_, fun q6 => by omega⟩
      exact hfin
    | succ j ih =>
      intro i kn hij hkn
      cases kn with
      | false =>
        refine rz_blk' [(.iload 12, 2, 0, 0), (.iload 8, 2, 0, 0), (.if_icmp .ge 52, 3, 0, 0)] (by decide +kernel) (Nat.le_refl _) (Nat.le_refl _) (fun K R hK hR => ?_)
        simp only [↓rx_if_icmp_ge, ↓rx_iload, ↓rx_nil, ↓ry_i2, ↓ry_li0s, ↓ry_li0z, rz_set, rz_nol, rz_clr, List.set_cons_zero, List.set_cons_succ, rz_tr, Nat.reduceAdd, Int.reduceAdd, Int.reduceToNat, Int.reduceSub, Int.reduceNeg, Int.cast_ofNat_Int]
        try simp (disch := omega) only [pk_us, pk_un, va_up_self, va_up_ne, nI_add, pk_mul, nI_clamp, vp_inT, nI_ltI, nI_leI, nI_eqI, pk_sub, true_and, and_true]
        refine ⟨fun q7 => by omega, fun q7 => hK _ _ _ _ ?_⟩
        refine rz_blk' [(.iload 10, 2, 0, 0), (.ifCond .eq 47, 3, 0, 0)] (by decide +kernel) (Nat.le_refl _) (Nat.le_refl _) (fun K R hK hR => ?_)
        simp only [↓rx_ifCond_eq, ↓rx_iload, ↓rx_nil, ↓ry_i1, ↓ry_li0s, ↓ry_li0z, rz_set, rz_nol, rz_clr, List.set_cons_zero, List.set_cons_succ, rz_tr, Nat.reduceAdd, Int.reduceAdd, Int.reduceToNat, Int.reduceSub, Int.reduceNeg, Int.cast_ofNat_Int]
        try simp (disch := omega) only [pk_us, pk_un, va_up_self, va_up_ne, nI_add, pk_mul, nI_clamp, vp_inT, nI_ltI, nI_leI, nI_eqI, pk_sub, true_and, and_true]
        refine ⟨fun q8 => hK _ _ _ _ ?_, fun q8 => by first | exact absurd rfl q8 | exact absurd trivial q8⟩
        refine hx0 _ (fun e => ?_)
        have := hkn.mpr (by rw [e, hRR]; exact ⟨np, nq, rfl, rfl, fun _ _ => rfl⟩)
        cases this
      | true =>
        obtain ⟨c1, c2, c3, c4, c5⟩ := hkn.mp rfl
        have k1 : i < (xn_rs N[w0].1).length := by omega
        have k2 : i < RR.length := by omega
        have y8' : ∀ x ∈ xn_rs N[w0].1, x < 8 := by
          rcases xn_rs_le y7 with ⟨e1, e2, e3, e4, e5⟩ | ⟨e3, e4, e5, e6⟩ | ⟨e3, e4, e5, e6⟩
          · rw [e5]; simp
          · rw [e5]; exact y7.2.2.2.2.1
          · rw [e5]; exact y7.2.2.2.2.2
        have hcmp := sg_eq y5 hBf (lt8 y8') (lt8 hrs8) k1 k2
        refine rz_blk' [(.iload 12, 2, 0, 0), (.iload 8, 2, 0, 0), (.if_icmp .ge 52, 3, 0, 0)] (by decide +kernel) (Nat.le_refl _) (Nat.le_refl _) (fun K R hK hR => ?_)
        simp only [↓rx_if_icmp_ge, ↓rx_iload, ↓rx_nil, ↓ry_i2, ↓ry_li0s, ↓ry_li0z, rz_set, rz_nol, rz_clr, List.set_cons_zero, List.set_cons_succ, rz_tr, Nat.reduceAdd, Int.reduceAdd, Int.reduceToNat, Int.reduceSub, Int.reduceNeg, Int.cast_ofNat_Int]
        try simp (disch := omega) only [hcmp, pk_us, pk_un, va_up_self, va_up_ne, nI_add, pk_mul, nI_clamp, vp_inT, nI_ltI, nI_leI, nI_eqI, pk_sub, true_and, and_true]
        refine ⟨fun q9 => by omega, fun q9 => hK _ _ _ _ ?_⟩
        refine rz_blk' [(.iload 10, 2, 0, 0), (.ifCond .eq 47, 3, 0, 0)] (by decide +kernel) (Nat.le_refl _) (Nat.le_refl _) (fun K R hK hR => ?_)
        simp only [↓rx_ifCond_eq, ↓rx_iload, ↓rx_nil, ↓ry_i1, ↓ry_li0s, ↓ry_li0z, rz_set, rz_nol, rz_clr, List.set_cons_zero, List.set_cons_succ, rz_tr, Nat.reduceAdd, Int.reduceAdd, Int.reduceToNat, Int.reduceSub, Int.reduceNeg, Int.cast_ofNat_Int]
        try simp (disch := omega) only [hcmp, pk_us, pk_un, va_up_self, va_up_ne, nI_add, pk_mul, nI_clamp, vp_inT, nI_ltI, nI_leI, nI_eqI, pk_sub, true_and, and_true]
        refine ⟨fun q10 => absurd q10 (by decide), fun q10 => hK _ _ _ _ ?_⟩
        refine rz_blk' [(.aload_n 0, 1, 0, 0), (.getfield 102, 3, 10, 35), (.sipush 2100, 3, 0, 0), (.iload 11, 2, 0, 0), (.imul, 1, 0, 0), (.iload 12, 2, 0, 0), (.iadd, 1, 0, 0), (.iaload, 1, 0, 0), (.aload_n 0, 1, 0, 0), (.getfield 102, 3, 10, 35), (.sipush 2100, 3, 0, 0), (.iload 9, 2, 0, 0), (.imul, 1, 0, 0), (.iload 12, 2, 0, 0), (.iadd, 1, 0, 0), (.iaload, 1, 0, 0), (.if_icmp .ne 7, 3, 0, 0)] (by decide +kernel) (Nat.le_refl _) (Nat.le_refl _) (fun K R hK hR => ?_)
        simp only [rw_s2100, ↓rx_aload_n0, ↓rx_getfield, ↓rx_iadd, ↓rx_iaload, ↓rx_if_icmp_ne, ↓rx_iload, ↓rx_imul, ↓rx_nil, ↓rx_sipush, ↓ry_i2, ↓ry_iau, ↓ry_li0s, ↓ry_li0z, ↓ry_lr0s, ↓ry_lr0z, ↓ry_obu, ↓ry_r1, ↓ry_ri, true_and, re_a35, ↓re_F35, ↓re_i35, ↓re_ob, rz_set, rz_nol, rz_clr, List.set_cons_zero, List.set_cons_succ, rz_tr, Nat.reduceAdd, Int.reduceAdd, Int.reduceToNat, Int.reduceSub, Int.reduceNeg, Int.cast_ofNat_Int]
        try simp (disch := omega) only [hcmp, pk_us, pk_un, va_up_self, va_up_ne, nI_add, pk_mul, nI_clamp, vp_inT, nI_ltI, nI_leI, nI_eqI, pk_sub, true_and, and_true]
        refine ⟨fun q11 => hK _ _ _ _ ?_, fun q11 => hK _ _ _ _ ?_⟩
        · -- 305 taken
          refine rz_blk' [(.iconst 0, 1, 0, 0), (.istore 10, 2, 0, 0)] (by decide +kernel) (Nat.le_refl _) (Nat.le_refl _) (fun K R hK hR => ?_)
          simp only [rw_c0, ↓rx_iconst, ↓rx_istore, ↓rx_nil, ↓ry_i1, rz_set, rz_nol, rz_clr, List.set_cons_zero, List.set_cons_succ, rz_tr, Nat.reduceAdd, Int.reduceAdd, Int.reduceToNat, Int.reduceSub, Int.reduceNeg, Int.cast_ofNat_Int]
          try simp (disch := omega) only [hcmp, pk_us, pk_un, va_up_self, va_up_ne, nI_add, pk_mul, nI_clamp, vp_inT, nI_ltI, nI_leI, nI_eqI, pk_sub, true_and, and_true]
          refine hK _ _ _ _ ?_
          refine rz_blk' [(.iinc 12 1, 3, 0, 0)] (by decide +kernel) (Nat.le_refl _) (Nat.le_refl _) (fun K R hK hR => ?_)
          simp only [rw_c1, ↓rx_iinc, ↓rx_nil, ↓ry_li0s, ↓ry_li0z, rz_set, rz_nol, rz_clr, List.set_cons_zero, List.set_cons_succ, rz_tr, Nat.reduceAdd, Int.reduceAdd, Int.reduceToNat, Int.reduceSub, Int.reduceNeg, Int.cast_ofNat_Int]
          try simp (disch := omega) only [hcmp, pk_us, pk_un, va_up_self, va_up_ne, nI_add, pk_mul, nI_clamp, vp_inT, nI_ltI, nI_leI, nI_eqI, pk_sub, true_and, and_true]
          refine hK _ _ _ _ ?_
          refine rz_blk' [(.goto (-53), 3, 0, 0)] (by decide +kernel) (Nat.le_refl _) (Nat.le_refl _) (fun K R hK hR => ?_)
          simp only [↓rx_goto, ↓rx_nil, rz_set, rz_nol, rz_clr, List.set_cons_zero, List.set_cons_succ, rz_tr, Nat.reduceAdd, Int.reduceAdd, Int.reduceToNat, Int.reduceSub, Int.reduceNeg, Int.cast_ofNat_Int]
          try simp (disch := omega) only [hcmp, pk_us, pk_un, va_up_self, va_up_ne, nI_add, pk_mul, nI_clamp, vp_inT, nI_ltI, nI_leI, nI_eqI, pk_sub, true_and, and_true]
          refine hK _ _ _ _ ?_
          first
            | (refine ih (i + 1) true (by omega) ⟨fun _ => ⟨c1, c2, c3, c4, fun k hk => ?_⟩, fun _ => rfl⟩
               by_cases ck : k = i
               · subst ck; rw [List.getElem?_eq_getElem k1, List.getElem?_eq_getElem k2]; exact congrArg some (by simpa using q11)
               · exact c5 k (by omega))
            | (refine ih (i + 1) false (by omega) ⟨fun q => (by cases q), fun ⟨_, _, _, _, hk⟩ => ?_⟩
               have := hk i (by omega)
               rw [List.getElem?_eq_getElem k1, List.getElem?_eq_getElem k2] at this
               exact absurd (Option.some.inj this) q11)
        · -- 305 not taken
          refine rz_blk' [(.iconst 1, 1, 0, 0), (.goto 4, 3, 0, 0)] (by decide +kernel) (Nat.le_refl _) (Nat.le_refl _) (fun K R hK hR => ?_)
          simp only [rw_c1, ↓rx_goto, ↓rx_iconst, ↓rx_nil, rz_set, rz_nol, rz_clr, List.set_cons_zero, List.set_cons_succ, rz_tr, Nat.reduceAdd, Int.reduceAdd, Int.reduceToNat, Int.reduceSub, Int.reduceNeg, Int.cast_ofNat_Int]
          try simp (disch := omega) only [hcmp, pk_us, pk_un, va_up_self, va_up_ne, nI_add, pk_mul, nI_clamp, vp_inT, nI_ltI, nI_leI, nI_eqI, pk_sub, true_and, and_true]
          refine hK _ _ _ _ ?_
          refine rz_blk' [(.istore 10, 2, 0, 0)] (by decide +kernel) (Nat.le_refl _) (Nat.le_refl _) (fun K R hK hR => ?_)
          simp only [↓rx_istore, ↓rx_nil, ↓ry_i1, rz_set, rz_nol, rz_clr, List.set_cons_zero, List.set_cons_succ, rz_tr, Nat.reduceAdd, Int.reduceAdd, Int.reduceToNat, Int.reduceSub, Int.reduceNeg, Int.cast_ofNat_Int]
          try simp (disch := omega) only [hcmp, pk_us, pk_un, va_up_self, va_up_ne, nI_add, pk_mul, nI_clamp, vp_inT, nI_ltI, nI_leI, nI_eqI, pk_sub, true_and, and_true]
          refine hK _ _ _ _ ?_
          refine rz_blk' [(.iinc 12 1, 3, 0, 0)] (by decide +kernel) (Nat.le_refl _) (Nat.le_refl _) (fun K R hK hR => ?_)
          simp only [rw_c1, ↓rx_iinc, ↓rx_nil, ↓ry_li0s, ↓ry_li0z, rz_set, rz_nol, rz_clr, List.set_cons_zero, List.set_cons_succ, rz_tr, Nat.reduceAdd, Int.reduceAdd, Int.reduceToNat, Int.reduceSub, Int.reduceNeg, Int.cast_ofNat_Int]
          try simp (disch := omega) only [hcmp, pk_us, pk_un, va_up_self, va_up_ne, nI_add, pk_mul, nI_clamp, vp_inT, nI_ltI, nI_leI, nI_eqI, pk_sub, true_and, and_true]
          refine hK _ _ _ _ ?_
          refine rz_blk' [(.goto (-53), 3, 0, 0)] (by decide +kernel) (Nat.le_refl _) (Nat.le_refl _) (fun K R hK hR => ?_)
          simp only [↓rx_goto, ↓rx_nil, rz_set, rz_nol, rz_clr, List.set_cons_zero, List.set_cons_succ, rz_tr, Nat.reduceAdd, Int.reduceAdd, Int.reduceToNat, Int.reduceSub, Int.reduceNeg, Int.cast_ofNat_Int]
          try simp (disch := omega) only [hcmp, pk_us, pk_un, va_up_self, va_up_ne, nI_add, pk_mul, nI_clamp, vp_inT, nI_ltI, nI_leI, nI_eqI, pk_sub, true_and, and_true]
          refine hK _ _ _ _ ?_
          first
            | (refine ih (i + 1) true (by omega) ⟨fun _ => ⟨c1, c2, c3, c4, fun k hk => ?_⟩, fun _ => rfl⟩
               by_cases ck : k = i
               · subst ck; rw [List.getElem?_eq_getElem k1, List.getElem?_eq_getElem k2]; exact congrArg some (by simpa using q11)
               · exact c5 k (by omega))
            | (refine ih (i + 1) false (by omega) ⟨fun q => (by cases q), fun ⟨_, _, _, _, hk⟩ => ?_⟩
               have := hk i (by omega)
               rw [List.getElem?_eq_getElem k1, List.getElem?_eq_getElem k2] at this
               exact absurd (Option.some.inj this) q11)
  have sl : ∀ (j i : Nat) (kn : Bool) (z12 : Option Value), i + j = N.length → (kn = true → n ∈ N.map (fun x => x.1)) → (kn = false → ∀ k (hk : k < N.length), k < i → N[k].1 ≠ n) → rz_T w (d + 1) 0 0 m_Mod_follow 0 0 195 [some (.ref a), some (.int (nI p)), some (.int (nI q)), some (.int (rz_b b)), some (.int (nI o)), some (.int (nI (lcpn u v))), some (.int (rz_b n.2.2.1)), some (.int (nI (xn_sd n))), some (.int (nI (RR).length)), some (.int (nI N.length)), some (.int (rz_b kn)), some (.int (nI i)), z12] [] (re_put G a I B) Q := by
    intro j
    induction j with
    | zero =>
      intro i kn z12 hij hb1 hb0
      refine rz_blk' [(.iload 11, 2, 0, 0), (.aload_n 0, 1, 0, 0), (.getfield 263, 3, 10, 30), (.if_icmp .ge 126, 3, 0, 0)] (by decide +kernel) (Nat.le_refl _) (Nat.le_refl _) (fun K R hK hR => ?_)
      simp only [↓rx_aload_n0, ↓rx_getfield, ↓rx_if_icmp_ge, ↓rx_iload, ↓rx_nil, ↓ry_i2, ↓ry_li0s, ↓ry_li0z, ↓ry_lr0s, ↓ry_lr0z, ↓ry_obu, ↓ry_r1, ↓re_F30, ↓re_ob, n1, rz_set, rz_nol, rz_clr, List.set_cons_zero, List.set_cons_succ, rz_tr, Nat.reduceAdd, Int.reduceAdd, Int.reduceToNat, Int.reduceSub, Int.reduceNeg, Int.cast_ofNat_Int]
      try simp (disch := omega) only [n1, pk_us, pk_un, va_up_self, va_up_ne, nI_add, pk_mul, nI_clamp, vp_inT, nI_ltI, nI_leI, nI_eqI, pk_sub, true_and, and_true]
      refine ⟨fun q12 => hK _ _ _ _ ?_, fun q12 => by omega⟩
      refine hend kn _ _ ?_
      cases kn with
      | true => exact (decide_eq_true (hb1 rfl)).symm
      | false =>
        refine (decide_eq_false (fun hm => ?_)).symm
        obtain ⟨x, hx, e⟩ := List.mem_map.mp hm
        obtain ⟨k, hk, rfl⟩ := List.mem_iff_getElem.mp hx
        exact hb0 rfl k hk (by omega) e
    | succ j ih =>
      intro i kn z12 hij hb1 hb0
      cases kn with
      | true =>
        refine rz_blk' [(.iload 11, 2, 0, 0), (.aload_n 0, 1, 0, 0), (.getfield 263, 3, 10, 30), (.if_icmp .ge 126, 3, 0, 0)] (by decide +kernel) (Nat.le_refl _) (Nat.le_refl _) (fun K R hK hR => ?_)
        simp only [↓rx_aload_n0, ↓rx_getfield, ↓rx_if_icmp_ge, ↓rx_iload, ↓rx_nil, ↓ry_i2, ↓ry_li0s, ↓ry_li0z, ↓ry_lr0s, ↓ry_lr0z, ↓ry_obu, ↓ry_r1, ↓re_F30, ↓re_ob, n1, rz_set, rz_nol, rz_clr, List.set_cons_zero, List.set_cons_succ, rz_tr, Nat.reduceAdd, Int.reduceAdd, Int.reduceToNat, Int.reduceSub, Int.reduceNeg, Int.cast_ofNat_Int]
        try simp (disch := omega) only [n1, pk_us, pk_un, va_up_self, va_up_ne, nI_add, pk_mul, nI_clamp, vp_inT, nI_ltI, nI_leI, nI_eqI, pk_sub, true_and, and_true]
        refine ⟨fun q13 => by omega, fun q13 => hK _ _ _ _ ?_⟩
        refine rz_blk' [(.iload 10, 2, 0, 0), (.ifCond .ne 121, 3, 0, 0)] (by decide +kernel) (Nat.le_refl _) (Nat.le_refl _) (fun K R hK hR => ?_)
        simp only [↓rx_ifCond_ne, ↓rx_iload, ↓rx_nil, ↓ry_i1, ↓ry_li0s, ↓ry_li0z, n1, rz_set, rz_nol, rz_clr, List.set_cons_zero, List.set_cons_succ, rz_tr, Nat.reduceAdd, Int.reduceAdd, Int.reduceToNat, Int.reduceSub, Int.reduceNeg, Int.cast_ofNat_Int]
        try simp (disch := omega) only [n1, pk_us, pk_un, va_up_self, va_up_ne, nI_add, pk_mul, nI_clamp, vp_inT, nI_ltI, nI_leI, nI_eqI, pk_sub, true_and, and_true]
        refine ⟨fun q14 => hK _ _ _ _ ?_, fun q14 => absurd q14 (by decide)⟩
        exact hend true _ _ (decide_eq_true (hb1 rfl)).symm
      | false =>
        have hiN : i < N.length := by omega
        obtain ⟨y1, y2, y3, y4, y5, y6, y7, y8, y9⟩ := hBn i hiN
        have hb := hb72 i (by omega)
        have y71 := y7.1
        have y72 := y7.2.1
        have hsdi : xn_sd N[i].1 < 3 := by unfold xn_sd; split <;> (try split) <;> omega
        have hx : ∀ (kn : Bool) (z12 : Option Value), kn = decide (N[i].1 = n) → rz_T w (d + 1) 0 0 m_Mod_follow 0 0 321 [some (.ref a), some (.int (nI p)), some (.int (nI q)), some (.int (rz_b b)), some (.int (nI o)), some (.int (nI (lcpn u v))), some (.int (rz_b n.2.2.1)), some (.int (nI (xn_sd n))), some (.int (nI (RR).length)), some (.int (nI N.length)), some (.int (rz_b kn)), some (.int (nI i)), z12] [] (re_put G a I B) Q := by
          intro kn z12 hkn
          refine rz_blk' [(.iinc 11 1, 3, 0, 0)] (by decide +kernel) (Nat.le_refl _) (Nat.le_refl _) (fun K R hK hR => ?_)
          simp only [rw_c1, ↓rx_iinc, ↓rx_nil, ↓ry_li0s, ↓ry_li0z, rz_set, rz_nol, rz_clr, List.set_cons_zero, List.set_cons_succ, rz_tr, Nat.reduceAdd, Int.reduceAdd, Int.reduceToNat, Int.reduceSub, Int.reduceNeg, Int.cast_ofNat_Int]
          try simp (disch := omega) only [pk_us, pk_un, va_up_self, va_up_ne, nI_add, pk_mul, nI_clamp, vp_inT, nI_ltI, nI_leI, nI_eqI, pk_sub, true_and, and_true]
          refine hK _ _ _ _ ?_
          refine rz_blk' [(.goto (-129), 3, 0, 0)] (by decide +kernel) (Nat.le_refl _) (Nat.le_refl _) (fun K R hK hR => ?_)
          simp only [↓rx_goto, ↓rx_nil, rz_set, rz_nol, rz_clr, List.set_cons_zero, List.set_cons_succ, rz_tr, Nat.reduceAdd, Int.reduceAdd, Int.reduceToNat, Int.reduceSub, Int.reduceNeg, Int.cast_ofNat_Int]
          try simp (disch := omega) only [pk_us, pk_un, va_up_self, va_up_ne, nI_add, pk_mul, nI_clamp, vp_inT, nI_ltI, nI_leI, nI_eqI, pk_sub, true_and, and_true]
          refine hK _ _ _ _ ?_
          refine ih (i + 1) kn _ (by omega) (fun hb2 => ?_) (fun hb2 k hk hki => ?_)
          · have := of_decide_eq_true (hkn.symm.trans hb2)
            exact List.mem_map.mpr ⟨_, List.getElem_mem hiN, this⟩
          · by_cases ck : k = i
            · subst ck; exact of_decide_eq_false (hkn.symm.trans hb2)
            · exact hb0 rfl k hk (by omega)
        refine rz_blk' [(.iload 11, 2, 0, 0), (.aload_n 0, 1, 0, 0), (.getfield 263, 3, 10, 30), (.if_icmp .ge 126, 3, 0, 0)] (by decide +kernel) (Nat.le_refl _) (Nat.le_refl _) (fun K R hK hR => ?_)
        simp only [↓rx_aload_n0, ↓rx_getfield, ↓rx_if_icmp_ge, ↓rx_iload, ↓rx_nil, ↓ry_i2, ↓ry_li0s, ↓ry_li0z, ↓ry_lr0s, ↓ry_lr0z, ↓ry_obu, ↓ry_r1, ↓re_F30, ↓re_ob, n1, y1, y2, y3, y4, rz_set, rz_nol, rz_clr, List.set_cons_zero, List.set_cons_succ, rz_tr, Nat.reduceAdd, Int.reduceAdd, Int.reduceToNat, Int.reduceSub, Int.reduceNeg, Int.cast_ofNat_Int]
        try simp (disch := omega) only [n1, y1, y2, y3, y4, pk_us, pk_un, va_up_self, va_up_ne, nI_add, pk_mul, nI_clamp, vp_inT, nI_ltI, nI_leI, nI_eqI, pk_sub, true_and, and_true]
        refine ⟨fun q15 => by omega, fun q15 => hK _ _ _ _ ?_⟩
        refine rz_blk' [(.iload 10, 2, 0, 0), (.ifCond .ne 121, 3, 0, 0)] (by decide +kernel) (Nat.le_refl _) (Nat.le_refl _) (fun K R hK hR => ?_)
        simp only [↓rx_ifCond_ne, ↓rx_iload, ↓rx_nil, ↓ry_i1, ↓ry_li0s, ↓ry_li0z, n1, y1, y2, y3, y4, rz_set, rz_nol, rz_clr, List.set_cons_zero, List.set_cons_succ, rz_tr, Nat.reduceAdd, Int.reduceAdd, Int.reduceToNat, Int.reduceSub, Int.reduceNeg, Int.cast_ofNat_Int]
        try simp (disch := omega) only [n1, y1, y2, y3, y4, pk_us, pk_un, va_up_self, va_up_ne, nI_add, pk_mul, nI_clamp, vp_inT, nI_ltI, nI_leI, nI_eqI, pk_sub, true_and, and_true]
        refine ⟨fun q16 => by first | exact absurd rfl q16 | exact absurd trivial q16, fun q16 => hK _ _ _ _ ?_⟩
        refine rz_blk' [(.aload_n 0, 1, 0, 0), (.getfield 89, 3, 10, 31), (.iload 11, 2, 0, 0), (.iaload, 1, 0, 0), (.iload_n 1, 1, 0, 0), (.if_icmp .ne 42, 3, 0, 0)] (by decide +kernel) (Nat.le_refl _) (Nat.le_refl _) (fun K R hK hR => ?_)
        simp only [↓rx_aload_n0, ↓rx_getfield, ↓rx_iaload, ↓rx_if_icmp_ne, ↓rx_iload, ↓rx_iload_n1, ↓rx_nil, ↓ry_i2, ↓ry_iau, ↓ry_li0s, ↓ry_li0z, ↓ry_lr0s, ↓ry_lr0z, ↓ry_obu, ↓ry_r1, ↓ry_ri, true_and, re_a31, ↓re_F31, ↓re_i31, ↓re_ob, n1, y1, y2, y3, y4, rz_set, rz_nol, rz_clr, List.set_cons_zero, List.set_cons_succ, rz_tr, Nat.reduceAdd, Int.reduceAdd, Int.reduceToNat, Int.reduceSub, Int.reduceNeg, Int.cast_ofNat_Int]
        try simp (disch := omega) only [n1, y1, y2, y3, y4, pk_us, pk_un, va_up_self, va_up_ne, nI_add, pk_mul, nI_clamp, vp_inT, nI_ltI, nI_leI, nI_eqI, pk_sub, true_and, and_true]
        refine ⟨fun q17 => hK _ _ _ _ ?_, fun q17 => hK _ _ _ _ ?_⟩
        · -- 217 taken
          refine rz_blk' [(.iconst 0, 1, 0, 0), (.istore 10, 2, 0, 0)] (by decide +kernel) (Nat.le_refl _) (Nat.le_refl _) (fun K R hK hR => ?_)
          simp only [rw_c0, ↓rx_iconst, ↓rx_istore, ↓rx_nil, ↓ry_i1, n1, y1, y2, y3, y4, rz_set, rz_nol, rz_clr, List.set_cons_zero, List.set_cons_succ, rz_tr, Nat.reduceAdd, Int.reduceAdd, Int.reduceToNat, Int.reduceSub, Int.reduceNeg, Int.cast_ofNat_Int]
          try simp (disch := omega) only [n1, y1, y2, y3, y4, pk_us, pk_un, va_up_self, va_up_ne, nI_add, pk_mul, nI_clamp, vp_inT, nI_ltI, nI_leI, nI_eqI, pk_sub, true_and, and_true]
          refine hK _ _ _ _ ?_
          refine rz_blk' [(.iconst 0, 1, 0, 0), (.istore 12, 2, 0, 0)] (by decide +kernel) (Nat.le_refl _) (Nat.le_refl _) (fun K R hK hR => ?_)
          simp only [rw_c0, ↓rx_iconst, ↓rx_istore, ↓rx_nil, ↓ry_i1, n1, y1, y2, y3, y4, rz_set, rz_nol, rz_clr, List.set_cons_zero, List.set_cons_succ, rz_tr, Nat.reduceAdd, Int.reduceAdd, Int.reduceToNat, Int.reduceSub, Int.reduceNeg, Int.cast_ofNat_Int]
          try simp (disch := omega) only [n1, y1, y2, y3, y4, pk_us, pk_un, va_up_self, va_up_ne, nI_add, pk_mul, nI_clamp, vp_inT, nI_ltI, nI_leI, nI_eqI, pk_sub, true_and, and_true]
          refine hK _ _ _ _ ?_
          first
            | exact il i hiN hx RR.length 0 true (Nat.zero_add _) ⟨fun _ => ⟨by assumption, by assumption, by assumption, by assumption, fun k hk => absurd hk (Nat.not_lt_zero _)⟩, fun _ => rfl⟩
            | exact il i hiN hx RR.length 0 false (Nat.zero_add _) ⟨fun q => (by cases q), fun ⟨c1, c2, c3, c4, _⟩ => absurd c1 q17⟩
            | exact il i hiN hx RR.length 0 false (Nat.zero_add _) ⟨fun q => (by cases q), fun ⟨c1, c2, c3, c4, _⟩ => absurd c2 q17⟩
            | exact il i hiN hx RR.length 0 false (Nat.zero_add _) ⟨fun q => (by cases q), fun ⟨c1, c2, c3, c4, _⟩ => absurd c3 q17⟩
            | exact il i hiN hx RR.length 0 false (Nat.zero_add _) ⟨fun q => (by cases q), fun ⟨c1, c2, c3, c4, _⟩ => absurd c4 q17⟩
        · -- 217 not taken
          refine rz_blk' [(.aload_n 0, 1, 0, 0), (.getfield 92, 3, 10, 32), (.iload 11, 2, 0, 0), (.iaload, 1, 0, 0), (.iload_n 2, 1, 0, 0), (.if_icmp .ne 31, 3, 0, 0)] (by decide +kernel) (Nat.le_refl _) (Nat.le_refl _) (fun K R hK hR => ?_)
          simp only [↓rx_aload_n0, ↓rx_getfield, ↓rx_iaload, ↓rx_if_icmp_ne, ↓rx_iload, ↓rx_iload_n2, ↓rx_nil, ↓ry_i2, ↓ry_iau, ↓ry_li0s, ↓ry_li0z, ↓ry_lr0s, ↓ry_lr0z, ↓ry_obu, ↓ry_r1, ↓ry_ri, true_and, re_a32, ↓re_F32, ↓re_i32, ↓re_ob, n1, y1, y2, y3, y4, rz_set, rz_nol, rz_clr, List.set_cons_zero, List.set_cons_succ, rz_tr, Nat.reduceAdd, Int.reduceAdd, Int.reduceToNat, Int.reduceSub, Int.reduceNeg, Int.cast_ofNat_Int]
          try simp (disch := omega) only [n1, y1, y2, y3, y4, pk_us, pk_un, va_up_self, va_up_ne, nI_add, pk_mul, nI_clamp, vp_inT, nI_ltI, nI_leI, nI_eqI, pk_sub, true_and, and_true]
          refine ⟨fun q18 => hK _ _ _ _ ?_, fun q18 => hK _ _ _ _ ?_⟩
          · -- 228 taken
            refine rz_blk' [(.iconst 0, 1, 0, 0), (.istore 10, 2, 0, 0)] (by decide +kernel) (Nat.le_refl _) (Nat.le_refl _) (fun K R hK hR => ?_)
            simp only [rw_c0, ↓rx_iconst, ↓rx_istore, ↓rx_nil, ↓ry_i1, n1, y1, y2, y3, y4, rz_set, rz_nol, rz_clr, List.set_cons_zero, List.set_cons_succ, rz_tr, Nat.reduceAdd, Int.reduceAdd, Int.reduceToNat, Int.reduceSub, Int.reduceNeg, Int.cast_ofNat_Int]
            try simp (disch := omega) only [n1, y1, y2, y3, y4, pk_us, pk_un, va_up_self, va_up_ne, nI_add, pk_mul, nI_clamp, vp_inT, nI_ltI, nI_leI, nI_eqI, pk_sub, true_and, and_true]
            refine hK _ _ _ _ ?_
            refine rz_blk' [(.iconst 0, 1, 0, 0), (.istore 12, 2, 0, 0)] (by decide +kernel) (Nat.le_refl _) (Nat.le_refl _) (fun K R hK hR => ?_)
            simp only [rw_c0, ↓rx_iconst, ↓rx_istore, ↓rx_nil, ↓ry_i1, n1, y1, y2, y3, y4, rz_set, rz_nol, rz_clr, List.set_cons_zero, List.set_cons_succ, rz_tr, Nat.reduceAdd, Int.reduceAdd, Int.reduceToNat, Int.reduceSub, Int.reduceNeg, Int.cast_ofNat_Int]
            try simp (disch := omega) only [n1, y1, y2, y3, y4, pk_us, pk_un, va_up_self, va_up_ne, nI_add, pk_mul, nI_clamp, vp_inT, nI_ltI, nI_leI, nI_eqI, pk_sub, true_and, and_true]
            refine hK _ _ _ _ ?_
            first
              | exact il i hiN hx RR.length 0 true (Nat.zero_add _) ⟨fun _ => ⟨by assumption, by assumption, by assumption, by assumption, fun k hk => absurd hk (Nat.not_lt_zero _)⟩, fun _ => rfl⟩
              | exact il i hiN hx RR.length 0 false (Nat.zero_add _) ⟨fun q => (by cases q), fun ⟨c1, c2, c3, c4, _⟩ => absurd c1 q18⟩
              | exact il i hiN hx RR.length 0 false (Nat.zero_add _) ⟨fun q => (by cases q), fun ⟨c1, c2, c3, c4, _⟩ => absurd c2 q18⟩
              | exact il i hiN hx RR.length 0 false (Nat.zero_add _) ⟨fun q => (by cases q), fun ⟨c1, c2, c3, c4, _⟩ => absurd c3 q18⟩
              | exact il i hiN hx RR.length 0 false (Nat.zero_add _) ⟨fun q => (by cases q), fun ⟨c1, c2, c3, c4, _⟩ => absurd c4 q18⟩
          · -- 228 not taken
            refine rz_blk' [(.aload_n 0, 1, 0, 0), (.getfield 95, 3, 10, 33), (.iload 11, 2, 0, 0), (.iaload, 1, 0, 0), (.iload 7, 2, 0, 0), (.if_icmp .ne 19, 3, 0, 0)] (by decide +kernel) (Nat.le_refl _) (Nat.le_refl _) (fun K R hK hR => ?_)
            simp only [↓rx_aload_n0, ↓rx_getfield, ↓rx_iaload, ↓rx_if_icmp_ne, ↓rx_iload, ↓rx_nil, ↓ry_i2, ↓ry_iau, ↓ry_li0s, ↓ry_li0z, ↓ry_lr0s, ↓ry_lr0z, ↓ry_obu, ↓ry_r1, ↓ry_ri, true_and, re_a33, ↓re_F33, ↓re_i33, ↓re_ob, n1, y1, y2, y3, y4, rz_set, rz_nol, rz_clr, List.set_cons_zero, List.set_cons_succ, rz_tr, Nat.reduceAdd, Int.reduceAdd, Int.reduceToNat, Int.reduceSub, Int.reduceNeg, Int.cast_ofNat_Int]
            try simp (disch := omega) only [n1, y1, y2, y3, y4, pk_us, pk_un, va_up_self, va_up_ne, nI_add, pk_mul, nI_clamp, vp_inT, nI_ltI, nI_leI, nI_eqI, pk_sub, true_and, and_true]
            refine ⟨fun q19 => hK _ _ _ _ ?_, fun q19 => hK _ _ _ _ ?_⟩
            · -- 240 taken
              refine rz_blk' [(.iconst 0, 1, 0, 0), (.istore 10, 2, 0, 0)] (by decide +kernel) (Nat.le_refl _) (Nat.le_refl _) (fun K R hK hR => ?_)
              simp only [rw_c0, ↓rx_iconst, ↓rx_istore, ↓rx_nil, ↓ry_i1, n1, y1, y2, y3, y4, rz_set, rz_nol, rz_clr, List.set_cons_zero, List.set_cons_succ, rz_tr, Nat.reduceAdd, Int.reduceAdd, Int.reduceToNat, Int.reduceSub, Int.reduceNeg, Int.cast_ofNat_Int]
              try simp (disch := omega) only [n1, y1, y2, y3, y4, pk_us, pk_un, va_up_self, va_up_ne, nI_add, pk_mul, nI_clamp, vp_inT, nI_ltI, nI_leI, nI_eqI, pk_sub, true_and, and_true]
              refine hK _ _ _ _ ?_
              refine rz_blk' [(.iconst 0, 1, 0, 0), (.istore 12, 2, 0, 0)] (by decide +kernel) (Nat.le_refl _) (Nat.le_refl _) (fun K R hK hR => ?_)
              simp only [rw_c0, ↓rx_iconst, ↓rx_istore, ↓rx_nil, ↓ry_i1, n1, y1, y2, y3, y4, rz_set, rz_nol, rz_clr, List.set_cons_zero, List.set_cons_succ, rz_tr, Nat.reduceAdd, Int.reduceAdd, Int.reduceToNat, Int.reduceSub, Int.reduceNeg, Int.cast_ofNat_Int]
              try simp (disch := omega) only [n1, y1, y2, y3, y4, pk_us, pk_un, va_up_self, va_up_ne, nI_add, pk_mul, nI_clamp, vp_inT, nI_ltI, nI_leI, nI_eqI, pk_sub, true_and, and_true]
              refine hK _ _ _ _ ?_
              first
                | exact il i hiN hx RR.length 0 true (Nat.zero_add _) ⟨fun _ => ⟨by assumption, by assumption, by assumption, by assumption, fun k hk => absurd hk (Nat.not_lt_zero _)⟩, fun _ => rfl⟩
                | exact il i hiN hx RR.length 0 false (Nat.zero_add _) ⟨fun q => (by cases q), fun ⟨c1, c2, c3, c4, _⟩ => absurd c1 q19⟩
                | exact il i hiN hx RR.length 0 false (Nat.zero_add _) ⟨fun q => (by cases q), fun ⟨c1, c2, c3, c4, _⟩ => absurd c2 q19⟩
                | exact il i hiN hx RR.length 0 false (Nat.zero_add _) ⟨fun q => (by cases q), fun ⟨c1, c2, c3, c4, _⟩ => absurd c3 q19⟩
                | exact il i hiN hx RR.length 0 false (Nat.zero_add _) ⟨fun q => (by cases q), fun ⟨c1, c2, c3, c4, _⟩ => absurd c4 q19⟩
            · -- 240 not taken
              refine rz_blk' [(.aload_n 0, 1, 0, 0), (.getfield 98, 3, 10, 34), (.iload 11, 2, 0, 0), (.iaload, 1, 0, 0), (.iload 8, 2, 0, 0), (.if_icmp .ne 7, 3, 0, 0)] (by decide +kernel) (Nat.le_refl _) (Nat.le_refl _) (fun K R hK hR => ?_)
              simp only [↓rx_aload_n0, ↓rx_getfield, ↓rx_iaload, ↓rx_if_icmp_ne, ↓rx_iload, ↓rx_nil, ↓ry_i2, ↓ry_iau, ↓ry_li0s, ↓ry_li0z, ↓ry_lr0s, ↓ry_lr0z, ↓ry_obu, ↓ry_r1, ↓ry_ri, true_and, re_a34, ↓re_F34, ↓re_i34, ↓re_ob, n1, y1, y2, y3, y4, rz_set, rz_nol, rz_clr, List.set_cons_zero, List.set_cons_succ, rz_tr, Nat.reduceAdd, Int.reduceAdd, Int.reduceToNat, Int.reduceSub, Int.reduceNeg, Int.cast_ofNat_Int]
              try simp (disch := omega) only [n1, y1, y2, y3, y4, pk_us, pk_un, va_up_self, va_up_ne, nI_add, pk_mul, nI_clamp, vp_inT, nI_ltI, nI_leI, nI_eqI, pk_sub, true_and, and_true]
              refine ⟨fun q20 => hK _ _ _ _ ?_, fun q20 => hK _ _ _ _ ?_⟩
              · -- 252 taken
                refine rz_blk' [(.iconst 0, 1, 0, 0), (.istore 10, 2, 0, 0)] (by decide +kernel) (Nat.le_refl _) (Nat.le_refl _) (fun K R hK hR => ?_)
                simp only [rw_c0, ↓rx_iconst, ↓rx_istore, ↓rx_nil, ↓ry_i1, n1, y1, y2, y3, y4, rz_set, rz_nol, rz_clr, List.set_cons_zero, List.set_cons_succ, rz_tr, Nat.reduceAdd, Int.reduceAdd, Int.reduceToNat, Int.reduceSub, Int.reduceNeg, Int.cast_ofNat_Int]
                try simp (disch := omega) only [n1, y1, y2, y3, y4, pk_us, pk_un, va_up_self, va_up_ne, nI_add, pk_mul, nI_clamp, vp_inT, nI_ltI, nI_leI, nI_eqI, pk_sub, true_and, and_true]
                refine hK _ _ _ _ ?_
                refine rz_blk' [(.iconst 0, 1, 0, 0), (.istore 12, 2, 0, 0)] (by decide +kernel) (Nat.le_refl _) (Nat.le_refl _) (fun K R hK hR => ?_)
                simp only [rw_c0, ↓rx_iconst, ↓rx_istore, ↓rx_nil, ↓ry_i1, n1, y1, y2, y3, y4, rz_set, rz_nol, rz_clr, List.set_cons_zero, List.set_cons_succ, rz_tr, Nat.reduceAdd, Int.reduceAdd, Int.reduceToNat, Int.reduceSub, Int.reduceNeg, Int.cast_ofNat_Int]
                try simp (disch := omega) only [n1, y1, y2, y3, y4, pk_us, pk_un, va_up_self, va_up_ne, nI_add, pk_mul, nI_clamp, vp_inT, nI_ltI, nI_leI, nI_eqI, pk_sub, true_and, and_true]
                refine hK _ _ _ _ ?_
                first
                  | exact il i hiN hx RR.length 0 true (Nat.zero_add _) ⟨fun _ => ⟨by assumption, by assumption, by assumption, by assumption, fun k hk => absurd hk (Nat.not_lt_zero _)⟩, fun _ => rfl⟩
                  | exact il i hiN hx RR.length 0 false (Nat.zero_add _) ⟨fun q => (by cases q), fun ⟨c1, c2, c3, c4, _⟩ => absurd c1 q20⟩
                  | exact il i hiN hx RR.length 0 false (Nat.zero_add _) ⟨fun q => (by cases q), fun ⟨c1, c2, c3, c4, _⟩ => absurd c2 q20⟩
                  | exact il i hiN hx RR.length 0 false (Nat.zero_add _) ⟨fun q => (by cases q), fun ⟨c1, c2, c3, c4, _⟩ => absurd c3 q20⟩
                  | exact il i hiN hx RR.length 0 false (Nat.zero_add _) ⟨fun q => (by cases q), fun ⟨c1, c2, c3, c4, _⟩ => absurd c4 q20⟩
              · -- 252 not taken
                refine rz_blk' [(.iconst 1, 1, 0, 0), (.goto 4, 3, 0, 0)] (by decide +kernel) (Nat.le_refl _) (Nat.le_refl _) (fun K R hK hR => ?_)
                simp only [rw_c1, ↓rx_goto, ↓rx_iconst, ↓rx_nil, n1, y1, y2, y3, y4, rz_set, rz_nol, rz_clr, List.set_cons_zero, List.set_cons_succ, rz_tr, Nat.reduceAdd, Int.reduceAdd, Int.reduceToNat, Int.reduceSub, Int.reduceNeg, Int.cast_ofNat_Int]
                try simp (disch := omega) only [n1, y1, y2, y3, y4, pk_us, pk_un, va_up_self, va_up_ne, nI_add, pk_mul, nI_clamp, vp_inT, nI_ltI, nI_leI, nI_eqI, pk_sub, true_and, and_true]
                refine hK _ _ _ _ ?_
                refine rz_blk' [(.istore 10, 2, 0, 0)] (by decide +kernel) (Nat.le_refl _) (Nat.le_refl _) (fun K R hK hR => ?_)
                simp only [↓rx_istore, ↓rx_nil, ↓ry_i1, n1, y1, y2, y3, y4, rz_set, rz_nol, rz_clr, List.set_cons_zero, List.set_cons_succ, rz_tr, Nat.reduceAdd, Int.reduceAdd, Int.reduceToNat, Int.reduceSub, Int.reduceNeg, Int.cast_ofNat_Int]
                try simp (disch := omega) only [n1, y1, y2, y3, y4, pk_us, pk_un, va_up_self, va_up_ne, nI_add, pk_mul, nI_clamp, vp_inT, nI_ltI, nI_leI, nI_eqI, pk_sub, true_and, and_true]
                refine hK _ _ _ _ ?_
                refine rz_blk' [(.iconst 0, 1, 0, 0), (.istore 12, 2, 0, 0)] (by decide +kernel) (Nat.le_refl _) (Nat.le_refl _) (fun K R hK hR => ?_)
                simp only [rw_c0, ↓rx_iconst, ↓rx_istore, ↓rx_nil, ↓ry_i1, n1, y1, y2, y3, y4, rz_set, rz_nol, rz_clr, List.set_cons_zero, List.set_cons_succ, rz_tr, Nat.reduceAdd, Int.reduceAdd, Int.reduceToNat, Int.reduceSub, Int.reduceNeg, Int.cast_ofNat_Int]
                try simp (disch := omega) only [n1, y1, y2, y3, y4, pk_us, pk_un, va_up_self, va_up_ne, nI_add, pk_mul, nI_clamp, vp_inT, nI_ltI, nI_leI, nI_eqI, pk_sub, true_and, and_true]
                refine hK _ _ _ _ ?_
                first
                  | exact il i hiN hx RR.length 0 true (Nat.zero_add _) ⟨fun _ => ⟨by assumption, by assumption, by assumption, by assumption, fun k hk => absurd hk (Nat.not_lt_zero _)⟩, fun _ => rfl⟩
                  | exact il i hiN hx RR.length 0 false (Nat.zero_add _) ⟨fun q => (by cases q), fun ⟨c1, c2, c3, c4, _⟩ => absurd c1 q20⟩
                  | exact il i hiN hx RR.length 0 false (Nat.zero_add _) ⟨fun q => (by cases q), fun ⟨c1, c2, c3, c4, _⟩ => absurd c2 q20⟩
                  | exact il i hiN hx RR.length 0 false (Nat.zero_add _) ⟨fun q => (by cases q), fun ⟨c1, c2, c3, c4, _⟩ => absurd c3 q20⟩
                  | exact il i hiN hx RR.length 0 false (Nat.zero_add _) ⟨fun q => (by cases q), fun ⟨c1, c2, c3, c4, _⟩ => absurd c4 q20⟩
  have cl : ∀ (j i : Nat), i + j = RR.length → rz_T w (d + 1) 0 0 m_Mod_follow 0 0 134 [some (.ref a), some (.int (nI p)), some (.int (nI q)), some (.int (rz_b b)), some (.int (nI o)), some (.int (nI (lcpn u v))), some (.int (rz_b n.2.2.1)), some (.int (nI (xn_sd n))), some (.int (nI (RR).length)), some (.int (nI N.length)), some (.int (nI i)), none, none] [] (re_put G a I (va_up A 35 (cp (A 35) (2100 * N.length) (wsg RR) 0 i))) Q := by
    intro j
    induction j with
    | zero =>
      intro i hij
      have hi : i = RR.length := by omega
      rw [hi, hB1]
      refine rz_blk' [(.iload 10, 2, 0, 0), (.iload 8, 2, 0, 0), (.if_icmp .ge 51, 3, 0, 0)] (by decide +kernel) (Nat.le_refl _) (Nat.le_refl _) (fun K R hK hR => ?_)
      simp only [↓rx_if_icmp_ge, ↓rx_iload, ↓rx_nil, ↓ry_i2, ↓ry_li0s, ↓ry_li0z, rz_set, rz_nol, rz_clr, List.set_cons_zero, List.set_cons_succ, rz_tr, Nat.reduceAdd, Int.reduceAdd, Int.reduceToNat, Int.reduceSub, Int.reduceNeg, Int.cast_ofNat_Int]
      try simp (disch := omega) only [pk_us, pk_un, va_up_self, va_up_ne, nI_add, pk_mul, nI_clamp, vp_inT, nI_ltI, nI_leI, nI_eqI, pk_sub, true_and, and_true]
      refine ⟨fun q21 => hK _ _ _ _ ?_, fun q21 => by omega⟩
      refine rz_blk' [(.iconst 0, 1, 0, 0), (.istore 10, 2, 0, 0)] (by decide +kernel) (Nat.le_refl _) (Nat.le_refl _) (fun K R hK hR => ?_)
      simp only [rw_c0, ↓rx_iconst, ↓rx_istore, ↓rx_nil, ↓ry_i1, rz_set, rz_nol, rz_clr, List.set_cons_zero, List.set_cons_succ, rz_tr, Nat.reduceAdd, Int.reduceAdd, Int.reduceToNat, Int.reduceSub, Int.reduceNeg, Int.cast_ofNat_Int]
      try simp (disch := omega) only [pk_us, pk_un, va_up_self, va_up_ne, nI_add, pk_mul, nI_clamp, vp_inT, nI_ltI, nI_leI, nI_eqI, pk_sub, true_and, and_true]
      refine hK _ _ _ _ ?_
      refine rz_blk' [(.iconst 0, 1, 0, 0), (.istore 11, 2, 0, 0)] (by decide +kernel) (Nat.le_refl _) (Nat.le_refl _) (fun K R hK hR => ?_)
      simp only [rw_c0, ↓rx_iconst, ↓rx_istore, ↓rx_nil, ↓ry_i1, rz_set, rz_nol, rz_clr, List.set_cons_zero, List.set_cons_succ, rz_tr, Nat.reduceAdd, Int.reduceAdd, Int.reduceToNat, Int.reduceSub, Int.reduceNeg, Int.cast_ofNat_Int]
      try simp (disch := omega) only [pk_us, pk_un, va_up_self, va_up_ne, nI_add, pk_mul, nI_clamp, vp_inT, nI_ltI, nI_leI, nI_eqI, pk_sub, true_and, and_true]
      refine hK _ _ _ _ ?_
      exact sl N.length 0 false _ (Nat.zero_add _) (fun q => by cases q) (fun _ k _ hk => absurd hk (Nat.not_lt_zero _))
    | succ j ih =>
      intro i hij
      have hiF : i < RR.length := by omega
      have ih := ih (i + 1) (by omega)
      rw [← cp_s, Nat.zero_add, wsg_at hiF] at ih
      rcases hrs i hiF with ⟨e0, e1⟩ | ⟨e0, e1⟩
      · rw [e0] at ih ⊢
        refine rz_blk' [(.iload 10, 2, 0, 0), (.iload 8, 2, 0, 0), (.if_icmp .ge 51, 3, 0, 0)] (by decide +kernel) (Nat.le_refl _) (Nat.le_refl _) (fun K R hK hR => ?_)
        simp only [↓rx_if_icmp_ge, ↓rx_iload, ↓rx_nil, ↓ry_i2, ↓ry_li0s, ↓ry_li0z, e1, re_a35, ↓re_i35, rz_set, rz_nol, rz_clr, List.set_cons_zero, List.set_cons_succ, rz_tr, Nat.reduceAdd, Int.reduceAdd, Int.reduceToNat, Int.reduceSub, Int.reduceNeg, Int.cast_ofNat_Int]
        try simp (disch := omega) only [e1, pk_us, pk_un, va_up_self, va_up_ne, nI_add, pk_mul, nI_clamp, vp_inT, nI_ltI, nI_leI, nI_eqI, pk_sub, true_and, and_true]
        refine ⟨fun q22 => by omega, fun q22 => hK _ _ _ _ ?_⟩
        refine rz_blk' [(.aload_n 0, 1, 0, 0), (.getfield 102, 3, 10, 35), (.sipush 2100, 3, 0, 0), (.iload 9, 2, 0, 0), (.imul, 1, 0, 0), (.iload 10, 2, 0, 0), (.iadd, 1, 0, 0), (.iload 7, 2, 0, 0), (.ifCond .ne 16, 3, 0, 0)] (by decide +kernel) (Nat.le_refl _) (Nat.le_refl _) (fun K R hK hR => ?_)
        simp only [rw_s2100, ↓rx_aload_n0, ↓rx_getfield, ↓rx_iadd, ↓rx_ifCond_ne, ↓rx_iload, ↓rx_imul, ↓rx_nil, ↓rx_sipush, ↓ry_i1, ↓ry_i2, ↓ry_li0s, ↓ry_li0z, ↓ry_lr0s, ↓ry_lr0z, ↓ry_obu, ↓ry_r1, re_a35, ↓re_F35, ↓re_i35, ↓re_ob, e1, re_a35, ↓re_i35, rz_set, rz_nol, rz_clr, List.set_cons_zero, List.set_cons_succ, rz_tr, Nat.reduceAdd, Int.reduceAdd, Int.reduceToNat, Int.reduceSub, Int.reduceNeg, Int.cast_ofNat_Int]
        try simp (disch := omega) only [e1, pk_us, pk_un, va_up_self, va_up_ne, nI_add, pk_mul, nI_clamp, vp_inT, nI_ltI, nI_leI, nI_eqI, pk_sub, true_and, and_true]
        refine ⟨fun q23 => by first | exact absurd rfl q23 | exact absurd trivial q23, fun q23 => hK _ _ _ _ ?_⟩
        refine rz_blk' [(.aload_n 0, 1, 0, 0), (.getfield 83, 3, 10, 28), (.iload 5, 2, 0, 0), (.iload 10, 2, 0, 0), (.iadd, 1, 0, 0), (.iaload, 1, 0, 0), (.goto 13, 3, 0, 0)] (by decide +kernel) (Nat.le_refl _) (Nat.le_refl _) (fun K R hK hR => ?_)
        simp only [↓rx_aload_n0, ↓rx_getfield, ↓rx_goto, ↓rx_iadd, ↓rx_iaload, ↓rx_iload, ↓rx_nil, ↓ry_i2, ↓ry_iau, ↓ry_li0s, ↓ry_li0z, ↓ry_lr0s, ↓ry_lr0z, ↓ry_obu, ↓ry_r1, ↓ry_ri, true_and, re_a28, ↓re_F28, ↓re_i28, ↓re_ob, e1, re_a35, ↓re_i35, rz_set, rz_nol, rz_clr, List.set_cons_zero, List.set_cons_succ, rz_tr, Nat.reduceAdd, Int.reduceAdd, Int.reduceToNat, Int.reduceSub, Int.reduceNeg, Int.cast_ofNat_Int]
        try simp (disch := omega) only [e1, pk_us, pk_un, va_up_self, va_up_ne, nI_add, pk_mul, nI_clamp, vp_inT, nI_ltI, nI_leI, nI_eqI, pk_sub, true_and, and_true]
        refine hK _ _ _ _ ?_
        refine rz_blk' [(.iastore, 1, 0, 0)] (by decide +kernel) (Nat.le_refl _) (Nat.le_refl _) (fun K R hK hR => ?_)
        simp only [↓rx_iastore, ↓rx_nil, ↓ry_iau, ↓ry_rii, true_and, e1, re_a35, ↓re_i35, rz_set, rz_nol, rz_clr, List.set_cons_zero, List.set_cons_succ, rz_tr, Nat.reduceAdd, Int.reduceAdd, Int.reduceToNat, Int.reduceSub, Int.reduceNeg, Int.cast_ofNat_Int]
        try simp (disch := omega) only [e1, pk_us, pk_un, va_up_self, va_up_ne, nI_add, pk_mul, nI_clamp, vp_inT, nI_ltI, nI_leI, nI_eqI, pk_sub, true_and, and_true]
        refine hK _ _ _ _ ?_
        refine rz_blk' [(.iinc 10 1, 3, 0, 0)] (by decide +kernel) (Nat.le_refl _) (Nat.le_refl _) (fun K R hK hR => ?_)
        simp only [rw_c1, ↓rx_iinc, ↓rx_nil, ↓ry_li0s, ↓ry_li0z, e1, re_a35, ↓re_i35, rz_set, rz_nol, rz_clr, List.set_cons_zero, List.set_cons_succ, rz_tr, Nat.reduceAdd, Int.reduceAdd, Int.reduceToNat, Int.reduceSub, Int.reduceNeg, Int.cast_ofNat_Int]
        try simp (disch := omega) only [e1, pk_us, pk_un, va_up_self, va_up_ne, nI_add, pk_mul, nI_clamp, vp_inT, nI_ltI, nI_leI, nI_eqI, pk_sub, true_and, and_true]
        refine hK _ _ _ _ ?_
        refine rz_blk' [(.goto (-52), 3, 0, 0)] (by decide +kernel) (Nat.le_refl _) (Nat.le_refl _) (fun K R hK hR => ?_)
        simp only [↓rx_goto, ↓rx_nil, e1, re_a35, ↓re_i35, rz_set, rz_nol, rz_clr, List.set_cons_zero, List.set_cons_succ, rz_tr, Nat.reduceAdd, Int.reduceAdd, Int.reduceToNat, Int.reduceSub, Int.reduceNeg, Int.cast_ofNat_Int]
        try simp (disch := omega) only [e1, pk_us, pk_un, va_up_self, va_up_ne, nI_add, pk_mul, nI_clamp, vp_inT, nI_ltI, nI_leI, nI_eqI, pk_sub, true_and, and_true]
        refine hK _ _ _ _ ?_
        rw [re_vv]
        exact ih
      · have hz : (nI (xn_sd n) = 0) = False := by
          rw [show (0 : Int32) = nI 0 from rfl, nI_eqI (by omega) (by decide)]; simp [e0]
        refine rz_blk' [(.iload 10, 2, 0, 0), (.iload 8, 2, 0, 0), (.if_icmp .ge 51, 3, 0, 0)] (by decide +kernel) (Nat.le_refl _) (Nat.le_refl _) (fun K R hK hR => ?_)
        simp only [↓rx_if_icmp_ge, ↓rx_iload, ↓rx_nil, ↓ry_i2, ↓ry_li0s, ↓ry_li0z, e1, re_a35, ↓re_i35, rz_set, rz_nol, rz_clr, List.set_cons_zero, List.set_cons_succ, rz_tr, Nat.reduceAdd, Int.reduceAdd, Int.reduceToNat, Int.reduceSub, Int.reduceNeg, Int.cast_ofNat_Int]
        try simp (disch := omega) only [e1, hz, pk_us, pk_un, va_up_self, va_up_ne, nI_add, pk_mul, nI_clamp, vp_inT, nI_ltI, nI_leI, nI_eqI, pk_sub, true_and, and_true]
        refine ⟨fun q24 => by omega, fun q24 => hK _ _ _ _ ?_⟩
        refine rz_blk' [(.aload_n 0, 1, 0, 0), (.getfield 102, 3, 10, 35), (.sipush 2100, 3, 0, 0), (.iload 9, 2, 0, 0), (.imul, 1, 0, 0), (.iload 10, 2, 0, 0), (.iadd, 1, 0, 0), (.iload 7, 2, 0, 0), (.ifCond .ne 16, 3, 0, 0)] (by decide +kernel) (Nat.le_refl _) (Nat.le_refl _) (fun K R hK hR => ?_)
        simp only [rw_s2100, ↓rx_aload_n0, ↓rx_getfield, ↓rx_iadd, ↓rx_ifCond_ne, ↓rx_iload, ↓rx_imul, ↓rx_nil, ↓rx_sipush, ↓ry_i1, ↓ry_i2, ↓ry_li0s, ↓ry_li0z, ↓ry_lr0s, ↓ry_lr0z, ↓ry_obu, ↓ry_r1, re_a35, ↓re_F35, ↓re_i35, ↓re_ob, e1, re_a35, ↓re_i35, rz_set, rz_nol, rz_clr, List.set_cons_zero, List.set_cons_succ, rz_tr, Nat.reduceAdd, Int.reduceAdd, Int.reduceToNat, Int.reduceSub, Int.reduceNeg, Int.cast_ofNat_Int]
        try simp (disch := omega) only [e1, hz, pk_us, pk_un, va_up_self, va_up_ne, nI_add, pk_mul, nI_clamp, vp_inT, nI_ltI, nI_leI, nI_eqI, pk_sub, true_and, and_true]
        refine ⟨fun q25 => hK _ _ _ _ ?_, fun q25 => absurd q25 (by simp)⟩
        refine rz_blk' [(.aload_n 0, 1, 0, 0), (.getfield 86, 3, 10, 29), (.iload 5, 2, 0, 0), (.iload 10, 2, 0, 0), (.iadd, 1, 0, 0), (.iaload, 1, 0, 0), (.iastore, 1, 0, 0)] (by decide +kernel) (Nat.le_refl _) (Nat.le_refl _) (fun K R hK hR => ?_)
        simp only [↓rx_aload_n0, ↓rx_getfield, ↓rx_iadd, ↓rx_iaload, ↓rx_iastore, ↓rx_iload, ↓rx_nil, ↓ry_i2, ↓ry_iau, ↓ry_li0s, ↓ry_li0z, ↓ry_lr0s, ↓ry_lr0z, ↓ry_obu, ↓ry_r1, ↓ry_ri, ↓ry_rii, true_and, re_a29, ↓re_F29, ↓re_i29, ↓re_ob, e1, re_a35, ↓re_i35, rz_set, rz_nol, rz_clr, List.set_cons_zero, List.set_cons_succ, rz_tr, Nat.reduceAdd, Int.reduceAdd, Int.reduceToNat, Int.reduceSub, Int.reduceNeg, Int.cast_ofNat_Int]
        try simp (disch := omega) only [e1, hz, pk_us, pk_un, va_up_self, va_up_ne, nI_add, pk_mul, nI_clamp, vp_inT, nI_ltI, nI_leI, nI_eqI, pk_sub, true_and, and_true]
        refine hK _ _ _ _ ?_
        refine rz_blk' [(.iinc 10 1, 3, 0, 0)] (by decide +kernel) (Nat.le_refl _) (Nat.le_refl _) (fun K R hK hR => ?_)
        simp only [rw_c1, ↓rx_iinc, ↓rx_nil, ↓ry_li0s, ↓ry_li0z, e1, re_a35, ↓re_i35, rz_set, rz_nol, rz_clr, List.set_cons_zero, List.set_cons_succ, rz_tr, Nat.reduceAdd, Int.reduceAdd, Int.reduceToNat, Int.reduceSub, Int.reduceNeg, Int.cast_ofNat_Int]
        try simp (disch := omega) only [e1, hz, pk_us, pk_un, va_up_self, va_up_ne, nI_add, pk_mul, nI_clamp, vp_inT, nI_ltI, nI_leI, nI_eqI, pk_sub, true_and, and_true]
        refine hK _ _ _ _ ?_
        refine rz_blk' [(.goto (-52), 3, 0, 0)] (by decide +kernel) (Nat.le_refl _) (Nat.le_refl _) (fun K R hK hR => ?_)
        simp only [↓rx_goto, ↓rx_nil, e1, re_a35, ↓re_i35, rz_set, rz_nol, rz_clr, List.set_cons_zero, List.set_cons_succ, rz_tr, Nat.reduceAdd, Int.reduceAdd, Int.reduceToNat, Int.reduceSub, Int.reduceNeg, Int.cast_ofNat_Int]
        try simp (disch := omega) only [e1, hz, pk_us, pk_un, va_up_self, va_up_ne, nI_add, pk_mul, nI_clamp, vp_inT, nI_ltI, nI_leI, nI_eqI, pk_sub, true_and, and_true]
        refine hK _ _ _ _ ?_
        rw [re_vv]
        exact ih
  have hcl := c_Mod_alike (w := w) (d := d) (G := G) (a := a) h12
  have hfin : ∀ z5 z6 z7 z8 z9, z5 = nI (lcpn u v) → z6 = rz_b n.2.2.1 → z7 = nI (xn_sd n) → z8 = nI RR.length → z9 = nI N.length → rz_T w (d + 1) 0 0 m_Mod_follow 0 0 134 [some (.ref a), some (.int (nI p)), some (.int (nI q)), some (.int (rz_b b)), some (.int (nI o)), some (.int z5), some (.int z6), some (.int z7), some (.int z8), some (.int z9), some (.int (nI 0)), none, none] [] (re_put G a I A) Q := by
    rintro z5 z6 z7 z8 z9 rfl rfl rfl rfl rfl
    have := cl RR.length 0 (Nat.zero_add _)
    rw [cp_0, re_ve] at this
    exact this
  have h65 : ∀ z6, z6 = rz_b n.2.2.1 → rz_T w (d + 1) 0 0 m_Mod_follow 0 0 65 [some (.ref a), some (.int (nI p)), some (.int (nI q)), some (.int (rz_b b)), some (.int (nI o)), some (.int (nI (lcpn u v))), some (.int z6), none, none, none, none, none, none] [] (re_put G a I A) Q := by
    rintro z6 rfl
    rcases hcs with ⟨e1, e2⟩ | ⟨e1, e2, e3, e4, e5⟩ | ⟨e1, e2, e3, e4, e5⟩
    · have s1 : n.2.2.1 = true := by rw [e2]
      have s2 : xn_sd n = 2 := by rw [e2]; simp [xn_sd]
      have s3 : RR = [] := by rw [← hRR, e2]; simp [xn_rs]
      rw [s1, s2, s3] at hfin
      rw [s1]
      refine rz_blk' [(.iload 6, 2, 0, 0), (.ifCond .eq 7, 3, 0, 0)] (by decide +kernel) (Nat.le_refl _) (Nat.le_refl _) (fun K R hK hR => ?_)
      simp only [↓rx_ifCond_eq, ↓rx_iload, ↓rx_nil, ↓ry_i1, ↓ry_li0s, ↓ry_li0z, n1, rz_set, rz_nol, rz_clr, List.set_cons_zero, List.set_cons_succ, rz_tr, Nat.reduceAdd, Int.reduceAdd, Int.reduceToNat, Int.reduceSub, Int.reduceNeg, Int.cast_ofNat_Int]
      try simp (disch := omega) only [n1, pk_us, pk_un, va_up_self, va_up_ne, nI_add, pk_mul, nI_clamp, vp_inT, nI_ltI, nI_leI, nI_eqI, pk_sub, true_and, and_true]
      refine ⟨fun q26 => absurd q26 (by decide), fun q26 => hK _ _ _ _ ?_⟩
      refine rz_blk' [(.iconst 2, 1, 0, 0), (.goto 19, 3, 0, 0)] (by decide +kernel) (Nat.le_refl _) (Nat.le_refl _) (fun K R hK hR => ?_)
      simp only [rw_c2, ↓rx_goto, ↓rx_iconst, ↓rx_nil, n1, rz_set, rz_nol, rz_clr, List.set_cons_zero, List.set_cons_succ, rz_tr, Nat.reduceAdd, Int.reduceAdd, Int.reduceToNat, Int.reduceSub, Int.reduceNeg, Int.cast_ofNat_Int]
      try simp (disch := omega) only [n1, pk_us, pk_un, va_up_self, va_up_ne, nI_add, pk_mul, nI_clamp, vp_inT, nI_ltI, nI_leI, nI_eqI, pk_sub, true_and, and_true]
      refine hK _ _ _ _ ?_
      refine rz_blk' [(.istore 7, 2, 0, 0)] (by decide +kernel) (Nat.le_refl _) (Nat.le_refl _) (fun K R hK hR => ?_)
      simp only [↓rx_istore, ↓rx_nil, ↓ry_i1, n1, rz_set, rz_nol, rz_clr, List.set_cons_zero, List.set_cons_succ, rz_tr, Nat.reduceAdd, Int.reduceAdd, Int.reduceToNat, Int.reduceSub, Int.reduceNeg, Int.cast_ofNat_Int]
      try simp (disch := omega) only [n1, pk_us, pk_un, va_up_self, va_up_ne, nI_add, pk_mul, nI_clamp, vp_inT, nI_ltI, nI_leI, nI_eqI, pk_sub, true_and, and_true]
      refine hK _ _ _ _ ?_
      refine rz_blk' [(.iload 6, 2, 0, 0), (.ifCond .eq 7, 3, 0, 0)] (by decide +kernel) (Nat.le_refl _) (Nat.le_refl _) (fun K R hK hR => ?_)
      simp only [↓rx_ifCond_eq, ↓rx_iload, ↓rx_nil, ↓ry_i1, ↓ry_li0s, ↓ry_li0z, n1, rz_set, rz_nol, rz_clr, List.set_cons_zero, List.set_cons_succ, rz_tr, Nat.reduceAdd, Int.reduceAdd, Int.reduceToNat, Int.reduceSub, Int.reduceNeg, Int.cast_ofNat_Int]
      try simp (disch := omega) only [n1, pk_us, pk_un, va_up_self, va_up_ne, nI_add, pk_mul, nI_clamp, vp_inT, nI_ltI, nI_leI, nI_eqI, pk_sub, true_and, and_true]
      refine ⟨fun q27 => absurd q27 (by decide), fun q27 => hK _ _ _ _ ?_⟩
      refine rz_blk' [(.iconst 0, 1, 0, 0), (.goto 25, 3, 0, 0)] (by decide +kernel) (Nat.le_refl _) (Nat.le_refl _) (fun K R hK hR => ?_)
      simp only [rw_c0, ↓rx_goto, ↓rx_iconst, ↓rx_nil, n1, rz_set, rz_nol, rz_clr, List.set_cons_zero, List.set_cons_succ, rz_tr, Nat.reduceAdd, Int.reduceAdd, Int.reduceToNat, Int.reduceSub, Int.reduceNeg, Int.cast_ofNat_Int]
      try simp (disch := omega) only [n1, pk_us, pk_un, va_up_self, va_up_ne, nI_add, pk_mul, nI_clamp, vp_inT, nI_ltI, nI_leI, nI_eqI, pk_sub, true_and, and_true]
      refine hK _ _ _ _ ?_
      refine rz_blk' [(.istore 8, 2, 0, 0)] (by decide +kernel) (Nat.le_refl _) (Nat.le_refl _) (fun K R hK hR => ?_)
      simp only [↓rx_istore, ↓rx_nil, ↓ry_i1, n1, rz_set, rz_nol, rz_clr, List.set_cons_zero, List.set_cons_succ, rz_tr, Nat.reduceAdd, Int.reduceAdd, Int.reduceToNat, Int.reduceSub, Int.reduceNeg, Int.cast_ofNat_Int]
      try simp (disch := omega) only [n1, pk_us, pk_un, va_up_self, va_up_ne, nI_add, pk_mul, nI_clamp, vp_inT, nI_ltI, nI_leI, nI_eqI, pk_sub, true_and, and_true]
      refine hK _ _ _ _ ?_
      refine rz_blk' [(.aload_n 0, 1, 0, 0), (.getfield 263, 3, 10, 30), (.istore 9, 2, 0, 0)] (by decide +kernel) (Nat.le_refl _) (Nat.le_refl _) (fun K R hK hR => ?_)
      simp only [↓rx_aload_n0, ↓rx_getfield, ↓rx_istore, ↓rx_nil, ↓ry_i1, ↓ry_lr0s, ↓ry_lr0z, ↓ry_obu, ↓ry_r1, ↓re_F30, ↓re_ob, n1, rz_set, rz_nol, rz_clr, List.set_cons_zero, List.set_cons_succ, rz_tr, Nat.reduceAdd, Int.reduceAdd, Int.reduceToNat, Int.reduceSub, Int.reduceNeg, Int.cast_ofNat_Int]
      try simp (disch := omega) only [n1, pk_us, pk_un, va_up_self, va_up_ne, nI_add, pk_mul, nI_clamp, vp_inT, nI_ltI, nI_leI, nI_eqI, pk_sub, true_and, and_true]
      refine hK _ _ _ _ ?_
      refine rz_blk' [(.iconst 0, 1, 0, 0), (.istore 10, 2, 0, 0)] (by decide +kernel) (Nat.le_refl _) (Nat.le_refl _) (fun K R hK hR => ?_)
      simp only [rw_c0, ↓rx_iconst, ↓rx_istore, ↓rx_nil, ↓ry_i1, n1, rz_set, rz_nol, rz_clr, List.set_cons_zero, List.set_cons_succ, rz_tr, Nat.reduceAdd, Int.reduceAdd, Int.reduceToNat, Int.reduceSub, Int.reduceNeg, Int.cast_ofNat_Int]
      try simp (disch := omega) only [n1, pk_us, pk_un, va_up_self, va_up_ne, nI_add, pk_mul, nI_clamp, vp_inT, nI_ltI, nI_leI, nI_eqI, pk_sub, true_and, and_true]
      refine hK _ _ _ _ ?_
      exact hfin _ _ _ _ _ rfl rfl rfl rfl rfl
    · have s1 : n.2.2.1 = false := by rw [e5]
      have s2 : xn_sd n = 0 := by rw [e5]; simp only [xn_sd]; rw [if_neg (by simp), if_pos (by simp; omega)]
      have s3 : RR = u.drop (lcpn u v) := by rw [← hRR, e5]; simp only [xn_rs]; rw [if_neg (by simp), if_pos (by simp; omega)]
      rw [s1, s2, s3, List.length_drop] at hfin
      rw [s1]
      refine rz_blk' [(.iload 6, 2, 0, 0), (.ifCond .eq 7, 3, 0, 0)] (by decide +kernel) (Nat.le_refl _) (Nat.le_refl _) (fun K R hK hR => ?_)
      simp only [↓rx_ifCond_eq, ↓rx_iload, ↓rx_nil, ↓ry_i1, ↓ry_li0s, ↓ry_li0z, n1, l1, l2, rz_set, rz_nol, rz_clr, List.set_cons_zero, List.set_cons_succ, rz_tr, Nat.reduceAdd, Int.reduceAdd, Int.reduceToNat, Int.reduceSub, Int.reduceNeg, Int.cast_ofNat_Int]
      try simp (disch := omega) only [n1, l1, l2, pk_us, pk_un, va_up_self, va_up_ne, nI_add, pk_mul, nI_clamp, vp_inT, nI_ltI, nI_leI, nI_eqI, pk_sub, true_and, and_true]
      refine ⟨fun q28 => hK _ _ _ _ ?_, fun q28 => by first | exact absurd rfl q28 | exact absurd trivial q28⟩
      refine rz_blk' [(.aload_n 0, 1, 0, 0), (.getfield 253, 3, 10, 26), (.aload_n 0, 1, 0, 0), (.getfield 256, 3, 10, 27), (.if_icmp .le 7, 3, 0, 0)] (by decide +kernel) (Nat.le_refl _) (Nat.le_refl _) (fun K R hK hR => ?_)
      simp only [↓rx_aload_n0, ↓rx_getfield, ↓rx_if_icmp_le, ↓rx_nil, ↓ry_i2, ↓ry_lr0s, ↓ry_lr0z, ↓ry_obu, ↓ry_r1, ↓re_F26, ↓re_F27, ↓re_ob, n1, l1, l2, rz_set, rz_nol, rz_clr, List.set_cons_zero, List.set_cons_succ, rz_tr, Nat.reduceAdd, Int.reduceAdd, Int.reduceToNat, Int.reduceSub, Int.reduceNeg, Int.cast_ofNat_Int]
      try simp (disch := omega) only [n1, l1, l2, pk_us, pk_un, va_up_self, va_up_ne, nI_add, pk_mul, nI_clamp, vp_inT, nI_ltI, nI_leI, nI_eqI, pk_sub, true_and, and_true]
      refine ⟨fun q29 => by omega, fun q29 => hK _ _ _ _ ?_⟩
      refine rz_blk' [(.iconst 0, 1, 0, 0), (.goto 4, 3, 0, 0)] (by decide +kernel) (Nat.le_refl _) (Nat.le_refl _) (fun K R hK hR => ?_)
      simp only [rw_c0, ↓rx_goto, ↓rx_iconst, ↓rx_nil, n1, l1, l2, rz_set, rz_nol, rz_clr, List.set_cons_zero, List.set_cons_succ, rz_tr, Nat.reduceAdd, Int.reduceAdd, Int.reduceToNat, Int.reduceSub, Int.reduceNeg, Int.cast_ofNat_Int]
      try simp (disch := omega) only [n1, l1, l2, pk_us, pk_un, va_up_self, va_up_ne, nI_add, pk_mul, nI_clamp, vp_inT, nI_ltI, nI_leI, nI_eqI, pk_sub, true_and, and_true]
      refine hK _ _ _ _ ?_
      refine rz_blk' [(.istore 7, 2, 0, 0)] (by decide +kernel) (Nat.le_refl _) (Nat.le_refl _) (fun K R hK hR => ?_)
      simp only [↓rx_istore, ↓rx_nil, ↓ry_i1, n1, l1, l2, rz_set, rz_nol, rz_clr, List.set_cons_zero, List.set_cons_succ, rz_tr, Nat.reduceAdd, Int.reduceAdd, Int.reduceToNat, Int.reduceSub, Int.reduceNeg, Int.cast_ofNat_Int]
      try simp (disch := omega) only [n1, l1, l2, pk_us, pk_un, va_up_self, va_up_ne, nI_add, pk_mul, nI_clamp, vp_inT, nI_ltI, nI_leI, nI_eqI, pk_sub, true_and, and_true]
      refine hK _ _ _ _ ?_
      refine rz_blk' [(.iload 6, 2, 0, 0), (.ifCond .eq 7, 3, 0, 0)] (by decide +kernel) (Nat.le_refl _) (Nat.le_refl _) (fun K R hK hR => ?_)
      simp only [↓rx_ifCond_eq, ↓rx_iload, ↓rx_nil, ↓ry_i1, ↓ry_li0s, ↓ry_li0z, n1, l1, l2, rz_set, rz_nol, rz_clr, List.set_cons_zero, List.set_cons_succ, rz_tr, Nat.reduceAdd, Int.reduceAdd, Int.reduceToNat, Int.reduceSub, Int.reduceNeg, Int.cast_ofNat_Int]
      try simp (disch := omega) only [n1, l1, l2, pk_us, pk_un, va_up_self, va_up_ne, nI_add, pk_mul, nI_clamp, vp_inT, nI_ltI, nI_leI, nI_eqI, pk_sub, true_and, and_true]
      refine ⟨fun q30 => hK _ _ _ _ ?_, fun q30 => by first | exact absurd rfl q30 | exact absurd trivial q30⟩
      refine rz_blk' [(.iload 7, 2, 0, 0), (.ifCond .ne 13, 3, 0, 0)] (by decide +kernel) (Nat.le_refl _) (Nat.le_refl _) (fun K R hK hR => ?_)
      simp only [↓rx_ifCond_ne, ↓rx_iload, ↓rx_nil, ↓ry_i1, ↓ry_li0s, ↓ry_li0z, n1, l1, l2, rz_set, rz_nol, rz_clr, List.set_cons_zero, List.set_cons_succ, rz_tr, Nat.reduceAdd, Int.reduceAdd, Int.reduceToNat, Int.reduceSub, Int.reduceNeg, Int.cast_ofNat_Int]
      try simp (disch := omega) only [n1, l1, l2, pk_us, pk_un, va_up_self, va_up_ne, nI_add, pk_mul, nI_clamp, vp_inT, nI_ltI, nI_leI, nI_eqI, pk_sub, true_and, and_true]
      refine ⟨fun q31 => by first | exact absurd rfl q31 | exact absurd trivial q31, fun q31 => hK _ _ _ _ ?_⟩
      refine rz_blk' [(.aload_n 0, 1, 0, 0), (.getfield 253, 3, 10, 26), (.iload 5, 2, 0, 0), (.isub, 1, 0, 0), (.goto 10, 3, 0, 0)] (by decide +kernel) (Nat.le_refl _) (Nat.le_refl _) (fun K R hK hR => ?_)
      simp only [↓rx_aload_n0, ↓rx_getfield, ↓rx_goto, ↓rx_iload, ↓rx_isub, ↓rx_nil, ↓ry_i2, ↓ry_li0s, ↓ry_li0z, ↓ry_lr0s, ↓ry_lr0z, ↓ry_obu, ↓ry_r1, ↓re_F26, ↓re_ob, n1, l1, l2, rz_set, rz_nol, rz_clr, List.set_cons_zero, List.set_cons_succ, rz_tr, Nat.reduceAdd, Int.reduceAdd, Int.reduceToNat, Int.reduceSub, Int.reduceNeg, Int.cast_ofNat_Int]
      try simp (disch := omega) only [n1, l1, l2, pk_us, pk_un, va_up_self, va_up_ne, nI_add, pk_mul, nI_clamp, vp_inT, nI_ltI, nI_leI, nI_eqI, pk_sub, true_and, and_true]
      refine hK _ _ _ _ ?_
      refine rz_blk' [(.istore 8, 2, 0, 0)] (by decide +kernel) (Nat.le_refl _) (Nat.le_refl _) (fun K R hK hR => ?_)
      simp only [↓rx_istore, ↓rx_nil, ↓ry_i1, n1, l1, l2, rz_set, rz_nol, rz_clr, List.set_cons_zero, List.set_cons_succ, rz_tr, Nat.reduceAdd, Int.reduceAdd, Int.reduceToNat, Int.reduceSub, Int.reduceNeg, Int.cast_ofNat_Int]
      try simp (disch := omega) only [n1, l1, l2, pk_us, pk_un, va_up_self, va_up_ne, nI_add, pk_mul, nI_clamp, vp_inT, nI_ltI, nI_leI, nI_eqI, pk_sub, true_and, and_true]
      refine hK _ _ _ _ ?_
      refine rz_blk' [(.aload_n 0, 1, 0, 0), (.getfield 263, 3, 10, 30), (.istore 9, 2, 0, 0)] (by decide +kernel) (Nat.le_refl _) (Nat.le_refl _) (fun K R hK hR => ?_)
      simp only [↓rx_aload_n0, ↓rx_getfield, ↓rx_istore, ↓rx_nil, ↓ry_i1, ↓ry_lr0s, ↓ry_lr0z, ↓ry_obu, ↓ry_r1, ↓re_F30, ↓re_ob, n1, l1, l2, rz_set, rz_nol, rz_clr, List.set_cons_zero, List.set_cons_succ, rz_tr, Nat.reduceAdd, Int.reduceAdd, Int.reduceToNat, Int.reduceSub, Int.reduceNeg, Int.cast_ofNat_Int]
      try simp (disch := omega) only [n1, l1, l2, pk_us, pk_un, va_up_self, va_up_ne, nI_add, pk_mul, nI_clamp, vp_inT, nI_ltI, nI_leI, nI_eqI, pk_sub, true_and, and_true]
      refine hK _ _ _ _ ?_
      refine rz_blk' [(.iconst 0, 1, 0, 0), (.istore 10, 2, 0, 0)] (by decide +kernel) (Nat.le_refl _) (Nat.le_refl _) (fun K R hK hR => ?_)
      simp only [rw_c0, ↓rx_iconst, ↓rx_istore, ↓rx_nil, ↓ry_i1, n1, l1, l2, rz_set, rz_nol, rz_clr, List.set_cons_zero, List.set_cons_succ, rz_tr, Nat.reduceAdd, Int.reduceAdd, Int.reduceToNat, Int.reduceSub, Int.reduceNeg, Int.cast_ofNat_Int]
      try simp (disch := omega) only [n1, l1, l2, pk_us, pk_un, va_up_self, va_up_ne, nI_add, pk_mul, nI_clamp, vp_inT, nI_ltI, nI_leI, nI_eqI, pk_sub, true_and, and_true]
      refine hK _ _ _ _ ?_
      exact hfin _ _ _ _ _ rfl rfl rfl rfl rfl
    · have s1 : n.2.2.1 = false := by rw [e5]
      have s2 : xn_sd n = 1 := by rw [e5]; simp only [xn_sd]; rw [if_neg (by simp), if_neg (by simp)]
      have s3 : RR = v.drop (lcpn u v) := by rw [← hRR, e5]; simp only [xn_rs]; rw [if_neg (by simp), if_neg (by simp)]
      rw [s1, s2, s3, List.length_drop] at hfin
      rw [s1]
      refine rz_blk' [(.iload 6, 2, 0, 0), (.ifCond .eq 7, 3, 0, 0)] (by decide +kernel) (Nat.le_refl _) (Nat.le_refl _) (fun K R hK hR => ?_)
      simp only [↓rx_ifCond_eq, ↓rx_iload, ↓rx_nil, ↓ry_i1, ↓ry_li0s, ↓ry_li0z, n1, l1, l2, rz_set, rz_nol, rz_clr, List.set_cons_zero, List.set_cons_succ, rz_tr, Nat.reduceAdd, Int.reduceAdd, Int.reduceToNat, Int.reduceSub, Int.reduceNeg, Int.cast_ofNat_Int]
      try simp (disch := omega) only [n1, l1, l2, pk_us, pk_un, va_up_self, va_up_ne, nI_add, pk_mul, nI_clamp, vp_inT, nI_ltI, nI_leI, nI_eqI, pk_sub, true_and, and_true]
      refine ⟨fun q32 => hK _ _ _ _ ?_, fun q32 => by first | exact absurd rfl q32 | exact absurd trivial q32⟩
      refine rz_blk' [(.aload_n 0, 1, 0, 0), (.getfield 253, 3, 10, 26), (.aload_n 0, 1, 0, 0), (.getfield 256, 3, 10, 27), (.if_icmp .le 7, 3, 0, 0)] (by decide +kernel) (Nat.le_refl _) (Nat.le_refl _) (fun K R hK hR => ?_)
      simp only [↓rx_aload_n0, ↓rx_getfield, ↓rx_if_icmp_le, ↓rx_nil, ↓ry_i2, ↓ry_lr0s, ↓ry_lr0z, ↓ry_obu, ↓ry_r1, ↓re_F26, ↓re_F27, ↓re_ob, n1, l1, l2, rz_set, rz_nol, rz_clr, List.set_cons_zero, List.set_cons_succ, rz_tr, Nat.reduceAdd, Int.reduceAdd, Int.reduceToNat, Int.reduceSub, Int.reduceNeg, Int.cast_ofNat_Int]
      try simp (disch := omega) only [n1, l1, l2, pk_us, pk_un, va_up_self, va_up_ne, nI_add, pk_mul, nI_clamp, vp_inT, nI_ltI, nI_leI, nI_eqI, pk_sub, true_and, and_true]
      refine ⟨fun q33 => hK _ _ _ _ ?_, fun q33 => by omega⟩
      refine rz_blk' [(.iconst 1, 1, 0, 0), (.istore 7, 2, 0, 0)] (by decide +kernel) (Nat.le_refl _) (Nat.le_refl _) (fun K R hK hR => ?_)
      simp only [rw_c1, ↓rx_iconst, ↓rx_istore, ↓rx_nil, ↓ry_i1, n1, l1, l2, rz_set, rz_nol, rz_clr, List.set_cons_zero, List.set_cons_succ, rz_tr, Nat.reduceAdd, Int.reduceAdd, Int.reduceToNat, Int.reduceSub, Int.reduceNeg, Int.cast_ofNat_Int]
      try simp (disch := omega) only [n1, l1, l2, pk_us, pk_un, va_up_self, va_up_ne, nI_add, pk_mul, nI_clamp, vp_inT, nI_ltI, nI_leI, nI_eqI, pk_sub, true_and, and_true]
      refine hK _ _ _ _ ?_
      refine rz_blk' [(.iload 6, 2, 0, 0), (.ifCond .eq 7, 3, 0, 0)] (by decide +kernel) (Nat.le_refl _) (Nat.le_refl _) (fun K R hK hR => ?_)
      simp only [↓rx_ifCond_eq, ↓rx_iload, ↓rx_nil, ↓ry_i1, ↓ry_li0s, ↓ry_li0z, n1, l1, l2, rz_set, rz_nol, rz_clr, List.set_cons_zero, List.set_cons_succ, rz_tr, Nat.reduceAdd, Int.reduceAdd, Int.reduceToNat, Int.reduceSub, Int.reduceNeg, Int.cast_ofNat_Int]
      try simp (disch := omega) only [n1, l1, l2, pk_us, pk_un, va_up_self, va_up_ne, nI_add, pk_mul, nI_clamp, vp_inT, nI_ltI, nI_leI, nI_eqI, pk_sub, true_and, and_true]
      refine ⟨fun q34 => hK _ _ _ _ ?_, fun q34 => by first | exact absurd rfl q34 | exact absurd trivial q34⟩
      refine rz_blk' [(.iload 7, 2, 0, 0), (.ifCond .ne 13, 3, 0, 0)] (by decide +kernel) (Nat.le_refl _) (Nat.le_refl _) (fun K R hK hR => ?_)
      simp only [↓rx_ifCond_ne, ↓rx_iload, ↓rx_nil, ↓ry_i1, ↓ry_li0s, ↓ry_li0z, n1, l1, l2, rz_set, rz_nol, rz_clr, List.set_cons_zero, List.set_cons_succ, rz_tr, Nat.reduceAdd, Int.reduceAdd, Int.reduceToNat, Int.reduceSub, Int.reduceNeg, Int.cast_ofNat_Int]
      try simp (disch := omega) only [n1, l1, l2, pk_us, pk_un, va_up_self, va_up_ne, nI_add, pk_mul, nI_clamp, vp_inT, nI_ltI, nI_leI, nI_eqI, pk_sub, true_and, and_true]
      refine ⟨fun q35 => hK _ _ _ _ ?_, fun q35 => absurd q35 (by decide)⟩
      refine rz_blk' [(.aload_n 0, 1, 0, 0), (.getfield 256, 3, 10, 27), (.iload 5, 2, 0, 0), (.isub, 1, 0, 0), (.istore 8, 2, 0, 0)] (by decide +kernel) (Nat.le_refl _) (Nat.le_refl _) (fun K R hK hR => ?_)
      simp only [↓rx_aload_n0, ↓rx_getfield, ↓rx_iload, ↓rx_istore, ↓rx_isub, ↓rx_nil, ↓ry_i1, ↓ry_i2, ↓ry_li0s, ↓ry_li0z, ↓ry_lr0s, ↓ry_lr0z, ↓ry_obu, ↓ry_r1, ↓re_F27, ↓re_ob, n1, l1, l2, rz_set, rz_nol, rz_clr, List.set_cons_zero, List.set_cons_succ, rz_tr, Nat.reduceAdd, Int.reduceAdd, Int.reduceToNat, Int.reduceSub, Int.reduceNeg, Int.cast_ofNat_Int]
      try simp (disch := omega) only [n1, l1, l2, pk_us, pk_un, va_up_self, va_up_ne, nI_add, pk_mul, nI_clamp, vp_inT, nI_ltI, nI_leI, nI_eqI, pk_sub, true_and, and_true]
      refine hK _ _ _ _ ?_
      refine rz_blk' [(.aload_n 0, 1, 0, 0), (.getfield 263, 3, 10, 30), (.istore 9, 2, 0, 0)] (by decide +kernel) (Nat.le_refl _) (Nat.le_refl _) (fun K R hK hR => ?_)
      simp only [↓rx_aload_n0, ↓rx_getfield, ↓rx_istore, ↓rx_nil, ↓ry_i1, ↓ry_lr0s, ↓ry_lr0z, ↓ry_obu, ↓ry_r1, ↓re_F30, ↓re_ob, n1, l1, l2, rz_set, rz_nol, rz_clr, List.set_cons_zero, List.set_cons_succ, rz_tr, Nat.reduceAdd, Int.reduceAdd, Int.reduceToNat, Int.reduceSub, Int.reduceNeg, Int.cast_ofNat_Int]
      try simp (disch := omega) only [n1, l1, l2, pk_us, pk_un, va_up_self, va_up_ne, nI_add, pk_mul, nI_clamp, vp_inT, nI_ltI, nI_leI, nI_eqI, pk_sub, true_and, and_true]
      refine hK _ _ _ _ ?_
      refine rz_blk' [(.iconst 0, 1, 0, 0), (.istore 10, 2, 0, 0)] (by decide +kernel) (Nat.le_refl _) (Nat.le_refl _) (fun K R hK hR => ?_)
      simp only [rw_c0, ↓rx_iconst, ↓rx_istore, ↓rx_nil, ↓ry_i1, n1, l1, l2, rz_set, rz_nol, rz_clr, List.set_cons_zero, List.set_cons_succ, rz_tr, Nat.reduceAdd, Int.reduceAdd, Int.reduceToNat, Int.reduceSub, Int.reduceNeg, Int.cast_ofNat_Int]
      try simp (disch := omega) only [n1, l1, l2, pk_us, pk_un, va_up_self, va_up_ne, nI_add, pk_mul, nI_clamp, vp_inT, nI_ltI, nI_leI, nI_eqI, pk_sub, true_and, and_true]
      refine hK _ _ _ _ ?_
      exact hfin _ _ _ _ _ rfl rfl rfl rfl rfl
  have hb6 : n.2.2.1 = (b || (decide (lcpn u v < u.length) && decide (lcpn u v < v.length))) := by
    rw [← hn]; simp only [xf_mk, ps_ap, lcpn_wd]
  refine rz_enter' [some (.ref a), some (.int (nI p)), some (.int (nI q)), some (.int (rz_b b)), some (.int (nI o)), none, none, none, none, none, none, none, none] (by decide +kernel) rfl rfl (Nat.le_of_ble_eq_true rfl) rfl ?_
  refine rz_blk' [(.aload_n 0, 1, 0, 0), (.getfield 80, 3, 10, 25), (.bipush 6, 2, 0, 0), (.iload_n 1, 1, 0, 0), (.imul, 1, 0, 0), (.iload_n 2, 1, 0, 0), (.iadd, 1, 0, 0), (.baload, 1, 0, 0), (.ifCond .eq 18, 3, 0, 0)] (by decide +kernel) (Nat.le_refl _) (Nat.le_refl _) (fun K R hK hR => ?_)
  simp only [Nat.reduceEqDiff, false_or, or_false, or_true, reduceIte, rw_b6, ↓rx_aload_n0, ↓rx_baload, ↓rx_bipush, ↓rx_getfield, ↓rx_iadd, ↓rx_ifCond_eq, ↓rx_iload_n1, ↓rx_iload_n2, ↓rx_imul, ↓rx_nil, ↓ry_i1, ↓ry_i2, ↓ry_iau, ↓ry_li0s, ↓ry_li0z, ↓ry_lr0s, ↓ry_lr0z, ↓ry_obu, ↓ry_r1, ↓ry_ri, true_and, true_or, re_a25, ↓re_F25, ↓re_i25, ↓re_ob, hcpq, k1, l1, l2, n1, rz_set, rz_nol, rz_clr, List.set_cons_zero, List.set_cons_succ, rz_tr, Nat.reduceAdd, Int.reduceAdd, Int.reduceToNat, Int.reduceSub, Int.reduceNeg, Int.cast_ofNat_Int]
  try simp (disch := omega) only [hcpq, k1, l1, l2, n1, rb_0, pk_us, pk_un, va_up_self, va_up_ne, nI_add, pk_mul, nI_clamp, vp_inT, nI_ltI, nI_leI, nI_eqI, pk_sub, true_and, and_true]
  refine ⟨fun q36 => absurd q36 (by rw [hct]; decide), fun q36 => hK _ _ _ _ ?_⟩
  refine rz_blk' [(.aload_n 0, 1, 0, 0), (.getfield 108, 3, 10, 37), (.bipush 6, 2, 0, 0), (.iload_n 1, 1, 0, 0), (.imul, 1, 0, 0), (.iload_n 2, 1, 0, 0), (.iadd, 1, 0, 0), (.iaload, 1, 0, 0), (.iconst 2, 1, 0, 0), (.if_icmp .lt 4, 3, 0, 0)] (by decide +kernel) (Nat.le_refl _) (Nat.le_refl _) (fun K R hK hR => ?_)
  simp only [rw_b6, rw_c2, ↓rx_aload_n0, ↓rx_bipush, ↓rx_getfield, ↓rx_iadd, ↓rx_iaload, ↓rx_iconst, ↓rx_if_icmp_lt, ↓rx_iload_n1, ↓rx_iload_n2, ↓rx_imul, ↓rx_nil, ↓ry_i2, ↓ry_iau, ↓ry_li0s, ↓ry_li0z, ↓ry_lr0s, ↓ry_lr0z, ↓ry_obu, ↓ry_r1, ↓ry_ri, true_and, re_a37, ↓re_F37, ↓re_i37, ↓re_ob, hcpq, k1, l1, l2, n1, rz_set, rz_nol, rz_clr, List.set_cons_zero, List.set_cons_succ, rz_tr, Nat.reduceAdd, Int.reduceAdd, Int.reduceToNat, Int.reduceSub, Int.reduceNeg, Int.cast_ofNat_Int]
  try simp (disch := omega) only [hcpq, k1, l1, l2, n1, rb_0, pk_us, pk_un, va_up_self, va_up_ne, nI_add, pk_mul, nI_clamp, vp_inT, nI_ltI, nI_leI, nI_eqI, pk_sub, true_and, and_true]
  refine ⟨fun q37 => hK _ _ _ _ ?_, fun q37 => by omega⟩
  refine rz_blk' [(.aload_n 0, 1, 0, 0)] (by decide +kernel) (Nat.le_refl _) (Nat.le_refl _) (fun K R hK hR => ?_)
  simp only [↓rx_aload_n0, ↓rx_nil, ↓ry_lr0s, ↓ry_lr0z, hcpq, k1, l1, l2, n1, rz_set, rz_nol, rz_clr, List.set_cons_zero, List.set_cons_succ, rz_tr, Nat.reduceAdd, Int.reduceAdd, Int.reduceToNat, Int.reduceSub, Int.reduceNeg, Int.cast_ofNat_Int]
  try simp (disch := omega) only [hcpq, k1, l1, l2, n1, rb_0, pk_us, pk_un, va_up_self, va_up_ne, nI_add, pk_mul, nI_clamp, vp_inT, nI_ltI, nI_leI, nI_eqI, pk_sub, true_and, and_true]
  refine hK _ _ _ _ ?_
  refine rz_cV (As := []) (b := a) (S := []) l_Mod_259 (by decide +kernel) rfl re_at0 rfl (Nat.le_of_ble_eq_true rfl) (Nat.le_refl _) (Nat.le_refl _) (hcl) (fun r G' hr => ?_)
  obtain ⟨rfl, rfl⟩ := hr
  simp only [Option.toList, List.cons_append, List.nil_append]
  refine rz_blk' [(.istore 5, 2, 0, 0)] (by decide +kernel) (Nat.le_refl _) (Nat.le_refl _) (fun K R hK hR => ?_)
  simp only [↓rx_istore, ↓rx_nil, ↓ry_i1, hcpq, k1, l1, l2, n1, rz_set, rz_nol, rz_clr, List.set_cons_zero, List.set_cons_succ, rz_tr, Nat.reduceAdd, Int.reduceAdd, Int.reduceToNat, Int.reduceSub, Int.reduceNeg, Int.cast_ofNat_Int]
  try simp (disch := omega) only [hcpq, k1, l1, l2, n1, rb_0, pk_us, pk_un, va_up_self, va_up_ne, nI_add, pk_mul, nI_clamp, vp_inT, nI_ltI, nI_leI, nI_eqI, pk_sub, true_and, and_true]
  refine hK _ _ _ _ ?_
  refine rz_blk' [(.iload_n 3, 1, 0, 0), (.ifCond .ne 21, 3, 0, 0)] (by decide +kernel) (Nat.le_refl _) (Nat.le_refl _) (fun K R hK hR => ?_)
  simp only [↓rx_ifCond_ne, ↓rx_iload_n3, ↓rx_nil, ↓ry_i1, ↓ry_li0s, ↓ry_li0z, hcpq, k1, l1, l2, n1, rz_set, rz_nol, rz_clr, List.set_cons_zero, List.set_cons_succ, rz_tr, Nat.reduceAdd, Int.reduceAdd, Int.reduceToNat, Int.reduceSub, Int.reduceNeg, Int.cast_ofNat_Int]
  try simp (disch := omega) only [hcpq, k1, l1, l2, n1, rb_0, pk_us, pk_un, va_up_self, va_up_ne, nI_add, pk_mul, nI_clamp, vp_inT, nI_ltI, nI_leI, nI_eqI, pk_sub, true_and, and_true]
  refine ⟨fun q38 => hK _ _ _ _ ?_, fun q38 => hK _ _ _ _ ?_⟩
  · -- 37 taken
    refine rz_blk' [(.iconst 1, 1, 0, 0), (.goto 4, 3, 0, 0)] (by decide +kernel) (Nat.le_refl _) (Nat.le_refl _) (fun K R hK hR => ?_)
    simp only [rw_c1, ↓rx_goto, ↓rx_iconst, ↓rx_nil, hcpq, k1, l1, l2, n1, rz_set, rz_nol, rz_clr, List.set_cons_zero, List.set_cons_succ, rz_tr, Nat.reduceAdd, Int.reduceAdd, Int.reduceToNat, Int.reduceSub, Int.reduceNeg, Int.cast_ofNat_Int]
    try simp (disch := omega) only [hcpq, k1, l1, l2, n1, rb_0, pk_us, pk_un, va_up_self, va_up_ne, nI_add, pk_mul, nI_clamp, vp_inT, nI_ltI, nI_leI, nI_eqI, pk_sub, true_and, and_true]
    refine hK _ _ _ _ ?_
    refine rz_blk' [(.istore 6, 2, 0, 0)] (by decide +kernel) (Nat.le_refl _) (Nat.le_refl _) (fun K R hK hR => ?_)
    simp only [↓rx_istore, ↓rx_nil, ↓ry_i1, hcpq, k1, l1, l2, n1, rz_set, rz_nol, rz_clr, List.set_cons_zero, List.set_cons_succ, rz_tr, Nat.reduceAdd, Int.reduceAdd, Int.reduceToNat, Int.reduceSub, Int.reduceNeg, Int.cast_ofNat_Int]
    try simp (disch := omega) only [hcpq, k1, l1, l2, n1, rb_0, pk_us, pk_un, va_up_self, va_up_ne, nI_add, pk_mul, nI_clamp, vp_inT, nI_ltI, nI_leI, nI_eqI, pk_sub, true_and, and_true]
    refine hK _ _ _ _ ?_
    first
      | exact h65 _ (by rw [hb6, show b = true by simpa using q38]; rfl)
      | exact h65 _ (by rw [hb6, decide_eq_true (by omega), decide_eq_true (by omega), Bool.and_self, Bool.or_true]; rfl)
      | exact h65 _ (by rw [hb6, show b = false by assumption, decide_eq_false (show ¬ lcpn u v < u.length by omega)]; simp; rfl)
      | exact h65 _ (by rw [hb6, show b = false by assumption, decide_eq_false (show ¬ lcpn u v < v.length by omega)]; simp; rfl)
  · -- 37 not taken
    refine rz_blk' [(.iload 5, 2, 0, 0), (.aload_n 0, 1, 0, 0), (.getfield 253, 3, 10, 26), (.if_icmp .ge 16, 3, 0, 0)] (by decide +kernel) (Nat.le_refl _) (Nat.le_refl _) (fun K R hK hR => ?_)
    simp only [↓rx_aload_n0, ↓rx_getfield, ↓rx_if_icmp_ge, ↓rx_iload, ↓rx_nil, ↓ry_i2, ↓ry_li0s, ↓ry_li0z, ↓ry_lr0s, ↓ry_lr0z, ↓ry_obu, ↓ry_r1, ↓re_F26, ↓re_ob, hcpq, k1, l1, l2, n1, rz_set, rz_nol, rz_clr, List.set_cons_zero, List.set_cons_succ, rz_tr, Nat.reduceAdd, Int.reduceAdd, Int.reduceToNat, Int.reduceSub, Int.reduceNeg, Int.cast_ofNat_Int]
    try simp (disch := omega) only [hcpq, k1, l1, l2, n1, rb_0, pk_us, pk_un, va_up_self, va_up_ne, nI_add, pk_mul, nI_clamp, vp_inT, nI_ltI, nI_leI, nI_eqI, pk_sub, true_and, and_true]
    refine ⟨fun q39 => hK _ _ _ _ ?_, fun q39 => hK _ _ _ _ ?_⟩
    · -- 46 taken
      refine rz_blk' [(.iconst 0, 1, 0, 0), (.istore 6, 2, 0, 0)] (by decide +kernel) (Nat.le_refl _) (Nat.le_refl _) (fun K R hK hR => ?_)
      simp only [rw_c0, ↓rx_iconst, ↓rx_istore, ↓rx_nil, ↓ry_i1, hcpq, k1, l1, l2, n1, rz_set, rz_nol, rz_clr, List.set_cons_zero, List.set_cons_succ, rz_tr, Nat.reduceAdd, Int.reduceAdd, Int.reduceToNat, Int.reduceSub, Int.reduceNeg, Int.cast_ofNat_Int]
      try simp (disch := omega) only [hcpq, k1, l1, l2, n1, rb_0, pk_us, pk_un, va_up_self, va_up_ne, nI_add, pk_mul, nI_clamp, vp_inT, nI_ltI, nI_leI, nI_eqI, pk_sub, true_and, and_true]
      refine hK _ _ _ _ ?_
      first
        | exact h65 _ (by rw [hb6, show b = true by simpa using q39]; rfl)
        | exact h65 _ (by rw [hb6, decide_eq_true (by omega), decide_eq_true (by omega), Bool.and_self, Bool.or_true]; rfl)
        | exact h65 _ (by rw [hb6, show b = false by assumption, decide_eq_false (show ¬ lcpn u v < u.length by omega)]; simp; rfl)
        | exact h65 _ (by rw [hb6, show b = false by assumption, decide_eq_false (show ¬ lcpn u v < v.length by omega)]; simp; rfl)
    · -- 46 not taken
      refine rz_blk' [(.iload 5, 2, 0, 0), (.aload_n 0, 1, 0, 0), (.getfield 256, 3, 10, 27), (.if_icmp .ge 7, 3, 0, 0)] (by decide +kernel) (Nat.le_refl _) (Nat.le_refl _) (fun K R hK hR => ?_)
      simp only [↓rx_aload_n0, ↓rx_getfield, ↓rx_if_icmp_ge, ↓rx_iload, ↓rx_nil, ↓ry_i2, ↓ry_li0s, ↓ry_li0z, ↓ry_lr0s, ↓ry_lr0z, ↓ry_obu, ↓ry_r1, ↓re_F27, ↓re_ob, hcpq, k1, l1, l2, n1, rz_set, rz_nol, rz_clr, List.set_cons_zero, List.set_cons_succ, rz_tr, Nat.reduceAdd, Int.reduceAdd, Int.reduceToNat, Int.reduceSub, Int.reduceNeg, Int.cast_ofNat_Int]
      try simp (disch := omega) only [hcpq, k1, l1, l2, n1, rb_0, pk_us, pk_un, va_up_self, va_up_ne, nI_add, pk_mul, nI_clamp, vp_inT, nI_ltI, nI_leI, nI_eqI, pk_sub, true_and, and_true]
      refine ⟨fun q40 => hK _ _ _ _ ?_, fun q40 => hK _ _ _ _ ?_⟩
      · -- 55 taken
        refine rz_blk' [(.iconst 0, 1, 0, 0), (.istore 6, 2, 0, 0)] (by decide +kernel) (Nat.le_refl _) (Nat.le_refl _) (fun K R hK hR => ?_)
        simp only [rw_c0, ↓rx_iconst, ↓rx_istore, ↓rx_nil, ↓ry_i1, hcpq, k1, l1, l2, n1, rz_set, rz_nol, rz_clr, List.set_cons_zero, List.set_cons_succ, rz_tr, Nat.reduceAdd, Int.reduceAdd, Int.reduceToNat, Int.reduceSub, Int.reduceNeg, Int.cast_ofNat_Int]
        try simp (disch := omega) only [hcpq, k1, l1, l2, n1, rb_0, pk_us, pk_un, va_up_self, va_up_ne, nI_add, pk_mul, nI_clamp, vp_inT, nI_ltI, nI_leI, nI_eqI, pk_sub, true_and, and_true]
        refine hK _ _ _ _ ?_
        first
          | exact h65 _ (by rw [hb6, show b = true by simpa using q40]; rfl)
          | exact h65 _ (by rw [hb6, decide_eq_true (by omega), decide_eq_true (by omega), Bool.and_self, Bool.or_true]; rfl)
          | exact h65 _ (by rw [hb6, show b = false by assumption, decide_eq_false (show ¬ lcpn u v < u.length by omega)]; simp; rfl)
          | exact h65 _ (by rw [hb6, show b = false by assumption, decide_eq_false (show ¬ lcpn u v < v.length by omega)]; simp; rfl)
      · -- 55 not taken
        refine rz_blk' [(.iconst 1, 1, 0, 0), (.goto 4, 3, 0, 0)] (by decide +kernel) (Nat.le_refl _) (Nat.le_refl _) (fun K R hK hR => ?_)
        simp only [rw_c1, ↓rx_goto, ↓rx_iconst, ↓rx_nil, hcpq, k1, l1, l2, n1, rz_set, rz_nol, rz_clr, List.set_cons_zero, List.set_cons_succ, rz_tr, Nat.reduceAdd, Int.reduceAdd, Int.reduceToNat, Int.reduceSub, Int.reduceNeg, Int.cast_ofNat_Int]
        try simp (disch := omega) only [hcpq, k1, l1, l2, n1, rb_0, pk_us, pk_un, va_up_self, va_up_ne, nI_add, pk_mul, nI_clamp, vp_inT, nI_ltI, nI_leI, nI_eqI, pk_sub, true_and, and_true]
        refine hK _ _ _ _ ?_
        refine rz_blk' [(.istore 6, 2, 0, 0)] (by decide +kernel) (Nat.le_refl _) (Nat.le_refl _) (fun K R hK hR => ?_)
        simp only [↓rx_istore, ↓rx_nil, ↓ry_i1, hcpq, k1, l1, l2, n1, rz_set, rz_nol, rz_clr, List.set_cons_zero, List.set_cons_succ, rz_tr, Nat.reduceAdd, Int.reduceAdd, Int.reduceToNat, Int.reduceSub, Int.reduceNeg, Int.cast_ofNat_Int]
        try simp (disch := omega) only [hcpq, k1, l1, l2, n1, rb_0, pk_us, pk_un, va_up_self, va_up_ne, nI_add, pk_mul, nI_clamp, vp_inT, nI_ltI, nI_leI, nI_eqI, pk_sub, true_and, and_true]
        refine hK _ _ _ _ ?_
        first
          | exact h65 _ (by rw [hb6, show b = true by simpa using q40]; rfl)
          | exact h65 _ (by rw [hb6, decide_eq_true (by omega), decide_eq_true (by omega), Bool.and_self, Bool.or_true]; rfl)
          | exact h65 _ (by rw [hb6, show b = false by assumption, decide_eq_false (show ¬ lcpn u v < u.length by omega)]; simp; rfl)
          | exact h65 _ (by rw [hb6, show b = false by assumption, decide_eq_false (show ¬ lcpn u v < v.length by omega)]; simp; rfl)
