/-! the search's bookkeeping -/
/-- a word's place in the order: shorter first, then by letters -/
def vl (u : List Nat) : Nat := u.foldl (fun a x => 3 * a + x + 1) 0
theorem vl_nil : vl [] = 0 := rfl
theorem vl_app (u : List Nat) (x : Nat) : vl (u ++ [x]) = 3 * vl u + x + 1 := by simp [vl]
def xs_pq (n m : ps_nd) : Prop := n.1 = m.1 ∧ n.2.1 = m.2.1
/-- the node isn't needed any more -/
def xs_cov (c : Nat → Bool) (N : List xn_T) (B : Nat) (n : ps_nd) : Prop :=
  c (6 * n.1 + n.2.1) = false ∨ (∃ x ∈ N, x.1 = n ∧ x.2 ≤ B) ∨ (∃ x ∈ N, xs_pq x.1 n ∧ x.1.2.2.1 = true ∧ x.2 ≤ B) ∨ ∃ x ∈ N, ∃ y ∈ N, xs_pq x.1 n ∧ xs_pq y.1 n ∧ x.1 ≠ y.1 ∧ x.2 ≤ B ∧ y.2 ≤ B
theorem xs_cov_m {c : Nat → Bool} {N N' : List xn_T} {B B' : Nat} {n : ps_nd} (h : xs_cov c N B n) (hN : ∀ x ∈ N, x ∈ N') (hB : B ≤ B') : xs_cov c N' B' n := by
  rcases h with h | ⟨x, h1, h2, h3⟩ | ⟨x, h1, h2, h3, h4⟩ | ⟨x, h1, y, h2, h3, h4, h5, h6, h7⟩
  · exact Or.inl h
  · exact Or.inr (Or.inl ⟨x, hN x h1, h2, by omega⟩)
  · exact Or.inr (Or.inr (Or.inl ⟨x, hN x h1, h2, h3, by omega⟩))
  · exact Or.inr (Or.inr (Or.inr ⟨x, hN x h1, y, hN y h2, h3, h4, h5, by omega, by omega⟩))
theorem xk_one : ∀ {N : List xn_T} {p q : Nat}, 1 ≤ xk_c N p q → ∃ x ∈ N, x.1.1 = p ∧ x.1.2.1 = q
  | [], p, q, h => by simp [xk_c] at h
  | x :: N, p, q, h => by
    by_cases c : x.1.1 = p ∧ x.1.2.1 = q
    · exact ⟨x, List.mem_cons_self, c⟩
    · have : xk_c (x :: N) p q = xk_c N p q := by simp [xk_c, c]
      rw [this] at h
      obtain ⟨y, hy, e⟩ := xk_one h
      exact ⟨y, List.mem_cons_of_mem _ hy, e⟩
theorem xk_two : ∀ {N : List xn_T} {p q : Nat}, (N.map (fun x => x.1)).Nodup → 2 ≤ xk_c N p q → (∃ x ∈ N, (x.1.1 = p ∧ x.1.2.1 = q) ∧ x.1.2.2.1 = true) ∨ ∃ x ∈ N, ∃ y ∈ N, (x.1.1 = p ∧ x.1.2.1 = q) ∧ (y.1.1 = p ∧ y.1.2.1 = q) ∧ x.1 ≠ y.1
  | [], p, q, _, h => by simp [xk_c] at h
  | x :: N, p, q, hd, h => by
    rw [List.map_cons, List.nodup_cons] at hd
    by_cases c : x.1.1 = p ∧ x.1.2.1 = q
    · by_cases cl : x.1.2.2.1 = true
      · exact Or.inl ⟨x, List.mem_cons_self, c, cl⟩
      · have : xk_c (x :: N) p q = 1 + xk_c N p q := by simp [xk_c, c, cl]
        obtain ⟨y, hy, e⟩ := xk_one (N := N) (p := p) (q := q) (by omega)
        exact Or.inr ⟨x, List.mem_cons_self, y, List.mem_cons_of_mem _ hy, c, e, fun q => hd.1 (by rw [q]; exact List.mem_map.mpr ⟨y, hy, rfl⟩)⟩
    · have : xk_c (x :: N) p q = xk_c N p q := by simp [xk_c, c]
      rw [this] at h
      rcases xk_two hd.2 h with ⟨y, hy, e1, e2⟩ | ⟨y, hy, z, hz, e1, e2, e3⟩
      · exact Or.inl ⟨y, List.mem_cons_of_mem _ hy, e1, e2⟩
      · exact Or.inr ⟨y, List.mem_cons_of_mem _ hy, z, List.mem_cons_of_mem _ hz, e1, e2, e3⟩
theorem xf_add_cov {c : Nat → Bool} {N : List xn_T} {n : ps_nd} {o : Nat} (hd : (N.map (fun x => x.1)).Nodup) (ho : ∀ x ∈ N, x.2 ≤ o) : xs_cov c (xf_add c N n o) o n := by
  unfold xf_add
  split
  · next h =>
    rcases h with h | h | h
    · exact Or.inl h
    · rcases xk_two hd h with ⟨x, hx, e1, e2⟩ | ⟨x, hx, y, hy, e1, e2, e3⟩
      · exact Or.inr (Or.inr (Or.inl ⟨x, hx, e1, e2, ho x hx⟩))
      · exact Or.inr (Or.inr (Or.inr ⟨x, hx, y, hy, e1, e2, e3, ho x hx, ho y hy⟩))
    · obtain ⟨x, hx, e⟩ := List.mem_map.mp h
      exact Or.inr (Or.inl ⟨x, hx, e, ho x hx⟩)
  · exact Or.inr (Or.inl ⟨(n, o), by simp, rfl, Nat.le_refl _⟩)
/-- the list has grown by nodes of the word o -/
def xs_r (R : ps_nd → Prop) (o : Nat) (N N' : List xn_T) : Prop := (∃ ext, N' = N ++ ext ∧ ∀ y ∈ ext, y.2 = o ∧ R y.1) ∧ ((N.map (fun x => x.1)).Nodup → (N'.map (fun x => x.1)).Nodup)
theorem xs_r.rf {R : ps_nd → Prop} {o : Nat} {N : List xn_T} : xs_r R o N N := ⟨⟨[], by simp, by simp⟩, id⟩
theorem xs_r.t {R : ps_nd → Prop} {o : Nat} {N N1 N2 : List xn_T} (h : xs_r R o N N1) (h2 : xs_r R o N1 N2) : xs_r R o N N2 := by
  obtain ⟨⟨e1, rfl, a1⟩, b1⟩ := h
  obtain ⟨⟨e2, rfl, a2⟩, b2⟩ := h2
  refine ⟨⟨e1 ++ e2, by rw [List.append_assoc], fun y hy => ?_⟩, fun x => b2 (b1 x)⟩
  rcases List.mem_append.mp hy with q | q
  · exact a1 y q
  · exact a2 y q
theorem xs_r.m {R R' : ps_nd → Prop} {o : Nat} {N N' : List xn_T} (h : xs_r R o N N') (hR : ∀ n, R n → R' n) : xs_r R' o N N' := by
  obtain ⟨⟨e1, e2, a1⟩, b1⟩ := h
  exact ⟨⟨e1, e2, fun y hy => ⟨(a1 y hy).1, hR _ (a1 y hy).2⟩⟩, b1⟩
theorem xs_r.mem {R : ps_nd → Prop} {o : Nat} {N N' : List xn_T} (h : xs_r R o N N') : ∀ x ∈ N, x ∈ N' := by
  obtain ⟨⟨e1, rfl, -⟩, -⟩ := h
  exact fun x hx => List.mem_append_left _ hx
theorem xs_r.le {R : ps_nd → Prop} {o : Nat} {N N' : List xn_T} (h : xs_r R o N N') (ho : ∀ x ∈ N, x.2 ≤ o) : ∀ x ∈ N', x.2 ≤ o := by
  obtain ⟨⟨e1, rfl, a⟩, -⟩ := h
  intro x hx
  rcases List.mem_append.mp hx with q | q
  · exact ho x q
  · rw [(a x q).1]; exact Nat.le_refl _
theorem xs_r.get {R : ps_nd → Prop} {o i : Nat} {N N' : List xn_T} {x : xn_T} (h : xs_r R o N N') (hx : N[i]? = some x) : N'[i]? = some x := by
  obtain ⟨⟨e1, rfl, -⟩, -⟩ := h
  rw [List.getElem?_append_left (List.getElem?_eq_some_iff.mp hx).1]; exact hx
theorem xf_add_r {R : ps_nd → Prop} {c : Nat → Bool} {N : List xn_T} {n : ps_nd} {o : Nat} (hR : R n) : xs_r R o N (xf_add c N n o) := by
  unfold xf_add
  split
  · exact xs_r.rf
  · next h =>
    refine ⟨⟨[(n, o)], rfl, fun y hy => ?_⟩, fun hd => ?_⟩
    · simp at hy; subst hy; exact ⟨rfl, hR⟩
    · rw [List.map_append, List.nodup_append]
      refine ⟨hd, by simp, fun a ha b hb => ?_⟩
      simp at hb
      subst hb
      rintro rfl
      exact h (Or.inr (Or.inr ha))
theorem fold_r {α β : Type} {rel : β → β → Prop} (rf : ∀ b, rel b b) (tr : ∀ a b c, rel a b → rel b c → rel a c) {f : β → α → β} : ∀ (l : List α) (b : β), (∀ b, ∀ a ∈ l, rel b (f b a)) → rel b (l.foldl f b) ∧ ∀ a ∈ l, ∃ b1, rel b b1 ∧ rel (f b1 a) (l.foldl f b)
  | [], b, _ => ⟨rf b, fun a ha => absurd ha (by simp)⟩
  | x :: l, b, h => by
    obtain ⟨h1, h2⟩ := fold_r rf tr l (f b x) (fun b a ha => h b a (List.mem_cons_of_mem _ ha))
    have h0 := h b x List.mem_cons_self
    refine ⟨tr _ _ _ h0 h1, fun a ha => ?_⟩
    rcases List.mem_cons.mp ha with rfl | ha
    · exact ⟨b, rf b, h1⟩
    · obtain ⟨b1, e1, e2⟩ := h2 a ha
      exact ⟨b1, tr _ _ _ h0 e1, e2⟩
def xs_st (n : ps_nd) (l : Nat) (e f : xe_T) : Prop := e.1 = n.1 ∧ f.1 = n.2.1 ∧ e.2.1 = l ∧ f.2.1 = l
def xs_R (n : ps_nd) (l : Nat) (es fs : List xe_T) (m : ps_nd) : Prop := ∃ e ∈ es, ∃ f ∈ fs, xs_st n l e f ∧ m = xf_go n e f
theorem xg_1_r {c : Nat → Bool} {n : ps_nd} {x o : Nat} {es fs : List xe_T} {N : List xn_T} {e f : xe_T} (he : e ∈ es) (hf : f ∈ fs) : xs_r (xs_R n x es fs) o N (xg_1 c n x o e N f) := by
  unfold xg_1
  split
  · next h => exact xf_add_r ⟨e, he, f, hf, h, rfl⟩
  · exact xs_r.rf
theorem xg_2_r {c : Nat → Bool} {n : ps_nd} {x o : Nat} {es fs : List xe_T} {N : List xn_T} {e : xe_T} (he : e ∈ es) : xs_r (xs_R n x es fs) o N (xg_2 c n x o fs N e) ∧ ∀ f ∈ fs, ∃ b1, xs_r (xs_R n x es fs) o N b1 ∧ xs_r (xs_R n x es fs) o (xg_1 c n x o e b1 f) (xg_2 c n x o fs N e) :=
  fold_r (rel := xs_r (xs_R n x es fs) o) (fun _ => xs_r.rf) (fun _ _ _ => xs_r.t) fs N (fun _ f hf => xg_1_r he hf)
theorem xg_3_r {c : Nat → Bool} {n : ps_nd} {x o : Nat} {es fs : List xe_T} {N : List xn_T} : xs_r (xs_R n x es fs) o N (xg_3 c n x o es fs N) ∧ ((N.map (fun x => x.1)).Nodup → (∀ x ∈ N, x.2 ≤ o) → ∀ e ∈ es, ∀ f ∈ fs, xs_st n x e f → xs_cov c (xg_3 c n x o es fs N) o (xf_go n e f)) := by
  have h := fold_r (rel := xs_r (xs_R n x es fs) o) (fun _ => xs_r.rf) (fun _ _ _ => xs_r.t) (f := xg_2 c n x o fs) es N (fun _ e he => (xg_2_r he).1)
  refine ⟨h.1, fun hd ho e he f hf hs => ?_⟩
  obtain ⟨b1, r1, r2⟩ := h.2 e he
  obtain ⟨b2, r3, r4⟩ := (xg_2_r (c := c) (n := n) (x := x) (o := o) (es := es) (fs := fs) (N := b1) he).2 f hf
  have r5 := r1.t r3
  have e1 : xg_1 c n x o e b2 f = xf_add c b2 (xf_go n e f) o := by unfold xg_1; rw [if_pos (show e.1 = n.1 ∧ f.1 = n.2.1 ∧ e.2.1 = x ∧ f.2.1 = x from hs)]
  rw [e1] at r4
  exact xs_cov_m (xf_add_cov (r5.2 hd) (r5.le ho)) (r4.t r2).mem (Nat.le_refl _)
/-- a group's nodes go on by a letter -/
def xs_g (c : Nat → Bool) (es fs : List xe_T) (l o : Nat) (ns : List ps_nd) (N : List xn_T) : List xn_T := ns.foldl (fun N n => xg_3 c n l o es fs N) N
theorem xs_g_r {c : Nat → Bool} {l o : Nat} {es fs : List xe_T} {ns : List ps_nd} {N : List xn_T} : xs_r (fun m => ∃ n ∈ ns, xs_R n l es fs m) o N (xs_g c es fs l o ns N) ∧ ((N.map (fun x => x.1)).Nodup → (∀ x ∈ N, x.2 ≤ o) → ∀ n ∈ ns, ∀ e ∈ es, ∀ f ∈ fs, xs_st n l e f → xs_cov c (xs_g c es fs l o ns N) o (xf_go n e f)) := by
  have h := fold_r (rel := xs_r (fun m => ∃ n ∈ ns, xs_R n l es fs m) o) (fun _ => xs_r.rf) (fun _ _ _ => xs_r.t) (f := fun N n => xg_3 c n l o es fs N) ns N (fun _ n hn => (xg_3_r).1.m (fun m hm => ⟨n, hn, hm⟩))
  refine ⟨h.1, fun hd ho n hn e he f hf hs => ?_⟩
  obtain ⟨b1, r1, r2⟩ := h.2 n hn
  exact xs_cov_m ((xg_3_r (c := c) (n := n) (x := l) (o := o) (es := es) (fs := fs) (N := b1)).2 (r1.2 hd) (r1.le ho) e he f hf hs) r2.mem (Nat.le_refl _)
/-- what is known of the search when the first nodes are done -/
def xs_cl (T1 T2 : mv_T) (c : Nat → Bool) (N : List xn_T) (W : List (List Nat)) (x : xn_T) (l : Nat) : Prop := ∃ k u, W[x.2]? = some u ∧ W[k]? = some (u ++ [l]) ∧ ∀ e ∈ T1.2.1, ∀ f ∈ T2.2.1, xs_st x.1 l e f → xs_cov c N k (xf_go x.1 e f)
def xs_i (T1 T2 : mv_T) (c : Nat → Bool) (N0 N : List xn_T) (W : List (List Nat)) (done : Nat) : Prop :=
  (N.map (fun x => x.1)).Nodup ∧ (∀ (i j : Nat) (x y : xn_T), i ≤ j → N[i]? = some x → N[j]? = some y → x.2 ≤ y.2) ∧ (∀ x ∈ N, x.2 < W.length) ∧
  (∀ (i j : Nat) (u v : List Nat), i < j → W[i]? = some u → W[j]? = some v → vl u < vl v) ∧
  (∀ (i j : Nat) (x y : xn_T), i < done → done ≤ j → N[i]? = some x → N[j]? = some y → x.2 < y.2) ∧
  (∀ u ∈ W, ∀ (j : Nat) (x : xn_T) (v : List Nat), done ≤ j → N[j]? = some x → W[x.2]? = some v → vl u < 3 * vl v + 1) ∧
  (∀ (i : Nat) (x : xn_T), i < done → N[i]? = some x → xn_ea T1 T2 x.1 = false ∧ ∀ l, l < 3 → xs_cl T1 T2 c N W x l) ∧
  (∀ x ∈ N, x ∈ N0 ∨ ∃ y ∈ N, ∃ l u e f, l < 3 ∧ e ∈ T1.2.1 ∧ f ∈ T2.2.1 ∧ xs_st y.1 l e f ∧ W[y.2]? = some u ∧ W[x.2]? = some (u ++ [l]) ∧ x.1 = xf_go y.1 e f ∧ y.2 < x.2) ∧
  ∀ x ∈ N0, x ∈ N
/-- one letter of a group: the group's nodes are those from done to en -/
def xs_j (T1 T2 : mv_T) (c : Nat → Bool) (N0 N : List xn_T) (W : List (List Nat)) (done en k : Nat) (ns : List ps_nd) (w0 : Nat) (u : List Nat) : Prop :=
  (N.map (fun x => x.1)).Nodup ∧ (∀ (i j : Nat) (x y : xn_T), i ≤ j → N[i]? = some x → N[j]? = some y → x.2 ≤ y.2) ∧ (∀ x ∈ N, x.2 < W.length) ∧
  (∀ (i j : Nat) (u v : List Nat), i < j → W[i]? = some u → W[j]? = some v → vl u < vl v) ∧
  W[w0]? = some u ∧ (∀ (i : Nat) (x : xn_T), i < en → N[i]? = some x → x.2 ≤ w0) ∧ (∀ (j : Nat) (x : xn_T), en ≤ j → N[j]? = some x → w0 < x.2) ∧ (done ≤ en ∧ en ≤ N.length) ∧
  (∀ v ∈ W, vl v < 3 * vl u + 1 + k) ∧
  (∀ (i : Nat) (x : xn_T), i < done → N[i]? = some x → xn_ea T1 T2 x.1 = false ∧ ∀ l, l < 3 → xs_cl T1 T2 c N W x l) ∧
  (∀ (i : Nat) (x : xn_T), done ≤ i → i < en → N[i]? = some x → xn_ea T1 T2 x.1 = false ∧ x.2 = w0 ∧ x.1 ∈ ns ∧ ∀ l, l < k → xs_cl T1 T2 c N W x l) ∧
  (∀ n ∈ ns, ∃ x ∈ N, x.1 = n ∧ x.2 = w0) ∧
  (∀ x ∈ N, x ∈ N0 ∨ ∃ y ∈ N, ∃ l u e f, l < 3 ∧ e ∈ T1.2.1 ∧ f ∈ T2.2.1 ∧ xs_st y.1 l e f ∧ W[y.2]? = some u ∧ W[x.2]? = some (u ++ [l]) ∧ x.1 = xf_go y.1 e f ∧ y.2 < x.2) ∧
  ∀ x ∈ N0, x ∈ N
theorem xs_cl_m {T1 T2 : mv_T} {c : Nat → Bool} {N N' : List xn_T} {W : List (List Nat)} {v : List Nat} {x : xn_T} {l : Nat} (h : xs_cl T1 T2 c N W x l) (hN : ∀ x ∈ N, x ∈ N') : xs_cl T1 T2 c N' (W ++ [v]) x l := by
  obtain ⟨k, u, h1, h2, h3⟩ := h
  exact ⟨k, u, by rw [List.getElem?_append_left (List.getElem?_eq_some_iff.mp h1).1]; exact h1, by rw [List.getElem?_append_left (List.getElem?_eq_some_iff.mp h2).1]; exact h2, fun e he f hf hs => xs_cov_m (h3 e he f hf hs) hN (Nat.le_refl _)⟩
theorem xs_j_s {T1 T2 : mv_T} {c : Nat → Bool} {N0 N : List xn_T} {W : List (List Nat)} {done en k w0 : Nat} {ns : List ps_nd} {u : List Nat} (hk : k < 3) (h : xs_j T1 T2 c N0 N W done en k ns w0 u) : xs_j T1 T2 c N0 (xs_g c T1.2.1 T2.2.1 k W.length ns N) (W ++ [u ++ [k]]) done en (k + 1) ns w0 u := by
  obtain ⟨a1, a2, a3, a4, a5, a6, a7, a8, a9, a10, a11, a12, a13, a14⟩ := h
  have hw0 : w0 < W.length := (List.getElem?_eq_some_iff.mp a5).1
  have hg := xs_g_r (c := c) (l := k) (o := W.length) (es := T1.2.1) (fs := T2.2.1) (ns := ns) (N := N)
  have hle : ∀ x ∈ N, x.2 ≤ W.length := fun x hx => Nat.le_of_lt (a3 x hx)
  obtain ⟨hr, hcv⟩ := hg
  have hcv := hcv a1 hle
  have hmem := hr.mem
  have hget := fun {i x} (q : N[i]? = some x) => hr.get q
  obtain ⟨⟨ext, hN', hext⟩, hnd⟩ := id hr
  generalize xs_g c T1.2.1 T2.2.1 k W.length ns N = N' at *
  have hback : ∀ i x, N'[i]? = some x → N[i]? = some x ∨ (N.length ≤ i ∧ x ∈ ext) := fun i x hx => by
    rw [hN'] at hx
    by_cases q : i < N.length
    · rw [List.getElem?_append_left q] at hx; exact Or.inl hx
    · rw [List.getElem?_append_right (by omega)] at hx
      exact Or.inr ⟨by omega, List.mem_of_getElem? hx⟩
  have hWk : (W ++ [u ++ [k]])[W.length]? = some (u ++ [k]) := by rw [List.getElem?_append_right (Nat.le_refl _)]; simp
  have hWl : ∀ {i v}, W[i]? = some v → (W ++ [u ++ [k]])[i]? = some v := fun {i v} q => by
    rw [List.getElem?_append_left (List.getElem?_eq_some_iff.mp q).1]; exact q
  refine ⟨hnd a1, fun i j x y hij hx hy => ?_, fun x hx => ?_, fun i j v v' hij hv hv' => ?_, hWl a5, fun i x hi hx => ?_, fun j x hj hx => ?_, ?_, fun v hv => ?_, fun i x hi hx => ?_, fun i x hi hi2 hx => ?_, fun n hn => ?_, fun x hx => ?_, fun x hx => hmem x (a14 x hx)⟩
  · rcases hback i x hx with q1 | ⟨q1, q2⟩
    · rcases hback j y hy with q3 | ⟨q3, q4⟩
      · exact a2 i j x y hij q1 q3
      · rw [(hext y q4).1]; exact hle x (List.mem_of_getElem? q1)
    · rcases hback j y hy with q3 | ⟨q3, q4⟩
      · have := (List.getElem?_eq_some_iff.mp q3).1; omega
      · rw [(hext y q4).1, (hext x q2).1]; exact Nat.le_refl _
  · rw [List.length_append]
    obtain ⟨i, hi⟩ := List.mem_iff_getElem?.mp hx
    rcases hback i x hi with q1 | ⟨q1, q2⟩
    · have := a3 x (List.mem_of_getElem? q1); simp; omega
    · rw [(hext x q2).1]; simp
  · have hjl := (List.getElem?_eq_some_iff.mp hv').1
    rw [List.length_append] at hjl
    simp only [List.length_cons, List.length_nil, Nat.zero_add] at hjl
    have hil : i < W.length := by omega
    rw [List.getElem?_append_left hil] at hv
    by_cases q : j < W.length
    · rw [List.getElem?_append_left q] at hv'; exact a4 i j v v' hij hv hv'
    · have e : j = W.length := by omega
      subst e
      rw [hWk] at hv'
      cases hv'
      rw [vl_app]
      have := a9 v (List.mem_of_getElem? hv)
      omega
  · rcases hback i x hx with q1 | ⟨q1, q2⟩
    · exact a6 i x hi q1
    · omega
  · rcases hback j x hx with q1 | ⟨q1, q2⟩
    · exact a7 j x hj q1
    · rw [(hext x q2).1]; exact hw0
  · rw [hN', List.length_append]; exact ⟨a8.1, by omega⟩
  · rcases List.mem_append.mp hv with q | q
    · have := a9 v q; omega
    · simp at q; subst q; rw [vl_app]; omega
  · rcases hback i x hx with q1 | ⟨q1, q2⟩
    · exact ⟨(a10 i x hi q1).1, fun l hl => xs_cl_m ((a10 i x hi q1).2 l hl) hmem⟩
    · omega
  · rcases hback i x hx with q1 | ⟨q1, q2⟩
    · obtain ⟨b1, b2, b3, b4⟩ := a11 i x hi hi2 q1
      refine ⟨b1, b2, b3, fun l hl => ?_⟩
      by_cases q : l = k
      · subst q
        exact ⟨W.length, u, by rw [b2]; exact hWl a5, hWk, fun e he f hf hs => hcv x.1 b3 e he f hf hs⟩
      · exact xs_cl_m (b4 l (by omega)) hmem
    · omega
  · obtain ⟨x, hx, e1, e2⟩ := a12 n hn
    exact ⟨x, hmem x hx, e1, e2⟩
  · obtain ⟨i, hi⟩ := List.mem_iff_getElem?.mp hx
    rcases hback i x hi with q1 | ⟨q1, q2⟩
    · rcases a13 x (List.mem_of_getElem? q1) with z | ⟨y, hy, l, v, e, f, z1, z2, z3, z4, z5, z6, z7, z8⟩
      · exact Or.inl z
      · exact Or.inr ⟨y, hmem y hy, l, v, e, f, z1, z2, z3, z4, hWl z5, hWl z6, z7, z8⟩
    · obtain ⟨z1, n, hn, e, he, f, hf, hs, z2⟩ := hext x q2
      obtain ⟨y, hy, y1, y2⟩ := a12 n hn
      exact Or.inr ⟨y, hmem y hy, k, u, e, f, hk, he, hf, by rw [y1]; exact hs, by rw [y2]; exact hWl a5, by rw [z1]; exact hWk, by rw [y1]; exact z2, by omega⟩
theorem xs_j_0 {T1 T2 : mv_T} {c : Nat → Bool} {N0 N : List xn_T} {W : List (List Nat)} {done en w0 : Nat} {ns : List ps_nd} {u : List Nat} (h : xs_i T1 T2 c N0 N W done) (hde : done < en) (hen : en ≤ N.length) (hu : W[w0]? = some u) (hg : ∀ i x, done ≤ i → i < en → N[i]? = some x → xn_ea T1 T2 x.1 = false ∧ x.2 = w0 ∧ x.1 ∈ ns) (hns : ∀ n ∈ ns, ∃ x ∈ N, x.1 = n ∧ x.2 = w0) (hnx : ∀ x, N[en]? = some x → x.2 ≠ w0) : xs_j T1 T2 c N0 N W done en 0 ns w0 u := by
  obtain ⟨a1, a2, a3, a4, a5, a6, a7, a8, a9⟩ := h
  obtain ⟨x0, hx0⟩ : ∃ x, N[done]? = some x := ⟨_, List.getElem?_eq_getElem (by omega)⟩
  have h0 := (hg done x0 (Nat.le_refl _) hde hx0).2.1
  refine ⟨a1, a2, a3, a4, hu, fun i x hi hx => ?_, fun j x hj hx => ?_, ⟨by omega, hen⟩, fun v hv => ?_, a7, fun i x h1 h2 hx => ⟨(hg i x h1 h2 hx).1, (hg i x h1 h2 hx).2.1, (hg i x h1 h2 hx).2.2, fun l hl => absurd hl (Nat.not_lt_zero _)⟩, hns, a8, a9⟩
  · by_cases q : i < done
    · have := a5 i done x x0 q (Nat.le_refl _) hx hx0; omega
    · exact Nat.le_of_eq (hg i x (by omega) hi hx).2.1
  · have hjl := (List.getElem?_eq_some_iff.mp hx).1
    obtain ⟨z, hz⟩ : ∃ x, N[en]? = some x := ⟨_, List.getElem?_eq_getElem (by omega)⟩
    have e1 := a2 en j z x hj hz hx
    have e2 := hnx z hz
    have e3 := a2 done en x0 z (by omega) hx0 hz
    omega
  · exact a6 v hv done x0 u (Nat.le_refl _) hx0 (by rw [h0]; exact hu)
theorem xs_j_e {T1 T2 : mv_T} {c : Nat → Bool} {N0 N : List xn_T} {W : List (List Nat)} {done en w0 : Nat} {ns : List ps_nd} {u : List Nat} (h : xs_j T1 T2 c N0 N W done en 3 ns w0 u) : xs_i T1 T2 c N0 N W en := by
  obtain ⟨a1, a2, a3, a4, a5, a6, a7, a8, a9, a10, a11, a12, a13, a14⟩ := h
  refine ⟨a1, a2, a3, a4, fun i j x y hi hj hx hy => ?_, fun v hv j x z hj hx hz => ?_, fun i x hi hx => ?_, a13, a14⟩
  · have := a6 i x hi hx
    have := a7 j y hj hy
    omega
  · have e1 := a7 j x hj hx
    have e2 := a4 w0 x.2 u z e1 a5 hz
    have e3 := a9 v hv
    omega
  · by_cases q : i < done
    · exact a10 i x q hx
    · obtain ⟨b1, -, -, b4⟩ := a11 i x (by omega) hi hx
      exact ⟨b1, b4⟩
