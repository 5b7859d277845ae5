/-! mathematics: kinds -/
section KD
variable {kd : Nat → Nat} {af : Nat → Nat → Nat}
theorem bk_ol_t {s t : Nat} : ∀ (k l : Nat), bk_ol kd af s t k l = true ↔ ∀ j, l ≤ j → j < l + k → kd (af s j) = kd (af t j)
  | 0, l => by simp only [bk_ol, true_iff]; intro j h1 h2; omega
  | k + 1, l => by
    simp only [bk_ol, Bool.and_eq_true, decide_eq_true_eq, bk_ol_t k (l + 1)]
    constructor
    · rintro ⟨h1, h2⟩ j h3 h4
      by_cases c : j = l
      · subst c; exact h1
      · exact h2 j (by omega) (by omega)
    · intro h
      exact ⟨h l (Nat.le_refl _) (by omega), fun j h1 h2 => h j (by omega) (by omega)⟩
theorem bk_one_t {s t : Nat} : bk_one kd af s t = true ↔ kd s = kd t ∧ ∀ l, l < 3 → kd (af s l) = kd (af t l) := by
  unfold bk_one
  rw [Bool.and_eq_true, decide_eq_true_eq, bk_ol_t]
  exact and_congr Iff.rfl ⟨fun h l hl => h l (Nat.zero_le _) (by omega), fun h j _ h2 => h j (by omega)⟩
theorem bk_fi_s {s : Nat} : ∀ (k f : Nat), f + k = s → (∀ g, g < f → bk_one kd af g s = false) → bk_fi kd af s k f ≤ s ∧ bk_one kd af (bk_fi kd af s k f) s = true ∧ ∀ g, g < bk_fi kd af s k f → bk_one kd af g s = false
  | 0, f, h, hg => by
    simp only [bk_fi]
    have e : f = s := by omega
    subst e
    exact ⟨Nat.le_refl _, bk_one_t.mpr ⟨rfl, fun _ _ => rfl⟩, hg⟩
  | k + 1, f, h, hg => by
    simp only [bk_fi]
    split
    · next c => exact ⟨by omega, c, hg⟩
    · next c =>
      refine bk_fi_s k (f + 1) (by omega) (fun g hg' => ?_)
      by_cases e : g = f
      · subst e; simpa using c
      · exact hg g (by omega)
theorem bk_n_s (s : Nat) : bk_n kd af s ≤ s ∧ bk_one kd af (bk_n kd af s) s = true ∧ ∀ g, bk_one kd af g s = true → bk_n kd af s ≤ g := by
  obtain ⟨h1, h2, h3⟩ := bk_fi_s (kd := kd) (af := af) (s := s) s 0 (by omega) (fun g hg => absurd hg (Nat.not_lt_zero _))
  refine ⟨h1, h2, fun g hg => Nat.le_of_not_lt (fun c => ?_)⟩
  rw [h3 g c] at hg; cases hg
theorem bk_one_sy {s t : Nat} (h : bk_one kd af s t = true) : bk_one kd af t s = true := by
  rw [bk_one_t] at *
  exact ⟨h.1.symm, fun l hl => (h.2 l hl).symm⟩
theorem bk_one_tr {s t u : Nat} (h : bk_one kd af s t = true) (h2 : bk_one kd af t u = true) : bk_one kd af s u = true := by
  rw [bk_one_t] at *
  exact ⟨h.1.trans h2.1, fun l hl => (h.2 l hl).trans (h2.2 l hl)⟩
theorem bk_n_eq {s t : Nat} : bk_n kd af s = bk_n kd af t ↔ bk_one kd af s t = true := by
  obtain ⟨-, a2, a3⟩ := bk_n_s (kd := kd) (af := af) s
  obtain ⟨-, b2, b3⟩ := bk_n_s (kd := kd) (af := af) t
  constructor
  · intro e
    rw [e] at a2
    exact bk_one_tr (bk_one_sy a2) b2
  · intro h
    exact Nat.le_antisymm (a3 _ (bk_one_tr b2 (bk_one_sy h))) (b3 _ (bk_one_tr a2 h))
theorem bk_c_sub {kd kd' : Nat → Nat} : ∀ n, (∀ s, s < n → kd s = s → kd' s = s) → bk_c kd n ≤ bk_c kd' n ∧ (bk_c kd' n ≤ bk_c kd n → ∀ s, s < n → kd' s = s → kd s = s)
  | 0, _ => ⟨Nat.le_refl _, fun _ s hs => absurd hs (Nat.not_lt_zero _)⟩
  | n + 1, h => by
    obtain ⟨h1, h2⟩ := bk_c_sub n (fun s hs => h s (by omega))
    simp only [bk_c]
    have hn := h n (by omega)
    by_cases c : kd n = n
    · rw [if_pos c, if_pos (hn c)]
      refine ⟨by omega, fun q s hs hk => ?_⟩
      by_cases e : s = n
      · rw [e]; exact c
      · exact h2 (by omega) s (by omega) hk
    · rw [if_neg c]
      by_cases c' : kd' n = n
      · rw [if_pos c']
        exact ⟨by omega, fun q => by omega⟩
      · rw [if_neg c']
        refine ⟨by omega, fun q s hs hk => ?_⟩
        by_cases e : s = n
        · rw [e] at hk; exact absurd hk c'
        · exact h2 (by omega) s (by omega) hk
theorem bk_c_full {kd : Nat → Nat} : ∀ n, bk_c kd n ≤ n ∧ (n ≤ bk_c kd n → ∀ s, s < n → kd s = s)
  | 0 => ⟨Nat.le_refl _, fun _ s hs => absurd hs (Nat.not_lt_zero _)⟩
  | n + 1 => by
    obtain ⟨h1, h2⟩ := bk_c_full (kd := kd) n
    simp only [bk_c]
    split
    · next c =>
      refine ⟨by omega, fun q s hs => ?_⟩
      by_cases e : s = n
      · rw [e]; exact c
      · exact h2 (by omega) s (by omega)
    · exact ⟨by omega, fun q => by omega⟩
/-- the words read from s and from t on are the same -/
def kle (k0 : Nat → Nat) (af : Nat → Nat → Nat) (s t : Nat) : Prop := ∀ v : List Nat, (∀ x ∈ v, x < 3) → k0 (v.foldl af s) = k0 (v.foldl af t)
theorem kle_st {k0 : Nat → Nat} {s t l : Nat} (h : kle k0 af s t) (hl : l < 3) : kle k0 af (af s l) (af t l) := fun v hv => h (l :: v) (fun x hx => by
  rcases List.mem_cons.mp hx with q | q
  · omega
  · exact hv x q)
theorem bk_it_s {k0 : Nat → Nat} (h64 : ∀ s l, s < 64 → l < 3 → af s l < 64) : ∀ (k kn : Nat) (kd : Nat → Nat), 64 ≤ k + kn → (∀ s t, s < 64 → t < 64 → kle k0 af s t → kd s = kd t) → (∀ s t, s < 64 → t < 64 → kd s = kd t → k0 s = k0 t) → (kn = 0 ∨ ((∀ s, kd s ≤ s) ∧ kn = bk_c kd 64)) → ∀ s t, s < 64 → t < 64 → (bk_it af k true kn kd s = bk_it af k true kn kd t ↔ kle k0 af s t) := by
  have hfin : ∀ kd : Nat → Nat, (∀ s t, s < 64 → t < 64 → kle k0 af s t → kd s = kd t) → (∀ s t, s < 64 → t < 64 → kd s = kd t → k0 s = k0 t) → (∀ s t, s < 64 → t < 64 → kd s = kd t → ∀ l, l < 3 → kd (af s l) = kd (af t l)) → ∀ s t, s < 64 → t < 64 → (kd s = kd t ↔ kle k0 af s t) := by
    intro kd h1 h2 h3 s t hs ht
    refine ⟨fun e v hv => ?_, h1 s t hs ht⟩
    induction v generalizing s t with
    | nil => exact h2 s t hs ht e
    | cons l v ih =>
      have hl := hv l List.mem_cons_self
      exact ih (af s l) (af t l) (h64 s l hs hl) (h64 t l ht hl) (h3 s t hs ht e l hl) (fun x hx => hv x (List.mem_cons_of_mem _ hx))
  intro k
  induction k with
  | zero =>
    intro kn kd hk h1 h2 h3 s t hs ht
    simp only [bk_it]
    have hall : ∀ s, s < 64 → kd s = s := by
      rcases h3 with h3 | ⟨-, h3⟩
      · omega
      · exact (bk_c_full 64).2 (by omega)
    refine hfin kd h1 h2 (fun s t hs ht e l hl => ?_) s t hs ht
    rw [hall s hs, hall t ht] at e
    rw [e]
  | succ k ih =>
    intro kn kd hk h1 h2 h3 s t hs ht
    simp only [bk_it, if_true]
    have hn1 : ∀ s t, s < 64 → t < 64 → kle k0 af s t → bk_n kd af s = bk_n kd af t := fun s t hs ht hle => by
      rw [bk_n_eq, bk_one_t]
      exact ⟨h1 s t hs ht hle, fun l hl => h1 _ _ (h64 s l hs hl) (h64 t l ht hl) (kle_st hle hl)⟩
    have hn2 : ∀ s t, s < 64 → t < 64 → bk_n kd af s = bk_n kd af t → k0 s = k0 t := fun s t hs ht e => by
      rw [bk_n_eq, bk_one_t] at e
      exact h2 s t hs ht e.1
    have hle : ∀ s, bk_n kd af s ≤ s := fun s => (bk_n_s s).1
    by_cases c : kn < bk_c (bk_n kd af) 64
    · rw [decide_eq_true c]
      exact ih _ _ (by omega) hn1 hn2 (Or.inr ⟨hle, rfl⟩) s t hs ht
    · rw [decide_eq_false c]
      have e : ∀ kn kd, bk_it af k false kn kd = kd := fun kn kd => by
        cases k with
        | zero => rfl
        | succ k => simp only [bk_it, Bool.false_eq_true, if_false]
      rw [e]
      refine hfin _ hn1 hn2 (fun s t hs ht e l hl => ?_) s t hs ht
      have hc1 : 1 ≤ bk_c (bk_n kd af) 64 := by
        have h0 : bk_n kd af 0 = 0 := Nat.le_zero.mp (hle 0)
        have hmono : ∀ n, 1 ≤ bk_c (bk_n kd af) (n + 1) := by
          intro n
          induction n with
          | zero => simp only [bk_c, h0, if_true]; omega
          | succ n ih => simp only [bk_c] at ih ⊢; omega
        exact hmono 63
      rcases h3 with h3 | ⟨h3, h4⟩
      · omega
      · have hsub : ∀ s, s < 64 → kd s = s → bk_n kd af s = s := fun s _ hs => by
          obtain ⟨b1, b2, -⟩ := bk_n_s (kd := kd) (af := af) s
          rw [bk_one_t] at b2
          have := h3 (bk_n kd af s)
          rw [b2.1, hs] at this
          omega
        have hsame := (bk_c_sub 64 hsub).2 (by omega)
        have hback : ∀ s t, s < 64 → t < 64 → kd s = kd t → bk_n kd af s = bk_n kd af t := fun s t hs ht e => by
          obtain ⟨a1, a2, -⟩ := bk_n_s (kd := kd) (af := af) s
          obtain ⟨b1, b2, -⟩ := bk_n_s (kd := kd) (af := af) t
          have ra : bk_n kd af (bk_n kd af s) = bk_n kd af s := bk_n_eq.mpr a2
          have rb : bk_n kd af (bk_n kd af t) = bk_n kd af t := bk_n_eq.mpr b2
          have ka := hsame _ (by omega) ra
          have kb := hsame _ (by omega) rb
          rw [bk_one_t] at a2 b2
          rw [← ka, ← kb, a2.1, b2.1, e]
        rw [bk_n_eq, bk_one_t] at e
        exact hback _ _ (h64 s l hs hl) (h64 t l ht hl) (e.2 l hl)
end KD
/-- two sets are of one kind just if the same words are read from them on -/
theorem kd_is {m T : mv_T} {c s t : Nat} (r : mrel m c T) (w1 : tw T 32) (h : ∀ e ∈ T.2.1, e.1 < m.1) (h6 : ∀ q, (c &&& mv_al m c).testBit q = true → q < 6) (hs : s < 64) (ht : t < 64) : bk_kd m c s = bk_kd m c t ↔ ∀ v : List Nat, (∀ x ∈ v, x < 3) → xe T (xr T s v) = xe T (xr T t v) := by
  unfold bk_kd
  have hk0 : ∀ s t, bk_k0 m c s = bk_k0 m c t ↔ xe T s = xe T t := fun s t => by
    have h1 := mrel_acc (s := s) r h6
    have h2 := mrel_acc (s := t) r h6
    unfold bk_k0
    cases a : xe T s <;> cases b : xe T t
    · rw [if_pos (h1.mpr a), if_pos (h2.mpr b)]; simp
    · rw [if_pos (h1.mpr a), if_neg (fun q => by rw [h2.mp q] at b; cases b)]; simp
    · rw [if_neg (fun q => by rw [h1.mp q] at a; cases a), if_pos (h2.mpr b)]; simp
    · rw [if_neg (fun q => by rw [h1.mp q] at a; cases a), if_neg (fun q => by rw [h2.mp q] at b; cases b)]; simp
  have haf : ∀ s l, l < 3 → bk_af m c s l = xt T l s := fun s l hl => mrel_af r h hl
  have hrun : ∀ (v : List Nat) (s : Nat), (∀ x ∈ v, x < 3) → v.foldl (bk_af m c) s = xr T s v := by
    intro v
    induction v with
    | nil => intro s _; rfl
    | cons l v ih =>
      intro s hv
      have e : xr T s (l :: v) = xr T (xt T l s) v := rfl
      rw [List.foldl_cons, haf s l (hv l List.mem_cons_self), e]
      exact ih _ (fun x hx => hv x (List.mem_cons_of_mem _ hx))
  rw [bk_it_s (k0 := bk_k0 m c) (fun s l hs hl => by rw [haf s l hl]; exact xt_64 w1) 64 0 (bk_k0 m c) (by decide) (fun s t hs ht hle => hle [] (fun x hx => by cases hx)) (fun s t hs ht e => e) (Or.inl rfl) s t hs ht]
  unfold kle
  constructor
  · intro hh v hv
    have := hh v hv
    rw [hk0, hrun v s hv, hrun v t hv] at this
    exact this
  · intro hh v hv
    rw [hk0, hrun v s hv, hrun v t hv]
    exact hh v hv
