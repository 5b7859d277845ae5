theorem wb_tb (n : Nat) : (lN n).toBitVec = BitVec.ofNat 64 n := rfl
theorem wb_inj {a b : Int64} (h : a.toBitVec = b.toBitVec) : a = b := Int64.toBitVec_inj.mp h
theorem wb_tn {n : Nat} (h : n < 2 ^ 64) : (lN n).toBitVec.toNat = n := by rw [wb_tb, BitVec.toNat_ofNat, Nat.mod_eq_of_lt h]
theorem wb_of (x : Int64) : ∃ n, n < 2 ^ 64 ∧ x = lN n := ⟨x.toBitVec.toNat, x.toBitVec.isLt, wb_inj (by rw [wb_tb]; simp)⟩
theorem wb_of32 (x : Int32) : ∃ n, n < 2 ^ 32 ∧ x = nI n := ⟨x.toBitVec.toNat, x.toBitVec.isLt, Int32.toBitVec_inj.mp (by show _ = BitVec.ofNat 32 _; simp)⟩
theorem wb_c : ∀ k, k < 64 → ((nI k).toInt64 &&& 63) = lN k := by decide +kernel
theorem wb_cu : ∀ k, k < 64 → ((nI k).toInt64.toUInt64 &&& Int64.toUInt64 63) = UInt64.ofNat k := by decide +kernel
theorem wb_sm : ∀ k, k < 64 → (BitVec.ofNat 64 k).smod 64 = BitVec.ofNat 64 k := by decide +kernel
theorem wb_pw {a b : Nat} (h : a ≤ b) : 2 ^ b = 2 ^ a * 2 ^ (b - a) := by rw [← Nat.pow_add]; congr 1; omega
theorem wb_lt2 {a b : Nat} (h : a < b) : 2 ^ a < 2 ^ b := Nat.pow_lt_pow_right (by decide) h
theorem wb_mod (n : Nat) : lN n = lN (n % 2 ^ 64) := wb_inj (by rw [wb_tb, wb_tb]; apply BitVec.eq_of_toNat_eq; rw [BitVec.toNat_ofNat, BitVec.toNat_ofNat, Nat.mod_mod])
theorem wb_shr {n k : Nat} (hn : n < 2 ^ 64) (hk : k < 64) : ((lN n).toUInt64 >>> ((nI k).toInt64.toUInt64 &&& Int64.toUInt64 63)).toInt64 = lN (n / 2 ^ k) := by
  rw [wb_cu k hk]
  apply wb_inj
  apply BitVec.eq_of_toNat_eq
  show ((lN n).toUInt64 >>> UInt64.ofNat k).toNat = (BitVec.ofNat 64 _).toNat
  have h1 : (UInt64.ofNat k).toNat = k := by
    show (BitVec.ofNat 64 k).toNat = k
    rw [BitVec.toNat_ofNat, Nat.mod_eq_of_lt (by omega)]
  have h2 : (lN n).toUInt64.toNat = n := wb_tn hn
  rw [UInt64.toNat_shiftRight, h1, h2, Nat.mod_eq_of_lt hk, Nat.shiftRight_eq_div_pow, BitVec.toNat_ofNat, Nat.mod_eq_of_lt (Nat.lt_of_le_of_lt (Nat.div_le_self _ _) hn)]
theorem wb_shl (n : Nat) {k : Nat} (hk : k < 64) : lN n <<< ((nI k).toInt64 &&& 63) = lN (n * 2 ^ k) := by
  rw [wb_c k hk]
  apply wb_inj
  rw [Int64.toBitVec_shiftLeft, wb_tb, wb_tb, wb_tb, wb_sm k hk]
  apply BitVec.eq_of_toNat_eq
  rw [BitVec.shiftLeft_eq', BitVec.toNat_shiftLeft, BitVec.toNat_ofNat, BitVec.toNat_ofNat, BitVec.toNat_ofNat, Nat.mod_eq_of_lt (show k < 2 ^ 64 by omega), Nat.shiftLeft_eq, Nat.mul_mod, Nat.mod_mod, ← Nat.mul_mod]
theorem wb_and {a b : Nat} (ha : a < 2 ^ 64) (hb : b < 2 ^ 64) : lN a &&& lN b = lN (a &&& b) := by
  apply wb_inj
  rw [Int64.toBitVec_and, wb_tb, wb_tb, wb_tb]
  apply BitVec.eq_of_toNat_eq
  rw [BitVec.toNat_and, BitVec.toNat_ofNat, BitVec.toNat_ofNat, BitVec.toNat_ofNat, Nat.mod_eq_of_lt ha, Nat.mod_eq_of_lt hb, Nat.mod_eq_of_lt (Nat.and_lt_two_pow _ hb)]
theorem wb_or {a b : Nat} (ha : a < 2 ^ 64) (hb : b < 2 ^ 64) : lN a ||| lN b = lN (a ||| b) := by
  apply wb_inj
  rw [Int64.toBitVec_or, wb_tb, wb_tb, wb_tb]
  apply BitVec.eq_of_toNat_eq
  rw [BitVec.toNat_or, BitVec.toNat_ofNat, BitVec.toNat_ofNat, BitVec.toNat_ofNat, Nat.mod_eq_of_lt ha, Nat.mod_eq_of_lt hb, Nat.mod_eq_of_lt (Nat.or_lt_two_pow ha hb)]
theorem wb_mask {n k : Nat} (hn : n < 2 ^ 64) (hk : k < 64) : lN n &&& lN (2 ^ k - 1) = lN (n % 2 ^ k) := by
  rw [wb_and hn (by have := wb_lt2 hk; omega), Nat.and_two_pow_sub_one_eq_mod]
theorem wb_a1 {n : Nat} (hn : n < 2 ^ 64) : lN n &&& 1 = lN (n % 2) := wb_mask (k := 1) hn (by decide)
theorem wb_bit {n k : Nat} (hn : n < 2 ^ 64) (hk : k < 64) : ((lN n).toUInt64 >>> ((nI k).toInt64.toUInt64 &&& Int64.toUInt64 63)).toInt64 &&& 1 = lN (n / 2 ^ k % 2) := by
  rw [wb_shr hn hk, wb_a1 (Nat.lt_of_le_of_lt (Nat.div_le_self _ _) hn)]
theorem wb_xor {q k : Nat} (hk : k < 63) (h : 2 ^ k ≤ q) (h2 : q < 2 ^ (k + 1)) : lN q ^^^ lN (2 ^ k) = lN (q - 2 ^ k) := by
  obtain ⟨r, rfl⟩ : ∃ r, q = 2 ^ k + r := ⟨q - 2 ^ k, by omega⟩
  have hr : r < 2 ^ k := by rw [Nat.pow_succ] at h2; omega
  have hx : (2 ^ k + r) ^^^ 2 ^ k = r := by
    apply Nat.eq_of_testBit_eq
    intro i
    rw [Nat.testBit_xor, Nat.testBit_two_pow]
    rcases Nat.lt_trichotomy i k with h | h | h
    · rw [Nat.testBit_two_pow_add_gt h]
      simp [show ¬ k = i by omega]
    · subst h
      rw [Nat.testBit_two_pow_add_eq]
      simp
    · have a1 : 2 ^ (k + 1) ≤ 2 ^ i := Nat.pow_le_pow_right (by decide) h
      rw [Nat.testBit_lt_two_pow (show 2 ^ k + r < 2 ^ i by omega), Nat.testBit_lt_two_pow (show r < 2 ^ i by omega)]
      simp [show ¬ k = i by omega]
  have b1 := wb_lt2 (show k + 1 < 64 by omega)
  have b2 := wb_lt2 (show k < 64 by omega)
  apply wb_inj
  rw [Int64.toBitVec_xor, wb_tb, wb_tb, wb_tb]
  apply BitVec.eq_of_toNat_eq
  rw [BitVec.toNat_xor, BitVec.toNat_ofNat, BitVec.toNat_ofNat, BitVec.toNat_ofNat, Nat.mod_eq_of_lt (by omega : 2 ^ k + r < 2 ^ 64), Nat.mod_eq_of_lt b2, hx, Nat.add_sub_cancel_left, Nat.mod_eq_of_lt (by omega)]
/-! ===== lN: masks, 'or' of parts that don't overlap is a sum ===== -/
theorem u_tn {n : Nat} (h : n < 2 ^ 64) : (UInt64.ofNat n).toNat = n := Nat.mod_eq_of_lt h

/-! words as numbers in base 16; cells of 64 bits -/
def wd_p : List Nat → Nat
  | [] => 0
  | x :: xs => x + 16 * wd_p xs
theorem wd_p_lt : ∀ {xs : List Nat}, (∀ x ∈ xs, x < 16) → wd_p xs < 2 ^ (4 * xs.length)
  | [], _ => by simp [wd_p]
  | x :: xs, h => by
    have h1 := wd_p_lt (xs := xs) (fun y hy => h y (List.mem_cons_of_mem _ hy))
    have h2 := h x List.mem_cons_self
    simp only [wd_p, List.length_cons]
    rw [show 4 * (xs.length + 1) = 4 * xs.length + 4 by omega, Nat.pow_add]
    omega
theorem wd_p_app : ∀ (xs ys : List Nat), wd_p (xs ++ ys) = 2 ^ (4 * xs.length) * wd_p ys + wd_p xs
  | [], ys => by simp [wd_p]
  | x :: xs, ys => by
    simp only [List.cons_append, wd_p, List.length_cons, wd_p_app xs ys]
    rw [show 4 * (xs.length + 1) = 4 + 4 * xs.length by omega, Nat.pow_add, Nat.mul_assoc]
    omega
theorem wd_p_split {xs : List Nat} (h : ∀ x ∈ xs, x < 16) (k : Nat) (hk : k ≤ xs.length) : wd_p (xs.drop k) = wd_p xs / 2 ^ (4 * k) ∧ wd_p (xs.take k) = wd_p xs % 2 ^ (4 * k) := by
  have e := wd_p_app (xs.take k) (xs.drop k)
  rw [List.take_append_drop, List.length_take, Nat.min_eq_left hk] at e
  have hl : wd_p (xs.take k) < 2 ^ (4 * k) := by
    have := wd_p_lt (xs := xs.take k) (fun x hx => h x (List.mem_of_mem_take hx))
    rwa [List.length_take, Nat.min_eq_left hk] at this
  rw [e]
  constructor
  · rw [Nat.mul_add_div (Nat.two_pow_pos _), Nat.div_eq_of_lt hl, Nat.add_zero]
  · rw [Nat.mul_add_mod, Nat.mod_eq_of_lt hl]
theorem wd_p_get : ∀ {xs : List Nat}, (∀ x ∈ xs, x < 16) → ∀ (i : Nat) (hi : i < xs.length), wd_p xs / 2 ^ (4 * i) % 16 = xs[i]
  | [], _, i, hi => by simp at hi
  | x :: xs, h, 0, hi => by
    have h2 := h x List.mem_cons_self
    simp [wd_p]; omega
  | x :: xs, h, i + 1, hi => by
    have h1 := wd_p_get (xs := xs) (fun y hy => h y (List.mem_cons_of_mem _ hy)) i (by simpa using hi)
    have h2 := h x List.mem_cons_self
    simp only [wd_p, List.getElem_cons_succ]
    rw [← h1, show 4 * (i + 1) = 4 + 4 * i by omega, Nat.pow_add, ← Nat.div_div_eq_div_mul]
    congr 2
    omega
theorem wd_p_inj : ∀ {xs ys : List Nat}, (∀ x ∈ xs, x < 16) → (∀ x ∈ ys, x < 16) → xs.length = ys.length → wd_p xs = wd_p ys → xs = ys
  | [], [], _, _, _, _ => rfl
  | [], y :: ys, _, _, h, _ => by simp at h
  | x :: xs, [], _, _, h, _ => by simp at h
  | x :: xs, y :: ys, h1, h2, hl, he => by
    have a := h1 x List.mem_cons_self
    have b := h2 y List.mem_cons_self
    simp only [wd_p] at he
    have e1 : x = y := by omega
    have e2 : wd_p xs = wd_p ys := by omega
    rw [e1, wd_p_inj (fun z hz => h1 z (List.mem_cons_of_mem _ hz)) (fun z hz => h2 z (List.mem_cons_of_mem _ hz)) (by simpa using hl) e2]
/-- cell j of the number N -/
def wd_k (N j : Nat) : Nat := N / 2 ^ (64 * j) % 2 ^ 64
theorem wd_k_lt (N j : Nat) : wd_k N j < 2 ^ 64 := Nat.mod_lt _ (Nat.two_pow_pos _)
theorem wd_k_bit (N j t : Nat) : (wd_k N j).testBit t = (decide (t < 64) && N.testBit (64 * j + t)) := by
  simp only [wd_k, Nat.testBit_mod_two_pow, Nat.testBit_div_two_pow]
  rw [Nat.add_comm t]
theorem wd_k_0 {N j : Nat} (h : N < 2 ^ (64 * j)) : wd_k N j = 0 := by
  simp only [wd_k]; rw [Nat.div_eq_of_lt h]
theorem wd_k_ext {x y : Nat} (hx : x < 2 ^ 64) (hy : y < 2 ^ 64) (h : ∀ t, t < 64 → x.testBit t = y.testBit t) : x = y := by
  apply Nat.eq_of_testBit_eq
  intro t
  by_cases ht : t < 64
  · exact h t ht
  · rw [Nat.testBit_lt_two_pow (Nat.lt_of_lt_of_le hx (Nat.pow_le_pow_right (by decide) (by omega))), Nat.testBit_lt_two_pow (Nat.lt_of_lt_of_le hy (Nat.pow_le_pow_right (by decide) (by omega)))]
def wd_f (xs : List Nat) : Nat → Int64 := fun j => lN (wd_k (wd_p xs) j)
theorem wd_f_nil : wd_f [] = fun _ => lN 0 := by funext j; simp [wd_f, wd_p, wd_k]
theorem wd_f_0 {xs : List Nat} {j : Nat} (h : ∀ x ∈ xs, x < 16) (hj : xs.length ≤ 16 * j) : wd_f xs j = lN 0 := by
  simp only [wd_f]
  rw [wd_k_0 (Nat.lt_of_lt_of_le (wd_p_lt h) (Nat.pow_le_pow_right (by decide) (by omega)))]
/-- sign i of the cells -/
theorem wd_k_get {xs : List Nat} (h : ∀ x ∈ xs, x < 16) {i : Nat} (hi : i < xs.length) : wd_k (wd_p xs) (i / 16) / 2 ^ (4 * (i % 16)) % 16 = xs[i] := by
  rw [← wd_p_get h i hi]
  apply Nat.eq_of_testBit_eq
  intro t
  rw [show (16 : Nat) = 2 ^ 4 from rfl, Nat.testBit_mod_two_pow, Nat.testBit_mod_two_pow, Nat.testBit_div_two_pow, Nat.testBit_div_two_pow, wd_k_bit]
  by_cases ht : t < 4
  · have e : 64 * (i / 2 ^ 4) + (t + 4 * (i % 2 ^ 4)) = t + 4 * i := by omega
    rw [e]
    have h2 : t + 4 * (i % 2 ^ 4) < 64 := by omega
    simp [h2]
  · simp [ht]
theorem lN_inj {a b : Nat} (ha : a < 2 ^ 64) (hb : b < 2 ^ 64) (h : lN a = lN b) : a = b := by
  have := congrArg (fun z => z.toBitVec.toNat) h
  rwa [wb_tn ha, wb_tn hb] at this
