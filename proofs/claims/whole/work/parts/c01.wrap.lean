/-! the wrappers' contracts -/
/-- beside the desk and the cell for answers nothing changes -/
def wl_fr (z o : Nat) (G G' : rz_G) : Prop := ∀ x, x ≠ o → x < z ∨ z + 2002 ≤ x → G' x = G x
/-- a wrapper of a method without an answer -/
def wl_v (cd : Nat → Nat) (z : Nat) (V : dk_V) (G : rz_G) (f : Option Value → dk_V → Prop) (e : Nat → Prop) : Option Value → rz_G → Prop := fun r G' => (∃ V', r = some (.int 0) ∧ f none V' ∧ dk G' z V' ∧ dk_fr z G G') ∨ ∃ c, e c ∧ r = some (.int (nI (cd c))) ∧ dk G' z V ∧ dk_fr z G G'
/-- .. with one: t v is what is laid down for the answer v -/
def wl_o (t : Int32 → Int64) (cd : Nat → Nat) (z o : Nat) (V : dk_V) (G : rz_G) (f : Option Value → dk_V → Prop) (e : Nat → Prop) : Option Value → rz_G → Prop := fun r G' => (∃ v g V', r = some (.int 0) ∧ f (some (.int v)) V' ∧ dk G' z V' ∧ wl_fr z o G G' ∧ G' o = some (.inl (1, 1, .inr (.inl g))) ∧ g 0 = t v) ∨ ∃ c, e c ∧ r = some (.int (nI (cd c))) ∧ dk G' z V ∧ wl_fr z o G G' ∧ G' o = G o
def tI (v : Int32) : Int64 := v.toInt64
def tB (v : Int32) : Int64 := if v = 0 then 0 else 1
/-- the desk lies where nothing has changed -/
theorem dk_mv {V : dk_V} {G G' : rz_G} {z : Nat} (h : dk G z V) (hx : ∀ x, z ≤ x → x < z + 2002 → G' x = G x) : dk G' z V := fun k hk => dk_loc k hk (fun x h1 h2 => hx x (by omega) (by have := dk_in k hk; omega)) (h k hk)
theorem wl_put {V : dk_V} {G G1 : rz_G} {z o : Nat} {e : rz_E} (h : dk G1 z V) (hf : dk_fr z G G1) (ho : o < z ∨ z + 2002 ≤ o) : dk (rz_up G1 o e) z V ∧ wl_fr z o G (rz_up G1 o e) := ⟨dk_mv h (fun x h1 h2 => rz_up_n _ _ (by omega)), fun x h1 h2 => by rw [rz_up_n _ _ h1]; exact hf x h2⟩
theorem wl_of {G G1 : rz_G} {z o : Nat} (hf : dk_fr z G G1) : wl_fr z o G G1 := fun x _ h2 => hf x h2
theorem vp_in0 : vp_in (Int32.ofInt 0) 1 := by rw [show Int32.ofInt 0 = nI 0 from by decide]; exact vp_in_nI (by decide) (by decide)
theorem vp_updL_0 {f : Nat → Int64} {x : Int64} : vp_updL f (Int32.ofInt 0).toNatClampNeg x 0 = x := if_pos rfl
set_option maxRecDepth 100000 in
set_option maxHeartbeats 4000000 in
theorem c_Law_machine {w : rz_w} {d : Nat} {G : rz_G} {z : Nat} {V : dk_V} (h : dk G z V) (x y : Int32) : rz_CW w (d + 10) 1 6 y_Law_machine m_Law_machine h_Law_machine [.ref z, .int x, .int y] G (wl_v cdA z V G (fun r V' => r = none ∧ ∃ k n, k < 6 ∧ 1 ≤ n ∧ n ≤ 6 ∧ x = nI k ∧ y = nI n ∧ V' = dk_um V k (dk_ms n)) (fun c => (c = 0 ∧ dk_no x) ∨ (c = 1 ∧ ¬ dk_no x ∧ ¬ dk_ok6 y))) := by
  obtain ⟨hob, -⟩ := h 0 (by decide)
  refine rz_enterWX [some (.ref z), some (.int x), some (.int y), none] (by decide) (by decide +kernel) rfl rfl (Nat.le_of_ble_eq_true rfl) rfl ?_
  refine ru_aload_n (j := 0) (by decide +kernel) rfl ?_
  refine ru_iload_n (j := 1) (by decide +kernel) rfl ?_
  refine ru_iload_n (j := 2) (by decide +kernel) rfl ?_
  refine ru_catch (en := 6) (ks := [(0, 9), (1, 12)]) (As := [.int x, .int y]) (b := z) (S := []) (X' := ru_V V z G (fun r V' => r = none ∧ ∃ k n, k < 6 ∧ 1 ≤ n ∧ n ≤ 6 ∧ x = nI k ∧ y = nI n ∧ V' = dk_um V k (dk_ms n)) (fun c => (c = 0 ∧ dk_no x) ∨ (c = 1 ∧ ¬ dk_no x ∧ ¬ dk_ok6 y))) l_Law_7 (by decide +kernel) rfl hob rfl (Nat.le_of_ble_eq_true rfl) rfl rfl rfl (by decide) (by decide) (List.cons_ne_nil _ _) rfl (Nat.le_refl _) (Nat.le_refl _) (c_Desk_machine (d := d) h x y) (fun c G' hc => ?_) (fun r G' hr => ?_)
  · obtain ⟨he, h1, h2⟩ := hc
    have he0 := he
    rcases he with ⟨rfl, _⟩ | ⟨rfl, _⟩
    · exact ⟨by decide, 9, 1, 1, rfl, Or.inl ⟨3, by decide +kernel, by decide, rfl⟩, by decide +kernel, by decide +kernel, Or.inr ⟨0, he0, rfl, h1, h2⟩⟩
    · exact ⟨by decide, 12, 1, 2, rfl, Or.inl ⟨3, by decide +kernel, by decide, rfl⟩, by decide +kernel, by decide +kernel, Or.inr ⟨1, he0, rfl, h1, h2⟩⟩
  · obtain ⟨V', hf, h1, h2⟩ := hr
    have hf0 := hf
    obtain ⟨rfl, -⟩ := hf
    refine rz_goto (off := 9) (t := 15) (by decide +kernel) (by decide) ?_
    refine rz_iconst (n := 0) (by decide +kernel) ?_
    exact rz_ireturn (by decide +kernel) rfl rfl (Nat.zero_le _) (Nat.zero_le _) (Or.inl ⟨V', rfl, hf0, h1, h2⟩)
set_option maxRecDepth 100000 in
set_option maxHeartbeats 4000000 in
theorem c_Law_edge {w : rz_w} {d : Nat} {G : rz_G} {z : Nat} {V : dk_V} (h : dk G z V) {o : Nat} {g0 : Nat → Int64} (ho : o < z ∨ z + 2002 ≤ o) (hg : G o = some (.inl (1, 1, .inr (.inl g0)))) (x yf yl yt yn u : Int32) : rz_CW w (d + 10) 1 6 y_Law_edge m_Law_edge h_Law_edge [.ref z, .int x, .int yf, .int yl, .int yt, .int yn, .int u, .ref o] G (wl_o tI cdA z o V G (fun r V' => ∃ k f l t n, k < 6 ∧ f < (V.1 k).1 ∧ t < (V.1 k).1 ∧ l < 3 ∧ n ≤ 3 ∧ (V.1 k).2.1.length < 24 ∧ x = nI k ∧ yf = nI f ∧ yl = nI l ∧ yt = nI t ∧ yn = nI n ∧ r = some (.int (nI (V.1 k).2.1.length)) ∧ V' = dk_um V k (dk_ae (V.1 k) f l t (wd_told u.toBitVec.toNat n))) (fun c => (c = 0 ∧ dk_no x) ∨ ∃ k, k < 6 ∧ x = nI k ∧ ((c = 1 ∧ ¬ dk_eok (V.1 k) yf yl yt yn) ∨ (c = 2 ∧ dk_eok (V.1 k) yf yl yt yn ∧ 24 ≤ (V.1 k).2.1.length)))) := by
  obtain ⟨hob, -⟩ := h 0 (by decide)
  refine rz_enterWX [some (.ref z), some (.int x), some (.int yf), some (.int yl), some (.int yt), some (.int yn), some (.int u), some (.ref o), none] (by decide) (by decide +kernel) rfl rfl (Nat.le_of_ble_eq_true rfl) rfl ?_
  refine ru_aload (j := 7) (by decide +kernel) rfl ?_
  refine ru_iconst (n := 0) (by decide +kernel) ?_
  refine ru_aload_n (j := 0) (by decide +kernel) rfl ?_
  refine ru_iload_n (j := 1) (by decide +kernel) rfl ?_
  refine ru_iload_n (j := 2) (by decide +kernel) rfl ?_
  refine ru_iload_n (j := 3) (by decide +kernel) rfl ?_
  refine ru_iload (j := 4) (by decide +kernel) rfl ?_
  refine ru_iload (j := 5) (by decide +kernel) rfl ?_
  refine ru_iload (j := 6) (by decide +kernel) rfl ?_
  refine ru_catch (en := 18) (ks := [(0, 21), (1, 25), (2, 29)]) (As := [.int x, .int yf, .int yl, .int yt, .int yn, .int u]) (b := z) (S := [.int (Int32.ofInt 0), .ref o]) (X' := ru_V V z G (fun r V' => ∃ k f l t n, k < 6 ∧ f < (V.1 k).1 ∧ t < (V.1 k).1 ∧ l < 3 ∧ n ≤ 3 ∧ (V.1 k).2.1.length < 24 ∧ x = nI k ∧ yf = nI f ∧ yl = nI l ∧ yt = nI t ∧ yn = nI n ∧ r = some (.int (nI (V.1 k).2.1.length)) ∧ V' = dk_um V k (dk_ae (V.1 k) f l t (wd_told u.toBitVec.toNat n))) (fun c => (c = 0 ∧ dk_no x) ∨ ∃ k, k < 6 ∧ x = nI k ∧ ((c = 1 ∧ ¬ dk_eok (V.1 k) yf yl yt yn) ∨ (c = 2 ∧ dk_eok (V.1 k) yf yl yt yn ∧ 24 ≤ (V.1 k).2.1.length)))) l_Law_17 (by decide +kernel) rfl hob rfl (Nat.le_of_ble_eq_true rfl) rfl rfl rfl (by decide) (by decide) (List.cons_ne_nil _ _) rfl (Nat.le_refl _) (Nat.le_refl _) (c_Desk_edge (d := d) h x yf yl yt yn u) (fun c G' hc => ?_) (fun r G' hr => ?_)
  · obtain ⟨he, h1, h2⟩ := hc
    have he0 := he
    rcases he with ⟨rfl, _⟩ | ⟨_, _, _, ⟨rfl, _⟩ | ⟨rfl, _⟩⟩
    · exact ⟨by decide, 21, 2, 1, rfl, Or.inr ⟨8, by decide +kernel, by decide, rfl⟩, by decide +kernel, by decide +kernel, Or.inr ⟨0, he0, rfl, h1, wl_of h2, h2 o ho⟩⟩
    · exact ⟨by decide, 25, 2, 2, rfl, Or.inr ⟨8, by decide +kernel, by decide, rfl⟩, by decide +kernel, by decide +kernel, Or.inr ⟨1, he0, rfl, h1, wl_of h2, h2 o ho⟩⟩
    · exact ⟨by decide, 29, 2, 3, rfl, Or.inr ⟨8, by decide +kernel, by decide, rfl⟩, by decide +kernel, by decide +kernel, Or.inr ⟨2, he0, rfl, h1, wl_of h2, h2 o ho⟩⟩
  · obtain ⟨V', hf, h1, h2⟩ := hr
    have hgo : G' o = some (.inl (1, 1, .inr (.inl g0))) := (h2 o ho).trans hg
    obtain ⟨v, rfl⟩ : ∃ v, r = some (.int v) := by
      rcases hf with ⟨_, _, _, _, _, _, _, _, _, _, _, _, _, _, _, _, rfl, _⟩ <;> exact ⟨_, rfl⟩
    refine rz_i2l (by decide +kernel) ?_
    refine rz_lastore (by decide +kernel) hgo vp_in0 ?_
    refine rz_goto (off := 15) (t := 33) (by decide +kernel) (by decide) ?_
    refine rz_iconst (n := 0) (by decide +kernel) ?_
    obtain ⟨p1, p2⟩ := wl_put (e := .inl (1, 1, .inr (.inl (vp_updL g0 (Int32.ofInt 0).toNatClampNeg v.toInt64)))) h1 h2 ho
    exact rz_ireturn (by decide +kernel) rfl rfl (Nat.zero_le _) (Nat.zero_le _) (Or.inl ⟨v, _, V', rfl, hf, p1, p2, rz_up_s _ _ _, by rw [vp_updL_0]; rfl⟩)
set_option maxRecDepth 100000 in
set_option maxHeartbeats 4000000 in
theorem c_Law_last {w : rz_w} {d : Nat} {G : rz_G} {z : Nat} {V : dk_V} (h : dk G z V) (x yq yn u : Int32) : rz_CW w (d + 10) 1 6 y_Law_last m_Law_last h_Law_last [.ref z, .int x, .int yq, .int yn, .int u] G (wl_v cdA z V G (fun r V' => r = none ∧ ∃ k q, k < 6 ∧ q < (V.1 k).1 ∧ x = nI k ∧ yq = nI q ∧ ((yn = -1 ∧ V' = dk_um V k (dk_fi (V.1 k) q none)) ∨ ∃ n, n ≤ 3 ∧ yn = nI n ∧ V' = dk_um V k (dk_fi (V.1 k) q (some (wd_told u.toBitVec.toNat n))))) (fun c => (c = 0 ∧ dk_no x) ∨ (c = 1 ∧ ∃ k, k < 6 ∧ x = nI k ∧ ¬ dk_lok (V.1 k) yq yn))) := by
  obtain ⟨hob, -⟩ := h 0 (by decide)
  refine rz_enterWX [some (.ref z), some (.int x), some (.int yq), some (.int yn), some (.int u), none] (by decide) (by decide +kernel) rfl rfl (Nat.le_of_ble_eq_true rfl) rfl ?_
  refine ru_aload_n (j := 0) (by decide +kernel) rfl ?_
  refine ru_iload_n (j := 1) (by decide +kernel) rfl ?_
  refine ru_iload_n (j := 2) (by decide +kernel) rfl ?_
  refine ru_iload_n (j := 3) (by decide +kernel) rfl ?_
  refine ru_iload (j := 4) (by decide +kernel) rfl ?_
  refine ru_catch (en := 9) (ks := [(0, 12), (1, 16)]) (As := [.int x, .int yq, .int yn, .int u]) (b := z) (S := []) (X' := ru_V V z G (fun r V' => r = none ∧ ∃ k q, k < 6 ∧ q < (V.1 k).1 ∧ x = nI k ∧ yq = nI q ∧ ((yn = -1 ∧ V' = dk_um V k (dk_fi (V.1 k) q none)) ∨ ∃ n, n ≤ 3 ∧ yn = nI n ∧ V' = dk_um V k (dk_fi (V.1 k) q (some (wd_told u.toBitVec.toNat n))))) (fun c => (c = 0 ∧ dk_no x) ∨ (c = 1 ∧ ∃ k, k < 6 ∧ x = nI k ∧ ¬ dk_lok (V.1 k) yq yn))) l_Law_23 (by decide +kernel) rfl hob rfl (Nat.le_of_ble_eq_true rfl) rfl rfl rfl (by decide) (by decide) (List.cons_ne_nil _ _) rfl (Nat.le_refl _) (Nat.le_refl _) (c_Desk_last (d := d) h x yq yn u) (fun c G' hc => ?_) (fun r G' hr => ?_)
  · obtain ⟨he, h1, h2⟩ := hc
    have he0 := he
    rcases he with ⟨rfl, _⟩ | ⟨rfl, _⟩
    · exact ⟨by decide, 12, 2, 1, rfl, Or.inr ⟨5, by decide +kernel, by decide, rfl⟩, by decide +kernel, by decide +kernel, Or.inr ⟨0, he0, rfl, h1, h2⟩⟩
    · exact ⟨by decide, 16, 2, 2, rfl, Or.inr ⟨5, by decide +kernel, by decide, rfl⟩, by decide +kernel, by decide +kernel, Or.inr ⟨1, he0, rfl, h1, h2⟩⟩
  · obtain ⟨V', hf, h1, h2⟩ := hr
    have hf0 := hf
    obtain ⟨rfl, -⟩ := hf
    refine rz_goto (off := 11) (t := 20) (by decide +kernel) (by decide) ?_
    refine rz_iconst (n := 0) (by decide +kernel) ?_
    exact rz_ireturn (by decide +kernel) rfl rfl (Nat.zero_le _) (Nat.zero_le _) (Or.inl ⟨V', rfl, hf0, h1, h2⟩)
set_option maxRecDepth 100000 in
set_option maxHeartbeats 4000000 in
theorem c_Law_first {w : rz_w} {d : Nat} {G : rz_G} {z : Nat} {V : dk_V} (h : dk G z V) (x y u : Int32) : rz_CW w (d + 10) 1 6 y_Law_first m_Law_first h_Law_first [.ref z, .int x, .int y, .int u] G (wl_v cdA z V G (fun r V' => r = none ∧ ∃ k n, k < 6 ∧ n ≤ 3 ∧ x = nI k ∧ y = nI n ∧ V' = dk_um V k ((V.1 k).1, (V.1 k).2.1, (V.1 k).2.2.1, wd_told u.toBitVec.toNat n)) (fun c => (c = 0 ∧ dk_no x) ∨ (c = 1 ∧ ¬ dk_no x ∧ ∀ n, n ≤ 3 → y ≠ nI n))) := by
  obtain ⟨hob, -⟩ := h 0 (by decide)
  refine rz_enterWX [some (.ref z), some (.int x), some (.int y), some (.int u), none] (by decide) (by decide +kernel) rfl rfl (Nat.le_of_ble_eq_true rfl) rfl ?_
  refine ru_aload_n (j := 0) (by decide +kernel) rfl ?_
  refine ru_iload_n (j := 1) (by decide +kernel) rfl ?_
  refine ru_iload_n (j := 2) (by decide +kernel) rfl ?_
  refine ru_iload_n (j := 3) (by decide +kernel) rfl ?_
  refine ru_catch (en := 7) (ks := [(0, 10), (1, 14)]) (As := [.int x, .int y, .int u]) (b := z) (S := []) (X' := ru_V V z G (fun r V' => r = none ∧ ∃ k n, k < 6 ∧ n ≤ 3 ∧ x = nI k ∧ y = nI n ∧ V' = dk_um V k ((V.1 k).1, (V.1 k).2.1, (V.1 k).2.2.1, wd_told u.toBitVec.toNat n)) (fun c => (c = 0 ∧ dk_no x) ∨ (c = 1 ∧ ¬ dk_no x ∧ ∀ n, n ≤ 3 → y ≠ nI n))) l_Law_27 (by decide +kernel) rfl hob rfl (Nat.le_of_ble_eq_true rfl) rfl rfl rfl (by decide) (by decide) (List.cons_ne_nil _ _) rfl (Nat.le_refl _) (Nat.le_refl _) (c_Desk_first (d := d) h x y u) (fun c G' hc => ?_) (fun r G' hr => ?_)
  · obtain ⟨he, h1, h2⟩ := hc
    have he0 := he
    rcases he with ⟨rfl, _⟩ | ⟨rfl, _⟩
    · exact ⟨by decide, 10, 2, 1, rfl, Or.inr ⟨4, by decide +kernel, by decide, rfl⟩, by decide +kernel, by decide +kernel, Or.inr ⟨0, he0, rfl, h1, h2⟩⟩
    · exact ⟨by decide, 14, 2, 2, rfl, Or.inr ⟨4, by decide +kernel, by decide, rfl⟩, by decide +kernel, by decide +kernel, Or.inr ⟨1, he0, rfl, h1, h2⟩⟩
  · obtain ⟨V', hf, h1, h2⟩ := hr
    have hf0 := hf
    obtain ⟨rfl, -⟩ := hf
    refine rz_goto (off := 11) (t := 18) (by decide +kernel) (by decide) ?_
    refine rz_iconst (n := 0) (by decide +kernel) ?_
    exact rz_ireturn (by decide +kernel) rfl rfl (Nat.zero_le _) (Nat.zero_le _) (Or.inl ⟨V', rfl, hf0, h1, h2⟩)
set_option maxRecDepth 100000 in
set_option maxHeartbeats 4000000 in
theorem c_Law_useful {w : rz_w} {d : Nat} {G : rz_G} {z : Nat} {V : dk_V} (h : dk G z V) {o : Nat} {g0 : Nat → Int64} (ho : o < z ∨ z + 2002 ≤ o) (hg : G o = some (.inl (1, 1, .inr (.inl g0)))) (x : Int32) : rz_CW w (d + 10) 1 6 y_Law_useful m_Law_useful h_Law_useful [.ref z, .int x, .ref o] G (wl_o tI cdA z o V G (fun r V' => V' = V ∧ ∃ k, k < 6 ∧ x = nI k ∧ r = some (.int (nI (hp_cnt (mv_al (V.1 k) (mk_cl (V.1 k))))))) (fun c => (c = 0 ∧ dk_no x))) := by
  obtain ⟨hob, -⟩ := h 0 (by decide)
  refine rz_enterWX [some (.ref z), some (.int x), some (.ref o), none] (by decide) (by decide +kernel) rfl rfl (Nat.le_of_ble_eq_true rfl) rfl ?_
  refine ru_aload_n (j := 2) (by decide +kernel) rfl ?_
  refine ru_iconst (n := 0) (by decide +kernel) ?_
  refine ru_aload_n (j := 0) (by decide +kernel) rfl ?_
  refine ru_iload_n (j := 1) (by decide +kernel) rfl ?_
  refine ru_catch (en := 9) (ks := [(0, 12)]) (As := [.int x]) (b := z) (S := [.int (Int32.ofInt 0), .ref o]) (X' := ru_V V z G (fun r V' => V' = V ∧ ∃ k, k < 6 ∧ x = nI k ∧ r = some (.int (nI (hp_cnt (mv_al (V.1 k) (mk_cl (V.1 k))))))) (fun c => (c = 0 ∧ dk_no x))) l_Law_31 (by decide +kernel) rfl hob rfl (Nat.le_of_ble_eq_true rfl) rfl rfl rfl (by decide) (by decide) (List.cons_ne_nil _ _) rfl (Nat.le_refl _) (Nat.le_refl _) (c_Desk_useful (d := d) h x) (fun c G' hc => ?_) (fun r G' hr => ?_)
  · obtain ⟨he, h1, h2⟩ := hc
    have he0 := he
    rcases he with ⟨rfl, _⟩
    · exact ⟨by decide, 12, 1, 1, rfl, Or.inl ⟨3, by decide +kernel, by decide, rfl⟩, by decide +kernel, by decide +kernel, Or.inr ⟨0, he0, rfl, h1, wl_of h2, h2 o ho⟩⟩
  · obtain ⟨V', hf, h1, h2⟩ := hr
    have hgo : G' o = some (.inl (1, 1, .inr (.inl g0))) := (h2 o ho).trans hg
    obtain ⟨v, rfl⟩ : ∃ v, r = some (.int v) := by
      rcases hf with ⟨_, _, _, _, rfl⟩ <;> exact ⟨_, rfl⟩
    refine rz_i2l (by decide +kernel) ?_
    refine rz_lastore (by decide +kernel) hgo vp_in0 ?_
    refine rz_goto (off := 6) (t := 15) (by decide +kernel) (by decide) ?_
    refine rz_iconst (n := 0) (by decide +kernel) ?_
    obtain ⟨p1, p2⟩ := wl_put (e := .inl (1, 1, .inr (.inl (vp_updL g0 (Int32.ofInt 0).toNatClampNeg v.toInt64)))) h1 h2 ho
    exact rz_ireturn (by decide +kernel) rfl rfl (Nat.zero_le _) (Nat.zero_le _) (Or.inl ⟨v, _, V', rfl, hf, p1, p2, rz_up_s _ _ _, by rw [vp_updL_0]; rfl⟩)
set_option maxRecDepth 100000 in
set_option maxHeartbeats 4000000 in
theorem c_Law_read {w : rz_w} {d : Nat} {G : rz_G} {z : Nat} {V : dk_V} (h : dk G z V) {o : Nat} {g0 : Nat → Int64} (ho : o < z ∨ z + 2002 ≤ o) (hg : G o = some (.inl (1, 1, .inr (.inl g0)))) (x yn u yk : Int32) : rz_CW w (d + 10) 1 6 y_Law_read m_Law_read h_Law_read [.ref z, .int x, .int yn, .int u, .int yk, .ref o] G (wl_o tI cdA z o V G (fun r V' => ∃ k n ws, k < 6 ∧ n ≤ 10 ∧ x = nI k ∧ yn = nI n ∧ dk_rok yn u ∧ dk_rk (V.1 k) u n = some ws ∧ r = some (.int (nI (dk_ro (V.1 k) ws).length)) ∧ V' = dk_ur V (dk_rt (dk_ro (V.1 k) ws) yk)) (fun c => (c = 0 ∧ dk_no x) ∨ ∃ k, k < 6 ∧ x = nI k ∧ ((c = 1 ∧ ¬ dk_rok yn u) ∨ (c = 2 ∧ ∃ n, n ≤ 10 ∧ yn = nI n ∧ dk_rok yn u ∧ dk_rk (V.1 k) u n = none)))) := by
  obtain ⟨hob, -⟩ := h 0 (by decide)
  refine rz_enterWX [some (.ref z), some (.int x), some (.int yn), some (.int u), some (.int yk), some (.ref o), none] (by decide) (by decide +kernel) rfl rfl (Nat.le_of_ble_eq_true rfl) rfl ?_
  refine ru_aload (j := 5) (by decide +kernel) rfl ?_
  refine ru_iconst (n := 0) (by decide +kernel) ?_
  refine ru_aload_n (j := 0) (by decide +kernel) rfl ?_
  refine ru_iload_n (j := 1) (by decide +kernel) rfl ?_
  refine ru_iload_n (j := 2) (by decide +kernel) rfl ?_
  refine ru_iload_n (j := 3) (by decide +kernel) rfl ?_
  refine ru_iload (j := 4) (by decide +kernel) rfl ?_
  refine ru_catch (en := 14) (ks := [(0, 17), (1, 21), (2, 25)]) (As := [.int x, .int yn, .int u, .int yk]) (b := z) (S := [.int (Int32.ofInt 0), .ref o]) (X' := ru_V V z G (fun r V' => ∃ k n ws, k < 6 ∧ n ≤ 10 ∧ x = nI k ∧ yn = nI n ∧ dk_rok yn u ∧ dk_rk (V.1 k) u n = some ws ∧ r = some (.int (nI (dk_ro (V.1 k) ws).length)) ∧ V' = dk_ur V (dk_rt (dk_ro (V.1 k) ws) yk)) (fun c => (c = 0 ∧ dk_no x) ∨ ∃ k, k < 6 ∧ x = nI k ∧ ((c = 1 ∧ ¬ dk_rok yn u) ∨ (c = 2 ∧ ∃ n, n ≤ 10 ∧ yn = nI n ∧ dk_rok yn u ∧ dk_rk (V.1 k) u n = none)))) l_Law_35 (by decide +kernel) rfl hob rfl (Nat.le_of_ble_eq_true rfl) rfl rfl rfl (by decide) (by decide) (List.cons_ne_nil _ _) rfl (Nat.le_refl _) (Nat.le_refl _) (c_Desk_read (d := d) h x yn u yk) (fun c G' hc => ?_) (fun r G' hr => ?_)
  · obtain ⟨he, h1, h2⟩ := hc
    have he0 := he
    rcases he with ⟨rfl, _⟩ | ⟨_, _, _, ⟨rfl, _⟩ | ⟨rfl, _⟩⟩
    · exact ⟨by decide, 17, 2, 1, rfl, Or.inr ⟨6, by decide +kernel, by decide, rfl⟩, by decide +kernel, by decide +kernel, Or.inr ⟨0, he0, rfl, h1, wl_of h2, h2 o ho⟩⟩
    · exact ⟨by decide, 21, 2, 2, rfl, Or.inr ⟨6, by decide +kernel, by decide, rfl⟩, by decide +kernel, by decide +kernel, Or.inr ⟨1, he0, rfl, h1, wl_of h2, h2 o ho⟩⟩
    · exact ⟨by decide, 25, 2, 3, rfl, Or.inr ⟨6, by decide +kernel, by decide, rfl⟩, by decide +kernel, by decide +kernel, Or.inr ⟨2, he0, rfl, h1, wl_of h2, h2 o ho⟩⟩
  · obtain ⟨V', hf, h1, h2⟩ := hr
    have hgo : G' o = some (.inl (1, 1, .inr (.inl g0))) := (h2 o ho).trans hg
    obtain ⟨v, rfl⟩ : ∃ v, r = some (.int v) := by
      rcases hf with ⟨_, _, _, _, _, _, _, _, _, rfl, _⟩ <;> exact ⟨_, rfl⟩
    refine rz_i2l (by decide +kernel) ?_
    refine rz_lastore (by decide +kernel) hgo vp_in0 ?_
    refine rz_goto (off := 15) (t := 29) (by decide +kernel) (by decide) ?_
    refine rz_iconst (n := 0) (by decide +kernel) ?_
    obtain ⟨p1, p2⟩ := wl_put (e := .inl (1, 1, .inr (.inl (vp_updL g0 (Int32.ofInt 0).toNatClampNeg v.toInt64)))) h1 h2 ho
    exact rz_ireturn (by decide +kernel) rfl rfl (Nat.zero_le _) (Nat.zero_le _) (Or.inl ⟨v, _, V', rfl, hf, p1, p2, rz_up_s _ _ _, by rw [vp_updL_0]; rfl⟩)
set_option maxRecDepth 100000 in
set_option maxHeartbeats 4000000 in
theorem c_Law_isFunction {w : rz_w} {d : Nat} {G : rz_G} {z : Nat} {V : dk_V} (h : dk G z V) {o : Nat} {g0 : Nat → Int64} (ho : o < z ∨ z + 2002 ≤ o) (hg : G o = some (.inl (1, 1, .inr (.inl g0)))) (x : Int32) : rz_CW w (d + 10) 1 6 y_Law_isFunction m_Law_isFunction h_Law_isFunction [.ref z, .int x, .ref o] G (wl_o tB cdA z o V G (fun r V' => ∃ k, k < 6 ∧ x = nI k ∧ r = some (.int (rz_b (!(df_S (V.1 k) (V.1 k)).2.2.isSome))) ∧ V' = dk_ur V (dk_fw (V.1 k))) (fun c => (c = 0 ∧ dk_no x))) := by
  obtain ⟨hob, -⟩ := h 0 (by decide)
  refine rz_enterWX [some (.ref z), some (.int x), some (.ref o), none] (by decide) (by decide +kernel) rfl rfl (Nat.le_of_ble_eq_true rfl) rfl ?_
  refine ru_aload_n (j := 2) (by decide +kernel) rfl ?_
  refine ru_iconst (n := 0) (by decide +kernel) ?_
  refine ru_aload_n (j := 0) (by decide +kernel) rfl ?_
  refine ru_iload_n (j := 1) (by decide +kernel) rfl ?_
  refine ru_catch (en := 16) (ks := [(0, 19)]) (As := [.int x]) (b := z) (S := [.int (Int32.ofInt 0), .ref o]) (X' := ru_V V z G (fun r V' => ∃ k, k < 6 ∧ x = nI k ∧ r = some (.int (rz_b (!(df_S (V.1 k) (V.1 k)).2.2.isSome))) ∧ V' = dk_ur V (dk_fw (V.1 k))) (fun c => (c = 0 ∧ dk_no x))) l_Law_39 (by decide +kernel) rfl hob rfl (Nat.le_of_ble_eq_true rfl) rfl rfl rfl (by decide) (by decide) (List.cons_ne_nil _ _) rfl (Nat.le_refl _) (Nat.le_refl _) (c_Desk_isFunction (d := d) h x) (fun c G' hc => ?_) (fun r G' hr => ?_)
  · obtain ⟨he, h1, h2⟩ := hc
    have he0 := he
    rcases he with ⟨rfl, _⟩
    · exact ⟨by decide, 19, 1, 1, rfl, Or.inl ⟨3, by decide +kernel, by decide, rfl⟩, by decide +kernel, by decide +kernel, Or.inr ⟨0, he0, rfl, h1, wl_of h2, h2 o ho⟩⟩
  · obtain ⟨V', hf, h1, h2⟩ := hr
    have hgo : G' o = some (.inl (1, 1, .inr (.inl g0))) := (h2 o ho).trans hg
    obtain ⟨v, rfl⟩ : ∃ v, r = some (.int v) := by
      rcases hf with ⟨_, _, _, rfl, _⟩ <;> exact ⟨_, rfl⟩
    refine rz_if_eq (off := 7) (t := 14) (by decide +kernel) (by decide) (fun c0 => ?_) (fun c0 => ?_)
    · refine rz_lconst (n := 0) (by decide +kernel) ?_
      refine rz_lastore (by decide +kernel) hgo vp_in0 ?_
      refine rz_goto (off := 6) (t := 22) (by decide +kernel) (by decide) ?_
      refine rz_iconst (n := 0) (by decide +kernel) ?_
      obtain ⟨p1, p2⟩ := wl_put (e := .inl (1, 1, .inr (.inl (vp_updL g0 (Int32.ofInt 0).toNatClampNeg (Int64.ofNat ((0 : Fin 2) : Nat)))))) h1 h2 ho
      exact rz_ireturn (by decide +kernel) rfl rfl (Nat.zero_le _) (Nat.zero_le _) (Or.inl ⟨v, _, V', rfl, hf, p1, p2, rz_up_s _ _ _, by rw [vp_updL_0]; unfold tB; rw [if_pos c0]; rfl⟩)
    · refine rz_lconst (n := 1) (by decide +kernel) ?_
      refine rz_goto (off := 4) (t := 15) (by decide +kernel) (by decide) ?_
      refine rz_lastore (by decide +kernel) hgo vp_in0 ?_
      refine rz_goto (off := 6) (t := 22) (by decide +kernel) (by decide) ?_
      refine rz_iconst (n := 0) (by decide +kernel) ?_
      obtain ⟨p1, p2⟩ := wl_put (e := .inl (1, 1, .inr (.inl (vp_updL g0 (Int32.ofInt 0).toNatClampNeg (Int64.ofNat ((1 : Fin 2) : Nat)))))) h1 h2 ho
      exact rz_ireturn (by decide +kernel) rfl rfl (Nat.zero_le _) (Nat.zero_le _) (Or.inl ⟨v, _, V', rfl, hf, p1, p2, rz_up_s _ _ _, by rw [vp_updL_0]; unfold tB; rw [if_neg c0]; rfl⟩)
set_option maxRecDepth 100000 in
set_option maxHeartbeats 4000000 in
theorem c_Law_isSame {w : rz_w} {d : Nat} {G : rz_G} {z : Nat} {V : dk_V} (h : dk G z V) {o : Nat} {g0 : Nat → Int64} (ho : o < z ∨ z + 2002 ≤ o) (hg : G o = some (.inl (1, 1, .inr (.inl g0)))) (x y : Int32) : rz_CW w (d + 10) 1 6 y_Law_isSame m_Law_isSame h_Law_isSame [.ref z, .int x, .int y, .ref o] G (wl_o tB cdB z o V G (fun r V' => ∃ k1 k2 W0, k1 < 6 ∧ k2 < 6 ∧ x = nI k1 ∧ y = nI k2 ∧ (df_S (V.1 k1) (V.1 k1)).2.2 = none ∧ (df_S (V.1 k2) (V.1 k2)).2.2 = none ∧ dk_w0 (V.1 k1) (V.1 k2) W0 ∧ W0.length ≤ 4096 ∧ (∀ x ∈ W0, x < 3) ∧ (∀ x ∈ dk_w1 (V.1 k1) (V.1 k2) W0, x < 3) ∧ r = some (.int (rz_b (!(dk_dm (V.1 k1) (V.1 k2)).2.isSome && !(df_S (V.1 k1) (V.1 k2)).2.2.isSome))) ∧ V' = dk_ur V (dk_w1 (V.1 k1) (V.1 k2) W0)) (fun c => (c = 0 ∧ (dk_no x ∨ dk_no y)) ∨ (c = 3 ∧ ∃ k1 k2, k1 < 6 ∧ k2 < 6 ∧ x = nI k1 ∧ y = nI k2 ∧ ¬ ((df_S (V.1 k1) (V.1 k1)).2.2 = none ∧ (df_S (V.1 k2) (V.1 k2)).2.2 = none)))) := by
  obtain ⟨hob, -⟩ := h 0 (by decide)
  refine rz_enterWX [some (.ref z), some (.int x), some (.int y), some (.ref o), none] (by decide) (by decide +kernel) rfl rfl (Nat.le_of_ble_eq_true rfl) rfl ?_
  refine ru_aload_n (j := 3) (by decide +kernel) rfl ?_
  refine ru_iconst (n := 0) (by decide +kernel) ?_
  refine ru_aload_n (j := 0) (by decide +kernel) rfl ?_
  refine ru_iload_n (j := 1) (by decide +kernel) rfl ?_
  refine ru_iload_n (j := 2) (by decide +kernel) rfl ?_
  refine ru_catch (en := 17) (ks := [(0, 20), (3, 24)]) (As := [.int x, .int y]) (b := z) (S := [.int (Int32.ofInt 0), .ref o]) (X' := ru_V V z G (fun r V' => ∃ k1 k2 W0, k1 < 6 ∧ k2 < 6 ∧ x = nI k1 ∧ y = nI k2 ∧ (df_S (V.1 k1) (V.1 k1)).2.2 = none ∧ (df_S (V.1 k2) (V.1 k2)).2.2 = none ∧ dk_w0 (V.1 k1) (V.1 k2) W0 ∧ W0.length ≤ 4096 ∧ (∀ x ∈ W0, x < 3) ∧ (∀ x ∈ dk_w1 (V.1 k1) (V.1 k2) W0, x < 3) ∧ r = some (.int (rz_b (!(dk_dm (V.1 k1) (V.1 k2)).2.isSome && !(df_S (V.1 k1) (V.1 k2)).2.2.isSome))) ∧ V' = dk_ur V (dk_w1 (V.1 k1) (V.1 k2) W0)) (fun c => (c = 0 ∧ (dk_no x ∨ dk_no y)) ∨ (c = 3 ∧ ∃ k1 k2, k1 < 6 ∧ k2 < 6 ∧ x = nI k1 ∧ y = nI k2 ∧ ¬ ((df_S (V.1 k1) (V.1 k1)).2.2 = none ∧ (df_S (V.1 k2) (V.1 k2)).2.2 = none)))) l_Law_43 (by decide +kernel) rfl hob rfl (Nat.le_of_ble_eq_true rfl) rfl rfl rfl (by decide) (by decide) (List.cons_ne_nil _ _) rfl (Nat.le_refl _) (Nat.le_refl _) (c_Desk_isSame (d := d) h x y) (fun c G' hc => ?_) (fun r G' hr => ?_)
  · obtain ⟨he, h1, h2⟩ := hc
    have he0 := he
    rcases he with ⟨rfl, _⟩ | ⟨rfl, _⟩
    · exact ⟨by decide, 20, 2, 1, rfl, Or.inr ⟨4, by decide +kernel, by decide, rfl⟩, by decide +kernel, by decide +kernel, Or.inr ⟨0, he0, rfl, h1, wl_of h2, h2 o ho⟩⟩
    · exact ⟨by decide, 24, 2, 2, rfl, Or.inr ⟨4, by decide +kernel, by decide, rfl⟩, by decide +kernel, by decide +kernel, Or.inr ⟨3, he0, rfl, h1, wl_of h2, h2 o ho⟩⟩
  · obtain ⟨V', hf, h1, h2⟩ := hr
    have hgo : G' o = some (.inl (1, 1, .inr (.inl g0))) := (h2 o ho).trans hg
    obtain ⟨v, rfl⟩ : ∃ v, r = some (.int v) := by
      rcases hf with ⟨_, _, _, _, _, _, _, _, _, _, _, _, _, rfl, _⟩ <;> exact ⟨_, rfl⟩
    refine rz_if_eq (off := 7) (t := 15) (by decide +kernel) (by decide) (fun c0 => ?_) (fun c0 => ?_)
    · refine rz_lconst (n := 0) (by decide +kernel) ?_
      refine rz_lastore (by decide +kernel) hgo vp_in0 ?_
      refine rz_goto (off := 11) (t := 28) (by decide +kernel) (by decide) ?_
      refine rz_iconst (n := 0) (by decide +kernel) ?_
      obtain ⟨p1, p2⟩ := wl_put (e := .inl (1, 1, .inr (.inl (vp_updL g0 (Int32.ofInt 0).toNatClampNeg (Int64.ofNat ((0 : Fin 2) : Nat)))))) h1 h2 ho
      exact rz_ireturn (by decide +kernel) rfl rfl (Nat.zero_le _) (Nat.zero_le _) (Or.inl ⟨v, _, V', rfl, hf, p1, p2, rz_up_s _ _ _, by rw [vp_updL_0]; unfold tB; rw [if_pos c0]; rfl⟩)
    · refine rz_lconst (n := 1) (by decide +kernel) ?_
      refine rz_goto (off := 4) (t := 16) (by decide +kernel) (by decide) ?_
      refine rz_lastore (by decide +kernel) hgo vp_in0 ?_
      refine rz_goto (off := 11) (t := 28) (by decide +kernel) (by decide) ?_
      refine rz_iconst (n := 0) (by decide +kernel) ?_
      obtain ⟨p1, p2⟩ := wl_put (e := .inl (1, 1, .inr (.inl (vp_updL g0 (Int32.ofInt 0).toNatClampNeg (Int64.ofNat ((1 : Fin 2) : Nat)))))) h1 h2 ho
      exact rz_ireturn (by decide +kernel) rfl rfl (Nat.zero_le _) (Nat.zero_le _) (Or.inl ⟨v, _, V', rfl, hf, p1, p2, rz_up_s _ _ _, by rw [vp_updL_0]; unfold tB; rw [if_neg c0]; rfl⟩)
set_option maxRecDepth 100000 in
set_option maxHeartbeats 4000000 in
theorem c_Law_isSteady {w : rz_w} {d : Nat} {G : rz_G} {z : Nat} {V : dk_V} (h : dk G z V) {o : Nat} {g0 : Nat → Int64} (ho : o < z ∨ z + 2002 ≤ o) (hg : G o = some (.inl (1, 1, .inr (.inl g0)))) (x : Int32) (hv : ∀ k, k < 6 → rs_ver (V.1 k) (mk_cl (V.1 k)) ≤ 2) : rz_CW w (d + 10) 1 6 y_Law_isSteady m_Law_isSteady h_Law_isSteady [.ref z, .int x, .ref o] G (wl_o tB cdB z o V G (fun r V' => V' = V ∧ ∃ k, k < 6 ∧ x = nI k ∧ (df_S (V.1 k) (V.1 k)).2.2 = none ∧ rs_ver (V.1 k) (mk_cl (V.1 k)) ≠ 2 ∧ r = some (.int (rz_b (decide (rs_ver (V.1 k) (mk_cl (V.1 k)) = 0))))) (fun c => (c = 0 ∧ dk_no x) ∨ ∃ k, k < 6 ∧ x = nI k ∧ ((c = 3 ∧ (df_S (V.1 k) (V.1 k)).2.2 ≠ none) ∨ (c = 2 ∧ (df_S (V.1 k) (V.1 k)).2.2 = none ∧ rs_ver (V.1 k) (mk_cl (V.1 k)) = 2)))) := by
  obtain ⟨hob, -⟩ := h 0 (by decide)
  refine rz_enterWX [some (.ref z), some (.int x), some (.ref o), none] (by decide) (by decide +kernel) rfl rfl (Nat.le_of_ble_eq_true rfl) rfl ?_
  refine ru_aload_n (j := 2) (by decide +kernel) rfl ?_
  refine ru_iconst (n := 0) (by decide +kernel) ?_
  refine ru_aload_n (j := 0) (by decide +kernel) rfl ?_
  refine ru_iload_n (j := 1) (by decide +kernel) rfl ?_
  refine ru_catch (en := 16) (ks := [(0, 19), (3, 22), (2, 25)]) (As := [.int x]) (b := z) (S := [.int (Int32.ofInt 0), .ref o]) (X' := ru_V V z G (fun r V' => V' = V ∧ ∃ k, k < 6 ∧ x = nI k ∧ (df_S (V.1 k) (V.1 k)).2.2 = none ∧ rs_ver (V.1 k) (mk_cl (V.1 k)) ≠ 2 ∧ r = some (.int (rz_b (decide (rs_ver (V.1 k) (mk_cl (V.1 k)) = 0))))) (fun c => (c = 0 ∧ dk_no x) ∨ ∃ k, k < 6 ∧ x = nI k ∧ ((c = 3 ∧ (df_S (V.1 k) (V.1 k)).2.2 ≠ none) ∨ (c = 2 ∧ (df_S (V.1 k) (V.1 k)).2.2 = none ∧ rs_ver (V.1 k) (mk_cl (V.1 k)) = 2)))) l_Law_49 (by decide +kernel) rfl hob rfl (Nat.le_of_ble_eq_true rfl) rfl rfl rfl (by decide) (by decide) (List.cons_ne_nil _ _) rfl (Nat.le_refl _) (Nat.le_refl _) (c_Desk_isSteady (d := d) h x hv) (fun c G' hc => ?_) (fun r G' hr => ?_)
  · obtain ⟨he, h1, h2⟩ := hc
    have he0 := he
    rcases he with ⟨rfl, _⟩ | ⟨_, _, _, ⟨rfl, _⟩ | ⟨rfl, _⟩⟩
    · exact ⟨by decide, 19, 1, 1, rfl, Or.inl ⟨3, by decide +kernel, by decide, rfl⟩, by decide +kernel, by decide +kernel, Or.inr ⟨0, he0, rfl, h1, wl_of h2, h2 o ho⟩⟩
    · exact ⟨by decide, 22, 1, 2, rfl, Or.inl ⟨3, by decide +kernel, by decide, rfl⟩, by decide +kernel, by decide +kernel, Or.inr ⟨3, he0, rfl, h1, wl_of h2, h2 o ho⟩⟩
    · exact ⟨by decide, 25, 1, 3, rfl, Or.inl ⟨3, by decide +kernel, by decide, rfl⟩, by decide +kernel, by decide +kernel, Or.inr ⟨2, he0, rfl, h1, wl_of h2, h2 o ho⟩⟩
  · obtain ⟨V', hf, h1, h2⟩ := hr
    have hgo : G' o = some (.inl (1, 1, .inr (.inl g0))) := (h2 o ho).trans hg
    obtain ⟨v, rfl⟩ : ∃ v, r = some (.int v) := by
      rcases hf with ⟨_, _, _, _, _, _, rfl⟩ <;> exact ⟨_, rfl⟩
    refine rz_if_eq (off := 7) (t := 14) (by decide +kernel) (by decide) (fun c0 => ?_) (fun c0 => ?_)
    · refine rz_lconst (n := 0) (by decide +kernel) ?_
      refine rz_lastore (by decide +kernel) hgo vp_in0 ?_
      refine rz_goto (off := 12) (t := 28) (by decide +kernel) (by decide) ?_
      refine rz_iconst (n := 0) (by decide +kernel) ?_
      obtain ⟨p1, p2⟩ := wl_put (e := .inl (1, 1, .inr (.inl (vp_updL g0 (Int32.ofInt 0).toNatClampNeg (Int64.ofNat ((0 : Fin 2) : Nat)))))) h1 h2 ho
      exact rz_ireturn (by decide +kernel) rfl rfl (Nat.zero_le _) (Nat.zero_le _) (Or.inl ⟨v, _, V', rfl, hf, p1, p2, rz_up_s _ _ _, by rw [vp_updL_0]; unfold tB; rw [if_pos c0]; rfl⟩)
    · refine rz_lconst (n := 1) (by decide +kernel) ?_
      refine rz_goto (off := 4) (t := 15) (by decide +kernel) (by decide) ?_
      refine rz_lastore (by decide +kernel) hgo vp_in0 ?_
      refine rz_goto (off := 12) (t := 28) (by decide +kernel) (by decide) ?_
      refine rz_iconst (n := 0) (by decide +kernel) ?_
      obtain ⟨p1, p2⟩ := wl_put (e := .inl (1, 1, .inr (.inl (vp_updL g0 (Int32.ofInt 0).toNatClampNeg (Int64.ofNat ((1 : Fin 2) : Nat)))))) h1 h2 ho
      exact rz_ireturn (by decide +kernel) rfl rfl (Nat.zero_le _) (Nat.zero_le _) (Or.inl ⟨v, _, V', rfl, hf, p1, p2, rz_up_s _ _ _, by rw [vp_updL_0]; unfold tB; rw [if_neg c0]; rfl⟩)
set_option maxRecDepth 100000 in
set_option maxHeartbeats 4000000 in
theorem c_Law_smallest {w : rz_w} {d : Nat} {G : rz_G} {z : Nat} {V : dk_V} (h : dk G z V) {o : Nat} {g0 : Nat → Int64} (ho : o < z ∨ z + 2002 ≤ o) (hg : G o = some (.inl (1, 1, .inr (.inl g0)))) (x : Int32) (hv : ∀ k, k < 6 → rs_ver (V.1 k) (mk_cl (V.1 k)) ≤ 2) (hbu : ∀ k, k < 6 → (df_S (V.1 k) (V.1 k)).2.2 = none → rs_ver (V.1 k) (mk_cl (V.1 k)) = 0 → mv_al (V.1 k) (mk_cl (V.1 k)) ≠ 0 → ∀ hd nr, bu_ok (V.1 k) (mk_cl (V.1 k)) hd nr) : rz_CW w (d + 10) 1 6 y_Law_smallest m_Law_smallest h_Law_smallest [.ref z, .int x, .ref o] G (wl_o tI cdB z o V G (fun r V' => ∃ k hd nr v, k < 6 ∧ x = nI k ∧ (df_S (V.1 k) (V.1 k)).2.2 = none ∧ rs_ver (V.1 k) (mk_cl (V.1 k)) = 0 ∧ bu_v (V.1 k) (mk_cl (V.1 k)) hd nr = some v ∧ r = some (.int (nI v.2.1.length)) ∧ V' = (V.1, V.2.1, v, !V.2.2.2)) (fun c => (c = 0 ∧ dk_no x) ∨ ∃ k, k < 6 ∧ x = nI k ∧ ((c = 3 ∧ ((df_S (V.1 k) (V.1 k)).2.2 ≠ none ∨ rs_ver (V.1 k) (mk_cl (V.1 k)) = 1)) ∨ (c = 2 ∧ (df_S (V.1 k) (V.1 k)).2.2 = none ∧ (rs_ver (V.1 k) (mk_cl (V.1 k)) = 2 ∨ (rs_ver (V.1 k) (mk_cl (V.1 k)) = 0 ∧ ∃ hd nr, bu_v (V.1 k) (mk_cl (V.1 k)) hd nr = none)))))) := by
  obtain ⟨hob, -⟩ := h 0 (by decide)
  refine rz_enterWX [some (.ref z), some (.int x), some (.ref o), none] (by decide) (by decide +kernel) rfl rfl (Nat.le_of_ble_eq_true rfl) rfl ?_
  refine ru_aload_n (j := 2) (by decide +kernel) rfl ?_
  refine ru_iconst (n := 0) (by decide +kernel) ?_
  refine ru_aload_n (j := 0) (by decide +kernel) rfl ?_
  refine ru_iload_n (j := 1) (by decide +kernel) rfl ?_
  refine ru_catch (en := 9) (ks := [(0, 12), (3, 15), (2, 18)]) (As := [.int x]) (b := z) (S := [.int (Int32.ofInt 0), .ref o]) (X' := ru_V V z G (fun r V' => ∃ k hd nr v, k < 6 ∧ x = nI k ∧ (df_S (V.1 k) (V.1 k)).2.2 = none ∧ rs_ver (V.1 k) (mk_cl (V.1 k)) = 0 ∧ bu_v (V.1 k) (mk_cl (V.1 k)) hd nr = some v ∧ r = some (.int (nI v.2.1.length)) ∧ V' = (V.1, V.2.1, v, !V.2.2.2)) (fun c => (c = 0 ∧ dk_no x) ∨ ∃ k, k < 6 ∧ x = nI k ∧ ((c = 3 ∧ ((df_S (V.1 k) (V.1 k)).2.2 ≠ none ∨ rs_ver (V.1 k) (mk_cl (V.1 k)) = 1)) ∨ (c = 2 ∧ (df_S (V.1 k) (V.1 k)).2.2 = none ∧ (rs_ver (V.1 k) (mk_cl (V.1 k)) = 2 ∨ (rs_ver (V.1 k) (mk_cl (V.1 k)) = 0 ∧ ∃ hd nr, bu_v (V.1 k) (mk_cl (V.1 k)) hd nr = none)))))) l_Law_52 (by decide +kernel) rfl hob rfl (Nat.le_of_ble_eq_true rfl) rfl rfl rfl (by decide) (by decide) (List.cons_ne_nil _ _) rfl (Nat.le_refl _) (Nat.le_refl _) (c_Desk_smallest (d := d) h x hv hbu) (fun c G' hc => ?_) (fun r G' hr => ?_)
  · obtain ⟨he, h1, h2⟩ := hc
    have he0 := he
    rcases he with ⟨rfl, _⟩ | ⟨_, _, _, ⟨rfl, _⟩ | ⟨rfl, _⟩⟩
    · exact ⟨by decide, 12, 1, 1, rfl, Or.inl ⟨3, by decide +kernel, by decide, rfl⟩, by decide +kernel, by decide +kernel, Or.inr ⟨0, he0, rfl, h1, wl_of h2, h2 o ho⟩⟩
    · exact ⟨by decide, 15, 1, 2, rfl, Or.inl ⟨3, by decide +kernel, by decide, rfl⟩, by decide +kernel, by decide +kernel, Or.inr ⟨3, he0, rfl, h1, wl_of h2, h2 o ho⟩⟩
    · exact ⟨by decide, 18, 1, 3, rfl, Or.inl ⟨3, by decide +kernel, by decide, rfl⟩, by decide +kernel, by decide +kernel, Or.inr ⟨2, he0, rfl, h1, wl_of h2, h2 o ho⟩⟩
  · obtain ⟨V', hf, h1, h2⟩ := hr
    have hgo : G' o = some (.inl (1, 1, .inr (.inl g0))) := (h2 o ho).trans hg
    obtain ⟨v, rfl⟩ : ∃ v, r = some (.int v) := by
      rcases hf with ⟨_, _, _, _, _, _, _, _, _, rfl, _⟩ <;> exact ⟨_, rfl⟩
    refine rz_i2l (by decide +kernel) ?_
    refine rz_lastore (by decide +kernel) hgo vp_in0 ?_
    refine rz_goto (off := 12) (t := 21) (by decide +kernel) (by decide) ?_
    refine rz_iconst (n := 0) (by decide +kernel) ?_
    obtain ⟨p1, p2⟩ := wl_put (e := .inl (1, 1, .inr (.inl (vp_updL g0 (Int32.ofInt 0).toNatClampNeg v.toInt64)))) h1 h2 ho
    exact rz_ireturn (by decide +kernel) rfl rfl (Nat.zero_le _) (Nat.zero_le _) (Or.inl ⟨v, _, V', rfl, hf, p1, p2, rz_up_s _ _ _, by rw [vp_updL_0]; rfl⟩)
set_option maxRecDepth 100000 in
set_option maxHeartbeats 4000000 in
theorem c_Law_next {w : rz_w} {d : Nat} {G : rz_G} {z : Nat} {V : dk_V} (h : dk G z V) {o : Nat} {g0 : Nat → Int64} (ho : o < z ∨ z + 2002 ≤ o) (hg : G o = some (.inl (1, 1, .inr (.inl g0)))) (x y : Int32) : rz_CW w (d + 10) 1 6 y_Law_next m_Law_next h_Law_next [.ref z, .int x, .int y, .ref o] G (wl_o tI cdC z o V G (fun r V' => ∃ s l, s < V.2.2.1.2.1.length ∧ l < 3 ∧ x = nI s ∧ y = nI l ∧ r = some (.int (bb_t V.2.2.1.2.2[s * 3 + l]?)) ∧ V' = dk_ur V (bb_w V.2.2.1.2.2[s * 3 + l]?)) (fun c => (c = 3 ∧ V.2.2.1.2.1.length = 0) ∨ (c = 1 ∧ V.2.2.1.2.1.length ≠ 0 ∧ ¬ ((∃ s, s < V.2.2.1.2.1.length ∧ x = nI s) ∧ ∃ l, l < 3 ∧ y = nI l)))) := by
  obtain ⟨hob, -⟩ := h 0 (by decide)
  refine rz_enterWX [some (.ref z), some (.int x), some (.int y), some (.ref o), none] (by decide) (by decide +kernel) rfl rfl (Nat.le_of_ble_eq_true rfl) rfl ?_
  refine ru_aload_n (j := 3) (by decide +kernel) rfl ?_
  refine ru_iconst (n := 0) (by decide +kernel) ?_
  refine ru_aload_n (j := 0) (by decide +kernel) rfl ?_
  refine ru_iload_n (j := 1) (by decide +kernel) rfl ?_
  refine ru_iload_n (j := 2) (by decide +kernel) rfl ?_
  refine ru_catch (en := 10) (ks := [(3, 13), (1, 17)]) (As := [.int x, .int y]) (b := z) (S := [.int (Int32.ofInt 0), .ref o]) (X' := ru_V V z G (fun r V' => ∃ s l, s < V.2.2.1.2.1.length ∧ l < 3 ∧ x = nI s ∧ y = nI l ∧ r = some (.int (bb_t V.2.2.1.2.2[s * 3 + l]?)) ∧ V' = dk_ur V (bb_w V.2.2.1.2.2[s * 3 + l]?)) (fun c => (c = 3 ∧ V.2.2.1.2.1.length = 0) ∨ (c = 1 ∧ V.2.2.1.2.1.length ≠ 0 ∧ ¬ ((∃ s, s < V.2.2.1.2.1.length ∧ x = nI s) ∧ ∃ l, l < 3 ∧ y = nI l)))) l_Law_55 (by decide +kernel) rfl hob rfl (Nat.le_of_ble_eq_true rfl) rfl rfl rfl (by decide) (by decide) (List.cons_ne_nil _ _) rfl (Nat.le_refl _) (Nat.le_refl _) (c_Desk_next (d := d) h x y) (fun c G' hc => ?_) (fun r G' hr => ?_)
  · obtain ⟨he, h1, h2⟩ := hc
    have he0 := he
    rcases he with ⟨rfl, _⟩ | ⟨rfl, _⟩
    · exact ⟨by decide, 13, 2, 1, rfl, Or.inr ⟨4, by decide +kernel, by decide, rfl⟩, by decide +kernel, by decide +kernel, Or.inr ⟨3, he0, rfl, h1, wl_of h2, h2 o ho⟩⟩
    · exact ⟨by decide, 17, 2, 2, rfl, Or.inr ⟨4, by decide +kernel, by decide, rfl⟩, by decide +kernel, by decide +kernel, Or.inr ⟨1, he0, rfl, h1, wl_of h2, h2 o ho⟩⟩
  · obtain ⟨V', hf, h1, h2⟩ := hr
    have hgo : G' o = some (.inl (1, 1, .inr (.inl g0))) := (h2 o ho).trans hg
    obtain ⟨v, rfl⟩ : ∃ v, r = some (.int v) := by
      rcases hf with ⟨_, _, _, _, _, _, rfl, _⟩ <;> exact ⟨_, rfl⟩
    refine rz_i2l (by decide +kernel) ?_
    refine rz_lastore (by decide +kernel) hgo vp_in0 ?_
    refine rz_goto (off := 11) (t := 21) (by decide +kernel) (by decide) ?_
    refine rz_iconst (n := 0) (by decide +kernel) ?_
    obtain ⟨p1, p2⟩ := wl_put (e := .inl (1, 1, .inr (.inl (vp_updL g0 (Int32.ofInt 0).toNatClampNeg v.toInt64)))) h1 h2 ho
    exact rz_ireturn (by decide +kernel) rfl rfl (Nat.zero_le _) (Nat.zero_le _) (Or.inl ⟨v, _, V', rfl, hf, p1, p2, rz_up_s _ _ _, by rw [vp_updL_0]; rfl⟩)
set_option maxRecDepth 100000 in
set_option maxHeartbeats 4000000 in
theorem c_Law_ends {w : rz_w} {d : Nat} {G : rz_G} {z : Nat} {V : dk_V} (h : dk G z V) {o : Nat} {g0 : Nat → Int64} (ho : o < z ∨ z + 2002 ≤ o) (hg : G o = some (.inl (1, 1, .inr (.inl g0)))) (x : Int32) : rz_CW w (d + 10) 1 6 y_Law_ends m_Law_ends h_Law_ends [.ref z, .int x, .ref o] G (wl_o tB cdC z o V G (fun r V' => V.2.2.1.2.1.length ≠ 0 ∧ ((x = -1 ∧ r = some (.int 1) ∧ V' = dk_ur V V.2.2.1.1) ∨ ∃ s f, V.2.2.1.2.1[s]? = some f ∧ x = nI s ∧ r = some (.int (rz_b f.isSome)) ∧ V' = dk_ur V (f.getD []))) (fun c => (c = 3 ∧ V.2.2.1.2.1.length = 0) ∨ (c = 1 ∧ V.2.2.1.2.1.length ≠ 0 ∧ x ≠ -1 ∧ ∀ s, s < V.2.2.1.2.1.length → x ≠ nI s))) := by
  obtain ⟨hob, -⟩ := h 0 (by decide)
  refine rz_enterWX [some (.ref z), some (.int x), some (.ref o), none] (by decide) (by decide +kernel) rfl rfl (Nat.le_of_ble_eq_true rfl) rfl ?_
  refine ru_aload_n (j := 2) (by decide +kernel) rfl ?_
  refine ru_iconst (n := 0) (by decide +kernel) ?_
  refine ru_aload_n (j := 0) (by decide +kernel) rfl ?_
  refine ru_iload_n (j := 1) (by decide +kernel) rfl ?_
  refine ru_catch (en := 16) (ks := [(3, 19), (1, 22)]) (As := [.int x]) (b := z) (S := [.int (Int32.ofInt 0), .ref o]) (X' := ru_V V z G (fun r V' => V.2.2.1.2.1.length ≠ 0 ∧ ((x = -1 ∧ r = some (.int 1) ∧ V' = dk_ur V V.2.2.1.1) ∨ ∃ s f, V.2.2.1.2.1[s]? = some f ∧ x = nI s ∧ r = some (.int (rz_b f.isSome)) ∧ V' = dk_ur V (f.getD []))) (fun c => (c = 3 ∧ V.2.2.1.2.1.length = 0) ∨ (c = 1 ∧ V.2.2.1.2.1.length ≠ 0 ∧ x ≠ -1 ∧ ∀ s, s < V.2.2.1.2.1.length → x ≠ nI s))) l_Law_59 (by decide +kernel) rfl hob rfl (Nat.le_of_ble_eq_true rfl) rfl rfl rfl (by decide) (by decide) (List.cons_ne_nil _ _) rfl (Nat.le_refl _) (Nat.le_refl _) (c_Desk_ends (d := d) h x) (fun c G' hc => ?_) (fun r G' hr => ?_)
  · obtain ⟨he, h1, h2⟩ := hc
    have he0 := he
    rcases he with ⟨rfl, _⟩ | ⟨rfl, _⟩
    · exact ⟨by decide, 19, 1, 1, rfl, Or.inl ⟨3, by decide +kernel, by decide, rfl⟩, by decide +kernel, by decide +kernel, Or.inr ⟨3, he0, rfl, h1, wl_of h2, h2 o ho⟩⟩
    · exact ⟨by decide, 22, 1, 2, rfl, Or.inl ⟨3, by decide +kernel, by decide, rfl⟩, by decide +kernel, by decide +kernel, Or.inr ⟨1, he0, rfl, h1, wl_of h2, h2 o ho⟩⟩
  · obtain ⟨V', hf, h1, h2⟩ := hr
    have hgo : G' o = some (.inl (1, 1, .inr (.inl g0))) := (h2 o ho).trans hg
    obtain ⟨v, rfl⟩ : ∃ v, r = some (.int v) := by
      rcases hf with ⟨_, ⟨_, rfl, _⟩ | ⟨_, _, _, _, rfl, _⟩⟩ <;> exact ⟨_, rfl⟩
    refine rz_if_eq (off := 7) (t := 14) (by decide +kernel) (by decide) (fun c0 => ?_) (fun c0 => ?_)
    · refine rz_lconst (n := 0) (by decide +kernel) ?_
      refine rz_lastore (by decide +kernel) hgo vp_in0 ?_
      refine rz_goto (off := 9) (t := 25) (by decide +kernel) (by decide) ?_
      refine rz_iconst (n := 0) (by decide +kernel) ?_
      obtain ⟨p1, p2⟩ := wl_put (e := .inl (1, 1, .inr (.inl (vp_updL g0 (Int32.ofInt 0).toNatClampNeg (Int64.ofNat ((0 : Fin 2) : Nat)))))) h1 h2 ho
      exact rz_ireturn (by decide +kernel) rfl rfl (Nat.zero_le _) (Nat.zero_le _) (Or.inl ⟨v, _, V', rfl, hf, p1, p2, rz_up_s _ _ _, by rw [vp_updL_0]; unfold tB; rw [if_pos c0]; rfl⟩)
    · refine rz_lconst (n := 1) (by decide +kernel) ?_
      refine rz_goto (off := 4) (t := 15) (by decide +kernel) (by decide) ?_
      refine rz_lastore (by decide +kernel) hgo vp_in0 ?_
      refine rz_goto (off := 9) (t := 25) (by decide +kernel) (by decide) ?_
      refine rz_iconst (n := 0) (by decide +kernel) ?_
      obtain ⟨p1, p2⟩ := wl_put (e := .inl (1, 1, .inr (.inl (vp_updL g0 (Int32.ofInt 0).toNatClampNeg (Int64.ofNat ((1 : Fin 2) : Nat)))))) h1 h2 ho
      exact rz_ireturn (by decide +kernel) rfl rfl (Nat.zero_le _) (Nat.zero_le _) (Or.inl ⟨v, _, V', rfl, hf, p1, p2, rz_up_s _ _ _, by rw [vp_updL_0]; unfold tB; rw [if_neg c0]; rfl⟩)
set_option maxRecDepth 100000 in
set_option maxHeartbeats 4000000 in
theorem c_Law_sign {w : rz_w} {d : Nat} {G : rz_G} {z : Nat} {V : dk_V} (h : dk G z V) {o : Nat} {g0 : Nat → Int64} (ho : o < z ∨ z + 2002 ≤ o) (hg : G o = some (.inl (1, 1, .inr (.inl g0)))) (x : Int32) (h8 : ∀ x ∈ V.2.1, x < 8) : rz_CW w (d + 10) 1 6 y_Law_sign m_Law_sign h_Law_sign [.ref z, .int x, .ref o] G (wl_o tI cdA z o V G (fun r V' => V' = V ∧ ∃ (j : Nat) (hj : j < V.2.1.length), x = nI j ∧ r = some (.int (nI V.2.1[j]))) (fun c => c = 0 ∧ ∀ j, j < V.2.1.length → x ≠ nI j)) := by
  obtain ⟨hob, -⟩ := h 0 (by decide)
  refine rz_enterWX [some (.ref z), some (.int x), some (.ref o), none] (by decide) (by decide +kernel) rfl rfl (Nat.le_of_ble_eq_true rfl) rfl ?_
  refine ru_aload_n (j := 2) (by decide +kernel) rfl ?_
  refine ru_iconst (n := 0) (by decide +kernel) ?_
  refine ru_aload_n (j := 0) (by decide +kernel) rfl ?_
  refine ru_iload_n (j := 1) (by decide +kernel) rfl ?_
  refine ru_catch (en := 9) (ks := [(0, 12)]) (As := [.int x]) (b := z) (S := [.int (Int32.ofInt 0), .ref o]) (X' := ru_V V z G (fun r V' => V' = V ∧ ∃ (j : Nat) (hj : j < V.2.1.length), x = nI j ∧ r = some (.int (nI V.2.1[j]))) (fun c => c = 0 ∧ ∀ j, j < V.2.1.length → x ≠ nI j)) l_Law_62 (by decide +kernel) rfl hob rfl (Nat.le_of_ble_eq_true rfl) rfl rfl rfl (by decide) (by decide) (List.cons_ne_nil _ _) rfl (Nat.le_refl _) (Nat.le_refl _) (c_Desk_sign (d := d) h x h8) (fun c G' hc => ?_) (fun r G' hr => ?_)
  · obtain ⟨he, h1, h2⟩ := hc
    have he0 := he
    rcases he with ⟨rfl, _⟩
    · exact ⟨by decide, 12, 1, 1, rfl, Or.inl ⟨3, by decide +kernel, by decide, rfl⟩, by decide +kernel, by decide +kernel, Or.inr ⟨0, he0, rfl, h1, wl_of h2, h2 o ho⟩⟩
  · obtain ⟨V', hf, h1, h2⟩ := hr
    have hgo : G' o = some (.inl (1, 1, .inr (.inl g0))) := (h2 o ho).trans hg
    obtain ⟨v, rfl⟩ : ∃ v, r = some (.int v) := by
      rcases hf with ⟨_, _, _, _, rfl⟩ <;> exact ⟨_, rfl⟩
    refine rz_i2l (by decide +kernel) ?_
    refine rz_lastore (by decide +kernel) hgo vp_in0 ?_
    refine rz_goto (off := 6) (t := 15) (by decide +kernel) (by decide) ?_
    refine rz_iconst (n := 0) (by decide +kernel) ?_
    obtain ⟨p1, p2⟩ := wl_put (e := .inl (1, 1, .inr (.inl (vp_updL g0 (Int32.ofInt 0).toNatClampNeg v.toInt64)))) h1 h2 ho
    exact rz_ireturn (by decide +kernel) rfl rfl (Nat.zero_le _) (Nat.zero_le _) (Or.inl ⟨v, _, V', rfl, hf, p1, p2, rz_up_s _ _ _, by rw [vp_updL_0]; rfl⟩)
