/-! steps of rz_ex as equations (by program: wip/gen/steps.py) -/
section RX
variable {is : List rz_I} {pc ln ci kf : Nat} {L : rz_L} {S : List Value} {G : rz_G} {K : Nat → rz_L → List Value → rz_G → Prop} {R : Option Value → rz_G → Prop}
theorem rx_iadd  : rz_ex ((.iadd , ln, ci, kf) :: is) pc L S G K R = (rz_i2 S (fun x y S => rz_ex is (pc + ln) L (.int (x + y) :: S) G K R)) := rfl
theorem rx_isub  : rz_ex ((.isub , ln, ci, kf) :: is) pc L S G K R = (rz_i2 S (fun x y S => rz_ex is (pc + ln) L (.int (x - y) :: S) G K R)) := rfl
theorem rx_imul  : rz_ex ((.imul , ln, ci, kf) :: is) pc L S G K R = (rz_i2 S (fun x y S => rz_ex is (pc + ln) L (.int (x * y) :: S) G K R)) := rfl
theorem rx_iand  : rz_ex ((.iand , ln, ci, kf) :: is) pc L S G K R = (rz_i2 S (fun x y S => rz_ex is (pc + ln) L (.int (x &&& y) :: S) G K R)) := rfl
theorem rx_ior  : rz_ex ((.ior , ln, ci, kf) :: is) pc L S G K R = (rz_i2 S (fun x y S => rz_ex is (pc + ln) L (.int (x ||| y) :: S) G K R)) := rfl
theorem rx_ixor  : rz_ex ((.ixor , ln, ci, kf) :: is) pc L S G K R = (rz_i2 S (fun x y S => rz_ex is (pc + ln) L (.int (x ^^^ y) :: S) G K R)) := rfl
theorem rx_ishl  : rz_ex ((.ishl , ln, ci, kf) :: is) pc L S G K R = (rz_i2 S (fun x y S => rz_ex is (pc + ln) L (.int (x <<< (y &&& 31)) :: S) G K R)) := rfl
theorem rx_ishr  : rz_ex ((.ishr , ln, ci, kf) :: is) pc L S G K R = (rz_i2 S (fun x y S => rz_ex is (pc + ln) L (.int (x >>> (y &&& 31)) :: S) G K R)) := rfl
theorem rx_iushr  : rz_ex ((.iushr , ln, ci, kf) :: is) pc L S G K R = (rz_i2 S (fun x y S => rz_ex is (pc + ln) L (.int ((x.toUInt32 >>> (y.toUInt32 &&& Int32.toUInt32 31)).toInt32) :: S) G K R)) := rfl
theorem rx_idiv  : rz_ex ((.idiv , ln, ci, kf) :: is) pc L S G K R = (rz_i2 S (fun x y S => ¬ y = 0 ∧ rz_ex is (pc + ln) L (.int (x / y) :: S) G K R)) := rfl
theorem rx_irem  : rz_ex ((.irem , ln, ci, kf) :: is) pc L S G K R = (rz_i2 S (fun x y S => ¬ y = 0 ∧ rz_ex is (pc + ln) L (.int (x - x / y * y) :: S) G K R)) := rfl
theorem rx_ineg  : rz_ex ((.ineg , ln, ci, kf) :: is) pc L S G K R = (rz_i1 S (fun x S => rz_ex is (pc + ln) L (.int (-x) :: S) G K R)) := rfl
theorem rx_ladd  : rz_ex ((.ladd , ln, ci, kf) :: is) pc L S G K R = (rz_l2 S (fun x y S => rz_ex is (pc + ln) L (.long (x + y) :: S) G K R)) := rfl
theorem rx_lsub  : rz_ex ((.lsub , ln, ci, kf) :: is) pc L S G K R = (rz_l2 S (fun x y S => rz_ex is (pc + ln) L (.long (x - y) :: S) G K R)) := rfl
theorem rx_lmul  : rz_ex ((.lmul , ln, ci, kf) :: is) pc L S G K R = (rz_l2 S (fun x y S => rz_ex is (pc + ln) L (.long (x * y) :: S) G K R)) := rfl
theorem rx_land  : rz_ex ((.land , ln, ci, kf) :: is) pc L S G K R = (rz_l2 S (fun x y S => rz_ex is (pc + ln) L (.long (x &&& y) :: S) G K R)) := rfl
theorem rx_lor  : rz_ex ((.lor , ln, ci, kf) :: is) pc L S G K R = (rz_l2 S (fun x y S => rz_ex is (pc + ln) L (.long (x ||| y) :: S) G K R)) := rfl
theorem rx_lxor  : rz_ex ((.lxor , ln, ci, kf) :: is) pc L S G K R = (rz_l2 S (fun x y S => rz_ex is (pc + ln) L (.long (x ^^^ y) :: S) G K R)) := rfl
theorem rx_lshl  : rz_ex ((.lshl , ln, ci, kf) :: is) pc L S G K R = (rz_li S (fun x y S => rz_ex is (pc + ln) L (.long (x <<< (y.toInt64 &&& 63)) :: S) G K R)) := rfl
theorem rx_lushr  : rz_ex ((.lushr , ln, ci, kf) :: is) pc L S G K R = (rz_li S (fun x y S => rz_ex is (pc + ln) L (.long ((x.toUInt64 >>> (y.toInt64.toUInt64 &&& Int64.toUInt64 63)).toInt64) :: S) G K R)) := rfl
theorem rx_lcmp  : rz_ex ((.lcmp , ln, ci, kf) :: is) pc L S G K R = (rz_l2 S (fun x y S => rz_ex is (pc + ln) L (.int (lg_cmp x y) :: S) G K R)) := rfl
theorem rx_i2l  : rz_ex ((.i2l , ln, ci, kf) :: is) pc L S G K R = (rz_i1 S (fun x S => rz_ex is (pc + ln) L (.long (x.toInt64) :: S) G K R)) := rfl
theorem rx_l2i  : rz_ex ((.l2i , ln, ci, kf) :: is) pc L S G K R = (rz_l1 S (fun x S => rz_ex is (pc + ln) L (.int (x.toInt32) :: S) G K R)) := rfl
theorem rx_i2b  : rz_ex ((.i2b , ln, ci, kf) :: is) pc L S G K R = (rz_i1 S (fun x S => rz_ex is (pc + ln) L (.int (x.toInt8.toInt32) :: S) G K R)) := rfl
theorem rx_iconst {k : Int} : rz_ex ((.iconst k, ln, ci, kf) :: is) pc L S G K R = (rz_ex is (pc + ln) L (.int (Int32.ofInt k) :: S) G K R) := rfl
theorem rx_bipush {k : Int} : rz_ex ((.bipush k, ln, ci, kf) :: is) pc L S G K R = (rz_ex is (pc + ln) L (.int ((Int8.ofInt k).toInt32) :: S) G K R) := rfl
theorem rx_sipush {k : Int} : rz_ex ((.sipush k, ln, ci, kf) :: is) pc L S G K R = (rz_ex is (pc + ln) L (.int ((Int16.ofInt k).toInt32) :: S) G K R) := rfl
theorem rx_lconst0 : rz_ex ((.lconst 0, ln, ci, kf) :: is) pc L S G K R = (rz_ex is (pc + ln) L (.long (lN 0) :: S) G K R) := rfl
theorem rx_lconst1 : rz_ex ((.lconst 1, ln, ci, kf) :: is) pc L S G K R = (rz_ex is (pc + ln) L (.long (lN 1) :: S) G K R) := rfl
theorem rx_iload_n0 : rz_ex ((.iload_n 0, ln, ci, kf) :: is) pc L S G K R = (rz_li0 L 0 (fun x => rz_ex is (pc + ln) L (.int x :: S) G K R)) := rfl
theorem rx_iload_n1 : rz_ex ((.iload_n 1, ln, ci, kf) :: is) pc L S G K R = (rz_li0 L 1 (fun x => rz_ex is (pc + ln) L (.int x :: S) G K R)) := rfl
theorem rx_iload_n2 : rz_ex ((.iload_n 2, ln, ci, kf) :: is) pc L S G K R = (rz_li0 L 2 (fun x => rz_ex is (pc + ln) L (.int x :: S) G K R)) := rfl
theorem rx_iload_n3 : rz_ex ((.iload_n 3, ln, ci, kf) :: is) pc L S G K R = (rz_li0 L 3 (fun x => rz_ex is (pc + ln) L (.int x :: S) G K R)) := rfl
theorem rx_iload {j : Nat} : rz_ex ((.iload j, ln, ci, kf) :: is) pc L S G K R = (rz_li0 L j (fun x => rz_ex is (pc + ln) L (.int x :: S) G K R)) := rfl
theorem rx_lload_n0 : rz_ex ((.lload_n 0, ln, ci, kf) :: is) pc L S G K R = (rz_ll0 L 0 (fun x => rz_ex is (pc + ln) L (.long x :: S) G K R)) := rfl
theorem rx_lload_n1 : rz_ex ((.lload_n 1, ln, ci, kf) :: is) pc L S G K R = (rz_ll0 L 1 (fun x => rz_ex is (pc + ln) L (.long x :: S) G K R)) := rfl
theorem rx_lload_n2 : rz_ex ((.lload_n 2, ln, ci, kf) :: is) pc L S G K R = (rz_ll0 L 2 (fun x => rz_ex is (pc + ln) L (.long x :: S) G K R)) := rfl
theorem rx_lload_n3 : rz_ex ((.lload_n 3, ln, ci, kf) :: is) pc L S G K R = (rz_ll0 L 3 (fun x => rz_ex is (pc + ln) L (.long x :: S) G K R)) := rfl
theorem rx_lload {j : Nat} : rz_ex ((.lload j, ln, ci, kf) :: is) pc L S G K R = (rz_ll0 L j (fun x => rz_ex is (pc + ln) L (.long x :: S) G K R)) := rfl
theorem rx_aload_n0 : rz_ex ((.aload_n 0, ln, ci, kf) :: is) pc L S G K R = (rz_lr0 L 0 (fun x => rz_ex is (pc + ln) L (.ref x :: S) G K R)) := rfl
theorem rx_aload_n1 : rz_ex ((.aload_n 1, ln, ci, kf) :: is) pc L S G K R = (rz_lr0 L 1 (fun x => rz_ex is (pc + ln) L (.ref x :: S) G K R)) := rfl
theorem rx_aload_n2 : rz_ex ((.aload_n 2, ln, ci, kf) :: is) pc L S G K R = (rz_lr0 L 2 (fun x => rz_ex is (pc + ln) L (.ref x :: S) G K R)) := rfl
theorem rx_aload_n3 : rz_ex ((.aload_n 3, ln, ci, kf) :: is) pc L S G K R = (rz_lr0 L 3 (fun x => rz_ex is (pc + ln) L (.ref x :: S) G K R)) := rfl
theorem rx_aload {j : Nat} : rz_ex ((.aload j, ln, ci, kf) :: is) pc L S G K R = (rz_lr0 L j (fun x => rz_ex is (pc + ln) L (.ref x :: S) G K R)) := rfl
theorem rx_istore_n0 : rz_ex ((.istore_n 0, ln, ci, kf) :: is) pc L S G K R = (rz_i1 S (fun x S => rz_ex is (pc + ln) (rz_set L 0 (.int x)) S G K R)) := rfl
theorem rx_istore_n1 : rz_ex ((.istore_n 1, ln, ci, kf) :: is) pc L S G K R = (rz_i1 S (fun x S => rz_ex is (pc + ln) (rz_set L 1 (.int x)) S G K R)) := rfl
theorem rx_istore_n2 : rz_ex ((.istore_n 2, ln, ci, kf) :: is) pc L S G K R = (rz_i1 S (fun x S => rz_ex is (pc + ln) (rz_set L 2 (.int x)) S G K R)) := rfl
theorem rx_istore_n3 : rz_ex ((.istore_n 3, ln, ci, kf) :: is) pc L S G K R = (rz_i1 S (fun x S => rz_ex is (pc + ln) (rz_set L 3 (.int x)) S G K R)) := rfl
theorem rx_istore {j : Nat} : rz_ex ((.istore j, ln, ci, kf) :: is) pc L S G K R = (rz_i1 S (fun x S => rz_ex is (pc + ln) (rz_set L j (.int x)) S G K R)) := rfl
theorem rx_astore_n0 : rz_ex ((.astore_n 0, ln, ci, kf) :: is) pc L S G K R = (rz_r1 S (fun x S => rz_ex is (pc + ln) (rz_set L 0 (.ref x)) S G K R)) := rfl
theorem rx_astore_n1 : rz_ex ((.astore_n 1, ln, ci, kf) :: is) pc L S G K R = (rz_r1 S (fun x S => rz_ex is (pc + ln) (rz_set L 1 (.ref x)) S G K R)) := rfl
theorem rx_astore_n2 : rz_ex ((.astore_n 2, ln, ci, kf) :: is) pc L S G K R = (rz_r1 S (fun x S => rz_ex is (pc + ln) (rz_set L 2 (.ref x)) S G K R)) := rfl
theorem rx_astore_n3 : rz_ex ((.astore_n 3, ln, ci, kf) :: is) pc L S G K R = (rz_r1 S (fun x S => rz_ex is (pc + ln) (rz_set L 3 (.ref x)) S G K R)) := rfl
theorem rx_astore {j : Nat} : rz_ex ((.astore j, ln, ci, kf) :: is) pc L S G K R = (rz_r1 S (fun x S => rz_ex is (pc + ln) (rz_set L j (.ref x)) S G K R)) := rfl
theorem rx_lstore_n0 : rz_ex ((.lstore_n 0, ln, ci, kf) :: is) pc L S G K R = (rz_l1 S (fun x S => rz_ex is (pc + ln) (rz_clr (rz_set L 0 (.long x)) (0 + 1)) S G K R)) := rfl
theorem rx_lstore_n1 : rz_ex ((.lstore_n 1, ln, ci, kf) :: is) pc L S G K R = (rz_l1 S (fun x S => rz_ex is (pc + ln) (rz_clr (rz_set L 1 (.long x)) (1 + 1)) S G K R)) := rfl
theorem rx_lstore_n2 : rz_ex ((.lstore_n 2, ln, ci, kf) :: is) pc L S G K R = (rz_l1 S (fun x S => rz_ex is (pc + ln) (rz_clr (rz_set L 2 (.long x)) (2 + 1)) S G K R)) := rfl
theorem rx_lstore_n3 : rz_ex ((.lstore_n 3, ln, ci, kf) :: is) pc L S G K R = (rz_l1 S (fun x S => rz_ex is (pc + ln) (rz_clr (rz_set L 3 (.long x)) (3 + 1)) S G K R)) := rfl
theorem rx_lstore {j : Nat} : rz_ex ((.lstore j, ln, ci, kf) :: is) pc L S G K R = (rz_l1 S (fun x S => rz_ex is (pc + ln) (rz_clr (rz_set L j (.long x)) (j + 1)) S G K R)) := rfl
theorem rx_iinc {j : Nat} {k : Int} : rz_ex ((.iinc j k, ln, ci, kf) :: is) pc L S G K R = (rz_li0 L j (fun x => rz_ex is (pc + ln) (rz_set L j (.int (x + Int32.ofInt k))) S G K R)) := rfl
theorem rx_dup  : rz_ex ((.dup , ln, ci, kf) :: is) pc L S G K R = (rz_v1 S (fun v S => rz_ex is (pc + ln) L (v :: v :: S) G K R)) := rfl
theorem rx_pop  : rz_ex ((.pop , ln, ci, kf) :: is) pc L S G K R = (rz_v1 S (fun _ S => rz_ex is (pc + ln) L S G K R)) := rfl
theorem rx_dup2  : rz_ex ((.dup2 , ln, ci, kf) :: is) pc L S G K R = (rz_v2 S (fun v u S => rz_ex is (pc + ln) L (v :: u :: v :: u :: S) G K R)) := rfl
theorem rx_ifCond_eq {o : Int} : rz_ex ((.ifCond .eq o, ln, ci, kf) :: is) pc L S G K R = (rz_i1 S (fun x S => (x = 0 → K (rz_tr pc o) L S G) ∧ (¬ x = 0 → rz_ex is (pc + ln) L S G K R))) := rfl
theorem rx_ifCond_ne {o : Int} : rz_ex ((.ifCond .ne o, ln, ci, kf) :: is) pc L S G K R = (rz_i1 S (fun x S => (¬ x = 0 → K (rz_tr pc o) L S G) ∧ (x = 0 → rz_ex is (pc + ln) L S G K R))) := rfl
theorem rx_ifCond_lt {o : Int} : rz_ex ((.ifCond .lt o, ln, ci, kf) :: is) pc L S G K R = (rz_i1 S (fun x S => (x < 0 → K (rz_tr pc o) L S G) ∧ (¬ x < 0 → rz_ex is (pc + ln) L S G K R))) := rfl
theorem rx_ifCond_ge {o : Int} : rz_ex ((.ifCond .ge o, ln, ci, kf) :: is) pc L S G K R = (rz_i1 S (fun x S => (0 ≤ x → K (rz_tr pc o) L S G) ∧ (¬ 0 ≤ x → rz_ex is (pc + ln) L S G K R))) := rfl
theorem rx_ifCond_gt {o : Int} : rz_ex ((.ifCond .gt o, ln, ci, kf) :: is) pc L S G K R = (rz_i1 S (fun x S => (0 < x → K (rz_tr pc o) L S G) ∧ (¬ 0 < x → rz_ex is (pc + ln) L S G K R))) := rfl
theorem rx_ifCond_le {o : Int} : rz_ex ((.ifCond .le o, ln, ci, kf) :: is) pc L S G K R = (rz_i1 S (fun x S => (x ≤ 0 → K (rz_tr pc o) L S G) ∧ (¬ x ≤ 0 → rz_ex is (pc + ln) L S G K R))) := rfl
theorem rx_if_icmp_eq {o : Int} : rz_ex ((.if_icmp .eq o, ln, ci, kf) :: is) pc L S G K R = (rz_i2 S (fun x y S => (x = y → K (rz_tr pc o) L S G) ∧ (¬ x = y → rz_ex is (pc + ln) L S G K R))) := rfl
theorem rx_if_icmp_ne {o : Int} : rz_ex ((.if_icmp .ne o, ln, ci, kf) :: is) pc L S G K R = (rz_i2 S (fun x y S => (¬ x = y → K (rz_tr pc o) L S G) ∧ (x = y → rz_ex is (pc + ln) L S G K R))) := rfl
theorem rx_if_icmp_lt {o : Int} : rz_ex ((.if_icmp .lt o, ln, ci, kf) :: is) pc L S G K R = (rz_i2 S (fun x y S => (x < y → K (rz_tr pc o) L S G) ∧ (¬ x < y → rz_ex is (pc + ln) L S G K R))) := rfl
theorem rx_if_icmp_ge {o : Int} : rz_ex ((.if_icmp .ge o, ln, ci, kf) :: is) pc L S G K R = (rz_i2 S (fun x y S => (y ≤ x → K (rz_tr pc o) L S G) ∧ (¬ y ≤ x → rz_ex is (pc + ln) L S G K R))) := rfl
theorem rx_if_icmp_gt {o : Int} : rz_ex ((.if_icmp .gt o, ln, ci, kf) :: is) pc L S G K R = (rz_i2 S (fun x y S => (y < x → K (rz_tr pc o) L S G) ∧ (¬ y < x → rz_ex is (pc + ln) L S G K R))) := rfl
theorem rx_if_icmp_le {o : Int} : rz_ex ((.if_icmp .le o, ln, ci, kf) :: is) pc L S G K R = (rz_i2 S (fun x y S => (x ≤ y → K (rz_tr pc o) L S G) ∧ (¬ x ≤ y → rz_ex is (pc + ln) L S G K R))) := rfl
theorem rx_goto {o : Int} : rz_ex ((.goto o, ln, ci, kf) :: is) pc L S G K R = (K (rz_tr pc o) L S G) := rfl
theorem rx_ireturn  : rz_ex ((.ireturn , ln, ci, kf) :: is) pc L S G K R = (match S with | [.int v] => R (some (.int v)) G | _ => False) := rfl
theorem rx_return_  : rz_ex ((.return_ , ln, ci, kf) :: is) pc L S G K R = (match S with | [] => R none G | _ => False) := rfl
theorem rx_areturn  : rz_ex ((.areturn , ln, ci, kf) :: is) pc L S G K R = (match S with | [.ref v] => R (some (.ref v)) G | _ => False) := rfl
theorem rx_iaload  : rz_ex ((.iaload , ln, ci, kf) :: is) pc L S G K R = (rz_ri S (fun a i S => rz_ia G a (fun t n f => t = 0 ∧ vp_in i n ∧ rz_ex is (pc + ln) L (.int (f i.toNatClampNeg) :: S) G K R))) := rfl
theorem rx_baload  : rz_ex ((.baload , ln, ci, kf) :: is) pc L S G K R = (rz_ri S (fun a i S => rz_ia G a (fun t n f => (t = 2 ∨ t = 3) ∧ vp_in i n ∧ rz_ex is (pc + ln) L (.int (f i.toNatClampNeg) :: S) G K R))) := rfl
theorem rx_laload  : rz_ex ((.laload , ln, ci, kf) :: is) pc L S G K R = (rz_ri S (fun a i S => rz_la G a (fun n f => vp_in i n ∧ rz_ex is (pc + ln) L (.long (f i.toNatClampNeg) :: S) G K R))) := rfl
theorem rx_aaload  : rz_ex ((.aaload , ln, ci, kf) :: is) pc L S G K R = (rz_ri S (fun a i S => rz_ra G a (fun t n f => (t = 4 ∨ t = 5) ∧ vp_in i n ∧ rz_ex is (pc + ln) L (va_rf (f i.toNatClampNeg) :: S) G K R))) := rfl
theorem rx_iastore  : rz_ex ((.iastore , ln, ci, kf) :: is) pc L S G K R = (rz_rii S (fun a i x S => rz_ia G a (fun t n f => t = 0 ∧ vp_in i n ∧ rz_ex is (pc + ln) L S (rz_up G a (.inl (0, n, .inl (upd f i.toNatClampNeg x)))) K R))) := rfl
theorem rx_bastore  : rz_ex ((.bastore , ln, ci, kf) :: is) pc L S G K R = (rz_rii S (fun a i x S => rz_ia G a (fun t n f => (t = 2 ∨ t = 3) ∧ vp_in i n ∧ rz_ex is (pc + ln) L S (rz_up G a (.inl (t, n, .inl (upd f i.toNatClampNeg (vp_nar (if t = 2 then .byte else .boolean) x))))) K R))) := rfl
theorem rx_lastore  : rz_ex ((.lastore , ln, ci, kf) :: is) pc L S G K R = (rz_ril S (fun a i x S => rz_la G a (fun n f => vp_in i n ∧ rz_ex is (pc + ln) L S (rz_up G a (.inl (1, n, .inr (.inl (vp_updL f i.toNatClampNeg x))))) K R))) := rfl
theorem rx_arraylength  : rz_ex ((.arraylength , ln, ci, kf) :: is) pc L S G K R = (rz_r1 S (fun a S => rz_aa G a (fun t n => t < 6 ∧ rz_ex is (pc + ln) L (.int (nI n) :: S) G K R))) := rfl
theorem rx_getfield {u : Nat} : rz_ex ((.getfield u, ln, ci, kf) :: is) pc L S G K R = (rz_r1 S (fun a S => rz_ob G a ci (fun fs => rz_fv fs kf (fun v => rz_ex is (pc + ln) L (v :: S) G K R)))) := rfl
theorem rx_putfield {u : Nat} : rz_ex ((.putfield u, ln, ci, kf) :: is) pc L S G K R = (rz_vr S (fun a v S => rz_ob G a ci (fun fs => rz_fit (rz_ty ci kf) v ∧ kf < fs.length ∧ rz_ex is (pc + ln) L S (rz_up G a (.inr (ci, fs.set kf v))) K R))) := rfl
theorem rx_nil : rz_ex [] pc L S G K R = K pc L S G := rfl
end RX
theorem ry_i1 {x : Int32} {S : List Value} {f : Int32 → List Value → Prop} : rz_i1 (.int x :: S) f = f x S := rfl
theorem ry_i2 {x y : Int32} {S : List Value} {f : Int32 → Int32 → List Value → Prop} : rz_i2 (.int y :: .int x :: S) f = f x y S := rfl
theorem ry_l1 {x : Int64} {S : List Value} {f : Int64 → List Value → Prop} : rz_l1 (.long x :: S) f = f x S := rfl
theorem ry_l2 {x y : Int64} {S : List Value} {f : Int64 → Int64 → List Value → Prop} : rz_l2 (.long y :: .long x :: S) f = f x y S := rfl
theorem ry_li {x : Int64} {y : Int32} {S : List Value} {f : Int64 → Int32 → List Value → Prop} : rz_li (.int y :: .long x :: S) f = f x y S := rfl
theorem ry_r1 {x : Nat} {S : List Value} {f : Nat → List Value → Prop} : rz_r1 (.ref x :: S) f = f x S := rfl
theorem ry_ri {a : Nat} {i : Int32} {S : List Value} {f : Nat → Int32 → List Value → Prop} : rz_ri (.int i :: .ref a :: S) f = f a i S := rfl
theorem ry_rii {a : Nat} {i x : Int32} {S : List Value} {f : Nat → Int32 → Int32 → List Value → Prop} : rz_rii (.int x :: .int i :: .ref a :: S) f = f a i x S := rfl
theorem ry_ril {a : Nat} {i : Int32} {x : Int64} {S : List Value} {f : Nat → Int32 → Int64 → List Value → Prop} : rz_ril (.long x :: .int i :: .ref a :: S) f = f a i x S := rfl
theorem ry_vr {a : Nat} {v : Value} {S : List Value} {f : Nat → Value → List Value → Prop} : rz_vr (v :: .ref a :: S) f = f a v S := rfl
theorem ry_v1i {x : Int32} {S : List Value} {f : Value → List Value → Prop} : rz_v1 (.int x :: S) f = f (.int x) S := propext ⟨fun h => h.2, fun h => ⟨rfl, h⟩⟩
theorem ry_v1r {x : Nat} {S : List Value} {f : Value → List Value → Prop} : rz_v1 (.ref x :: S) f = f (.ref x) S := propext ⟨fun h => h.2, fun h => ⟨rfl, h⟩⟩
theorem ry_v2 {x : Nat} {y : Int32} {S : List Value} {f : Value → Value → List Value → Prop} : rz_v2 (.int y :: .ref x :: S) f = f (.int y) (.ref x) S := propext ⟨fun h => h.2.2, fun h => ⟨rfl, rfl, h⟩⟩
theorem ry_li0z {x : Int32} {L : rz_L} {f : Int32 → Prop} : rz_li0 (some (.int x) :: L) 0 f = f x := rfl
theorem ry_li0s {v : Option Value} {j : Nat} {L : rz_L} {f : Int32 → Prop} : rz_li0 (v :: L) (j + 1) f = rz_li0 L j f := rfl
theorem ry_ll0z {x : Int64} {L : rz_L} {f : Int64 → Prop} : rz_ll0 (some (.long x) :: L) 0 f = f x := rfl
theorem ry_ll0s {v : Option Value} {j : Nat} {L : rz_L} {f : Int64 → Prop} : rz_ll0 (v :: L) (j + 1) f = rz_ll0 L j f := rfl
theorem ry_lr0z {x : Nat} {L : rz_L} {f : Nat → Prop} : rz_lr0 (some (.ref x) :: L) 0 f = f x := rfl
theorem ry_lr0s {v : Option Value} {j : Nat} {L : rz_L} {f : Nat → Prop} : rz_lr0 (v :: L) (j + 1) f = rz_lr0 L j f := rfl
theorem ry_fvz {v : Value} {fs : List Value} {f : Value → Prop} : rz_fv (v :: fs) 0 f = f v := rfl
theorem ry_fvs {v : Value} {fs : List Value} {k : Nat} {f : Value → Prop} : rz_fv (v :: fs) (k + 1) f = rz_fv fs k f := by simp only [rz_fv, List.getElem?_cons_succ]
theorem ry_obu {G : rz_G} {a c : Nat} {fs : List Value} {f : List Value → Prop} : rz_ob (rz_up G a (.inr (c, fs))) a c f = f fs := by simp only [rz_ob, rz_up_s, true_and]
theorem ry_iau {G : rz_G} {a t n : Nat} {g : Nat → Int32} {f : Nat → Nat → (Nat → Int32) → Prop} : rz_ia (rz_up G a (.inl (t, n, .inl g))) a f = f t n g := by simp only [rz_ia, rz_up_s]
theorem ry_lau {G : rz_G} {a n : Nat} {g : Nat → Int64} {f : Nat → (Nat → Int64) → Prop} : rz_la (rz_up G a (.inl (1, n, .inr (.inl g)))) a f = f n g := by simp only [rz_la, rz_up_s, true_and]
theorem rh_ob {G : rz_G} {a c : Nat} {fs : List Value} (h : G a = some (.inr (c, fs))) {f : List Value → Prop} : rz_ob G a c f = f fs := by simp only [rz_ob, h, true_and]
theorem rh_ia {G : rz_G} {a t n : Nat} {g : Nat → Int32} (h : G a = some (.inl (t, n, .inl g))) {f : Nat → Nat → (Nat → Int32) → Prop} : rz_ia G a f = f t n g := by simp only [rz_ia, h]
theorem rh_la {G : rz_G} {a n : Nat} {g : Nat → Int64} (h : G a = some (.inl (1, n, .inr (.inl g)))) {f : Nat → (Nat → Int64) → Prop} : rz_la G a f = f n g := by simp only [rz_la, h, true_and]
theorem rh_ra {G : rz_G} {a t n : Nat} {g : Nat → Option Nat} (h : G a = some (.inl (t, n, .inr (.inr (.inr (.inr g)))))) {f : Nat → Nat → (Nat → Option Nat) → Prop} : rz_ra G a f = f t n g := by simp only [rz_ra, h]
theorem rh_aa {G : rz_G} {a t : Nat} {x : vp_A} (h : G a = some (.inl (t, x))) {f : Nat → Nat → Prop} : rz_aa G a f = f t x.1 := by simp only [rz_aa, h]
theorem rz_blk' (is : List rz_I) {w : rz_w} {d mc ms : Nat} {M : rz_M} {kc kn : Nat} {Q : Option Value → rz_G → Prop} {pc : Nat} {L : rz_L} {S : List Value} {G : rz_G} (hd : rz_lks M pc is = true) (hk : kc ≤ mc) (hk2 : kn ≤ ms)
    (h : ∀ (K : Nat → rz_L → List Value → rz_G → Prop) (R : Option Value → rz_G → Prop), (∀ pc L S G, rz_T w d mc ms M kc kn pc L S G Q → K pc L S G) → (∀ r G, rz_nb M r → Q r G → R r G) → rz_ex is pc L S G K R) : rz_T w d mc ms M kc kn pc L S G Q :=
  rz_blk is hd hk hk2 (h _ _ (fun _ _ _ _ q => q) (fun _ _ q1 q2 => ⟨q1, q2⟩))
theorem rz_enter' {w : rz_w} {d mc ms : Nat} {y : MethodName} {M : rz_M} {as : List Value} {G : rz_G} {Q : Option Value → rz_G → Prop} (Lc : rz_L) (hy : plainName y.cls = true) (ho : rz_on M.2.2.2.1 = y.cls) (hn : y.name = M.2.2.2.2) (hlen : (lg_sl as).length ≤ M.2.1) (hL : rz_pad M.2.1 (rz_en as) = Lc)
    (h : rz_T w d mc ms M 0 0 0 Lc [] G Q) : rz_C w d mc ms y M as G Q := rz_enter hy ho hn hlen (by rw [hL]; exact h)
theorem rz_nb_i {M : rz_M} {r : Option Value} (h : M.2.2.1 ≠ some .boolean) : rz_nb M r := fun q => absurd q h
theorem rz_nb_0 {M : rz_M} : rz_nb M (some (.int 0)) := fun _ v h => by cases h; rfl
theorem rz_nb_1 {M : rz_M} : rz_nb M (some (.int 1)) := fun _ v h => by cases h; rfl
theorem rw_cm1 : Int32.ofInt (-1) = -1 := by decide
theorem rw_c0 : Int32.ofInt 0 = nI 0 := by decide
theorem rw_c1 : Int32.ofInt 1 = nI 1 := by decide
theorem rw_c2 : Int32.ofInt 2 = nI 2 := by decide
theorem rw_c3 : Int32.ofInt 3 = nI 3 := by decide
theorem rw_c4 : Int32.ofInt 4 = nI 4 := by decide
theorem rw_c5 : Int32.ofInt 5 = nI 5 := by decide
theorem rw_b6 : (Int8.ofInt 6).toInt32 = nI 6 := by decide
theorem rw_b7 : (Int8.ofInt 7).toInt32 = nI 7 := by decide
theorem rw_b8 : (Int8.ofInt 8).toInt32 = nI 8 := by decide
theorem rw_b9 : (Int8.ofInt 9).toInt32 = nI 9 := by decide
theorem rw_b10 : (Int8.ofInt 10).toInt32 = nI 10 := by decide
theorem rw_b12 : (Int8.ofInt 12).toInt32 = nI 12 := by decide
theorem rw_b13 : (Int8.ofInt 13).toInt32 = nI 13 := by decide
theorem rw_b15 : (Int8.ofInt 15).toInt32 = nI 15 := by decide
theorem rw_b16 : (Int8.ofInt 16).toInt32 = nI 16 := by decide
theorem rw_b18 : (Int8.ofInt 18).toInt32 = nI 18 := by decide
theorem rw_b24 : (Int8.ofInt 24).toInt32 = nI 24 := by decide
theorem rw_b31 : (Int8.ofInt 31).toInt32 = nI 31 := by decide
theorem rw_b32 : (Int8.ofInt 32).toInt32 = nI 32 := by decide
theorem rw_b36 : (Int8.ofInt 36).toInt32 = nI 36 := by decide
theorem rw_b40 : (Int8.ofInt 40).toInt32 = nI 40 := by decide
theorem rw_b42 : (Int8.ofInt 42).toInt32 = nI 42 := by decide
theorem rw_b48 : (Int8.ofInt 48).toInt32 = nI 48 := by decide
theorem rw_b63 : (Int8.ofInt 63).toInt32 = nI 63 := by decide
theorem rw_b64 : (Int8.ofInt 64).toInt32 = nI 64 := by decide
theorem rw_b72 : (Int8.ofInt 72).toInt32 = nI 72 := by decide
theorem rw_b100 : (Int8.ofInt 100).toInt32 = nI 100 := by decide
theorem rw_b120 : (Int8.ofInt 120).toInt32 = nI 120 := by decide
theorem rw_b126 : (Int8.ofInt 126).toInt32 = nI 126 := by decide
theorem rw_b127 : (Int8.ofInt 127).toInt32 = nI 127 := by decide
theorem rw_bm1 : (Int8.ofInt (-1)).toInt32 = -1 := by decide
theorem rw_s128 : (Int16.ofInt 128).toInt32 = nI 128 := by decide
theorem rw_s132 : (Int16.ofInt 132).toInt32 = nI 132 := by decide
theorem rw_s144 : (Int16.ofInt 144).toInt32 = nI 144 := by decide
theorem rw_s160 : (Int16.ofInt 160).toInt32 = nI 160 := by decide
theorem rw_s192 : (Int16.ofInt 192).toInt32 = nI 192 := by decide
theorem rw_s200 : (Int16.ofInt 200).toInt32 = nI 200 := by decide
theorem rw_s210 : (Int16.ofInt 210).toInt32 = nI 210 := by decide
theorem rw_s240 : (Int16.ofInt 240).toInt32 = nI 240 := by decide
theorem rw_s252 : (Int16.ofInt 252).toInt32 = nI 252 := by decide
theorem rw_s255 : (Int16.ofInt 255).toInt32 = nI 255 := by decide
theorem rw_s256 : (Int16.ofInt 256).toInt32 = nI 256 := by decide
theorem rw_s384 : (Int16.ofInt 384).toInt32 = nI 384 := by decide
theorem rw_s400 : (Int16.ofInt 400).toInt32 = nI 400 := by decide
theorem rw_s432 : (Int16.ofInt 432).toInt32 = nI 432 := by decide
theorem rw_s512 : (Int16.ofInt 512).toInt32 = nI 512 := by decide
theorem rw_s1536 : (Int16.ofInt 1536).toInt32 = nI 1536 := by decide
theorem rw_s2100 : (Int16.ofInt 2100).toInt32 = nI 2100 := by decide
theorem rw_s3000 : (Int16.ofInt 3000).toInt32 = nI 3000 := by decide
theorem rw_s3001 : (Int16.ofInt 3001).toInt32 = nI 3001 := by decide
theorem rw_s3010 : (Int16.ofInt 3010).toInt32 = nI 3010 := by decide
theorem rw_s4095 : (Int16.ofInt 4095).toInt32 = nI 4095 := by decide
theorem rw_s4096 : (Int16.ofInt 4096).toInt32 = nI 4096 := by decide
theorem rw_s4100 : (Int16.ofInt 4100).toInt32 = nI 4100 := by decide
theorem rw_s4200 : (Int16.ofInt 4200).toInt32 = nI 4200 := by decide
theorem rw_s7680 : (Int16.ofInt 7680).toInt32 = nI 7680 := by decide
theorem rw_s8192 : (Int16.ofInt 8192).toInt32 = nI 8192 := by decide
theorem rw_s8400 : (Int16.ofInt 8400).toInt32 = nI 8400 := by decide
theorem rw_s19200 : (Int16.ofInt 19200).toInt32 = nI 19200 := by decide
theorem rw_s20160 : (Int16.ofInt 20160).toInt32 = nI 20160 := by decide
theorem rf_0_0 {x : Nat} : rz_fit (rz_ty 0 0) (.ref x) = True := eq_true ⟨rfl, rfl⟩
theorem rf_0_1 {x : Int32} : rz_fit (rz_ty 0 1) (.int x) = True := eq_true ⟨rfl, rfl⟩
theorem rf_1_0 {x : Nat} : rz_fit (rz_ty 1 0) (.ref x) = True := eq_true ⟨rfl, rfl⟩
theorem rf_1_1 {x : Int32} : rz_fit (rz_ty 1 1) (.int x) = True := eq_true ⟨rfl, rfl⟩
theorem rf_1_2 {x : Int32} : rz_fit (rz_ty 1 2) (.int x) = True := eq_true ⟨rfl, rfl⟩
theorem rf_1_3 {x : Nat} : rz_fit (rz_ty 1 3) (.ref x) = True := eq_true ⟨rfl, rfl⟩
theorem rf_1_4 {x : Int32} : rz_fit (rz_ty 1 4) (.int x) = True := eq_true ⟨rfl, rfl⟩
theorem rf_2_0 {x : Int32} : rz_fit (rz_ty 2 0) (.int x) = True := eq_true ⟨rfl, rfl⟩
theorem rf_2_1 {x : Int32} : rz_fit (rz_ty 2 1) (.int x) = True := eq_true ⟨rfl, rfl⟩
theorem rf_2_2 {x : Nat} : rz_fit (rz_ty 2 2) (.ref x) = True := eq_true ⟨rfl, rfl⟩
theorem rf_2_3 {x : Nat} : rz_fit (rz_ty 2 3) (.ref x) = True := eq_true ⟨rfl, rfl⟩
theorem rf_2_4 {x : Nat} : rz_fit (rz_ty 2 4) (.ref x) = True := eq_true ⟨rfl, rfl⟩
theorem rf_2_5 {x : Nat} : rz_fit (rz_ty 2 5) (.ref x) = True := eq_true ⟨rfl, rfl⟩
theorem rf_2_6 {x : Nat} : rz_fit (rz_ty 2 6) (.ref x) = True := eq_true ⟨rfl, rfl⟩
theorem rf_2_7 {x : Nat} : rz_fit (rz_ty 2 7) (.ref x) = True := eq_true ⟨rfl, rfl⟩
theorem rf_2_8 {x : Int32} : rz_fit (rz_ty 2 8) (.int x) = True := eq_true ⟨rfl, rfl⟩
theorem rf_2_9 : rz_fit (rz_ty 2 9) (.int (nI 0)) = True := eq_true ⟨rfl, rfl⟩
theorem rf_2_9t : rz_fit (rz_ty 2 9) (.int (nI 1)) = True := eq_true ⟨rfl, rfl⟩
theorem rf_2_10 {x : Int32} : rz_fit (rz_ty 2 10) (.int x) = True := eq_true ⟨rfl, rfl⟩
theorem rf_2_11 {x : Nat} : rz_fit (rz_ty 2 11) (.ref x) = True := eq_true ⟨rfl, rfl⟩
theorem rf_2_12 {x : Nat} : rz_fit (rz_ty 2 12) (.ref x) = True := eq_true ⟨rfl, rfl⟩
theorem rf_3_0 {x : Nat} : rz_fit (rz_ty 3 0) (.ref x) = True := eq_true ⟨rfl, rfl⟩
theorem rf_3_1 {x : Nat} : rz_fit (rz_ty 3 1) (.ref x) = True := eq_true ⟨rfl, rfl⟩
theorem rf_3_2 {x : Nat} : rz_fit (rz_ty 3 2) (.ref x) = True := eq_true ⟨rfl, rfl⟩
theorem rf_3_3 {x : Nat} : rz_fit (rz_ty 3 3) (.ref x) = True := eq_true ⟨rfl, rfl⟩
theorem rf_3_4 {x : Nat} : rz_fit (rz_ty 3 4) (.ref x) = True := eq_true ⟨rfl, rfl⟩
theorem rf_4_0 {x : Nat} : rz_fit (rz_ty 4 0) (.ref x) = True := eq_true ⟨rfl, rfl⟩
theorem rf_4_1 {x : Nat} : rz_fit (rz_ty 4 1) (.ref x) = True := eq_true ⟨rfl, rfl⟩
theorem rf_4_2 {x : Int32} : rz_fit (rz_ty 4 2) (.int x) = True := eq_true ⟨rfl, rfl⟩
theorem rf_4_3 {x : Nat} : rz_fit (rz_ty 4 3) (.ref x) = True := eq_true ⟨rfl, rfl⟩
theorem rf_4_4 {x : Nat} : rz_fit (rz_ty 4 4) (.ref x) = True := eq_true ⟨rfl, rfl⟩
theorem rf_4_5 {x : Nat} : rz_fit (rz_ty 4 5) (.ref x) = True := eq_true ⟨rfl, rfl⟩
theorem rf_4_6 {x : Nat} : rz_fit (rz_ty 4 6) (.ref x) = True := eq_true ⟨rfl, rfl⟩
theorem rf_4_7 {x : Nat} : rz_fit (rz_ty 4 7) (.ref x) = True := eq_true ⟨rfl, rfl⟩
theorem rf_4_8 {x : Nat} : rz_fit (rz_ty 4 8) (.ref x) = True := eq_true ⟨rfl, rfl⟩
theorem rf_4_9 {x : Nat} : rz_fit (rz_ty 4 9) (.ref x) = True := eq_true ⟨rfl, rfl⟩
theorem rf_4_10 {x : Int32} : rz_fit (rz_ty 4 10) (.int x) = True := eq_true ⟨rfl, rfl⟩
theorem rf_4_11 {x : Nat} : rz_fit (rz_ty 4 11) (.ref x) = True := eq_true ⟨rfl, rfl⟩
theorem rf_4_12 {x : Nat} : rz_fit (rz_ty 4 12) (.ref x) = True := eq_true ⟨rfl, rfl⟩
theorem rf_4_13 {x : Nat} : rz_fit (rz_ty 4 13) (.ref x) = True := eq_true ⟨rfl, rfl⟩
theorem rf_4_14 {x : Nat} : rz_fit (rz_ty 4 14) (.ref x) = True := eq_true ⟨rfl, rfl⟩
theorem rf_4_15 {x : Int32} : rz_fit (rz_ty 4 15) (.int x) = True := eq_true ⟨rfl, rfl⟩
theorem rf_4_16 {x : Nat} : rz_fit (rz_ty 4 16) (.ref x) = True := eq_true ⟨rfl, rfl⟩
theorem rf_4_17 {x : Nat} : rz_fit (rz_ty 4 17) (.ref x) = True := eq_true ⟨rfl, rfl⟩
theorem rf_5_0 {x : Nat} : rz_fit (rz_ty 5 0) (.ref x) = True := eq_true ⟨rfl, rfl⟩
theorem rf_5_1 {x : Nat} : rz_fit (rz_ty 5 1) (.ref x) = True := eq_true ⟨rfl, rfl⟩
theorem rf_5_2 {x : Nat} : rz_fit (rz_ty 5 2) (.ref x) = True := eq_true ⟨rfl, rfl⟩
theorem rf_5_3 {x : Nat} : rz_fit (rz_ty 5 3) (.ref x) = True := eq_true ⟨rfl, rfl⟩
theorem rf_5_4 {x : Int32} : rz_fit (rz_ty 5 4) (.int x) = True := eq_true ⟨rfl, rfl⟩
theorem rf_5_5 {x : Int32} : rz_fit (rz_ty 5 5) (.int x) = True := eq_true ⟨rfl, rfl⟩
theorem rf_6_0 {x : Nat} : rz_fit (rz_ty 6 0) (.ref x) = True := eq_true ⟨rfl, rfl⟩
theorem rf_6_1 {x : Nat} : rz_fit (rz_ty 6 1) (.ref x) = True := eq_true ⟨rfl, rfl⟩
theorem rf_6_2 {x : Nat} : rz_fit (rz_ty 6 2) (.ref x) = True := eq_true ⟨rfl, rfl⟩
theorem rf_6_3 {x : Nat} : rz_fit (rz_ty 6 3) (.ref x) = True := eq_true ⟨rfl, rfl⟩
theorem rf_6_4 {x : Nat} : rz_fit (rz_ty 6 4) (.ref x) = True := eq_true ⟨rfl, rfl⟩
theorem rf_6_5 {x : Nat} : rz_fit (rz_ty 6 5) (.ref x) = True := eq_true ⟨rfl, rfl⟩
theorem rf_6_6 {x : Nat} : rz_fit (rz_ty 6 6) (.ref x) = True := eq_true ⟨rfl, rfl⟩
theorem rf_6_7 {x : Int32} : rz_fit (rz_ty 6 7) (.int x) = True := eq_true ⟨rfl, rfl⟩
theorem rf_6_8 : rz_fit (rz_ty 6 8) (.int (nI 0)) = True := eq_true ⟨rfl, rfl⟩
theorem rf_6_8t : rz_fit (rz_ty 6 8) (.int (nI 1)) = True := eq_true ⟨rfl, rfl⟩
theorem rf_6_9 : rz_fit (rz_ty 6 9) (.int (nI 0)) = True := eq_true ⟨rfl, rfl⟩
theorem rf_6_9t : rz_fit (rz_ty 6 9) (.int (nI 1)) = True := eq_true ⟨rfl, rfl⟩
theorem rf_7_0 {x : Int32} : rz_fit (rz_ty 7 0) (.int x) = True := eq_true ⟨rfl, rfl⟩
theorem rf_7_1 {x : Nat} : rz_fit (rz_ty 7 1) (.ref x) = True := eq_true ⟨rfl, rfl⟩
theorem rf_7_2 {x : Nat} : rz_fit (rz_ty 7 2) (.ref x) = True := eq_true ⟨rfl, rfl⟩
theorem rf_7_3 {x : Nat} : rz_fit (rz_ty 7 3) (.ref x) = True := eq_true ⟨rfl, rfl⟩
theorem rf_7_4 {x : Nat} : rz_fit (rz_ty 7 4) (.ref x) = True := eq_true ⟨rfl, rfl⟩
theorem rf_7_5 {x : Nat} : rz_fit (rz_ty 7 5) (.ref x) = True := eq_true ⟨rfl, rfl⟩
theorem rf_8_0 {x : Nat} : rz_fit (rz_ty 8 0) (.ref x) = True := eq_true ⟨rfl, rfl⟩
theorem rf_8_1 {x : Nat} : rz_fit (rz_ty 8 1) (.ref x) = True := eq_true ⟨rfl, rfl⟩
theorem rf_8_2 {x : Int32} : rz_fit (rz_ty 8 2) (.int x) = True := eq_true ⟨rfl, rfl⟩
theorem rf_8_3 {x : Nat} : rz_fit (rz_ty 8 3) (.ref x) = True := eq_true ⟨rfl, rfl⟩
theorem rf_8_4 {x : Nat} : rz_fit (rz_ty 8 4) (.ref x) = True := eq_true ⟨rfl, rfl⟩
theorem rf_8_5 {x : Nat} : rz_fit (rz_ty 8 5) (.ref x) = True := eq_true ⟨rfl, rfl⟩
theorem rf_8_6 {x : Nat} : rz_fit (rz_ty 8 6) (.ref x) = True := eq_true ⟨rfl, rfl⟩
theorem rf_8_7 {x : Nat} : rz_fit (rz_ty 8 7) (.ref x) = True := eq_true ⟨rfl, rfl⟩
theorem rf_8_8 {x : Nat} : rz_fit (rz_ty 8 8) (.ref x) = True := eq_true ⟨rfl, rfl⟩
theorem rf_8_9 {x : Nat} : rz_fit (rz_ty 8 9) (.ref x) = True := eq_true ⟨rfl, rfl⟩
theorem rf_8_10 {x : Int32} : rz_fit (rz_ty 8 10) (.int x) = True := eq_true ⟨rfl, rfl⟩
theorem rf_8_11 {x : Nat} : rz_fit (rz_ty 8 11) (.ref x) = True := eq_true ⟨rfl, rfl⟩
theorem rf_8_12 {x : Nat} : rz_fit (rz_ty 8 12) (.ref x) = True := eq_true ⟨rfl, rfl⟩
theorem rf_9_0 {x : Nat} : rz_fit (rz_ty 9 0) (.ref x) = True := eq_true ⟨rfl, rfl⟩
theorem rf_9_1 {x : Nat} : rz_fit (rz_ty 9 1) (.ref x) = True := eq_true ⟨rfl, rfl⟩
theorem rf_9_2 {x : Nat} : rz_fit (rz_ty 9 2) (.ref x) = True := eq_true ⟨rfl, rfl⟩
theorem rf_9_3 {x : Nat} : rz_fit (rz_ty 9 3) (.ref x) = True := eq_true ⟨rfl, rfl⟩
theorem rf_9_4 {x : Nat} : rz_fit (rz_ty 9 4) (.ref x) = True := eq_true ⟨rfl, rfl⟩
theorem rf_9_5 {x : Nat} : rz_fit (rz_ty 9 5) (.ref x) = True := eq_true ⟨rfl, rfl⟩
theorem rf_9_6 {x : Nat} : rz_fit (rz_ty 9 6) (.ref x) = True := eq_true ⟨rfl, rfl⟩
theorem rf_9_7 {x : Nat} : rz_fit (rz_ty 9 7) (.ref x) = True := eq_true ⟨rfl, rfl⟩
theorem rf_9_8 {x : Nat} : rz_fit (rz_ty 9 8) (.ref x) = True := eq_true ⟨rfl, rfl⟩
theorem rf_9_9 {x : Nat} : rz_fit (rz_ty 9 9) (.ref x) = True := eq_true ⟨rfl, rfl⟩
theorem rf_10_0 {x : Int32} : rz_fit (rz_ty 10 0) (.int x) = True := eq_true ⟨rfl, rfl⟩
theorem rf_10_1 {x : Nat} : rz_fit (rz_ty 10 1) (.ref x) = True := eq_true ⟨rfl, rfl⟩
theorem rf_10_2 {x : Nat} : rz_fit (rz_ty 10 2) (.ref x) = True := eq_true ⟨rfl, rfl⟩
theorem rf_10_3 {x : Nat} : rz_fit (rz_ty 10 3) (.ref x) = True := eq_true ⟨rfl, rfl⟩
theorem rf_10_4 {x : Nat} : rz_fit (rz_ty 10 4) (.ref x) = True := eq_true ⟨rfl, rfl⟩
theorem rf_10_5 {x : Nat} : rz_fit (rz_ty 10 5) (.ref x) = True := eq_true ⟨rfl, rfl⟩
theorem rf_10_6 {x : Nat} : rz_fit (rz_ty 10 6) (.ref x) = True := eq_true ⟨rfl, rfl⟩
theorem rf_10_7 {x : Nat} : rz_fit (rz_ty 10 7) (.ref x) = True := eq_true ⟨rfl, rfl⟩
theorem rf_10_8 {x : Nat} : rz_fit (rz_ty 10 8) (.ref x) = True := eq_true ⟨rfl, rfl⟩
theorem rf_10_9 {x : Nat} : rz_fit (rz_ty 10 9) (.ref x) = True := eq_true ⟨rfl, rfl⟩
theorem rf_10_10 {x : Nat} : rz_fit (rz_ty 10 10) (.ref x) = True := eq_true ⟨rfl, rfl⟩
theorem rf_10_11 {x : Nat} : rz_fit (rz_ty 10 11) (.ref x) = True := eq_true ⟨rfl, rfl⟩
theorem rf_10_12 {x : Int32} : rz_fit (rz_ty 10 12) (.int x) = True := eq_true ⟨rfl, rfl⟩
theorem rf_10_13 {x : Nat} : rz_fit (rz_ty 10 13) (.ref x) = True := eq_true ⟨rfl, rfl⟩
theorem rf_10_14 {x : Nat} : rz_fit (rz_ty 10 14) (.ref x) = True := eq_true ⟨rfl, rfl⟩
theorem rf_10_15 {x : Nat} : rz_fit (rz_ty 10 15) (.ref x) = True := eq_true ⟨rfl, rfl⟩
theorem rf_10_16 {x : Nat} : rz_fit (rz_ty 10 16) (.ref x) = True := eq_true ⟨rfl, rfl⟩
theorem rf_10_17 {x : Nat} : rz_fit (rz_ty 10 17) (.ref x) = True := eq_true ⟨rfl, rfl⟩
theorem rf_10_18 {x : Nat} : rz_fit (rz_ty 10 18) (.ref x) = True := eq_true ⟨rfl, rfl⟩
theorem rf_10_19 {x : Nat} : rz_fit (rz_ty 10 19) (.ref x) = True := eq_true ⟨rfl, rfl⟩
theorem rf_10_20 {x : Nat} : rz_fit (rz_ty 10 20) (.ref x) = True := eq_true ⟨rfl, rfl⟩
theorem rf_10_21 {x : Nat} : rz_fit (rz_ty 10 21) (.ref x) = True := eq_true ⟨rfl, rfl⟩
theorem rf_10_22 {x : Nat} : rz_fit (rz_ty 10 22) (.ref x) = True := eq_true ⟨rfl, rfl⟩
theorem rf_10_23 {x : Nat} : rz_fit (rz_ty 10 23) (.ref x) = True := eq_true ⟨rfl, rfl⟩
theorem rf_10_24 {x : Nat} : rz_fit (rz_ty 10 24) (.ref x) = True := eq_true ⟨rfl, rfl⟩
theorem rf_10_25 {x : Nat} : rz_fit (rz_ty 10 25) (.ref x) = True := eq_true ⟨rfl, rfl⟩
theorem rf_10_26 {x : Int32} : rz_fit (rz_ty 10 26) (.int x) = True := eq_true ⟨rfl, rfl⟩
theorem rf_10_27 {x : Int32} : rz_fit (rz_ty 10 27) (.int x) = True := eq_true ⟨rfl, rfl⟩
theorem rf_10_28 {x : Nat} : rz_fit (rz_ty 10 28) (.ref x) = True := eq_true ⟨rfl, rfl⟩
theorem rf_10_29 {x : Nat} : rz_fit (rz_ty 10 29) (.ref x) = True := eq_true ⟨rfl, rfl⟩
theorem rf_10_30 {x : Int32} : rz_fit (rz_ty 10 30) (.int x) = True := eq_true ⟨rfl, rfl⟩
theorem rf_10_31 {x : Nat} : rz_fit (rz_ty 10 31) (.ref x) = True := eq_true ⟨rfl, rfl⟩
theorem rf_10_32 {x : Nat} : rz_fit (rz_ty 10 32) (.ref x) = True := eq_true ⟨rfl, rfl⟩
theorem rf_10_33 {x : Nat} : rz_fit (rz_ty 10 33) (.ref x) = True := eq_true ⟨rfl, rfl⟩
theorem rf_10_34 {x : Nat} : rz_fit (rz_ty 10 34) (.ref x) = True := eq_true ⟨rfl, rfl⟩
theorem rf_10_35 {x : Nat} : rz_fit (rz_ty 10 35) (.ref x) = True := eq_true ⟨rfl, rfl⟩
theorem rf_10_36 {x : Nat} : rz_fit (rz_ty 10 36) (.ref x) = True := eq_true ⟨rfl, rfl⟩
theorem rf_10_37 {x : Nat} : rz_fit (rz_ty 10 37) (.ref x) = True := eq_true ⟨rfl, rfl⟩
theorem rf_10_38 {x : Int32} : rz_fit (rz_ty 10 38) (.int x) = True := eq_true ⟨rfl, rfl⟩
theorem rf_10_39 {x : Nat} : rz_fit (rz_ty 10 39) (.ref x) = True := eq_true ⟨rfl, rfl⟩
theorem rf_10_40 {x : Nat} : rz_fit (rz_ty 10 40) (.ref x) = True := eq_true ⟨rfl, rfl⟩
theorem rf_10_41 {x : Int32} : rz_fit (rz_ty 10 41) (.int x) = True := eq_true ⟨rfl, rfl⟩
theorem rf_10_42 {x : Int32} : rz_fit (rz_ty 10 42) (.int x) = True := eq_true ⟨rfl, rfl⟩
theorem rf_10_43 {x : Nat} : rz_fit (rz_ty 10 43) (.ref x) = True := eq_true ⟨rfl, rfl⟩
theorem rf_10_44 {x : Nat} : rz_fit (rz_ty 10 44) (.ref x) = True := eq_true ⟨rfl, rfl⟩
theorem rf_10_45 {x : Nat} : rz_fit (rz_ty 10 45) (.ref x) = True := eq_true ⟨rfl, rfl⟩
theorem rf_10_46 {x : Int32} : rz_fit (rz_ty 10 46) (.int x) = True := eq_true ⟨rfl, rfl⟩
theorem rf_10_47 {x : Int32} : rz_fit (rz_ty 10 47) (.int x) = True := eq_true ⟨rfl, rfl⟩
theorem rf_10_48 {x : Nat} : rz_fit (rz_ty 10 48) (.ref x) = True := eq_true ⟨rfl, rfl⟩
theorem rf_10_49 {x : Nat} : rz_fit (rz_ty 10 49) (.ref x) = True := eq_true ⟨rfl, rfl⟩
theorem rf_10_50 {x : Int32} : rz_fit (rz_ty 10 50) (.int x) = True := eq_true ⟨rfl, rfl⟩
theorem rf_10_51 {x : Int32} : rz_fit (rz_ty 10 51) (.int x) = True := eq_true ⟨rfl, rfl⟩
theorem rf_10_52 {x : Nat} : rz_fit (rz_ty 10 52) (.ref x) = True := eq_true ⟨rfl, rfl⟩
theorem rf_10_53 {x : Nat} : rz_fit (rz_ty 10 53) (.ref x) = True := eq_true ⟨rfl, rfl⟩
theorem rf_10_54 {x : Nat} : rz_fit (rz_ty 10 54) (.ref x) = True := eq_true ⟨rfl, rfl⟩
theorem rf_10_55 {x : Nat} : rz_fit (rz_ty 10 55) (.ref x) = True := eq_true ⟨rfl, rfl⟩
theorem rf_10_56 {x : Nat} : rz_fit (rz_ty 10 56) (.ref x) = True := eq_true ⟨rfl, rfl⟩
theorem rf_10_57 {x : Nat} : rz_fit (rz_ty 10 57) (.ref x) = True := eq_true ⟨rfl, rfl⟩
theorem rf_10_58 {x : Int32} : rz_fit (rz_ty 10 58) (.int x) = True := eq_true ⟨rfl, rfl⟩
theorem rf_10_59 {x : Nat} : rz_fit (rz_ty 10 59) (.ref x) = True := eq_true ⟨rfl, rfl⟩
theorem rf_10_60 {x : Nat} : rz_fit (rz_ty 10 60) (.ref x) = True := eq_true ⟨rfl, rfl⟩
theorem rf_10_61 {x : Nat} : rz_fit (rz_ty 10 61) (.ref x) = True := eq_true ⟨rfl, rfl⟩
theorem rf_10_62 {x : Nat} : rz_fit (rz_ty 10 62) (.ref x) = True := eq_true ⟨rfl, rfl⟩
theorem rf_10_63 {x : Nat} : rz_fit (rz_ty 10 63) (.ref x) = True := eq_true ⟨rfl, rfl⟩
theorem rf_10_64 {x : Int32} : rz_fit (rz_ty 10 64) (.int x) = True := eq_true ⟨rfl, rfl⟩
theorem rf_10_65 {x : Nat} : rz_fit (rz_ty 10 65) (.ref x) = True := eq_true ⟨rfl, rfl⟩
theorem rf_10_66 {x : Nat} : rz_fit (rz_ty 10 66) (.ref x) = True := eq_true ⟨rfl, rfl⟩
theorem rf_10_67 {x : Int32} : rz_fit (rz_ty 10 67) (.int x) = True := eq_true ⟨rfl, rfl⟩
theorem rf_10_68 : rz_fit (rz_ty 10 68) (.int (nI 0)) = True := eq_true ⟨rfl, rfl⟩
theorem rf_10_68t : rz_fit (rz_ty 10 68) (.int (nI 1)) = True := eq_true ⟨rfl, rfl⟩
theorem rf_10_69 {x : Int32} : rz_fit (rz_ty 10 69) (.int x) = True := eq_true ⟨rfl, rfl⟩
theorem rf_10_70 {x : Nat} : rz_fit (rz_ty 10 70) (.ref x) = True := eq_true ⟨rfl, rfl⟩
theorem rf_10_71 {x : Nat} : rz_fit (rz_ty 10 71) (.ref x) = True := eq_true ⟨rfl, rfl⟩
theorem rf_10_72 {x : Nat} : rz_fit (rz_ty 10 72) (.ref x) = True := eq_true ⟨rfl, rfl⟩
theorem rf_10_73 {x : Nat} : rz_fit (rz_ty 10 73) (.ref x) = True := eq_true ⟨rfl, rfl⟩
theorem rf_10_74 {x : Nat} : rz_fit (rz_ty 10 74) (.ref x) = True := eq_true ⟨rfl, rfl⟩
theorem rf_10_75 {x : Nat} : rz_fit (rz_ty 10 75) (.ref x) = True := eq_true ⟨rfl, rfl⟩
theorem rf_10_76 {x : Int32} : rz_fit (rz_ty 10 76) (.int x) = True := eq_true ⟨rfl, rfl⟩
theorem rf_10_77 {x : Nat} : rz_fit (rz_ty 10 77) (.ref x) = True := eq_true ⟨rfl, rfl⟩
theorem rf_10_78 {x : Nat} : rz_fit (rz_ty 10 78) (.ref x) = True := eq_true ⟨rfl, rfl⟩
theorem rf_10_79 {x : Nat} : rz_fit (rz_ty 10 79) (.ref x) = True := eq_true ⟨rfl, rfl⟩
theorem rf_10_80 {x : Nat} : rz_fit (rz_ty 10 80) (.ref x) = True := eq_true ⟨rfl, rfl⟩
theorem rf_10_81 {x : Nat} : rz_fit (rz_ty 10 81) (.ref x) = True := eq_true ⟨rfl, rfl⟩
section RLD
variable {w : rz_w} {d mc ms : Nat} {M : rz_M} {kc kn pc : Nat} {Lc : rz_L} {S : List Value} {G : rz_G} {Q : Option Value → rz_G → Prop}
theorem rz_ldc2 {idx : Nat} {v : Int64} (hd : decode M.1 pc = .ok (.ldc2_w idx, 3)) (hw : Cond.constantLong (rz_on M.2.2.2.1) idx v ∈ rz_tb) (k : rz_T w d mc ms M kc kn (pc + 3) Lc (.long v :: S) G Q) : rz_T w d mc ms M kc kn pc Lc S G Q := fun p l e s m args below meth c H locs ls hc hS hR hl => lv_ldc2 hc.1 hc.2.1 hc.2.2.2.2.2.1 (hc.2.2.2.2.2.2.2.1 _ hw) hd (k p l e s m args below meth c H locs ls hc hS hR hl)
theorem rz_ldc {idx : Nat} {v : Int32} (hd : decode M.1 pc = .ok (.ldc idx, 2)) (hw : Cond.constant (rz_on M.2.2.2.1) idx v ∈ rz_tb) (k : rz_T w d mc ms M kc kn (pc + 2) Lc (.int v :: S) G Q) : rz_T w d mc ms M kc kn pc Lc S G Q := fun p l e s m args below meth c H locs ls hc hS hR hl => lv_ldc hc.1 hc.2.1 hc.2.2.2.2.2.1 (hc.2.2.2.2.2.2.2.1 _ hw) hd (k p l e s m args below meth c H locs ls hc hS hR hl)
end RLD
section RC0
variable {w : rz_w} {d mc ms : Nat} {M : rz_M} {kc kn pc : Nat} {Lc : rz_L} {S : List Value} {G : rz_G} {Q Q' : Option Value → rz_G → Prop} {y : MethodName} {My : rz_M}
theorem rz_cV {idx np : Nat} (hL : rz_lV M.2.2.2.1 idx y My np) {As : List Value} {b ci : Nat} {fs : List Value} (hd : decode M.1 pc = .ok (.invokevirtual idx, 3)) (hn : As.length = np) (hG : G b = some (.inr (ci, fs))) (hcl : (rz_cl[ci]?).map (·.1) = some y.cls) (hst : (S.map fun v => v.category).sum ≤ 8) (hk : kc ≤ mc) (hk2 : kn ≤ ms)
    (h : rz_C w d 0 0 y My (.ref b :: As) G Q') (k : ∀ r G', Q' r G' → rz_T w (d + 1) mc ms M kc kn (pc + 3) Lc (r.toList ++ S) G' Q) : rz_T w (d + 1) mc ms M kc kn pc Lc (As.reverse ++ .ref b :: S) G Q := rz_callV hL hd hn hG hcl hst hk hk2 h k
theorem rz_cS {idx np : Nat} (hL : rz_lS M.2.2.2.1 idx y My np) {As : List Value} (hd : decode M.1 pc = .ok (.invokestatic idx, 3)) (hn : As.length = np) (hst : (S.map fun v => v.category).sum ≤ 8) (hk : kc ≤ mc) (hk2 : kn ≤ ms)
    (h : rz_C w d 0 0 y My As G Q') (k : ∀ r G', Q' r G' → rz_T w (d + 1) mc ms M kc kn (pc + 3) Lc (r.toList ++ S) G' Q) : rz_T w (d + 1) mc ms M kc kn pc Lc (As.reverse ++ S) G Q := rz_callS hL hd hn hst hk hk2 h k
theorem rz_cN {idx np : Nat} (hL : rz_nS M.2.2.2.1 idx y My np) {As : List Value} (hd : decode M.1 pc = .ok (.invokestatic idx, 3)) (hn : As.length = np) (hst : (S.map fun v => v.category).sum ≤ 8) (hk : kc ≤ mc) (hk2 : kn ≤ ms)
    (h : rz_C w d 0 0 y My As G Q') (k : ∀ r G', Q' r G' → rz_T w (d + 1) mc ms M kc kn (pc + 3) Lc (r.toList ++ S) G' Q) : rz_T w (d + 1) mc ms M kc kn pc Lc (As.reverse ++ S) G Q := rz_callSN hL hd hn hst hk hk2 h k
/-- Math.min, Math.max -/
theorem rz_mmin {idx : Nat} (hl : Cond.methodLink (rz_on M.2.2.2.1) idx Lib.Math.min.name ∈ rz_tb) (h1 : Cond.static Lib.Math.min.name ∈ rz_tb) (h2 : Cond.initialized "java/lang/Math" ∈ rz_tb) (h3 : Cond.code Lib.Math.min.name Lib.Math.min.code 2 (some .int) ∈ rz_tb) (hst : (S.map fun v => v.category).sum ≤ 8) (hk : kc ≤ mc) (hk2 : kn ≤ ms) {x y : Int32} (hd : decode M.1 pc = .ok (.invokestatic idx, 3))
    (k : rz_T w (d + 1) mc ms M kc kn (pc + 3) Lc (.int (if y < x then y else x) :: S) G Q) : rz_T w (d + 1) mc ms M kc kn pc Lc (.int y :: .int x :: S) G Q := fun p l e s m args below meth c H locs ls hc hS hR hll =>
  va_mmin hc.1 hc.2.1 (hc.2.2.1.trans hll.1.symm) hc.2.2.2.2.2.1 (hc.2.2.2.2.2.2.2.1 _ hl) (hc.2.2.2.2.2.2.2.1 _ h1) (hc.2.2.2.2.2.2.2.1 _ h2) (hc.2.2.2.2.2.2.2.1 _ h3) (by show 1 ≤ d + 1; omega) (by show _ + 13 ≤ 40 * (d + 1); omega) hk hk2 hd (k p l e s m args below meth c H locs ls hc hS hR hll)
theorem rz_mmax {idx : Nat} (hl : Cond.methodLink (rz_on M.2.2.2.1) idx Lib.Math.max.name ∈ rz_tb) (h1 : Cond.static Lib.Math.max.name ∈ rz_tb) (h2 : Cond.initialized "java/lang/Math" ∈ rz_tb) (h3 : Cond.code Lib.Math.max.name Lib.Math.max.code 2 (some .int) ∈ rz_tb) (hst : (S.map fun v => v.category).sum ≤ 8) (hk : kc ≤ mc) (hk2 : kn ≤ ms) {x y : Int32} (hd : decode M.1 pc = .ok (.invokestatic idx, 3))
    (k : rz_T w (d + 1) mc ms M kc kn (pc + 3) Lc (.int (if x < y then y else x) :: S) G Q) : rz_T w (d + 1) mc ms M kc kn pc Lc (.int y :: .int x :: S) G Q := fun p l e s m args below meth c H locs ls hc hS hR hll =>
  va_mmax hc.1 hc.2.1 (hc.2.2.1.trans hll.1.symm) hc.2.2.2.2.2.1 (hc.2.2.2.2.2.2.2.1 _ hl) (hc.2.2.2.2.2.2.2.1 _ h1) (hc.2.2.2.2.2.2.2.1 _ h2) (hc.2.2.2.2.2.2.2.1 _ h3) (by show 1 ≤ d + 1; omega) (by show _ + 13 ≤ 40 * (d + 1); omega) hk hk2 hd (k p l e s m args below meth c H locs ls hc hS hR hll)
end RC0
theorem rw_tr (p o : Nat) : rz_tr p (o : Int) = p + o := by simp only [rz_tr]; omega
