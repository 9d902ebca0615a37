/-! numbers, branches, switches -/
theorem i32_div {x z : Int} (h0 : 0 ≤ x) (h1 : x < 2147483648) (h2 : 0 < z) (h3 : z < 2147483648) : Int32.ofInt x / Int32.ofInt z = Int32.ofInt (x / z) := by
  obtain ⟨a, rfl⟩ := Int.eq_ofNat_of_zero_le h0
  obtain ⟨b, rfl⟩ := Int.eq_ofNat_of_zero_le (Int.le_of_lt h2)
  have e : ∀ n : Nat, Int32.ofInt (n : Int) = nI n := fun n => by unfold nI; exact Int32.ofInt_eq_ofNat
  rw [e, e, ← Int.natCast_ediv, e]
  exact pk_div (by omega) (by omega) (by omega)
theorem i32_rem {x z : Int} (h0 : 0 ≤ x) (h1 : x < 2147483648) (h2 : 0 < z) (h3 : z < 2147483648) : Int32.ofInt x - Int32.ofInt x / Int32.ofInt z * Int32.ofInt z = Int32.ofInt (x % z) := by
  obtain ⟨a, rfl⟩ := Int.eq_ofNat_of_zero_le h0
  obtain ⟨b, rfl⟩ := Int.eq_ofNat_of_zero_le (Int.le_of_lt h2)
  have e : ∀ n : Nat, Int32.ofInt (n : Int) = nI n := fun n => by unfold nI; exact Int32.ofInt_eq_ofNat
  rw [e, e, ← Int.natCast_emod, e]
  exact pk_rem (by omega) (by omega) (by omega)
theorem i32_ne0 {z : Int} (h2 : 0 < z) (h3 : z < 2147483648) : ¬ Int32.ofInt z = 0 := by
  rw [i32_0, i32_eq (Or.inr ⟨⟨by omega, h3⟩, by decide, by decide⟩)]
  omega
section
variable {p : Program} {l : Launch} {e : Env} {R : Room} {s : State} {m : MethodId} {args : Array Value} {below : List Frame} {meth : Method} {c : Code} {Qf : State → Prop} {base : Nat} {D : va_G} {y : Nat → ClassId} {H0 : Heap} {ph : Bool} {cc : ByteArray} {pc : Nat} {ls st : List JV} {μ : JM} {cells slots : Nat}
/-- the stack's top changes, no more -/
theorem o_top {st1 st2 : List JV} {len : Nat} (hok : (∀ u ∈ st1, jokv μ u) → ∀ u ∈ st2, jokv μ u) (row : ∀ (ad : Nat → Nat) (H : Heap) (locs : List Loc) (lsR : Array Slot), W p l e R s m args below meth c H locs cells slots Qf (F0 m (pc + len) lsR (st2.map (jval ad))) → W p l e R s m args below meth c H locs cells slots Qf (F0 m pc lsR (st1.map (jval ad))))
    (k : WJ p l e R s m args below meth c Qf base D y H0 ph (pc + len) ls st2 μ cells slots) : WJ p l e R s m args below meth c Qf base D y H0 ph pc ls st1 μ cells slots :=
  fun ad H locs lsR hR hS hJ hO => row ad H locs lsR (k ad H locs lsR hR hS hJ (hok hO))
theorem ok1 {t : Nat} {x : Int} {v : JV} (h : t < 11) : (∀ u ∈ v :: st, jokv μ u) → ∀ u ∈ (t, x) :: st, jokv μ u := fun hO => ok_cons (jokv_of h) (ok_tail hO)
theorem ok2 {t : Nat} {x : Int} {v w : JV} (h : t < 11) : (∀ u ∈ v :: w :: st, jokv μ u) → ∀ u ∈ (t, x) :: st, jokv μ u := fun hO => ok_cons (jokv_of h) (ok_tail (ok_tail hO))
theorem o_dup (hx : p.tables.exec = Jvm.exec) (hb : c.code = cc) {v : JV} (hd : decode cc pc = .ok (.dup, 1)) (hv : v.1 ≠ 3) (k : WJ p l e R s m args below meth c Qf base D y H0 ph (pc + 1) ls (v :: v :: st) μ cells slots) : WJ p l e R s m args below meth c Qf base D y H0 ph pc ls (v :: st) μ cells slots :=
  o_top (fun hO => ok_cons (hO v List.mem_cons_self) hO) (fun _ _ _ _ => lv_dup hx hb hd (jval_cat hv)) k
theorem o_dup2 (hx : p.tables.exec = Jvm.exec) (hb : c.code = cc) {v w : JV} (hd : decode cc pc = .ok (.dup2, 1)) (hv : v.1 ≠ 3) (hw : w.1 ≠ 3) (k : WJ p l e R s m args below meth c Qf base D y H0 ph (pc + 1) ls (v :: w :: v :: w :: st) μ cells slots) : WJ p l e R s m args below meth c Qf base D y H0 ph pc ls (v :: w :: st) μ cells slots :=
  o_top (fun hO => ok_cons (hO v List.mem_cons_self) (ok_cons (hO w (List.mem_cons_of_mem _ List.mem_cons_self)) hO)) (fun _ _ _ _ => lv_dup2_11 hx hb hd (jval_cat hv) (jval_cat hw)) k
theorem o_pop (hx : p.tables.exec = Jvm.exec) (hb : c.code = cc) {v : JV} (hd : decode cc pc = .ok (.pop, 1)) (hv : v.1 ≠ 3) (k : WJ p l e R s m args below meth c Qf base D y H0 ph (pc + 1) ls st μ cells slots) : WJ p l e R s m args below meth c Qf base D y H0 ph pc ls (v :: st) μ cells slots :=
  o_top ok_tail (fun _ _ _ _ => lv_pop hx hb hd (jval_cat hv)) k
theorem o_iadd (hx : p.tables.exec = Jvm.exec) (hb : c.code = cc) {x z : Int} (hd : decode cc pc = .ok (.iadd, 1)) (k : WJ p l e R s m args below meth c Qf base D y H0 ph (pc + 1) ls ((0, x + z) :: st) μ cells slots) : WJ p l e R s m args below meth c Qf base D y H0 ph pc ls ((0, z) :: (0, x) :: st) μ cells slots :=
  o_top (ok2 (Nat.le_of_ble_eq_true rfl)) (fun _ _ _ _ hk => lv_iadd hx hb hd (by rw [i32_add x z]; exact hk)) k
theorem o_isub (hx : p.tables.exec = Jvm.exec) (hb : c.code = cc) {x z : Int} (hd : decode cc pc = .ok (.isub, 1)) (k : WJ p l e R s m args below meth c Qf base D y H0 ph (pc + 1) ls ((0, x - z) :: st) μ cells slots) : WJ p l e R s m args below meth c Qf base D y H0 ph pc ls ((0, z) :: (0, x) :: st) μ cells slots :=
  o_top (ok2 (Nat.le_of_ble_eq_true rfl)) (fun _ _ _ _ hk => lv_isub hx hb hd (by rw [i32_sub x z]; exact hk)) k
theorem o_imul (hx : p.tables.exec = Jvm.exec) (hb : c.code = cc) {x z : Int} (hd : decode cc pc = .ok (.imul, 1)) (k : WJ p l e R s m args below meth c Qf base D y H0 ph (pc + 1) ls ((0, x * z) :: st) μ cells slots) : WJ p l e R s m args below meth c Qf base D y H0 ph pc ls ((0, z) :: (0, x) :: st) μ cells slots :=
  o_top (ok2 (Nat.le_of_ble_eq_true rfl)) (fun _ _ _ _ hk => lv_imul hx hb hd (by rw [i32_mul x z]; exact hk)) k
theorem o_iand (hx : p.tables.exec = Jvm.exec) (hb : c.code = cc) {x z : Int} (hd : decode cc pc = .ok (.iand, 1)) (k : WJ p l e R s m args below meth c Qf base D y H0 ph (pc + 1) ls ((0, jand x z) :: st) μ cells slots) : WJ p l e R s m args below meth c Qf base D y H0 ph pc ls ((0, z) :: (0, x) :: st) μ cells slots :=
  o_top (ok2 (Nat.le_of_ble_eq_true rfl)) (fun _ _ _ _ hk => lv_iand hx hb hd (by rw [← i32_of (Int32.ofInt x &&& Int32.ofInt z)]; exact hk)) k
theorem o_ior (hx : p.tables.exec = Jvm.exec) (hb : c.code = cc) {x z : Int} (hd : decode cc pc = .ok (.ior, 1)) (k : WJ p l e R s m args below meth c Qf base D y H0 ph (pc + 1) ls ((0, jor x z) :: st) μ cells slots) : WJ p l e R s m args below meth c Qf base D y H0 ph pc ls ((0, z) :: (0, x) :: st) μ cells slots :=
  o_top (ok2 (Nat.le_of_ble_eq_true rfl)) (fun _ _ _ _ hk => lv_ior hx hb hd (by rw [← i32_of (Int32.ofInt x ||| Int32.ofInt z)]; exact hk)) k
theorem o_ixor (hx : p.tables.exec = Jvm.exec) (hb : c.code = cc) {x z : Int} (hd : decode cc pc = .ok (.ixor, 1)) (k : WJ p l e R s m args below meth c Qf base D y H0 ph (pc + 1) ls ((0, jxor x z) :: st) μ cells slots) : WJ p l e R s m args below meth c Qf base D y H0 ph pc ls ((0, z) :: (0, x) :: st) μ cells slots :=
  o_top (ok2 (Nat.le_of_ble_eq_true rfl)) (fun _ _ _ _ hk => lv_ixor hx hb hd (by rw [← i32_of (Int32.ofInt x ^^^ Int32.ofInt z)]; exact hk)) k
theorem o_ishl (hx : p.tables.exec = Jvm.exec) (hb : c.code = cc) {x z : Int} (hd : decode cc pc = .ok (.ishl, 1)) (k : WJ p l e R s m args below meth c Qf base D y H0 ph (pc + 1) ls ((0, jshl x z) :: st) μ cells slots) : WJ p l e R s m args below meth c Qf base D y H0 ph pc ls ((0, z) :: (0, x) :: st) μ cells slots :=
  o_top (ok2 (Nat.le_of_ble_eq_true rfl)) (fun _ _ _ _ hk => lv_ishl hx hb hd (by rw [← i32_of (Int32.ofInt x <<< (Int32.ofInt z &&& 31))]; exact hk)) k
theorem o_ishr (hx : p.tables.exec = Jvm.exec) (hb : c.code = cc) {x z : Int} (hd : decode cc pc = .ok (.ishr, 1)) (k : WJ p l e R s m args below meth c Qf base D y H0 ph (pc + 1) ls ((0, jshr x z) :: st) μ cells slots) : WJ p l e R s m args below meth c Qf base D y H0 ph pc ls ((0, z) :: (0, x) :: st) μ cells slots :=
  o_top (ok2 (Nat.le_of_ble_eq_true rfl)) (fun _ _ _ _ hk => lv_ishr hx hb hd (by rw [← i32_of (Int32.ofInt x >>> (Int32.ofInt z &&& 31))]; exact hk)) k
theorem o_iushr (hx : p.tables.exec = Jvm.exec) (hb : c.code = cc) {x z : Int} (hd : decode cc pc = .ok (.iushr, 1)) (k : WJ p l e R s m args below meth c Qf base D y H0 ph (pc + 1) ls ((0, jushr x z) :: st) μ cells slots) : WJ p l e R s m args below meth c Qf base D y H0 ph pc ls ((0, z) :: (0, x) :: st) μ cells slots :=
  o_top (ok2 (Nat.le_of_ble_eq_true rfl)) (fun _ _ _ _ hk => lv_iushr hx hb hd (i32_of _).symm hk) k
theorem o_idiv (hx : p.tables.exec = Jvm.exec) (hb : c.code = cc) {x z : Int} (hd : decode cc pc = .ok (.idiv, 1)) (h0 : 0 ≤ x) (h1 : x < 2147483648) (h2 : 0 < z) (h3 : z < 2147483648) (k : WJ p l e R s m args below meth c Qf base D y H0 ph (pc + 1) ls ((0, x / z) :: st) μ cells slots) : WJ p l e R s m args below meth c Qf base D y H0 ph pc ls ((0, z) :: (0, x) :: st) μ cells slots :=
  o_top (ok2 (Nat.le_of_ble_eq_true rfl)) (fun _ _ _ _ hk => lv_idiv hx hb hd (i32_ne0 h2 h3) (by rw [i32_div h0 h1 h2 h3]; exact hk)) k
theorem o_irem (hx : p.tables.exec = Jvm.exec) (hb : c.code = cc) {x z : Int} (hd : decode cc pc = .ok (.irem, 1)) (h0 : 0 ≤ x) (h1 : x < 2147483648) (h2 : 0 < z) (h3 : z < 2147483648) (k : WJ p l e R s m args below meth c Qf base D y H0 ph (pc + 1) ls ((0, x % z) :: st) μ cells slots) : WJ p l e R s m args below meth c Qf base D y H0 ph pc ls ((0, z) :: (0, x) :: st) μ cells slots :=
  o_top (ok2 (Nat.le_of_ble_eq_true rfl)) (fun _ _ _ _ hk => lv_irem hx hb hd (i32_ne0 h2 h3) (by rw [i32_rem h0 h1 h2 h3]; exact hk)) k
theorem o_ineg (hx : p.tables.exec = Jvm.exec) (hb : c.code = cc) {x : Int} (hd : decode cc pc = .ok (.ineg, 1)) (k : WJ p l e R s m args below meth c Qf base D y H0 ph (pc + 1) ls ((0, -x) :: st) μ cells slots) : WJ p l e R s m args below meth c Qf base D y H0 ph pc ls ((0, x) :: st) μ cells slots :=
  o_top (ok1 (Nat.le_of_ble_eq_true rfl)) (fun _ _ _ _ hk => lv_ineg hx hb hd (by rw [i32_neg]; exact hk)) k
theorem o_i2b (hx : p.tables.exec = Jvm.exec) (hb : c.code = cc) {x : Int} (hd : decode cc pc = .ok (.i2b, 1)) (k : WJ p l e R s m args below meth c Qf base D y H0 ph (pc + 1) ls ((0, ji2b x) :: st) μ cells slots) : WJ p l e R s m args below meth c Qf base D y H0 ph pc ls ((0, x) :: st) μ cells slots :=
  o_top (ok1 (Nat.le_of_ble_eq_true rfl)) (fun _ _ _ _ hk => lv_i2b hx hb hd (i32_of _).symm hk) k
theorem i64_of (z : Int64) : Int64.ofInt z.toInt = z := Int64.ofInt_toInt z
theorem o_i2l (hx : p.tables.exec = Jvm.exec) (hb : c.code = cc) {x : Int} (hd : decode cc pc = .ok (.i2l, 1)) (h : inR x) (k : WJ p l e R s m args below meth c Qf base D y H0 ph (pc + 1) ls ((3, x) :: st) μ cells slots) : WJ p l e R s m args below meth c Qf base D y H0 ph pc ls ((0, x) :: st) μ cells slots :=
  o_top (ok1 (Nat.le_of_ble_eq_true rfl)) (fun _ _ _ _ hk => lv_i2l hx hb hd (by rw [← i64_of ((Int32.ofInt x).toInt64), Int32.toInt_toInt64, i32_to h]) hk) k
theorem o_lshl (hx : p.tables.exec = Jvm.exec) (hb : c.code = cc) {x z : Int} (hd : decode cc pc = .ok (.lshl, 1)) (k : WJ p l e R s m args below meth c Qf base D y H0 ph (pc + 1) ls ((3, jlshl x z) :: st) μ cells slots) : WJ p l e R s m args below meth c Qf base D y H0 ph pc ls ((0, z) :: (3, x) :: st) μ cells slots :=
  o_top (ok2 (Nat.le_of_ble_eq_true rfl)) (fun _ _ _ _ hk => lv_lshl hx hb hd (i64_of _).symm hk) k
theorem o_lor (hx : p.tables.exec = Jvm.exec) (hb : c.code = cc) {x z : Int} (hd : decode cc pc = .ok (.lor, 1)) (k : WJ p l e R s m args below meth c Qf base D y H0 ph (pc + 1) ls ((3, jlor x z) :: st) μ cells slots) : WJ p l e R s m args below meth c Qf base D y H0 ph pc ls ((3, z) :: (3, x) :: st) μ cells slots :=
  o_top (ok2 (Nat.le_of_ble_eq_true rfl)) (fun _ _ _ _ hk => lv_lor hx hb hd (by rw [← i64_of (Int64.ofInt x ||| Int64.ofInt z)]; exact hk)) k
theorem o_lcmp (hx : p.tables.exec = Jvm.exec) (hb : c.code = cc) {x z : Int} (hd : decode cc pc = .ok (.lcmp, 1)) (k : WJ p l e R s m args below meth c Qf base D y H0 ph (pc + 1) ls ((0, jlcmp x z) :: st) μ cells slots) : WJ p l e R s m args below meth c Qf base D y H0 ph pc ls ((3, z) :: (3, x) :: st) μ cells slots :=
  o_top (ok2 (Nat.le_of_ble_eq_true rfl)) (fun _ _ _ _ hk => W.lcmp hx hb hd (by rw [← i32_of (lg_cmp (Int64.ofInt x) (Int64.ofInt z))]; exact hk)) k
theorem o_i2f (hx : p.tables.exec = Jvm.exec) (hb : c.code = cc) {x : Int} (hd : decode cc pc = .ok (.i2f, 1)) (k : WJ p l e R s m args below meth c Qf base D y H0 ph (pc + 1) ls ((2, ji2f x) :: st) μ cells slots) : WJ p l e R s m args below meth c Qf base D y H0 ph pc ls ((0, x) :: st) μ cells slots :=
  o_top (ok1 (Nat.le_of_ble_eq_true rfl)) (fun _ _ _ _ hk => lv_i2f hx hb hd (by rw [← jf_jb (FP.i2f (Int32.ofInt x))]; exact hk)) k
theorem o_f2i (hx : p.tables.exec = Jvm.exec) (hb : c.code = cc) {x : Int} (hd : decode cc pc = .ok (.f2i, 1)) (k : WJ p l e R s m args below meth c Qf base D y H0 ph (pc + 1) ls ((0, jf2i x) :: st) μ cells slots) : WJ p l e R s m args below meth c Qf base D y H0 ph pc ls ((2, x) :: st) μ cells slots :=
  o_top (ok1 (Nat.le_of_ble_eq_true rfl)) (fun _ _ _ _ hk => lv_f2i hx hb hd (by rw [← i32_of (FP.f2i (jf x))]; exact hk)) k
theorem o_fcmp (hx : p.tables.exec = Jvm.exec) (hb : c.code = cc) {x z : Int} {op : CmpOp} (hd : decode cc pc = .ok (.fcmp op, 1)) (k : WJ p l e R s m args below meth c Qf base D y H0 ph (pc + 1) ls ((0, jfcmp op x z) :: st) μ cells slots) : WJ p l e R s m args below meth c Qf base D y H0 ph pc ls ((2, z) :: (2, x) :: st) μ cells slots :=
  o_top (ok2 (Nat.le_of_ble_eq_true rfl)) (fun _ _ _ _ hk => lv_fcmp hx hb hd (by rw [← i32_of (Op.cmpValue (FP.fcmp (jf x) (jf z)) op)]; exact hk)) k
theorem o_fadd (hx : p.tables.exec = Jvm.exec) (hb : c.code = cc) {x z : Int} (hd : decode cc pc = .ok (.fadd, 1)) (hn : jnn (FP.fadd (jf x) (jf z))) (k : WJ p l e R s m args below meth c Qf base D y H0 ph (pc + 1) ls ((2, jfadd x z) :: st) μ cells slots) : WJ p l e R s m args below meth c Qf base D y H0 ph pc ls ((2, z) :: (2, x) :: st) μ cells slots :=
  o_top (ok2 (Nat.le_of_ble_eq_true rfl)) (fun _ _ _ _ hk => lv_fadd hx hb hd hn (by rw [← jf_jb (FP.fadd (jf x) (jf z))]; exact hk)) k
theorem o_fsub (hx : p.tables.exec = Jvm.exec) (hb : c.code = cc) {x z : Int} (hd : decode cc pc = .ok (.fsub, 1)) (hn : jnn (FP.fsub (jf x) (jf z))) (k : WJ p l e R s m args below meth c Qf base D y H0 ph (pc + 1) ls ((2, jfsub x z) :: st) μ cells slots) : WJ p l e R s m args below meth c Qf base D y H0 ph pc ls ((2, z) :: (2, x) :: st) μ cells slots :=
  o_top (ok2 (Nat.le_of_ble_eq_true rfl)) (fun _ _ _ _ hk => lv_fsub hx hb hd hn (by rw [← jf_jb (FP.fsub (jf x) (jf z))]; exact hk)) k
theorem o_fmul (hx : p.tables.exec = Jvm.exec) (hb : c.code = cc) {x z : Int} (hd : decode cc pc = .ok (.fmul, 1)) (hn : jnn (FP.fmul (jf x) (jf z))) (k : WJ p l e R s m args below meth c Qf base D y H0 ph (pc + 1) ls ((2, jfmul x z) :: st) μ cells slots) : WJ p l e R s m args below meth c Qf base D y H0 ph pc ls ((2, z) :: (2, x) :: st) μ cells slots :=
  o_top (ok2 (Nat.le_of_ble_eq_true rfl)) (fun _ _ _ _ hk => lv_fmul hx hb hd hn (by rw [← jf_jb (FP.fmul (jf x) (jf z))]; exact hk)) k
theorem o_fdiv (hx : p.tables.exec = Jvm.exec) (hb : c.code = cc) {x z : Int} (hd : decode cc pc = .ok (.fdiv, 1)) (hn : jnn (FP.fdiv (jf x) (jf z))) (k : WJ p l e R s m args below meth c Qf base D y H0 ph (pc + 1) ls ((2, jfdiv x z) :: st) μ cells slots) : WJ p l e R s m args below meth c Qf base D y H0 ph pc ls ((2, z) :: (2, x) :: st) μ cells slots :=
  o_top (ok2 (Nat.le_of_ble_eq_true rfl)) (fun _ _ _ _ hk => lv_fdiv hx hb hd hn (by rw [← jf_jb (FP.fdiv (jf x) (jf z))]; exact hk)) k
/-- branches -/
theorem o_br {st1 st2 : List JV} {C : Prop} {tgt : Nat} (hok : (∀ u ∈ st1, jokv μ u) → ∀ u ∈ st2, jokv μ u) (row : ∀ (ad : Nat → Nat) (H : Heap) (locs : List Loc) (lsR : Array Slot), (C → W p l e R s m args below meth c H locs cells slots Qf (F0 m tgt lsR (st2.map (jval ad)))) → (¬ C → W p l e R s m args below meth c H locs cells slots Qf (F0 m (pc + 3) lsR (st2.map (jval ad)))) → W p l e R s m args below meth c H locs cells slots Qf (F0 m pc lsR (st1.map (jval ad))))
    (kt : C → WJ p l e R s m args below meth c Qf base D y H0 ph tgt ls st2 μ cells slots) (kf : ¬ C → WJ p l e R s m args below meth c Qf base D y H0 ph (pc + 3) ls st2 μ cells slots) : WJ p l e R s m args below meth c Qf base D y H0 ph pc ls st1 μ cells slots :=
  fun ad H locs lsR hR hS hJ hO => row ad H locs lsR (fun c => kt c ad H locs lsR hR hS hJ (hok hO)) (fun c => kf c ad H locs lsR hR hS hJ (hok hO))
theorem o_goto (hx : p.tables.exec = Jvm.exec) (hb : c.code = cc) {tgt : Nat} {off : Int} (hd : decode cc pc = .ok (.goto off, 3)) (ht : (pc : Int) + off = (tgt : Int)) (k : WJ p l e R s m args below meth c Qf base D y H0 ph tgt ls st μ cells slots) : WJ p l e R s m args below meth c Qf base D y H0 ph pc ls st μ cells slots :=
  fun ad H locs lsR hR hS hJ hO => lv_goto hx hb hd ht (k ad H locs lsR hR hS hJ hO)
theorem o_icmp (hx : p.tables.exec = Jvm.exec) (hb : c.code = cc) {q : Jvm.ClassFile.Cond} {x z : Int} {tgt : Nat} {off : Int} (hd : decode cc pc = .ok (.if_icmp q off, 3)) (ht : (pc : Int) + off = (tgt : Int)) (hg : jcg q x z)
    (kt : jcmp q x z → WJ p l e R s m args below meth c Qf base D y H0 ph tgt ls st μ cells slots) (kf : ¬ jcmp q x z → WJ p l e R s m args below meth c Qf base D y H0 ph (pc + 3) ls st μ cells slots) : WJ p l e R s m args below meth c Qf base D y H0 ph pc ls ((0, z) :: (0, x) :: st) μ cells slots := by
  refine o_br (fun hO => ok_tail (ok_tail hO)) (fun ad H locs lsR kt kf => ?_) kt kf
  cases q with
  | eq => exact lv_icmp_eq hx hb hd ht (fun h => kt ((i32_eq hg).mp h)) (fun h => kf (fun h' => h ((i32_eq hg).mpr h')))
  | ne => exact lv_icmp_ne hx hb hd ht (fun h => kt (fun h' => h ((i32_eq hg).mpr h'))) (fun h => kf (fun h' => h' ((i32_eq hg).mp h)))
  | lt => exact lv_icmp_lt hx hb hd ht (fun h => kt ((i32_lt hg.1 hg.2).mp h)) (fun h => kf (fun h' => h ((i32_lt hg.1 hg.2).mpr h')))
  | ge => exact lv_icmp_ge hx hb hd ht (fun h => kt ((i32_le hg.2 hg.1).mp h)) (fun h => kf (fun h' => h ((i32_le hg.2 hg.1).mpr h')))
  | gt => exact lv_icmp_gt hx hb hd ht (fun h => kt ((i32_lt hg.2 hg.1).mp h)) (fun h => kf (fun h' => h ((i32_lt hg.2 hg.1).mpr h')))
  | le => exact lv_icmp_le hx hb hd ht (fun h => kt ((i32_le hg.1 hg.2).mp h)) (fun h => kf (fun h' => h ((i32_le hg.1 hg.2).mpr h')))
theorem o_if (hx : p.tables.exec = Jvm.exec) (hb : c.code = cc) {q : Jvm.ClassFile.Cond} {x : Int} {tgt : Nat} {off : Int} (hd : decode cc pc = .ok (.ifCond q off, 3)) (ht : (pc : Int) + off = (tgt : Int)) (hg : jcg q x 0)
    (kt : jcmp q x 0 → WJ p l e R s m args below meth c Qf base D y H0 ph tgt ls st μ cells slots) (kf : ¬ jcmp q x 0 → WJ p l e R s m args below meth c Qf base D y H0 ph (pc + 3) ls st μ cells slots) : WJ p l e R s m args below meth c Qf base D y H0 ph pc ls ((0, x) :: st) μ cells slots := by
  refine o_br ok_tail (fun ad H locs lsR kt kf => ?_) kt kf
  cases q with
  | eq => exact lv_if_eq hx hb hd ht (fun h => kt ((i32_eq hg).mp (by rw [← i32_0]; exact h))) (fun h => kf (fun h' => h (by rw [i32_0]; exact (i32_eq hg).mpr h')))
  | ne => exact lv_if_ne hx hb hd ht (fun h => kt (fun h' => h (by rw [i32_0]; exact (i32_eq hg).mpr h'))) (fun h => kf (fun h' => h' ((i32_eq hg).mp (by rw [← i32_0]; exact h))))
  | lt => exact lv_if_lt hx hb hd ht (fun h => kt ((i32_lt hg.1 hg.2).mp (by rw [← i32_0]; exact h))) (fun h => kf (fun h' => h (by rw [i32_0]; exact (i32_lt hg.1 hg.2).mpr h')))
  | ge => exact lv_if_ge hx hb hd ht (fun h => kt ((i32_le hg.2 hg.1).mp (by rw [← i32_0]; exact h))) (fun h => kf (fun h' => h (by rw [i32_0]; exact (i32_le hg.2 hg.1).mpr h')))
  | gt => exact lv_if_gt hx hb hd ht (fun h => kt ((i32_lt hg.2 hg.1).mp (by rw [← i32_0]; exact h))) (fun h => kf (fun h' => h (by rw [i32_0]; exact (i32_lt hg.2 hg.1).mpr h')))
  | le => exact lv_if_le hx hb hd ht (fun h => kt ((i32_le hg.1 hg.2).mp (by rw [← i32_0]; exact h))) (fun h => kf (fun h' => h (by rw [i32_0]; exact (i32_le hg.1 hg.2).mpr h')))
/-- a switch over the ints from lo to hi: the cases as a list -/
def jtb (pc : Nat) (lo : Int) : List Int → List Nat → Bool
  | [], [] => true
  | o :: os, k :: t :: r => decide ((k : Int) = lo) && decide ((pc : Int) + o = (t : Int)) && jtb pc (lo + 1) os r
  | _, _ => false
theorem jtb_spec {J : Nat → Prop} {K : Prop} {dflt pc : Nat} {x : Int} : ∀ {os : List Int} {r : List Nat} {lo : Int}, jtb pc lo os r = true → jsw x J dflt r →
    (∀ (j : Nat) (o : Int) (t : Nat), os[j]? = some o → x = lo + j → (pc : Int) + o = (t : Int) → J t → K) → ((x < lo ∨ lo + os.length ≤ x) → J dflt → K) → K
  | [], [], lo, _, hj, _, h2 => h2 (by show x < lo ∨ lo + ((0 : Nat) : Int) ≤ x; omega) hj
  | [], _ :: _, _, h, _, _, _ => by cases h
  | o :: os, [], _, h, _, _, _ => by cases h
  | o :: os, [_], _, h, _, _, _ => by cases h
  | o :: os, k :: t :: r, lo, h, hj, h1, h2 => by
    unfold jtb at h
    simp only [Bool.and_eq_true, decide_eq_true_eq] at h
    by_cases hx : x = (k : Int)
    · exact h1 0 o t rfl (by rw [hx, h.1.1]; simp) h.1.2 (hj.1 hx)
    · refine jtb_spec h.2 (hj.2 hx) (fun j o' t' e1 e2 e3 e4 => h1 (j + 1) o' t' (by simpa using e1) (by rw [e2]; push_cast; omega) e3 e4) (fun hc hd => h2 ?_ hd)
      have := h.1.1
      rw [List.length_cons]
      push_cast
      omega
theorem o_tsw (hx : p.tables.exec = Jvm.exec) (hb : c.code = cc) {x : Int} {dflt lo hi : Int} {offs : Array Int} {len td : Nat} {r : List Nat} (hd : decode cc pc = .ok (.tableswitch dflt lo hi offs, len)) (hx2 : inR x) (htd : (pc : Int) + dflt = (td : Int)) (hlen : hi = lo + offs.toList.length - 1) (ht : jtb pc lo offs.toList r = true)
    (k : jsw x (fun t => WJ p l e R s m args below meth c Qf base D y H0 ph t ls st μ cells slots) td r) : WJ p l e R s m args below meth c Qf base D y H0 ph pc ls ((0, x) :: st) μ cells slots := by
  intro ad H locs lsR hR hS hJ hO
  refine jtb_spec ht k (fun j o t e1 e2 e3 e4 => ?_) (fun hc hk => ?_)
  · have hl : j < offs.toList.length := (List.getElem?_eq_some_iff.mp e1).1
    refine lv_tableIn (off := o) (tgt := t) hx hb hd (by rw [i32_to hx2]; omega) (by rw [i32_to hx2]; omega) ?_ e3 (e4 ad H locs lsR hR hS hJ (ok_tail hO))
    rw [i32_to hx2, show (x - lo).toNat = j by omega, ← Array.getElem?_toList]
    exact e1
  · exact lv_tableOut hx hb hd (by rw [i32_to hx2]; omega) htd (hk ad H locs lsR hR hS hJ (ok_tail hO))
def jlb (pc : Nat) : List (Int × Int) → List Nat → Bool
  | [], [] => true
  | o :: os, k :: t :: r => decide ((k : Int) = o.1) && decide ((pc : Int) + o.2 = (t : Int)) && jlb pc os r
  | _, _ => false
theorem jlb_spec {J : Nat → Prop} {dflt pc : Nat} {x d : Int} : ∀ {os : List (Int × Int)} {r : List Nat}, jlb pc os r = true → jsw x J dflt r → (pc : Int) + d = (dflt : Int) → ∃ t : Nat, (pc : Int) + Op.lookupswitch.offset os d x = (t : Int) ∧ J t
  | [], [], _, hj, hd => ⟨dflt, hd, hj⟩
  | [], _ :: _, h, _, _ => by cases h
  | o :: os, [], h, _, _ => by cases h
  | o :: os, [_], h, _, _ => by cases h
  | (a, o) :: os, k :: t :: r, h, hj, hd => by
    unfold jlb at h
    simp only [Bool.and_eq_true, decide_eq_true_eq] at h
    rw [Op.lookupswitch.offset_cons]
    by_cases hx : x = (k : Int)
    · rw [if_pos (by rw [hx]; first | exact h.1.1 | exact h.1.1.symm)]
      exact ⟨t, h.1.2, hj.1 hx⟩
    · rw [if_neg (fun q => hx (by have := h.1.1; omega))]
      exact jlb_spec h.2 (hj.2 hx) hd
theorem o_lsw (hx : p.tables.exec = Jvm.exec) (hb : c.code = cc) {x : Int} {dflt : Int} {ps : Array (Int × Int)} {len td : Nat} {r : List Nat} (hd : decode cc pc = .ok (.lookupswitch dflt ps, len)) (hx2 : inR x) (htd : (pc : Int) + dflt = (td : Int)) (hp : (ps.toList.zip (ps.toList.drop 1)).all (fun (a, next) => a.1 < next.1) = true) (ht : jlb pc ps.toList r = true)
    (k : jsw x (fun t => WJ p l e R s m args below meth c Qf base D y H0 ph t ls st μ cells slots) td r) : WJ p l e R s m args below meth c Qf base D y H0 ph pc ls ((0, x) :: st) μ cells slots := by
  intro ad H locs lsR hR hS hJ hO
  obtain ⟨t, e, hk⟩ := jlb_spec ht k htd
  exact lv_lookup hx hb hd hp (by rw [i32_to hx2]) e (hk ad H locs lsR hR hS hJ (ok_tail hO))
end
