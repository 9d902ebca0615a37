/-! THE CHECK of every instruction: its bytes, its words -/
def jil (ins : Instr) : Nat := match ins with
  | .bipush _ => 2
  | .ldc _ => 2
  | .iload _ => 2
  | .fload _ => 2
  | .aload _ => 2
  | .istore _ => 2
  | .fstore _ => 2
  | .astore _ => 2
  | .newarray _ => 2
  | .sipush _ => 3
  | .ldc_w _ => 3
  | .ldc2_w _ => 3
  | .iinc _ _ => 3
  | .if_icmp _ _ => 3
  | .ifCond _ _ => 3
  | .goto _ => 3
  | .getfield _ => 3
  | .putfield _ => 3
  | .getstatic _ => 3
  | .invokevirtual _ => 3
  | .invokestatic _ => 3
  | .invokespecial _ => 3
  | .new _ => 3
  | .anewarray _ => 3
  | .checkcast _ => 3
  | _ => 1
def jisw (ins : Instr) : Bool := match ins with
  | .tableswitch _ _ _ _ => true
  | .lookupswitch _ _ => true
  | _ => false
def jdec (b : ByteArray) (e : JE) : Bool := match decode b e.1 with
  | .ok (i, n) => decide (i = e.2.1) && (jisw e.2.1 || Nat.beq n (jil e.2.1))
  | _ => false
def jchk (b : ByteArray) : List JE → Bool
  | [] => true
  | e :: r => jdec b e && (jisw e.2.1 || (match r with
    | [] => true
    | e' :: _ => Nat.beq e'.1 (e.1 + jil e.2.1))) && jchk b r
def jfty (c k : Nat) : FieldType := cond (Nat.beq c 11) (tyX8 k) (jty c k)
def jputk (mid c k z g : Nat) : Bool :=
  (cond (Nat.beq g 0) (cond (Nat.beq z 1) (decide (jfty c k = .boolean)) (decide (jfty c k = .int))) (cond (Nat.beq g 3) (Nat.beq z 0 && decide (jfty c k = .long)) (Nat.beq g 11 && Nat.beq z 0 && (match jfty c k with
    | .array _ => true
    | .object _ => true
    | _ => false)))) && cond ((jT c).2.1 k).2.2.2 (jini mid && decide (((jT c).2.1 k).1 = jon (jown mid))) true
def jsite (own i kind id : Nat) : Bool := jSITE.any fun r => Nat.beq r.1 own && Nat.beq r.2.1 i && Nat.beq r.2.2.1 kind && Nat.beq r.2.2.2.1 id
def jfld (own i c k : Nat) : Bool := jFT.any fun r => Nat.beq r.1 own && Nat.beq r.2.1 i && Nat.beq r.2.2.2.1 c && Nat.beq r.2.2.2.2.1 k
def jcst (own i t v : Nat) : Bool := jCT.any fun r => Nat.beq r.1 own && Nat.beq r.2.1 i && Nat.beq r.2.2.1 t && Nat.beq r.2.2.2.1 v
def jjdk (own i q : Nat) : Bool := jJS.any fun r => Nat.beq r.1 own && Nat.beq r.2.1 i && Nat.beq r.2.2.1 q
def jnwo (own i c t n : Nat) : Bool := jNT.any fun r => Nat.beq r.1 own && Nat.beq r.2.1 i && Nat.beq r.2.2.1 c && Nat.beq r.2.2.2.1 t && Nat.beq r.2.2.2.2.1 n
def jwd (mid : Nat) (e : JE) : Bool := match e.2.1 with
  | .bipush n => decide ((Int8.ofInt n).toInt32 = Int32.ofInt n)
  | .sipush n => decide ((Int16.ofInt n).toInt32 = Int32.ofInt n)
  | .ldc i => match e.2.2 with
    | [t, v] => (Nat.beq t 5 && Nat.beq v 0 && Nat.beq (jown mid) 10 && Nat.beq i 218) || ((Nat.beq t 0 || Nat.beq t 2) && jcst (jown mid) i t v)
    | _ => true
  | .ldc_w i => match e.2.2 with
    | [t, v] => (Nat.beq t 0 || Nat.beq t 2) && jcst (jown mid) i t v
    | _ => true
  | .ldc2_w i => match e.2.2 with
    | [v] => jcst (jown mid) i 3 v
    | _ => true
  | .istore_n n => Nat.blt n.val (jnl mid)
  | .istore n => Nat.blt n (jnl mid)
  | .fstore_n n => Nat.blt n.val (jnl mid)
  | .fstore n => Nat.blt n (jnl mid)
  | .astore_n n => Nat.blt n.val (jnl mid)
  | .astore n => Nat.blt n (jnl mid)
  | .iinc n _ => Nat.blt n (jnl mid)
  | .getfield i => match e.2.2 with
    | [c, k] => jfld (jown mid) i c k
    | _ => true
  | .putfield i => match e.2.2 with
    | [c, k, z, g] => jfld (jown mid) i c k && jputk mid c k z g
    | _ => true
  | .if_icmp _ off => decide ((e.1 : Int) + off = ((e.2.2.getD 0 0 : Nat) : Int))
  | .ifCond _ off => decide ((e.1 : Int) + off = ((e.2.2.getD 0 0 : Nat) : Int))
  | .goto off => decide ((e.1 : Int) + off = ((e.2.2.getD 0 0 : Nat) : Int))
  | .tableswitch d lo hi offs => decide ((e.1 : Int) + d = ((e.2.2.getD 0 0 : Nat) : Int)) && decide (hi = lo + offs.toList.length - 1) && jtb e.1 lo offs.toList (e.2.2.drop 1)
  | .lookupswitch d ps => decide ((e.1 : Int) + d = ((e.2.2.getD 0 0 : Nat) : Int)) && (ps.toList.zip (ps.toList.drop 1)).all (fun (a, next) => a.1 < next.1) && jlb e.1 ps.toList (e.2.2.drop 1)
  | .new i => match e.2.2 with
    | [c, t, n] => jnwo (jown mid) i c t n
    | _ => true
  | .newarray a => match e.2.2 with
    | [q, _] => match a with
      | .int => Nat.beq q 1
      | .long => Nat.beq q 2
      | .byte => Nat.beq q 3
      | .boolean => Nat.beq q 4
      | _ => false
    | _ => true
  | .anewarray i => Nat.beq (jown mid) 3 && Nat.beq i 9
  | .invokevirtual i => match e.2.2 with
    | [0, id, n, rt] => Nat.beq n (jnp id + 1) && Nat.beq rt (jrt id) && cond (jstat id) false true && ((jsite (jown mid) i 0 id && Nat.ble (jmw id).2.2.2 9998) || (jsite (jown mid) i 5 id && Nat.beq id 55))
    | [8, a, b, c] => jsite (jown mid) i 6 a && Nat.beq a 94 && Nat.beq b 48 && Nat.beq c 59
    | [6] => Nat.beq (jown mid) 10 && Nat.beq i 220
    | [7] => Nat.beq (jown mid) 10 && Nat.beq i 226
    | 0 :: _ => false
    | 8 :: _ => false
    | _ => true
  | .invokestatic i => match e.2.2 with
    | [0, id, n, rt] => Nat.beq n (jnp id) && Nat.beq rt (jrt id) && jstat id && (jsite (jown mid) i 1 id || jsite (jown mid) i 4 id)
    | [q] => jjdk (jown mid) i q
    | 0 :: _ => false
    | _ => true
  | .invokespecial i => match e.2.2 with
    | [0, id, n, rt] => Nat.beq n (jnp id + 1) && Nat.beq rt (jrt id) && cond (jstat id) false true && jini id && decide (jret id = none) && (jsite (jown mid) i 2 id || jsite (jown mid) i 3 id)
    | [q] => jjdk (jown mid) i q
    | 0 :: _ => false
    | _ => true
  | .ireturn => match e.2.2 with
    | [0] => decide (jret mid = some .int) && Nat.beq (jrt mid) 0
    | [1] => decide (jret mid = some .boolean) && Nat.beq (jrt mid) 0
    | _ => true
  | .freturn => decide (jret mid = some .float) && Nat.beq (jrt mid) 2
  | .areturn => match e.2.2 with
    | [22] => decide (jret mid = some (.object "RoundTrips$Rounds")) && Nat.beq (jrt mid) 22
    | [50] => decide (jret mid = some (.array .int)) && Nat.beq (jrt mid) 50
    | [_] => false
    | _ => true
  | .return_ => decide (jret mid = none) && Nat.beq (jrt mid) 8
  | _ => true
/-- a method's whole check -/
def jck (id : Nat) : Bool := jchk (jbytes id) (jcode id) && (jcode id).all (jwd id)
set_option maxRecDepth 20000 in
theorem ck_ok0 : ((List.range 20).all fun i => jck (0 + i)) = true := by decide +kernel
set_option maxRecDepth 20000 in
theorem ck_ok20 : ((List.range 20).all fun i => jck (20 + i)) = true := by decide +kernel
set_option maxRecDepth 20000 in
theorem ck_ok40 : ((List.range 20).all fun i => jck (40 + i)) = true := by decide +kernel
set_option maxRecDepth 20000 in
theorem ck_ok60 : ((List.range 20).all fun i => jck (60 + i)) = true := by decide +kernel
set_option maxRecDepth 20000 in
theorem ck_ok80 : ((List.range 20).all fun i => jck (80 + i)) = true := by decide +kernel
set_option maxRecDepth 20000 in
theorem ck_ok100 : ((List.range 20).all fun i => jck (100 + i)) = true := by decide +kernel
set_option maxRecDepth 20000 in
theorem ck_ok120 : ((List.range 20).all fun i => jck (120 + i)) = true := by decide +kernel
set_option maxRecDepth 20000 in
theorem ck_ok140 : ((List.range 20).all fun i => jck (140 + i)) = true := by decide +kernel
set_option maxRecDepth 20000 in
theorem ck_ok160 : ((List.range 20).all fun i => jck (160 + i)) = true := by decide +kernel
set_option maxRecDepth 20000 in
theorem ck_ok180 : ((List.range 20).all fun i => jck (180 + i)) = true := by decide +kernel
set_option maxRecDepth 20000 in
theorem ck_ok200 : ((List.range 20).all fun i => jck (200 + i)) = true := by decide +kernel
set_option maxRecDepth 20000 in
theorem ck_ok220 : ((List.range 20).all fun i => jck (220 + i)) = true := by decide +kernel
set_option maxRecDepth 20000 in
theorem ck_ok240 : ((List.range 20).all fun i => jck (240 + i)) = true := by decide +kernel
set_option maxRecDepth 20000 in
theorem ck_ok260 : ((List.range 20).all fun i => jck (260 + i)) = true := by decide +kernel
set_option maxRecDepth 20000 in
theorem ck_ok280 : ((List.range 20).all fun i => jck (280 + i)) = true := by decide +kernel
set_option maxRecDepth 20000 in
theorem ck_ok300 : ((List.range 20).all fun i => jck (300 + i)) = true := by decide +kernel
set_option maxRecDepth 20000 in
theorem ck_ok320 : ((List.range 2).all fun i => jck (320 + i)) = true := by decide +kernel
