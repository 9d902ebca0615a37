/-! THE J MACHINE: bytecode over a flat memory of whole numbers.
A value is (tag, number): 0 an int, 2 a float (its bits), 3 a long, 5 the text constant, 9 nothing, 10 null, from 11 on a reference to the cell (tag, number).
A memory gives for each cell and each place in it a number; an int stands for Int32.ofInt of it. -/
abbrev JV : Type := Nat × Int
abbrev JM : Type := Nat → Int → Int → Int
abbrev JE : Type := Nat × Instr × List Nat
abbrev JQ : Type := Int → JM → Prop
abbrev JX : Type := Nat → Nat → Nat → List JV → List JV → JM → JQ → Prop
def jw (μ : JM) (t : Nat) (x i v : Int) : JM := fun t' x' i' => if t' = t ∧ x' = x ∧ i' = i then v else μ t' x' i'
def jz (μ : JM) (t : Nat) (x : Int) : JM := fun t' x' i' => if t' = t ∧ x' = x then 0 else μ t' x' i'
def jcp (μ : JM) (st : Nat) (sx sp : Int) (dt : Nat) (dx dp n : Int) : JM := fun t x i => if t = dt ∧ x = dx ∧ dp ≤ i ∧ i < dp + n then μ st sx (sp + (i - dp)) else μ t x i
abbrev inR (x : Int) : Prop := -2147483648 ≤ x ∧ x < 2147483648
abbrev inL (x : Int) : Prop := -9223372036854775808 ≤ x ∧ x < 9223372036854775808
def jand (x y : Int) : Int := (Int32.ofInt x &&& Int32.ofInt y).toInt
def jor (x y : Int) : Int := (Int32.ofInt x ||| Int32.ofInt y).toInt
def jxor (x y : Int) : Int := (Int32.ofInt x ^^^ Int32.ofInt y).toInt
def jshl (x y : Int) : Int := (Int32.ofInt x <<< (Int32.ofInt y &&& 31)).toInt
def jshr (x y : Int) : Int := (Int32.ofInt x >>> (Int32.ofInt y &&& 31)).toInt
def jushr (x y : Int) : Int := ((Int32.ofInt x).toUInt32 >>> ((Int32.ofInt y).toUInt32 &&& Int32.toUInt32 31)).toInt32.toInt
def ji2b (x : Int) : Int := (Int32.ofInt x).toInt8.toInt32.toInt
def jlshl (x y : Int) : Int := (Int64.ofInt x <<< ((Int32.ofInt y).toInt64 &&& 63)).toInt
def jlor (x y : Int) : Int := (Int64.ofInt x ||| Int64.ofInt y).toInt
def jlcmp (x y : Int) : Int := (lg_cmp (Int64.ofInt x) (Int64.ofInt y)).toInt
def jf (x : Int) : UInt32 := UInt32.ofNat x.toNat
def jb (u : UInt32) : Int := (u.toNat : Int)
def ji2f (x : Int) : Int := jb (FP.i2f (Int32.ofInt x))
def jfadd (x y : Int) : Int := jb (FP.fadd (jf x) (jf y))
def jfsub (x y : Int) : Int := jb (FP.fsub (jf x) (jf y))
def jfmul (x y : Int) : Int := jb (FP.fmul (jf x) (jf y))
def jfdiv (x y : Int) : Int := jb (FP.fdiv (jf x) (jf y))
def jf2i (x : Int) : Int := (FP.f2i (jf x)).toInt
def jfcmp (op : CmpOp) (x y : Int) : Int := (Op.cmpValue (FP.fcmp (jf x) (jf y)) op).toInt
def jnn (u : UInt32) : Prop := vf_n32 u
def jfraw (x : Int) : Int := (jf x).toInt32.toInt
def jfc (n : Nat) : Int := cond (Nat.beq n 0) (jb FP.fconst0) (cond (Nat.beq n 1) (jb FP.fconst1) (jb FP.fconst2))
def jmin (x y : Int) : Int := if y < x then y else x
def jmax (x y : Int) : Int := if x < y then y else x
/-- the kinds of cells: 0 an object, 1 ints, 2 longs, 3 bytes, 4 booleans, 5 Books, 9 none -/
def jkt (t : Nat) : Nat := cond (Nat.beq t 41) 1 (cond (Nat.beq t 13) 1 (cond (Nat.beq t 14) 1 (cond (Nat.beq t 15) 1 (cond (Nat.beq t 16) 1 (cond (Nat.beq t 17) 1 (cond (Nat.beq t 12) 0 (cond (Nat.beq t 40) 0 (cond (Nat.beq t 60) 1 (cond (Nat.beq t 61) 1 (cond (Nat.beq t 62) 1 (cond (Nat.beq t 63) 1 (cond (Nat.beq t 64) 1 (cond (Nat.beq t 65) 1 (cond (Nat.beq t 50) 1 (cond (Nat.beq t 22) 0 (cond (Nat.beq t 11) 0 (cond (Nat.beq t 20) 0 (cond (Nat.beq t 21) 0 (cond (Nat.beq t 25) 0 (cond (Nat.beq t 26) 0 (cond (Nat.beq t 27) 0 (cond (Nat.beq t 28) 2 (cond (Nat.beq t 29) 3 (cond (Nat.beq t 30) 5 (cond (Nat.beq t 31) 5 (cond (Nat.beq t 32) 1 (cond (Nat.beq t 33) 1 (cond (Nat.beq t 34) 1 (cond (Nat.beq t 35) 1 (cond (Nat.beq t 36) 1 (cond (Nat.beq t 37) 1 (cond (Nat.beq t 38) 1 (cond (Nat.beq t 39) 1 (cond (Nat.beq t 42) 1 (cond (Nat.beq t 43) 1 (cond (Nat.beq t 44) 1 (cond (Nat.beq t 45) 1 (cond (Nat.beq t 46) 1 (cond (Nat.beq t 66) 3 (cond (Nat.beq t 67) 3 (cond (Nat.beq t 68) 1 (cond (Nat.beq t 69) 1 (cond (Nat.beq t 70) 1 (cond (Nat.beq t 71) 4 (cond (Nat.beq t 72) 1 (9))))))))))))))))))))))))))))))))))))))))))))))
/-- how long an array of a kind is -/
def jlt (t : Nat) : Int := cond (Nat.beq t 41) 2040 (cond (Nat.beq t 13) 32 (cond (Nat.beq t 14) 32 (cond (Nat.beq t 15) 32 (cond (Nat.beq t 16) 32 (cond (Nat.beq t 17) 4 (cond (Nat.beq t 60) 60000 (cond (Nat.beq t 61) 12000 (cond (Nat.beq t 62) 12000 (cond (Nat.beq t 63) 12000 (cond (Nat.beq t 64) 12000 (cond (Nat.beq t 65) 12 (cond (Nat.beq t 28) 12 (cond (Nat.beq t 29) 800 (cond (Nat.beq t 30) 10 (cond (Nat.beq t 31) 3 (cond (Nat.beq t 32) 5 (cond (Nat.beq t 33) 32 (cond (Nat.beq t 34) 32 (cond (Nat.beq t 35) 32 (cond (Nat.beq t 36) 12 (cond (Nat.beq t 37) 32 (cond (Nat.beq t 38) 32 (cond (Nat.beq t 39) 4096 (cond (Nat.beq t 42) 32 (cond (Nat.beq t 43) 12 (cond (Nat.beq t 44) 12 (cond (Nat.beq t 45) 12 (cond (Nat.beq t 46) 64 (cond (Nat.beq t 66) 800 (cond (Nat.beq t 67) 800 (cond (Nat.beq t 68) 12 (cond (Nat.beq t 69) 32 (cond (Nat.beq t 70) 32 (cond (Nat.beq t 71) 12000 (cond (Nat.beq t 72) 12 (0))))))))))))))))))))))))))))))))))))
/-- the class of an object, by its place in vwCl -/
def jkc (t : Nat) (x : Int) : Nat := cond (Nat.beq t 40) 10 (cond (Nat.beq t 12) 1 (cond (Nat.beq t 11) 9 (cond (Nat.beq t 22) (cond (decide (x = 0)) 7 (cond (decide (x = 1)) 2 4)) (cond (Nat.beq t 20) 6 (cond (Nat.beq t 21) 3 (cond (Nat.beq t 25) 8 (cond (Nat.beq t 26) 5 (cond (Nat.beq t 27) 0 (99)))))))))
def jf12 (k : Nat) (x : Int) : JV := cond (Nat.beq k 3) (13, x) (cond (Nat.beq k 4) (14, x) (cond (Nat.beq k 5) (15, x) (cond (Nat.beq k 6) (16, x) (cond (Nat.beq k 7) (17, x) ((0, 0))))))
def jf11 (k : Nat) (x : Int) : JV := cond (Nat.beq k 0) (12, 0) (cond (Nat.beq k 1) (20, 0) (cond (Nat.beq k 2) (21, 0) (cond (Nat.beq k 3) (22, 0) (cond (Nat.beq k 4) (22, 1) (cond (Nat.beq k 5) (22, 2) (cond (Nat.beq k 6) (25, 0) (cond (Nat.beq k 7) (26, 0) ((0, 0)))))))))
def jf20 (k : Nat) (x : Int) : JV := cond (Nat.beq k 0) (12, 1) (cond (Nat.beq k 4) (29, 0) (cond (Nat.beq k 5) (28, 0) (cond (Nat.beq k 12) (3, 0) ((0, 0)))))
def jf21 (k : Nat) (x : Int) : JV := cond (Nat.beq k 0) (30, 0) (cond (Nat.beq k 1) (31, 0) ((0, 0)))
def jf22 (k : Nat) (x : Int) : JV := cond (Nat.beq k 0) (12, 2 + x) (cond (Nat.beq k 1) (32, x) (cond (Nat.beq k 3) (33, x) (cond (Nat.beq k 2) (0, 0) ((cond (decide (x = 0)) (cond (Nat.beq k 5) (1, 0) (cond (Nat.beq k 6) (1, 0) (cond (Nat.beq k 7) (34, 0) (cond (Nat.beq k 8) (35, 0) (cond (Nat.beq k 9) (36, 0) (cond (Nat.beq k 10) (37, 0) (cond (Nat.beq k 11) (38, 0) (cond (Nat.beq k 13) (27, 0) (0, 0))))))))) (0, 0))))))
def jf25 (k : Nat) (x : Int) : JV := cond (Nat.beq k 0) (39, 0) (cond (Nat.beq k 1) (42, 0) (cond (Nat.beq k 2) (43, 0) (cond (Nat.beq k 3) (44, 0) (cond (Nat.beq k 4) (12, 5) ((0, 0))))))
def jf26 (k : Nat) (x : Int) : JV := cond (Nat.beq k 0) (45, 0) ((0, 0))
def jf27 (k : Nat) (x : Int) : JV := cond (Nat.beq k 1) (46, 0) (cond (Nat.beq k 2) (1, 0) (cond (Nat.beq k 3) (1, 0) (cond (Nat.beq k 4) (1, 0) (cond (Nat.beq k 5) (1, 0) (cond (Nat.beq k 6) (1, 0) (cond (Nat.beq k 7) (1, 0) (cond (Nat.beq k 8) (1, 0) (cond (Nat.beq k 9) (1, 0) ((0, 0))))))))))
def jf40 (k : Nat) (x : Int) : JV := cond (Nat.beq k 0) (41, 0) (cond (Nat.beq k 4) (60, 0) (cond (Nat.beq k 5) (61, 0) (cond (Nat.beq k 6) (62, 0) (cond (Nat.beq k 7) (63, 0) (cond (Nat.beq k 8) (64, 0) (cond (Nat.beq k 9) (65, 0) (cond (Nat.beq k 13) (66, 0) (cond (Nat.beq k 14) (67, 0) (cond (Nat.beq k 15) (68, 0) (cond (Nat.beq k 27) (69, 0) (cond (Nat.beq k 28) (70, 0) (cond (Nat.beq k 29) (71, 0) (cond (Nat.beq k 30) (72, 0) ((0, 0)))))))))))))))
/-- what a field holds: (0, _) a number, (3, _) a long, (1, _) an array made later, else the cell that it always is -/
def jft (t k : Nat) (x : Int) : JV := cond (Nat.beq t 40) (jf40 k x) (cond (Nat.beq t 12) (jf12 k x) (cond (Nat.beq t 11) (jf11 k x) (cond (Nat.beq t 22) (jf22 k x) (cond (Nat.beq t 20) (jf20 k x) (cond (Nat.beq t 21) (jf21 k x) (cond (Nat.beq t 25) (jf25 k x) (cond (Nat.beq t 26) (jf26 k x) (cond (Nat.beq t 27) (jf27 k x) ((0, 0))))))))))
/-- what a place of an array of Books always is -/
def jbk (t : Nat) (i : Int) : JV := cond (Nat.beq t 30) (12, 6 + i) (12, 16 + i)
/-- the cells as they are made: the first of all calls of constructors, then what grows -/
def jLT : List JV := [(11, 0), (12, 0), (13, 0), (14, 0), (15, 0), (16, 0), (17, 0), (20, 0), (12, 1), (13, 1), (14, 1), (15, 1), (16, 1), (17, 1), (29, 0), (28, 0), (21, 0), (30, 0), (31, 0), (12, 6), (13, 6), (14, 6), (15, 6), (16, 6), (17, 6), (12, 7), (13, 7), (14, 7), (15, 7), (16, 7), (17, 7), (12, 8), (13, 8), (14, 8), (15, 8), (16, 8), (17, 8), (12, 9), (13, 9), (14, 9), (15, 9), (16, 9), (17, 9), (12, 10), (13, 10), (14, 10), (15, 10), (16, 10), (17, 10), (12, 11), (13, 11), (14, 11), (15, 11), (16, 11), (17, 11), (12, 12), (13, 12), (14, 12), (15, 12), (16, 12), (17, 12), (12, 13), (13, 13), (14, 13), (15, 13), (16, 13), (17, 13), (12, 14), (13, 14), (14, 14), (15, 14), (16, 14), (17, 14), (12, 15), (13, 15), (14, 15), (15, 15), (16, 15), (17, 15), (12, 16), (13, 16), (14, 16), (15, 16), (16, 16), (17, 16), (12, 17), (13, 17), (14, 17), (15, 17), (16, 17), (17, 17), (12, 18), (13, 18), (14, 18), (15, 18), (16, 18), (17, 18), (22, 0), (12, 2), (13, 2), (14, 2), (15, 2), (16, 2), (17, 2), (32, 0), (33, 0), (50, 0), (50, 1), (34, 0), (35, 0), (36, 0), (37, 0), (38, 0), (27, 0), (46, 0), (50, 2), (50, 3), (50, 4), (50, 5), (50, 6), (50, 7), (50, 8), (50, 9), (22, 1), (12, 3), (13, 3), (14, 3), (15, 3), (16, 3), (17, 3), (32, 1), (33, 1), (22, 2), (12, 4), (13, 4), (14, 4), (15, 4), (16, 4), (17, 4), (32, 2), (33, 2), (25, 0), (39, 0), (42, 0), (43, 0), (44, 0), (12, 5), (13, 5), (14, 5), (15, 5), (16, 5), (17, 5), (26, 0), (45, 0), (40, 0), (41, 0), (60, 0), (61, 0), (62, 0), (63, 0), (64, 0), (65, 0), (66, 0), (67, 0), (68, 0), (69, 0), (70, 0), (71, 0), (72, 0)]
def jlab (a : Int) : JV := cond (decide (a < 169)) (jLT.getD a.toNat (0, 0)) (50, a - 159)
/-- the one text constant, its bytes -/
def jkeys : List Nat := [32, 112, 97, 121, 32, 97, 116, 32, 116, 114, 117, 115, 116, 32, 119, 105, 110, 100, 111, 119, 32, 108, 111, 110, 103, 101, 115, 116, 32, 108, 111, 115, 115, 32, 103, 97, 105, 110, 32]
/-- how long an array is -/
def jlen (μ : JM) (t : Nat) (x : Int) : Int := cond (Nat.beq t 50) (μ 51 x 0) (jlt t)
/-- a field, or an element of an array of Books: (0, _) a number, (3, _) a long, (1, _) a made array, else the cell that it always is -/
def jfg (ph : Bool) (μ : JM) (t : Nat) (x : Int) (k : Int) (f : JV) : List Prop := cond (Nat.beq f.1 0) [] (cond (Nat.beq f.1 3) [] (cond (Nat.beq f.1 1) [1 ≤ μ t x k] (cond ph [] [μ t x k ≠ 0])))
def jfv (μ : JM) (t : Nat) (x : Int) (k : Int) (f : JV) : JV := cond (Nat.beq f.1 0) (0, μ t x k) (cond (Nat.beq f.1 3) (3, μ t x k) (cond (Nat.beq f.1 1) (50, μ t x k - 1) f))
/-- is the field's class the object's (11: Hunt's, of all that extend it) -/
def jok (c t : Nat) (x : Int) : Bool := cond (Nat.beq c 11) (Nat.beq t 22) (Nat.beq (jkc t x) c)
/-- what a field takes of a value: its number; none: not such a value -/
def jput (f v : JV) : Option (List Prop × Int) := cond (Nat.beq f.1 0) (cond (Nat.beq v.1 0) (some ([], v.2)) none) (cond (Nat.beq f.1 3) (cond (Nat.beq v.1 3) (some ([], v.2)) none) (cond (Nat.beq f.1 1) (cond (Nat.beq v.1 50) (some ([0 ≤ v.2], v.2 + 1)) none) (cond (Nat.beq f.1 v.1) (some ([v.2 = f.2], 1)) none)))
def jgd : List Prop → Prop → Prop
  | [], p => p
  | g :: gs, p => g ∧ jgd gs p
def jl (ls : List JV) (i : Nat) : JV := ls.getD i (9, 0)
/-- what stands in a state behind an instruction that goes on: what must hold, locals, stack, memory -/
abbrev J1 : Type := Option (List Prop × List JV × List JV × JM)
/-- a new cell: its kind is told by the instruction; its number is that of the cell made next -/
def jnew (t : Nat) (n : Int) (ls st : List JV) (μ : JM) : J1 :=
  some ([jlab (μ 53 0 0) = (t, (jlab (μ 53 0 0)).2), 0 ≤ μ 53 0 0, μ 53 0 0 < 600000, 0 ≤ n, 0 ≤ μ 54 0 0, μ 54 0 0 + n ≤ 7302250], ls, (t, (jlab (μ 53 0 0)).2) :: st,
    jw (jw (jw (jz μ t (jlab (μ 53 0 0)).2) 51 (jlab (μ 53 0 0)).2 0 (cond (Nat.beq t 50) n (μ 51 (jlab (μ 53 0 0)).2 0))) 53 0 0 (μ 53 0 0 + 1)) 54 0 0 (μ 54 0 0 + n))
/-- how many words a stack has -/
def jcat : List JV → Nat
  | [] => 0
  | v :: l => cond (Nat.beq v.1 3) (jcat l + 2) (jcat l + 1)
/-- a reference: to a cell, or (6) to the script -/
def jar (t : Nat) : Bool := cond (Nat.beq t 6) true (Nat.ble 11 t)
def jone (ph : Bool) (ins : Instr) (info : List Nat) (ls st : List JV) (μ : JM) : J1 :=
  match ins with
  | .iconst n => some ([], ls, (0, n) :: st, μ)
  | .bipush n => some ([], ls, (0, n) :: st, μ)
  | .sipush n => some ([], ls, (0, n) :: st, μ)
  | .lconst n => some ([], ls, (3, (n.val : Int)) :: st, μ)
  | .fconst n => some ([], ls, (2, jfc n.val) :: st, μ)
  | .ldc _ => match info with
    | [t, v] => some ([], ls, (t, (v : Int)) :: st, μ)
    | _ => none
  | .ldc_w _ => match info with
    | [t, v] => some ([], ls, (t, (v : Int)) :: st, μ)
    | _ => none
  | .ldc2_w _ => match info with
    | [v] => some ([], ls, (3, (v : Int)) :: st, μ)
    | _ => none
  | .iload_n n => cond (Nat.beq (jl ls n.val).1 0) (some ([], ls, jl ls n.val :: st, μ)) none
  | .iload n => cond (Nat.beq (jl ls n).1 0) (some ([], ls, jl ls n :: st, μ)) none
  | .aload_n n => cond (jar (jl ls n.val).1) (some ([], ls, jl ls n.val :: st, μ)) none
  | .aload n => cond (Nat.ble 11 (jl ls n).1) (some ([], ls, jl ls n :: st, μ)) none
  | .fload_n n => cond (Nat.beq (jl ls n.val).1 2) (some ([], ls, jl ls n.val :: st, μ)) none
  | .fload n => cond (Nat.beq (jl ls n).1 2) (some ([], ls, jl ls n :: st, μ)) none
  | .istore_n n => match st with
    | v :: st' => cond (Nat.beq v.1 0) (some ([], ls.set n.val v, st', μ)) none
    | _ => none
  | .istore n => match st with
    | v :: st' => cond (Nat.beq v.1 0) (some ([], ls.set n v, st', μ)) none
    | _ => none
  | .astore_n n => match st with
    | v :: st' => cond (Nat.ble 11 v.1) (some ([], ls.set n.val v, st', μ)) none
    | _ => none
  | .astore n => match st with
    | v :: st' => cond (Nat.ble 11 v.1) (some ([], ls.set n v, st', μ)) none
    | _ => none
  | .fstore_n n => match st with
    | v :: st' => cond (Nat.beq v.1 2) (some ([], ls.set n.val v, st', μ)) none
    | _ => none
  | .fstore n => match st with
    | v :: st' => cond (Nat.beq v.1 2) (some ([], ls.set n v, st', μ)) none
    | _ => none
  | .iinc n d => cond (Nat.beq (jl ls n).1 0) (some ([], ls.set n (0, (jl ls n).2 + d), st, μ)) none
  | .dup => match st with
    | v :: st' => cond (Nat.beq v.1 3) none (some ([], ls, v :: v :: st', μ))
    | _ => none
  | .dup2 => match st with
    | v :: u :: st' => cond (Nat.beq v.1 3) none (cond (Nat.beq u.1 3) none (some ([], ls, v :: u :: v :: u :: st', μ)))
    | _ => none
  | .pop => match st with
    | v :: st' => cond (Nat.beq v.1 3) none (some ([], ls, st', μ))
    | _ => none
  | .iadd => match st with
    | (0, y) :: (0, x) :: st' => some ([], ls, (0, x + y) :: st', μ)
    | _ => none
  | .isub => match st with
    | (0, y) :: (0, x) :: st' => some ([], ls, (0, x - y) :: st', μ)
    | _ => none
  | .imul => match st with
    | (0, y) :: (0, x) :: st' => some ([], ls, (0, x * y) :: st', μ)
    | _ => none
  | .idiv => match st with
    | (0, y) :: (0, x) :: st' => some ([0 ≤ x, x < 2147483648, 0 < y, y < 2147483648], ls, (0, x / y) :: st', μ)
    | _ => none
  | .irem => match st with
    | (0, y) :: (0, x) :: st' => some ([0 ≤ x, x < 2147483648, 0 < y, y < 2147483648], ls, (0, x % y) :: st', μ)
    | _ => none
  | .ineg => match st with
    | (0, x) :: st' => some ([], ls, (0, -x) :: st', μ)
    | _ => none
  | .iand => match st with
    | (0, y) :: (0, x) :: st' => some ([], ls, (0, jand x y) :: st', μ)
    | _ => none
  | .ior => match st with
    | (0, y) :: (0, x) :: st' => some ([], ls, (0, jor x y) :: st', μ)
    | _ => none
  | .ixor => match st with
    | (0, y) :: (0, x) :: st' => some ([], ls, (0, jxor x y) :: st', μ)
    | _ => none
  | .ishl => match st with
    | (0, y) :: (0, x) :: st' => some ([], ls, (0, jshl x y) :: st', μ)
    | _ => none
  | .ishr => match st with
    | (0, y) :: (0, x) :: st' => some ([], ls, (0, jshr x y) :: st', μ)
    | _ => none
  | .iushr => match st with
    | (0, y) :: (0, x) :: st' => some ([], ls, (0, jushr x y) :: st', μ)
    | _ => none
  | .i2b => match st with
    | (0, x) :: st' => some ([], ls, (0, ji2b x) :: st', μ)
    | _ => none
  | .i2l => match st with
    | (0, x) :: st' => some ([inR x], ls, (3, x) :: st', μ)
    | _ => none
  | .lshl => match st with
    | (0, y) :: (3, x) :: st' => some ([], ls, (3, jlshl x y) :: st', μ)
    | _ => none
  | .lor => match st with
    | (3, y) :: (3, x) :: st' => some ([], ls, (3, jlor x y) :: st', μ)
    | _ => none
  | .lcmp => match st with
    | (3, y) :: (3, x) :: st' => some ([], ls, (0, jlcmp x y) :: st', μ)
    | _ => none
  | .i2f => match st with
    | (0, x) :: st' => some ([], ls, (2, ji2f x) :: st', μ)
    | _ => none
  | .f2i => match st with
    | (2, x) :: st' => some ([], ls, (0, jf2i x) :: st', μ)
    | _ => none
  | .fadd => match st with
    | (2, y) :: (2, x) :: st' => some ([jnn (FP.fadd (jf x) (jf y))], ls, (2, jfadd x y) :: st', μ)
    | _ => none
  | .fsub => match st with
    | (2, y) :: (2, x) :: st' => some ([jnn (FP.fsub (jf x) (jf y))], ls, (2, jfsub x y) :: st', μ)
    | _ => none
  | .fmul => match st with
    | (2, y) :: (2, x) :: st' => some ([jnn (FP.fmul (jf x) (jf y))], ls, (2, jfmul x y) :: st', μ)
    | _ => none
  | .fdiv => match st with
    | (2, y) :: (2, x) :: st' => some ([jnn (FP.fdiv (jf x) (jf y))], ls, (2, jfdiv x y) :: st', μ)
    | _ => none
  | .fcmp op => match st with
    | (2, y) :: (2, x) :: st' => some ([], ls, (0, jfcmp op x y) :: st', μ)
    | _ => none
  | .getfield _ => match info, st with
    | [c, k], (t, x) :: st' => cond (Nat.beq (jkt t) 0) (cond (jok c t x) (some (jfg ph μ t x k (jft t k x), ls, jfv μ t x k (jft t k x) :: st', μ)) none) none
    | _, _ => none
  | .putfield _ => match info, st with
    | [c, k, z, g], v :: (t, x) :: st' => cond (Nat.beq (jkt t) 0) (cond (jok c t x) (cond (cond (Nat.beq g 11) (Nat.ble 11 v.1) (Nat.beq v.1 g)) (match jput (jft t k x) v with
      | some (gs, w) => some (cond (Nat.beq z 1) ((0 ≤ v.2) :: (v.2 ≤ 1) :: gs) gs, ls, st', jw μ t x k w)
      | none => none) none) none) none
    | _, _ => none
  | .iaload => match st with
    | (0, i) :: (t, x) :: st' => cond (Nat.beq t 6) (some ([0 ≤ i, i < μ 80 1 0], ls, (0, μ 80 0 i) :: st', μ)) <| cond (Nat.beq (jkt t) 1) (some ([0 ≤ i, i < jlen μ t x], ls, (0, μ t x i) :: st', μ)) none
    | _ => none
  | .baload => match st with
    | (0, i) :: (t, x) :: st' => cond (Nat.beq (jkt t) 3) (some ([0 ≤ i, i < jlen μ t x], ls, (0, μ t x i) :: st', μ)) (cond (Nat.beq (jkt t) 4) (some ([0 ≤ i, i < jlen μ t x], ls, (0, μ t x i) :: st', μ)) none)
    | _ => none
  | .laload => match st with
    | (0, i) :: (t, x) :: st' => cond (Nat.beq (jkt t) 2) (some ([0 ≤ i, i < jlen μ t x], ls, (3, μ t x i) :: st', μ)) none
    | _ => none
  | .aaload => match st with
    | (0, i) :: (t, x) :: st' => cond (Nat.beq (jkt t) 5) (some ((0 ≤ i) :: (i < jlen μ t x) :: jfg ph μ t x i (jbk t i), ls, jfv μ t x i (jbk t i) :: st', μ)) none
    | _ => none
  | .iastore => match st with
    | (0, v) :: (0, i) :: (t, x) :: st' => cond (Nat.beq (jkt t) 1) (some ([0 ≤ i, i < jlen μ t x], ls, st', jw μ t x i v)) none
    | _ => none
  | .bastore => match st with
    | (0, v) :: (0, i) :: (t, x) :: st' => cond (Nat.beq (jkt t) 3) (some ([0 ≤ i, i < jlen μ t x, -128 ≤ v, v < 128], ls, st', jw μ t x i v)) (cond (Nat.beq (jkt t) 4) (some ([0 ≤ i, i < jlen μ t x, 0 ≤ v, v ≤ 1], ls, st', jw μ t x i v)) none)
    | _ => none
  | .lastore => match st with
    | (3, v) :: (0, i) :: (t, x) :: st' => cond (Nat.beq (jkt t) 2) (some ([0 ≤ i, i < jlen μ t x], ls, st', jw μ t x i v)) none
    | _ => none
  | .aastore => match st with
    | v :: (0, i) :: (t, x) :: st' => cond (Nat.beq (jkt t) 5) (match jput (jbk t i) v with
      | some (gs, w) => some ((0 ≤ i) :: (i < jlen μ t x) :: gs, ls, st', jw μ t x i w)
      | none => none) none
    | _ => none
  | .arraylength => match st with
    | (t, x) :: st' => cond (Nat.beq t 6) (some ([], ls, (0, μ 80 1 0) :: st', μ)) <| cond (Nat.beq (jkt t) 1) (some ([], ls, (0, jlen μ t x) :: st', μ)) none
    | _ => none
  | .new _ => match info with
    | [c, t, n] => cond ph none (cond (Nat.beq (jkt t) 0) (match jnew t n ls st μ with
      | some (gs, ls', st', μ') => some ((jkc t (jlab (μ 53 0 0)).2 = c) :: gs, ls', st', μ')
      | none => none) none)
    | _ => none
  | .newarray _ => match info, st with
    | [e, t], (0, n) :: st' => cond (Nat.beq (jkt t) e) (match jnew t n ls st' μ with
      | some (gs, ls', st'', μ') => some (cond (Nat.beq t 50) gs ((n = jlt t) :: gs), ls', st'', μ')
      | none => none) none
    | _, _ => none
  | .anewarray _ => match info, st with
    | [t], (0, n) :: st' => cond ph none (cond (Nat.beq (jkt t) 5) (match jnew t n ls st' μ with
      | some (gs, ls', st'', μ') => some ((n = jlt t) :: gs, ls', st'', μ')
      | none => none) none)
    | _, _ => none
  | .invokestatic _ => match info, st with
    | [1], (0, y) :: (0, x) :: st' => cond (Nat.ble (jcat st') 20) (some ([inR x, inR y], ls, (0, jmin x y) :: st', μ)) none
    | [2], (0, y) :: (0, x) :: st' => cond (Nat.ble (jcat st') 20) (some ([inR x, inR y], ls, (0, jmax x y) :: st', μ)) none
    | [3], (0, n) :: (0, dp) :: (dt, dx) :: (0, sp) :: (t, x) :: st' => cond (Nat.ble (jcat st') 20) (cond (Nat.beq (jkt t) 1) (cond (Nat.beq (jkt dt) 1) (some ([0 ≤ sp, 0 ≤ dp, 0 ≤ n, sp + n ≤ jlen μ t x, dp + n ≤ jlen μ dt dx], ls, st', jcp μ t x sp dt dx dp n)) none) none) none
    | [5], (2, x) :: st' => cond (Nat.ble (jcat st') 20) (some ([], ls, (0, jfraw x) :: st', μ)) none
    | _, _ => none
  | .invokespecial _ => match info, st with
    | [4], (t, _) :: st' => cond (Nat.ble 11 t) (cond (Nat.ble (jcat st') 20) (some ([], ls, st', μ)) none) none
    | _, _ => none
  | .invokevirtual _ => match info, st with
    | [6], (5, _) :: st' => cond (Nat.ble (jcat st') 8) (some ([], ls, (0, (jkeys.length : Int)) :: st', μ)) none
    | [7], (0, i) :: (5, _) :: st' => cond (Nat.ble (jcat st') 8) (some ([0 ≤ i, i < (jkeys.length : Int)], ls, (0, ((jkeys.getD i.toNat 0 : Nat) : Int)) :: st', μ)) none
    | _, _ => none
  | _ => none
def jcmp (c : Jvm.ClassFile.Cond) (x y : Int) : Prop := match c with
  | .eq => x = y
  | .ne => ¬ x = y
  | .lt => x < y
  | .ge => y ≤ x
  | .gt => y < x
  | .le => x ≤ y
def jcg (c : Jvm.ClassFile.Cond) (x y : Int) : Prop := match c with
  | .eq => x = y ∨ (inR x ∧ inR y)
  | .ne => x = y ∨ (inR x ∧ inR y)
  | _ => inR x ∧ inR y
/-- a branch: what must hold, when it is taken, the stack behind -/
def jbrn (ins : Instr) (st : List JV) : Option (Prop × Prop × List JV) :=
  match ins with
  | .if_icmp c _ => match st with
    | (0, y) :: (0, x) :: st' => some (jcg c x y, jcmp c x y, st')
    | _ => none
  | .ifCond c _ => match st with
    | (0, x) :: st' => some (jcg c x 0, jcmp c x 0, st')
    | _ => none
  | _ => none
def jrtn (ins : Instr) (info : List Nat) (st : List JV) : Option (List Prop × Int) :=
  match ins with
  | .ireturn => match info, st with
    | [0], [(0, x)] => some ([], x)
    | [1], [(0, x)] => some ([0 ≤ x, x ≤ 1], x)
    | _, _ => none
  | .freturn => match st with
    | [(2, x)] => some ([], x)
    | _ => none
  | .areturn => match info, st with
    | [t], [(t', x)] => cond (Nat.beq t t') (cond (Nat.beq t 22) (some ([x = 0], x)) (some ([], x))) none
    | _, _ => none
  | .return_ => match st with
    | [] => some ([], 0)
    | _ => none
  | _ => none
def jcls (ins : Instr) (info : List Nat) : Nat :=
  match ins with
  | .if_icmp _ _ => 1
  | .ifCond _ _ => 1
  | .goto _ => 2
  | .tableswitch _ _ _ _ => 3
  | .lookupswitch _ _ => 3
  | .invokevirtual _ => cond (Nat.beq (info.getD 0 9) 0) 4 (cond (Nat.beq (info.getD 0 9) 8) 6 0)
  | .invokestatic _ => cond (Nat.beq (info.getD 0 9) 0) 4 0
  | .invokespecial _ => cond (Nat.beq (info.getD 0 9) 0) 4 0
  | .ireturn => 5
  | .freturn => 5
  | .areturn => 5
  | .return_ => 5
  | _ => 0
def jin (t : Nat) : List Nat → Bool
  | [] => false
  | a :: l => cond (Nat.beq t a) true (jin t l)
def jsuf (t : Nat) : List JE → List JE
  | [] => []
  | e :: l => cond (Nat.beq e.1 t) (e :: l) (jsuf t l)
/-- a switch: the cases, then the rest -/
def jsw (x : Int) (J : Nat → Prop) (dflt : Nat) : List Nat → Prop
  | k :: t :: r => (x = (k : Int) → J t) ∧ (¬ x = (k : Int) → jsw x J dflt r)
  | _ => J dflt
def jpush (rt : Nat) (r : Int) (st : List JV) : List JV := cond (Nat.beq rt 8) st (cond (Nat.beq rt 22) ((22, 0) :: st) ((rt, r) :: st))
def jinit (nl : Nat) (args : List JV) : List JV := args ++ List.replicate (nl - args.length) (9, 0)
