/-! both objects, made -/
def oany {α : Type} (o : Option α) (p : α → Bool) : Bool := match o with
  | some a => p a
  | none => false
theorem oany_t {α : Type} {o : Option α} {p : α → Bool} (h : oany o p = true) : ∃ a, o = some a ∧ p a = true := by
  cases o with
  | none => cases h
  | some a => exact ⟨a, rfl, h⟩
def rn1 (l : AL) : Option AL := jevl 3000 20 127 (jsuf 0 (jcode 127)) (jinit (jnl 127) [(11, 0)]) [] l
def rn2 (l : AL) : Option AL := jevl 3000 20 188 (jsuf 0 (jcode 188)) (jinit (jnl 188) [(40, 0)]) [] l
def qpl (l : AL) (k : Nat) : Int := if k = 0 then jgt l 22 0 5 - 1 else if k = 1 then jgt l 22 0 6 - 1 else jgt l 27 0 (k : Int) - 1
def rfok (l : AL) (p : JV) : Bool := cond (Nat.beq (jkt p.1) 0) ((List.range (jnf (jkc p.1 p.2))).all fun k => cond (Nat.ble 11 (jft p.1 k p.2).1) (!ieq (jgt l p.1 p.2 (k : Int)) 0) true) (cond (Nat.beq (jkt p.1) 5) ((List.range (jlt p.1).toNat).all fun j => !ieq (jgt l p.1 p.2 (j : Int)) 0) true)
def vals : List (Nat × Int × Int) := [(11, 8, 0), (11, 9, 1), (12, 0, 0), (12, 1, 0), (12, 2, 0), (17, 0, 100), (17, 1, 4), (17, 2, 10), (17, 3, 0), (21, 3, 0), (21, 4, 0), (27, 10, 0), (20, 1, 0), (20, 2, -1), (20, 3, -1), (41, 0, 0), (41, 1, 0), (41, 2, 0), (41, 3, 100), (41, 4, 4), (41, 5, 10), (41, 6, 0), (40, 1, 0), (40, 2, 0), (40, 3, 0), (40, 12, 0), (40, 16, 0), (40, 24, -1), (40, 23, -1), (53, 0, 169)]
def chkv (l : AL) : Bool := vals.all fun v => ieq (jgt l v.1 0 v.2.1) v.2.2
def chkr (l : AL) : Bool := (List.range 169).all fun i => rfok l (jlab (i : Int))
def chkq (l : AL) : Bool := ile 0 (jgt l 21 0 2) && (ilt (jgt l 21 0 2) 10 && (ile 0 (jgt l 54 0 0) && (ile (jgt l 54 0 0) 500000 && ((List.range 10).all fun k => ile 0 (qpl l k) && (ilt (qpl l k) 10 && (ieq (jgt l 51 (qpl l k) 0) (if k < 2 then jgt l 51 (qpl l 0) 0 else jgt l 51 (qpl l 2) 0) && ((List.range 10).all fun j => Nat.beq j k || !ieq (qpl l j) (qpl l k))))))))
def chkc (l : AL) : Bool := ile 64 (jgt l 51 (qpl l 0) 0) && (ile (jgt l 51 (qpl l 0) 0) 24000 && (ile 16 (jgt l 51 (qpl l 2) 0) && ile (jgt l 51 (qpl l 2) 0) 24000))
def chk (l : AL) : Bool := (l.all fun e => !Nat.beq e.1 80) && (chkv l && (chkr l && (chkq l && chkc l)))
set_option maxRecDepth 100000 in
theorem made0 : oany (jevn 11 10 [] [] []) (fun a => oany (rn1 a.2.2) (fun l1 => ieq (jlab (jgt l1 53 0 0)).2 0 && oany (jevn 40 37 [] [] l1) (fun b => oany (rn2 b.2.2) chk))) = true := by decide +kernel
