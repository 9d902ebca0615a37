/-! floats: the operations in use -/
theorem i32_z {x : Int} (h : inR x) : (Int32.ofInt x).toInt = x := by
  rw [← Int32.toInt_toBitVec, Int32.toBitVec_ofInt]
  exact bv_inR h
theorem fl_i2f {n : Int} (h : 1 ≤ n ∧ n < 16777216) : ∃ E T, nf (ji2f n) E T ∧ 127 ≤ E ∧ E ≤ 151 := by
  have hl : -((0 : Nat) : Int) ≤ FP.Core.leading n.toNat 1 := ld_lo (by omega) (by omega) (by rw [Nat.pow_zero]; omega)
  have hh : FP.Core.leading n.toNat 1 < ((24 : Nat) : Int) := ld_hi (by omega) (by omega) (by show n.toNat < 1 * 16777216; omega)
  obtain ⟨c, q, h1, h2, h3, h4⟩ := rr (a := n.toNat) (b := 1) (e := 0) (by omega) (by omega) (by omega) (by omega)
  have e : ji2f n = jb (UInt32.ofNat (FP.Core.encode FP.Core.b32 (.fin false c q))) := by
    show jb (UInt32.ofNat (FP.Core.encode FP.Core.b32 (FP.Core.round FP.Core.b32 (FP.Core.ofInt (Int32.ofInt n).toInt)))) = _
    rw [i32_z ⟨by omega, by omega⟩]
    show jb (UInt32.ofNat (FP.Core.encode FP.Core.b32 (FP.Core.roundRatio FP.Core.b32 (decide (n < 0)) n.natAbs 1 0))) = _
    rw [decide_eq_false (by omega), show n.natAbs = n.toNat by omega, h1]
  rw [e]
  exact ⟨_, _, (nf_of ⟨h2, h3⟩ (by omega)).1, by omega, by omega⟩
theorem fl_i2f0 : ji2f 0 = 0 := by decide +kernel
theorem fl_one : nf (jfc 1) 127 0 := ⟨by decide, by decide, by decide⟩
theorem fl_two : nf (jfc 2) 128 0 := ⟨by decide, by decide, by decide⟩
theorem fl_add1 {n : Int} (h : 0 ≤ n ∧ n < 16777216) : (∃ E T, nf (jfadd (ji2f n) (jfc 1)) E T ∧ 100 ≤ E ∧ E ≤ 160) ∧ jnn (FP.fadd (jf (ji2f n)) (jf (jfc 1))) := by
  by_cases h0 : n = 0
  · subst h0
    rw [fl_i2f0]
    refine ⟨⟨127, 0, ⟨by decide, by decide, by decide +kernel⟩, by decide, by decide⟩, ?_⟩
    show FP.fadd (jf 0) (jf (jfc 1)) &&& 0x7fffffff ≤ 0x7f800000
    decide +kernel
  · obtain ⟨E, T, hx, hE⟩ := fl_i2f (n := n) (by omega)
    have d1 := nf_dec hx
    have d2 := nf_dec fl_one
    obtain ⟨x1, x2, _⟩ := hx
    have key : ∃ S : Nat, 0 < S ∧ S < 2 ^ 50 ∧ FP.Core.exactSum (FP.Core.decode FP.Core.b32 (jf (ji2f n)).toNat) (FP.Core.decode FP.Core.b32 (jf (jfc 1)).toNat) = .fin false S (-23) := by
      rw [d1, d2]
      refine ⟨(8388608 + T) * 2 ^ (E - 127) + 8388608, by omega, ?_, ?_⟩
      · have : (8388608 + T) * 2 ^ (E - 127) ≤ 16777216 * 2 ^ 24 := Nat.mul_le_mul (by omega) (Nat.pow_le_pow_right (by omega) (by omega))
        have e2 : 16777216 * 2 ^ 24 + 8388608 < 2 ^ 50 := by decide
        omega
      · have hm : min ((E : Int) - 150) (((127 : Nat) : Int) - 150) = -23 := by omega
        have hs : FP.Core.sumUnits false (8388608 + T) ((E : Int) - 150) false (8388608 + 0) (((127 : Nat) : Int) - 150) (-23) = (((8388608 + T) * 2 ^ (E - 127) + 8388608 : Nat) : Int) := by
          show (((8388608 + T) * 2 ^ ((E : Int) - 150 - -23).toNat : Nat) : Int) + (((8388608 + 0) * 2 ^ (((127 : Nat) : Int) - 150 - -23).toNat : Nat) : Int) = _
          rw [show ((E : Int) - 150 - -23).toNat = E - 127 by omega, show (((127 : Nat) : Int) - 150 - -23).toNat = 0 by omega]
          omega
        show FP.Core.Datum.fin (FP.Core.sumSign false false (FP.Core.sumUnits false (8388608 + T) ((E : Int) - 150) false (8388608 + 0) (((127 : Nat) : Int) - 150) (min ((E : Int) - 150) (((127 : Nat) : Int) - 150)))) (FP.Core.sumUnits false (8388608 + T) ((E : Int) - 150) false (8388608 + 0) (((127 : Nat) : Int) - 150) (min ((E : Int) - 150) (((127 : Nat) : Int) - 150))).natAbs (min ((E : Int) - 150) (((127 : Nat) : Int) - 150)) = _
        rw [hm, hs]
        have hsg : FP.Core.sumSign false false (((8388608 + T) * 2 ^ (E - 127) + 8388608 : Nat) : Int) = false := by
          unfold FP.Core.sumSign
          rw [if_neg (by omega)]
          exact decide_eq_false (by omega)
        rw [hsg, Int.natAbs_natCast]
    obtain ⟨S, s0, s1, hS⟩ := key
    have hl : -((0 : Nat) : Int) ≤ FP.Core.leading S 1 := ld_lo s0 (by omega) (by rw [Nat.pow_zero]; omega)
    have hh : FP.Core.leading S 1 < ((50 : Nat) : Int) := ld_hi s0 (by omega) (by rw [Nat.one_mul]; exact s1)
    obtain ⟨c, q, h1, h2, h3, h4⟩ := rr (a := S) (b := 1) (e := -23) s0 (by omega) (by omega) (by omega)
    have e : FP.fadd (jf (ji2f n)) (jf (jfc 1)) = UInt32.ofNat (FP.Core.encode FP.Core.b32 (.fin false c q)) := by
      show UInt32.ofNat (FP.Core.encode FP.Core.b32 (FP.Core.round FP.Core.b32 (FP.Core.exactSum (FP.Core.decode FP.Core.b32 (jf (ji2f n)).toNat) (FP.Core.decode FP.Core.b32 (jf (jfc 1)).toNat)))) = _
      rw [hS]
      show UInt32.ofNat (FP.Core.encode FP.Core.b32 (FP.Core.roundRatio FP.Core.b32 false S 1 (-23))) = _
      rw [h1]
    have nn := nf_of ⟨h2, h3⟩ (show -149 ≤ q ∧ q ≤ 104 by omega)
    unfold jfadd
    rw [e]
    exact ⟨⟨_, _, nn.1, by omega, by omega⟩, nn.2⟩
/-- a float that is 0 or of middle size -/
def fok (z : Int) : Prop := z = 0 ∨ ∃ E T, nf z E T ∧ 60 ≤ E ∧ E ≤ 190
theorem fl_div {n y : Int} {E T : Nat} (h : 0 ≤ n ∧ n < 16777216) (hy : nf y E T) (hE : 100 ≤ E ∧ E ≤ 160) : fok (jfdiv (ji2f n) y) ∧ jnn (FP.fdiv (jf (ji2f n)) (jf y)) := by
  have d2 := nf_dec hy
  by_cases h0 : n = 0
  · subst h0
    have d1 : FP.Core.decode FP.Core.b32 (jf (ji2f 0)).toNat = .fin false 0 (-149) := by decide +kernel
    have e : FP.fdiv (jf (ji2f 0)) (jf y) = 0 := by
      show UInt32.ofNat (FP.Core.encode FP.Core.b32 (FP.Core.quotient FP.Core.b32 (FP.Core.decode FP.Core.b32 (jf (ji2f 0)).toNat) (FP.Core.decode FP.Core.b32 (jf y).toNat))) = _
      rw [d1, d2]
      show UInt32.ofNat (FP.Core.encode FP.Core.b32 (if 8388608 + T = 0 then _ else FP.Core.roundRatio FP.Core.b32 (false != false) 0 (8388608 + T) (-149 - ((E : Int) - 150)))) = _
      rw [if_neg (by omega)]
      show UInt32.ofNat (FP.Core.encode FP.Core.b32 (.fin false 0 FP.Core.b32.qmin)) = 0
      decide +kernel
    unfold jfdiv
    rw [e]
    exact ⟨Or.inl rfl, by show (0 : UInt32) &&& 0x7fffffff ≤ 0x7f800000; decide⟩
  · obtain ⟨E1, T1, hx, hE1⟩ := fl_i2f (n := n) (by omega)
    have d1 := nf_dec hx
    obtain ⟨x1, x2, _⟩ := hx
    obtain ⟨y1, y2, _⟩ := hy
    have hl : -((1 : Nat) : Int) ≤ FP.Core.leading (8388608 + T1) (8388608 + T) := ld_lo (by omega) (by omega) (by omega)
    have hh : FP.Core.leading (8388608 + T1) (8388608 + T) < ((1 : Nat) : Int) := ld_hi (by omega) (by omega) (by omega)
    obtain ⟨c, q, h1, h2, h3, h4⟩ := rr (a := 8388608 + T1) (b := 8388608 + T) (e := ((E1 : Int) - 150) - ((E : Int) - 150)) (by omega) (by omega) (by omega) (by omega)
    have e : FP.fdiv (jf (ji2f n)) (jf y) = UInt32.ofNat (FP.Core.encode FP.Core.b32 (.fin false c q)) := by
      show UInt32.ofNat (FP.Core.encode FP.Core.b32 (FP.Core.quotient FP.Core.b32 (FP.Core.decode FP.Core.b32 (jf (ji2f n)).toNat) (FP.Core.decode FP.Core.b32 (jf y).toNat))) = _
      rw [d1, d2]
      show UInt32.ofNat (FP.Core.encode FP.Core.b32 (if 8388608 + T = 0 then _ else FP.Core.roundRatio FP.Core.b32 (false != false) (8388608 + T1) (8388608 + T) (((E1 : Int) - 150) - ((E : Int) - 150)))) = _
      rw [if_neg (by omega), show (false != false) = false from rfl, h1]
    have nn := nf_of ⟨h2, h3⟩ (show -149 ≤ q ∧ q ≤ 104 by omega)
    unfold jfdiv
    rw [e]
    exact ⟨Or.inr ⟨_, _, nn.1, by omega, by omega⟩, nn.2⟩
/-- comparing -/
theorem fl_cmp_in (op : CmpOp) (x y : Int) : inR (jfcmp op x y) := inR_i32 _
theorem ord_def {x y : Int} {E T E' T' : Nat} (hx : nf x E T) (hy : nf y E' T') : FP.fcmp (jf x) (jf y) = some (compare ((((8388608 + T) * 2 ^ ((E : Int) - 150 - min ((E : Int) - 150) ((E' : Int) - 150)).toNat : Nat)) : Int) ((((8388608 + T') * 2 ^ ((E' : Int) - 150 - min ((E : Int) - 150) ((E' : Int) - 150)).toNat : Nat)) : Int)) := by
  show FP.Core.order (FP.Core.decode FP.Core.b32 (jf x).toNat) (FP.Core.decode FP.Core.b32 (jf y).toNat) = _
  rw [nf_dec hx, nf_dec hy]
  rfl
theorem icmp_lt {a b : Int} (h : a < b) : compare a b = Ordering.lt := by
  show compareOfLessAndEq a b = _
  unfold compareOfLessAndEq
  rw [if_pos h]
theorem icmp_gt {a b : Int} (h : b < a) : compare a b = Ordering.gt := by
  show compareOfLessAndEq a b = _
  unfold compareOfLessAndEq
  rw [if_neg (by omega), if_neg (by omega)]
theorem icmp_eq (a : Int) : compare a a = Ordering.eq := by
  show compareOfLessAndEq a a = _
  unfold compareOfLessAndEq
  rw [if_neg (by omega), if_pos rfl]
theorem fl_lt (op : CmpOp) {x y : Int} {E T E' T' : Nat} (hx : nf x E T) (hy : nf y E' T') (h : E < E') : jfcmp op x y = -1 := by
  have hd := ord_def hx hy
  rw [show ((E : Int) - 150 - min ((E : Int) - 150) ((E' : Int) - 150)).toNat = 0 by omega, show ((E' : Int) - 150 - min ((E : Int) - 150) ((E' : Int) - 150)).toNat = (E' - E - 1) + 1 by omega, icmp_lt (by
    have h1 : 1 ≤ 2 ^ (E' - E - 1) := Nat.two_pow_pos _
    have h2 : (8388608 + T') * 1 ≤ (8388608 + T') * 2 ^ (E' - E - 1) := Nat.mul_le_mul_left _ h1
    rw [Nat.pow_succ, ← Nat.mul_assoc]
    have := hx.2.1
    omega)] at hd
  unfold jfcmp
  rw [hd]
  rfl
theorem fl_gt (op : CmpOp) {x y : Int} {E T E' T' : Nat} (hx : nf x E T) (hy : nf y E' T') (h : E' < E) : jfcmp op x y = 1 := by
  have hd := ord_def hx hy
  rw [show ((E' : Int) - 150 - min ((E : Int) - 150) ((E' : Int) - 150)).toNat = 0 by omega, show ((E : Int) - 150 - min ((E : Int) - 150) ((E' : Int) - 150)).toNat = (E - E' - 1) + 1 by omega, icmp_gt (by
    have h1 : 1 ≤ 2 ^ (E - E' - 1) := Nat.two_pow_pos _
    have h2 : (8388608 + T) * 1 ≤ (8388608 + T) * 2 ^ (E - E' - 1) := Nat.mul_le_mul_left _ h1
    rw [Nat.pow_succ, ← Nat.mul_assoc]
    have := hy.2.1
    omega)] at hd
  unfold jfcmp
  rw [hd]
  rfl
theorem fl_ge (op : CmpOp) {x y : Int} {E T : Nat} (hx : nf x E T) (hy : nf y E 0) : 0 ≤ jfcmp op x y := by
  have hd := ord_def hx hy
  rw [show ((E : Int) - 150 - min ((E : Int) - 150) ((E : Int) - 150)).toNat = 0 by omega] at hd
  unfold jfcmp
  rw [hd]
  by_cases h0 : T = 0
  · subst h0
    rw [icmp_eq]
    show (0 : Int) ≤ (0 : Int32).toInt
    decide
  · rw [icmp_gt (by omega)]
    show (0 : Int) ≤ (1 : Int32).toInt
    decide
theorem fl_self (op : CmpOp) {x : Int} {E T : Nat} (hx : nf x E T) : jfcmp op x x = 0 := by
  have hd := ord_def hx hx
  unfold jfcmp
  rw [hd, icmp_eq]
  rfl
theorem fl_pos {x : Int} {E T : Nat} (hx : nf x E T) : 0 < jfcmp .l x (jfc 0) := by
  have d1 := nf_dec hx
  have d2 : FP.Core.decode FP.Core.b32 (jf (jfc 0)).toNat = .fin false 0 (-149) := by decide +kernel
  have hd : FP.fcmp (jf x) (jf (jfc 0)) = some Ordering.gt := by
    show FP.Core.order (FP.Core.decode FP.Core.b32 (jf x).toNat) (FP.Core.decode FP.Core.b32 (jf (jfc 0)).toNat) = _
    rw [d1, d2]
    show some (compare ((((8388608 + T) * 2 ^ _ : Nat)) : Int) (((0 * 2 ^ _ : Nat)) : Int)) = _
    rw [Nat.zero_mul, icmp_gt]
    have : 0 < (8388608 + T) * 2 ^ ((E : Int) - 150 - min ((E : Int) - 150) (-149)).toNat := Nat.mul_pos (by omega) (Nat.two_pow_pos _)
    omega
  unfold jfcmp
  rw [hd]
  decide
/-- halving and doubling -/
theorem fl_half {x : Int} {E T : Nat} (hx : nf x E T) (hE : 2 ≤ E) : nf (jfdiv x (jfc 2)) (E - 1) T ∧ jnn (FP.fdiv (jf x) (jf (jfc 2))) := by
  have d1 := nf_dec hx
  have d2 := nf_dec fl_two
  obtain ⟨x1, x2, _⟩ := hx
  have hl := ld_ge (a := 8388608 + T) (b := 8388608 + 0) (l := 0) (by omega) (by omega) (by omega)
  have hh := ld_hi (a := 8388608 + T) (b := 8388608 + 0) (u := 1) (by omega) (by omega) (by omega)
  have h1 : FP.Core.roundRatio FP.Core.b32 false (8388608 + T) (8388608 + 0) (((E : Int) - 150) - (((128 : Nat) : Int) - 150)) = .fin false (8388608 + T) ((E : Int) - 151) := by
    have hd : FP.Core.unitsDen (8388608 + 0) (((E : Int) - 150) - (((128 : Nat) : Int) - 150)) ((E : Int) - 151) = 8388608 := by
      show (8388608 + 0) * 2 ^ ((E : Int) - 151 - (((E : Int) - 150) - (((128 : Nat) : Int) - 150))).toNat = _
      rw [show ((E : Int) - 151 - (((E : Int) - 150) - (((128 : Nat) : Int) - 150))).toNat = 0 by omega]
    have hn : FP.Core.unitsNum (8388608 + T) (((E : Int) - 150) - (((128 : Nat) : Int) - 150)) ((E : Int) - 151) = (8388608 + T) * 8388608 := by
      show (8388608 + T) * 2 ^ ((((E : Int) - 150) - (((128 : Nat) : Int) - 150)) - ((E : Int) - 151)).toNat = _
      rw [show ((((E : Int) - 150) - (((128 : Nat) : Int) - 150)) - ((E : Int) - 151)).toNat = 23 by omega]
    exact rrx (by omega) (by omega) (by omega) (by rw [hd]; omega) (by rw [hd, hn]) (by omega)
  have e : FP.fdiv (jf x) (jf (jfc 2)) = UInt32.ofNat (FP.Core.encode FP.Core.b32 (.fin false (8388608 + T) ((E : Int) - 151))) := by
    show UInt32.ofNat (FP.Core.encode FP.Core.b32 (FP.Core.quotient FP.Core.b32 (FP.Core.decode FP.Core.b32 (jf x).toNat) (FP.Core.decode FP.Core.b32 (jf (jfc 2)).toNat))) = _
    rw [d1, d2]
    show UInt32.ofNat (FP.Core.encode FP.Core.b32 (if 8388608 + 0 = 0 then (if 8388608 + T = 0 then FP.Core.Datum.nan else FP.Core.Datum.inf (false != false)) else FP.Core.roundRatio FP.Core.b32 (false != false) (8388608 + T) (8388608 + 0) (((E : Int) - 150) - (((128 : Nat) : Int) - 150)))) = _
    rw [if_neg (by omega), show (false != false) = false from rfl, h1]
  have nn := nf_of (c := 8388608 + T) (q := (E : Int) - 151) (by omega) (by omega)
  rw [show ((E : Int) - 151 + 150).toNat = E - 1 by omega, show 8388608 + T - 8388608 = T by omega] at nn
  unfold jfdiv
  rw [e]
  exact nn
theorem fl_mul {x y : Int} {E T F : Nat} (hx : nf x E T) (hy : nf y F 0) (hE : 128 ≤ E + F ∧ E + F ≤ 381) : nf (jfmul x y) (E + F - 127) T ∧ jnn (FP.fmul (jf x) (jf y)) := by
  have d1 := nf_dec hx
  have d2 := nf_dec hy
  obtain ⟨x1, x2, _⟩ := hx
  obtain ⟨y1, _, _⟩ := hy
  have pp : ((8388608 + T) * (8388608 + 0)) = (8388608 + T) * 8388608 := rfl
  have hl := ld_ge (a := (8388608 + T) * 8388608) (b := 1) (l := 46) (by omega) (by omega) (by rw [Nat.one_mul, show 2 ^ 46 = 8388608 * 8388608 from by decide]; omega)
  have hh := ld_hi (a := (8388608 + T) * 8388608) (b := 1) (u := 47) (by omega) (by omega) (by rw [Nat.one_mul, show 2 ^ 47 = 16777216 * 8388608 from by decide]; omega)
  have h1 : FP.Core.roundRatio FP.Core.b32 false ((8388608 + T) * 8388608) 1 (((E : Int) - 150) + ((F : Int) - 150)) = .fin false (8388608 + T) ((E : Int) + F - 277) := by
    have hd : FP.Core.unitsDen 1 (((E : Int) - 150) + ((F : Int) - 150)) ((E : Int) + F - 277) = 8388608 := by
      show 1 * 2 ^ ((E : Int) + F - 277 - (((E : Int) - 150) + ((F : Int) - 150))).toNat = _
      rw [show ((E : Int) + F - 277 - (((E : Int) - 150) + ((F : Int) - 150))).toNat = 23 by omega]
    have hn : FP.Core.unitsNum ((8388608 + T) * 8388608) (((E : Int) - 150) + ((F : Int) - 150)) ((E : Int) + F - 277) = (8388608 + T) * 8388608 := by
      show (8388608 + T) * 8388608 * 2 ^ ((((E : Int) - 150) + ((F : Int) - 150)) - ((E : Int) + F - 277)).toNat = _
      rw [show ((((E : Int) - 150) + ((F : Int) - 150)) - ((E : Int) + F - 277)).toNat = 0 by omega, Nat.pow_zero, Nat.mul_one]
    exact rrx (by omega) (by omega) (by omega) (by rw [hd]; omega) (by rw [hd, hn]) (by omega)
  have e : FP.fmul (jf x) (jf y) = UInt32.ofNat (FP.Core.encode FP.Core.b32 (.fin false (8388608 + T) ((E : Int) + F - 277))) := by
    show UInt32.ofNat (FP.Core.encode FP.Core.b32 (FP.Core.round FP.Core.b32 (FP.Core.exactProduct (FP.Core.decode FP.Core.b32 (jf x).toNat) (FP.Core.decode FP.Core.b32 (jf y).toNat)))) = _
    rw [d1, d2]
    show UInt32.ofNat (FP.Core.encode FP.Core.b32 (FP.Core.roundRatio FP.Core.b32 (false != false) ((8388608 + T) * 8388608) 1 (((E : Int) - 150) + ((F : Int) - 150)))) = _
    rw [show (false != false) = false from rfl, h1]
  have nn := nf_of (c := 8388608 + T) (q := (E : Int) + F - 277) (by omega) (by omega)
  rw [show ((E : Int) + F - 277 + 150).toNat = E + F - 127 by omega, show 8388608 + T - 8388608 = T by omega] at nn
  unfold jfmul
  rw [e]
  exact nn
