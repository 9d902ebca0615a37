/-! floats: their bits, found by halving and doubling -/
theorem fl_big : nf 1258291200 150 0 := ⟨by decide, by decide, by decide⟩
theorem f2i_nf {z : Int} {E T n : Nat} (hz : nf z E T) (hE : E < 150) (hn : 8388608 + T = n * 2 ^ (150 - E)) : jf2i z = (n : Int) := by
  have d := nf_dec hz
  have hT := hz.2.1
  have np : 0 < 2 ^ (150 - E) := Nat.two_pow_pos _
  have nl : n ≤ n * 2 ^ (150 - E) := Nat.le_mul_of_pos_right _ np
  have ht : FP.Core.truncate false (8388608 + T) ((E : Int) - 150) = (n : Int) := by
    show (((8388608 + T) * 2 ^ ((E : Int) - 150).toNat / 2 ^ (-((E : Int) - 150)).toNat : Nat) : Int) = (n : Int)
    rw [show ((E : Int) - 150).toNat = 0 by omega, show (-((E : Int) - 150)).toNat = 150 - E by omega, Nat.pow_zero, Nat.mul_one, hn, Nat.mul_div_cancel _ np]
  show (Int32.ofInt (FP.Core.toInt (-2 ^ 31) (2 ^ 31 - 1) (FP.Core.decode FP.Core.b32 (jf z).toNat))).toInt = _
  rw [d]
  show (Int32.ofInt (max (-2 ^ 31) (min (2 ^ 31 - 1) (FP.Core.truncate false (8388608 + T) ((E : Int) - 150))))).toInt = _
  rw [ht, show max (-2 ^ 31) (min (2 ^ 31 - 1) (n : Int)) = (n : Int) by omega, i32_z ⟨by omega, by omega⟩]
theorem fl_tail {x : Int} {T : Nat} (hx : nf x 127 T) : jf2i (jfmul (jfsub x (jfc 1)) 1258291200) = (T : Int) ∧ jnn (FP.fsub (jf x) (jf (jfc 1))) ∧ jnn (FP.fmul (jf (jfsub x (jfc 1))) (jf 1258291200)) := by
  by_cases h0 : T = 0
  · subst h0
    have ex : x = 1065353216 := hx.2.2
    subst ex
    refine ⟨by decide +kernel, ?_, ?_⟩
    · show FP.fsub (jf 1065353216) (jf (jfc 1)) &&& 0x7fffffff ≤ 0x7f800000
      decide +kernel
    · show FP.fmul (jf (jfsub 1065353216 (jfc 1))) (jf 1258291200) &&& 0x7fffffff ≤ 0x7f800000
      decide +kernel
  · have d1 := nf_dec hx
    have d2 := nf_dec fl_one
    have hT := hx.2.1
    have s := ld_spec (a := T) (b := 1) (by omega) (by omega)
    have hl : -((0 : Nat) : Int) ≤ FP.Core.leading T 1 := ld_lo (by omega) (by omega) (by rw [Nat.pow_zero]; omega)
    have hh : FP.Core.leading T 1 < ((23 : Nat) : Int) := ld_hi (by omega) (by omega) (by show T < 1 * 8388608; omega)
    obtain ⟨j, hj⟩ : ∃ j : Nat, FP.Core.leading T 1 = (j : Int) := ⟨(FP.Core.leading T 1).toNat, by omega⟩
    rw [hj, show (-(j : Int)).toNat = 0 by omega, show (-((j : Int) + 1)).toNat = 0 by omega, show ((j : Int) + 1).toNat = j + 1 by omega, show ((j : Int)).toNat = j from rfl, Nat.pow_zero, Nat.mul_one, Nat.one_mul, Nat.one_mul] at s
    have c1 : 8388608 ≤ T * 2 ^ (23 - j) := by
      have h1 := Nat.mul_le_mul_right (2 ^ (23 - j)) s.1
      rw [← Nat.pow_add, show j + (23 - j) = 23 by omega] at h1
      exact h1
    have c2 : T * 2 ^ (23 - j) < 16777216 := by
      have h1 := Nat.mul_lt_mul_of_pos_right s.2 (Nat.two_pow_pos (23 - j))
      rw [← Nat.pow_add, show j + 1 + (23 - j) = 24 by omega] at h1
      exact h1
    have h1 : FP.Core.roundRatio FP.Core.b32 false T 1 (-23) = .fin false (T * 2 ^ (23 - j)) ((j : Int) - 46) := by
      have hd : FP.Core.unitsDen 1 (-23) ((j : Int) - 46) = 1 := by
        show 1 * 2 ^ ((j : Int) - 46 - -23).toNat = _
        rw [show ((j : Int) - 46 - -23).toNat = 0 by omega]
      have hn : FP.Core.unitsNum T (-23) ((j : Int) - 46) = T * 2 ^ (23 - j) := by
        show T * 2 ^ (-23 - ((j : Int) - 46)).toNat = _
        rw [show (-23 - ((j : Int) - 46)).toNat = 23 - j by omega]
      exact rrx (by omega) (by omega) (by omega) (by rw [hd]; omega) (by rw [hd, hn, Nat.mul_one]) c2
    have e : FP.fsub (jf x) (jf (jfc 1)) = UInt32.ofNat (FP.Core.encode FP.Core.b32 (.fin false (T * 2 ^ (23 - j)) ((j : Int) - 46))) := by
      show UInt32.ofNat (FP.Core.encode FP.Core.b32 (FP.Core.round FP.Core.b32 (FP.Core.exactSum (FP.Core.decode FP.Core.b32 (jf x).toNat) (FP.Core.negate (FP.Core.decode FP.Core.b32 (jf (jfc 1)).toNat))))) = _
      rw [d1, d2]
      have hs : FP.Core.sumUnits false (8388608 + T) (((127 : Nat) : Int) - 150) true (8388608 + 0) (((127 : Nat) : Int) - 150) (-23) = (T : Int) := by
        show (((8388608 + T) * 2 ^ (((127 : Nat) : Int) - 150 - -23).toNat : Nat) : Int) + -(((8388608 + 0) * 2 ^ (((127 : Nat) : Int) - 150 - -23).toNat : Nat) : Int) = _
        rw [show (((127 : Nat) : Int) - 150 - -23).toNat = 0 by omega]
        omega
      show UInt32.ofNat (FP.Core.encode FP.Core.b32 (FP.Core.round FP.Core.b32 (FP.Core.Datum.fin (FP.Core.sumSign false true (FP.Core.sumUnits false (8388608 + T) (((127 : Nat) : Int) - 150) true (8388608 + 0) (((127 : Nat) : Int) - 150) (-23))) (FP.Core.sumUnits false (8388608 + T) (((127 : Nat) : Int) - 150) true (8388608 + 0) (((127 : Nat) : Int) - 150) (-23)).natAbs (-23)))) = _
      have hsg : FP.Core.sumSign false true (T : Int) = false := by
        unfold FP.Core.sumSign
        rw [if_neg (by omega)]
        exact decide_eq_false (by omega)
      rw [hs, hsg, Int.natAbs_natCast]
      show UInt32.ofNat (FP.Core.encode FP.Core.b32 (FP.Core.roundRatio FP.Core.b32 false T 1 (-23))) = _
      rw [h1]
    have nn := nf_of (c := T * 2 ^ (23 - j)) (q := (j : Int) - 46) ⟨c1, c2⟩ (by omega)
    have ny : nf (jfsub x (jfc 1)) (j + 104) (T * 2 ^ (23 - j) - 8388608) := by
      unfold jfsub
      rw [e]
      rw [show ((j : Int) - 46 + 150).toNat = j + 104 by omega] at nn
      exact nn.1
    have nm := fl_mul ny fl_big (by omega)
    rw [show j + 104 + 150 - 127 = j + 127 by omega] at nm
    refine ⟨f2i_nf nm.1 (by omega) ?_, by rw [e]; exact nn.2, nm.2⟩
    rw [show 150 - (j + 127) = 23 - j by omega]
    omega
theorem bits_put {E T : Nat} (hE : E ≤ 254) (hT : T < 8388608) : jor (jshl (E : Int) 23) (T : Int) = ((E * 8388608 + T : Nat) : Int) := by
  have hs := shl_n (n := E) (k := 23) (by omega) (by rw [show 2 ^ 23 = 8388608 from rfl]; omega)
  rw [show ((23 : Nat) : Int) = 23 from rfl] at hs
  rw [hs]
  refine bt_ext (inR_or _ _) ⟨by omega, by omega⟩ (fun k hk => ?_)
  rw [bt_or, bt_nat k hk, bt_nat k hk, bt_nat k hk, show 2 ^ 23 = 8388608 from rfl]
  have := Nat.two_pow_add_eq_or_of_lt (i := 23) (b := T) (by rw [show 2 ^ 23 = 8388608 from rfl]; exact hT) E
  rw [show 2 ^ 23 = 8388608 from rfl] at this
  rw [show E * 8388608 + T = 8388608 * E + T by omega, this, Nat.testBit_or, Nat.mul_comm]
theorem bo_end {d : Nat} {a1 x : Int} {E T : Nat} {l3 : Int} {μ : JM} {Q : JQ} (hE : 1 ≤ E ∧ E ≤ 254) (hx : nf x 127 T) (hl : 0 ≤ l3 ∧ l3 ≤ 126) (k : Q ((E * 8388608 + T : Nat) : Int) μ) : wp true d 186 42 [(2, a1), (2, x), (0, (E : Int)), (0, l3)] [] μ Q := by
  have t := fl_tail hx
  have hp := bits_put hE.2 hx.2.1
  refine s_X10_bitsOf_42 _ _ _ _ _ _ _ ?_
  rw [t.1, hp]
  exact ⟨⟨⟨by omega, by omega⟩, ⟨by omega, by omega⟩⟩, fun _ => ⟨t.2.1, t.2.2, k⟩, fun _ => ⟨⟨fl_cmp_in _ _ _, ⟨by omega, by omega⟩⟩, fun _ => ⟨t.2.1, t.2.2, k⟩, fun h => absurd (fl_ge _ hx fl_one) h⟩⟩
theorem bo_up {d : Nat} {a1 : Int} {E T : Nat} {μ : JM} {Q : JQ} (hE : 1 ≤ E ∧ E ≤ 254) (hT : T < 8388608) (k : Q ((E * 8388608 + T : Nat) : Int) μ) : ∀ (n E' : Nat) (x l2 l3 : Int), nf x E' T → E' + n = 127 → l2 - n = E → 0 ≤ l3 → l3 + n ≤ 126 → wp true d 186 42 [(2, a1), (2, x), (0, l2), (0, l3)] [] μ Q
  | 0, E', x, l2, l3, hx, h1, h2, h3, h4 => by
    have e1 : E' = 127 := by omega
    have e2 : l2 = (E : Int) := by omega
    subst e1 e2
    exact bo_end hE hx ⟨h3, by omega⟩ k
  | n + 1, E', x, l2, l3, hx, h1, h2, h3, h4 => by
    have m := fl_mul hx fl_two (by have := hx.1; omega)
    rw [show E' + 128 - 127 = E' + 1 by omega] at m
    refine s_X10_bitsOf_42 _ _ _ _ _ _ _ ⟨⟨⟨by omega, by omega⟩, ⟨by omega, by omega⟩⟩, fun h => absurd h (by omega), fun _ => ⟨⟨fl_cmp_in _ _ _, ⟨by omega, by omega⟩⟩, fun h => absurd h (by rw [fl_lt .g hx fl_one (by omega)]; decide), fun _ => ⟨m.2, bo_up hE hT k n (E' + 1) _ _ _ m.1 (by omega) (by omega) (by omega) (by omega)⟩⟩⟩
theorem bo_down {d : Nat} {a1 : Int} {E T : Nat} {μ : JM} {Q : JQ} (hE : 1 ≤ E ∧ E ≤ 254) (hT : T < 8388608) (k : Q ((E * 8388608 + T : Nat) : Int) μ) : ∀ (n E' : Nat) (x l2 l3 : Int), nf x E' T → E' = 127 + n → l2 + n = E → 0 ≤ l3 → l3 + n < 126 → wp true d 186 15 [(2, a1), (2, x), (0, l2), (0, l3)] [] μ Q
  | 0, E', x, l2, l3, hx, h1, h2, h3, h4 => by
    have e1 : E' = 127 := by omega
    have e2 : l2 = (E : Int) := by omega
    subst e1 e2
    have go := bo_end (d := d) (a1 := a1) (l3 := 0) hE hx ⟨by omega, by omega⟩ k
    exact s_X10_bitsOf_15 _ _ _ _ _ _ _ ⟨⟨⟨by omega, by omega⟩, ⟨by omega, by omega⟩⟩, fun _ => go, fun _ => ⟨⟨fl_cmp_in _ _ _, ⟨by omega, by omega⟩⟩, fun _ => go, fun h => absurd (by rw [fl_lt .l hx fl_two (by omega)]; decide) h⟩⟩
  | n + 1, E', x, l2, l3, hx, h1, h2, h3, h4 => by
    have m := fl_half hx (by omega)
    have ge : 0 ≤ jfcmp .l x (jfc 2) := by
      by_cases hc : E' = 128
      · subst hc
        exact fl_ge _ hx fl_two
      · rw [fl_gt .l hx fl_two (by omega)]
        decide
    refine s_X10_bitsOf_15 _ _ _ _ _ _ _ ⟨⟨⟨by omega, by omega⟩, ⟨by omega, by omega⟩⟩, fun h => absurd h (by omega), fun _ => ⟨⟨fl_cmp_in _ _ _, ⟨by omega, by omega⟩⟩, fun h => absurd h (by omega), fun _ => ⟨m.2, bo_down hE hT k n (E' - 1) _ _ _ m.1 (by omega) (by omega) (by omega) (by omega)⟩⟩⟩
theorem c_bitsOf {d : Nat} {x : Int} {μ : JM} {Q : JQ} (hx : fok x) (k : Q x μ) : wp true d 186 0 [(2, x), (9, 0), (9, 0), (9, 0)] [] μ Q := by
  rcases hx with h0 | ⟨E, T, hx, h1, h2⟩
  · subst h0
    have e : jfcmp .l 0 (jfc 0) = 0 := by decide +kernel
    refine s_X10_bitsOf_0 _ _ _ _ ?_
    rw [e]
    exact ⟨⟨⟨by omega, by omega⟩, ⟨by omega, by omega⟩⟩, fun h => absurd h (by decide), fun _ => k⟩
  · have hE := hx.1
    have hT := hx.2.1
    rw [hx.2.2] at k
    refine s_X10_bitsOf_0 _ _ _ _ ⟨⟨fl_cmp_in _ _ _, ⟨by omega, by omega⟩⟩, fun _ => ?_, fun h => absurd (fl_pos hx) h⟩
    by_cases hc : E < 127
    · have go := bo_up (d := d) (a1 := x) hE hT k (127 - E) E x 127 0 hx (by omega) (by omega) (by omega) (by omega)
      exact s_X10_bitsOf_15 _ _ _ _ _ _ _ ⟨⟨⟨by omega, by omega⟩, ⟨by omega, by omega⟩⟩, fun _ => go, fun _ => ⟨⟨fl_cmp_in _ _ _, ⟨by omega, by omega⟩⟩, fun _ => go, fun h => absurd (by rw [fl_lt .l hx fl_two (by omega)]; decide) h⟩⟩

    · exact bo_down hE hT k (E - 127) E x 127 0 hx (by omega) (by omega) (by omega) (by omega)
theorem m_bitsOf {d : Nat} {x : Int} {μ : JM} {Q : JQ} (hx : fok x) (k : Q x μ) : wp true (d + 1) 319 0 [(2, x)] [] μ Q := by
  have h0 : jfcmp .l x x = 0 := by
    rcases hx with h0 | ⟨E, T, hx, _⟩
    · subst h0
      decide +kernel
    · exact fl_self _ hx
  have hr : jfraw x = x := by
    have hb : ∃ n : Nat, n < 2147483648 ∧ x = (n : Int) := by
      rcases hx with h0 | ⟨E, T, hx, _, h2⟩
      · exact ⟨0, by omega, h0⟩
      · exact ⟨E * 8388608 + T, by have := hx.2.1; omega, hx.2.2⟩
    obtain ⟨n, hn, rfl⟩ := hb
    show (BitVec.toInt (BitVec.ofNat 32 n)) = (n : Int)
    rw [← BitVec.ofInt_natCast]
    exact bv_inR ⟨by omega, by omega⟩
  refine s_Jxf58ca_floatToIntBits_5c35a_0 _ _ _ _ (s_Jxf58ca_isNaN_12338_0 _ _ _ _ ?_)
  rw [h0]
  exact ⟨Or.inl rfl, fun _ => ⟨by omega, by omega, by decide, fun h => absurd rfl h, fun _ => by rw [hr]; exact k⟩, fun h => absurd rfl h⟩
