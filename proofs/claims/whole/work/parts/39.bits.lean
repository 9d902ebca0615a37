/-! the lowest bit, and what is left of a row of bits without it -/
theorem bt_pred (r : Int) (j : Nat) : bt (r - 1) j = (BitVec.ofInt 32 r - 1).getLsbD j := by
  unfold bt
  congr 1
  apply BitVec.eq_of_toNat_eq
  rw [BitVec.toNat_sub, BitVec.toNat_ofInt, BitVec.toNat_ofInt]
  have e1 : (1 : BitVec 32).toNat = 1 := rfl
  rw [e1]
  omega
theorem bt_neg (r : Int) {j : Nat} (hj : j < 32) : bt (-r) j = !(bt (r - 1) j) := by
  have e : BitVec.ofInt 32 (-r) = ~~~(BitVec.ofInt 32 (r - 1)) := by
    apply BitVec.eq_of_toNat_eq
    rw [BitVec.toNat_not, BitVec.toNat_ofInt, BitVec.toNat_ofInt]
    omega
  unfold bt
  rw [e, BitVec.getLsbD_not]
  simp [hj]
theorem low_bits (n : Nat) (t : Nat) (h : ∀ j, j < t → n.testBit j = false) (ht : n.testBit t = true) : ∀ j, (n - 1).testBit j = if j < t then true else if j = t then false else n.testBit j := by
  have e0 : n % 2 ^ t = 0 := by
    apply Nat.eq_of_testBit_eq
    intro j
    rw [Nat.testBit_mod_two_pow, Nat.zero_testBit]
    by_cases hj : j < t
    · rw [h j hj, Bool.and_false]
    · simp [hj]
  have e1 : n % 2 ^ (t + 1) = 2 ^ t := by
    have hb : n / 2 ^ t % 2 = 1 := by rw [Nat.testBit_eq_decide_div_mod_eq] at ht; exact of_decide_eq_true ht
    rw [Nat.pow_succ, Nat.mod_mul, e0, hb]
    omega
  have e2 : n = 2 ^ (t + 1) * (n / 2 ^ (t + 1)) + 2 ^ t := by
    have := Nat.div_add_mod n (2 ^ (t + 1))
    rw [e1] at this
    exact this.symm
  have pos : 0 < 2 ^ t := Nat.two_pow_pos t
  have l1 : 2 ^ t < 2 ^ (t + 1) := by rw [Nat.pow_succ]; omega
  have l2 : 2 ^ t - 1 < 2 ^ (t + 1) := by omega
  have e3 : n - 1 = 2 ^ (t + 1) * (n / 2 ^ (t + 1)) + (2 ^ t - 1) := by omega
  intro j
  have a1 : n.testBit j = if j < t + 1 then (2 ^ t).testBit j else (n / 2 ^ (t + 1)).testBit (j - (t + 1)) := by
    conv => lhs; rw [e2]
    exact Nat.testBit_two_pow_mul_add _ l1 j
  have a2 : (n - 1).testBit j = if j < t + 1 then (2 ^ t - 1).testBit j else (n / 2 ^ (t + 1)).testBit (j - (t + 1)) := by
    rw [e3]
    exact Nat.testBit_two_pow_mul_add _ l2 j
  rw [a2]
  by_cases h1 : j < t + 1
  · rw [if_pos h1, Nat.testBit_two_pow_sub_one]
    by_cases h2 : j < t
    · simp [h2]
    · have : j = t := by omega
      simp [this]
  · rw [if_neg h1, if_neg (by omega), if_neg (by omega), a1, if_neg h1]
/-- t is the lowest bit of r -/
def lowb (r : Int) (t : Nat) : Prop := t < 32 ∧ bt r t = true ∧ ∀ j, j < t → bt r j = false
theorem lowb_ex {r : Int} (hr : inR r) (h : r ≠ 0) : ∃ t, lowb r t := by
  have sp := ffst_spec (fun j => bt r j.toNat) 32 0
  have hlt : ffst (fun j => bt r j.toNat) 32 0 < 32 := by
    rcases Int.lt_or_le (ffst (fun j => bt r j.toNat) 32 0) 32 with hc | hc
    · exact hc
    · exfalso
      apply h
      refine eq0_of_bt hr (fun k hk => ?_)
      have := sp.1 (k : Int) (by omega) (by omega)
      simpa using this
  refine ⟨(ffst (fun j => bt r j.toNat) 32 0).toNat, by omega, sp.2.2.2 (by omega), fun j hj => ?_⟩
  have := sp.1 (j : Int) (by omega) (by omega)
  simpa using this
theorem bt_pred_low {r : Int} {t : Nat} (h : lowb r t) (j : Nat) (hj : j < 32) : bt (r - 1) j = if j < t then true else if j = t then false else bt r j := by
  have hp : 0 < (BitVec.ofInt 32 r).toNat := by
    rcases Nat.eq_zero_or_pos (BitVec.ofInt 32 r).toNat with hc | hc
    · have h2 := h.2.1
      unfold bt at h2
      rw [BitVec.getLsbD, hc] at h2
      simp at h2
    · exact hc
  have e : (BitVec.ofInt 32 r - 1).toNat = (BitVec.ofInt 32 r).toNat - 1 := by
    have hl := (BitVec.ofInt 32 r).isLt
    rw [BitVec.toNat_sub]
    have e1 : (1 : BitVec 32).toNat = 1 := rfl
    rw [e1]
    omega
  rw [bt_pred, BitVec.getLsbD, e]
  exact low_bits (BitVec.ofInt 32 r).toNat t (fun j hj => h.2.2 j hj) h.2.1 j
theorem bt_clear {r : Int} {t : Nat} (h : lowb r t) (j : Nat) : bt (jand r (r - 1)) j = (bt r j && decide (j ≠ t)) := by
  by_cases hj : j < 32
  · rw [bt_and, bt_pred_low h j hj]
    by_cases h1 : j < t
    · rw [if_pos h1, h.2.2 j h1]; rfl
    · rw [if_neg h1]
      by_cases h2 : j = t
      · simp [h2]
      · simp [h2]
  · rw [bt_hi _ (by omega), bt_hi _ (by omega)]; rfl
theorem low_and {r : Int} {t : Nat} (h : lowb r t) : jand r (-r) = jshl 1 (t : Int) := by
  refine bt_ext (inR_and _ _) (inR_shl _ _) (fun j hj => ?_)
  rw [bt_and, bt_neg r hj, bt_pred_low h j hj, bt_bit h.1]
  by_cases h1 : j < t
  · rw [if_pos h1, h.2.2 j h1]
    simp
    omega
  · rw [if_neg h1]
    by_cases h2 : j = t
    · subst h2
      simp [h.2.1]
    · rw [if_neg h2]
      simp [h2]
/-- the JDK's count of bits -/
def jpop (a1 : Int) : Int := (jand (((jand (((jand (a1 - (jand (jushr a1 1) 1431655765)) 858993459) + (jand (jushr (a1 - (jand (jushr a1 1) 1431655765)) 2) 858993459)) + (jushr ((jand (a1 - (jand (jushr a1 1) 1431655765)) 858993459) + (jand (jushr (a1 - (jand (jushr a1 1) 1431655765)) 2) 858993459)) 4)) 252645135) + (jushr (jand (((jand (a1 - (jand (jushr a1 1) 1431655765)) 858993459) + (jand (jushr (a1 - (jand (jushr a1 1) 1431655765)) 2) 858993459)) + (jushr ((jand (a1 - (jand (jushr a1 1) 1431655765)) 858993459) + (jand (jushr (a1 - (jand (jushr a1 1) 1431655765)) 2) 858993459)) 4)) 252645135) 8)) + (jushr ((jand (((jand (a1 - (jand (jushr a1 1) 1431655765)) 858993459) + (jand (jushr (a1 - (jand (jushr a1 1) 1431655765)) 2) 858993459)) + (jushr ((jand (a1 - (jand (jushr a1 1) 1431655765)) 858993459) + (jand (jushr (a1 - (jand (jushr a1 1) 1431655765)) 2) 858993459)) 4)) 252645135) + (jushr (jand (((jand (a1 - (jand (jushr a1 1) 1431655765)) 858993459) + (jand (jushr (a1 - (jand (jushr a1 1) 1431655765)) 2) 858993459)) + (jushr ((jand (a1 - (jand (jushr a1 1) 1431655765)) 858993459) + (jand (jushr (a1 - (jand (jushr a1 1) 1431655765)) 2) 858993459)) 4)) 252645135) 8)) 16)) 63)
theorem w_bitCount {d : Nat} {a : Int} {μ : JM} {Q : JQ} (h : Q (jpop a) μ) : wp true d 320 0 [(0, a)] [] μ Q := s_J6_bitCount_0f7a4_0 _ _ _ _ h
theorem jpop_low (t : Nat) (h : t < 32) : jpop (jshl 1 (t : Int) - 1) = (t : Int) := by
  have : ∀ t : Nat, t < 32 → jpop (jshl 1 (t : Int) - 1) = (t : Int) := by decide +kernel
  exact this t h
/-- how many of the twelve bits -/
def pop12 (n : Nat) : Nat := ((List.range 12).filter (fun k => n.testBit k)).length
theorem jpop_set0 : ∀ a : Nat, a < 64 → ∀ c : Nat, c < 64 → jpop ((64 * a + c : Nat) : Int) = (pop12 (64 * a + c) : Int) := by decide +kernel
theorem jpop_set (n : Nat) (h : n < 4096) : jpop (n : Int) = (pop12 n : Int) := by
  have := jpop_set0 (n / 64) (by omega) (n % 64) (by omega)
  rw [show 64 * (n / 64) + n % 64 = n by omega] at this
  exact this
theorem w_lowestBit {d : Nat} {r : Int} {t : Nat} {μ : JM} {Q : JQ} (h : lowb r t) (k : Q (t : Int) μ) : wp true (d + 1) 187 0 [(0, r)] [] μ Q := by
  refine s_X10_lowestBit_0 _ _ _ _ (w_bitCount ?_)
  rw [low_and h, jpop_low t h.1]
  exact k
theorem c_stepsFrom {d : Nat} {x t : Int} {b : BK} {μ : JM} {Q : JQ} (hC : isC μ x b) (hv : vb b) (h0 : 0 ≤ t) (h1 : t < b 5 1) (k : ∀ r, inR r → (∀ j : Nat, j < 32 → bt r j = decide ((j : Int) < b 5 1 ∧ pstep b t j)) → Q r μ) : wp true (d + 1) 35 0 [(12, x), (0, t), (9, 0), (9, 0)] [] μ Q := by
  have hm := vb_m hv
  have hn := vb_n hv
  have tt := isC_t hC h0 h1
  have bt0 := vb_t hv h0 h1
  refine s_X1_stepsFrom_0 _ _ _ _ _ (fup_loop (W := fun i c => wp true (d + 1) 35 4 [(12, x), (0, t), (0, c), (0, i)] [] μ Q) (g := fun c i => if pstep b t i then jor c (jshl 1 i) else c) (fun i c => inR c ∧ ∀ j : Nat, j < 32 → bt c j = decide ((j : Int) < i ∧ pstep b t j)) (lo := 0) (n := b 5 1) (fun i c g0 g1 hI => ?_) (fun i c g0 g1 hI hW => ?_) (nm b) 0 0 (by omega) (nm_eq hv) ⟨⟨by omega, by omega⟩, fun j hj => by rw [bt_zero]; symm; simp; omega⟩ (fun hI => ?_))
  · obtain ⟨n, rfl⟩ := Int.eq_ofNat_of_zero_le g0
    by_cases hp : pstep b t n
    · rw [if_pos hp]
      refine ⟨inR_or _ _, fun j hj => ?_⟩
      rw [bt_or, hI.2 j hj, bt_bit (by omega)]
      by_cases hjn : j = n
      · subst hjn
        have : (j : Int) < (j : Int) + 1 := by omega
        simp [hp, this]
      · have : ((j : Int) < (n : Int) + 1) ↔ ((j : Int) < n) := by omega
        simp [hjn, this]
    · rw [if_neg hp]
      refine ⟨hI.1, fun j hj => ?_⟩
      rw [hI.2 j hj]
      by_cases hjn : j = n
      · subst hjn
        simp [hp]
      · have : ((j : Int) < (n : Int) + 1) ↔ ((j : Int) < n) := by omega
        simp [this]
  · have ti := isC_t hC g0 g1
    have bi := vb_t hv g0 g1
    refine s_X1_stepsFrom_4 _ _ _ _ _ _ _ ?_
    rw [isC_m hC, ti.1, tt.2.1, ti.2.2.1, tt.2.2.1, tt.2.2.2, ti.2.2.2]
    refine ⟨⟨⟨by omega, by omega⟩, ⟨by omega, by omega⟩⟩, fun h => absurd h (by omega), fun _ => ⟨by omega, by omega, by omega, by omega, by omega, fun h => ?_, fun h => ⟨by omega, by omega, by omega, by omega, ⟨⟨by omega, by omega⟩, ⟨by omega, by omega⟩⟩, fun h2 => ?_, fun h2 => ⟨by omega, by omega, by omega, by omega, ?_⟩⟩⟩⟩
    · rw [if_neg (fun hp => h hp.1)] at hW
      exact hW
    · rw [if_neg (fun hp => by have := hp.2.1; omega)] at hW
      exact hW
    · refine w_fits hC hv (by omega) (by omega) (fun hf => ⟨by decide, fun h => absurd h (by decide), fun _ => ?_⟩) (fun hf => ⟨by decide, fun _ => ?_, fun h => absurd rfl h⟩)
      · rw [if_pos ⟨by omega, by omega, hf⟩] at hW
        exact hW
      · rw [if_neg (fun hp => hf hp.2.2)] at hW
        exact hW
  · refine s_X1_stepsFrom_4 _ _ _ _ _ _ _ ?_
    rw [isC_m hC]
    exact ⟨⟨⟨by omega, by omega⟩, ⟨by omega, by omega⟩⟩, fun _ => k _ hI.1 hI.2, fun h => absurd h (by omega)⟩
