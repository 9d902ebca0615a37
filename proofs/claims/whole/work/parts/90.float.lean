/-! floats: small whole numbers and their quotients -/
abbrev D32 : Type := FP.Core.Datum
theorem b32_t : FP.Core.b32.tails = 8388608 := by decide
theorem b32_e : FP.Core.b32.exps = 256 := by decide
theorem b32_q : FP.Core.b32.qmin = -149 := by decide
theorem b32_x : FP.Core.b32.qmax = 104 := by decide
/-- a normal float without sign, as its bits -/
def nf (x : Int) (E T : Nat) : Prop := (1 ≤ E ∧ E ≤ 254) ∧ T < 8388608 ∧ x = ((E * 8388608 + T : Nat) : Int)
theorem fl_dec {E T : Nat} (hE : 1 ≤ E ∧ E ≤ 254) (hT : T < 8388608) : FP.Core.decode FP.Core.b32 (E * 8388608 + T) = .fin false (8388608 + T) ((E : Int) - 150) := by
  have e1 : FP.Core.fieldT FP.Core.b32 (E * 8388608 + T) = T := by
    unfold FP.Core.fieldT
    rw [b32_t]
    omega
  have e2 : FP.Core.fieldE FP.Core.b32 (E * 8388608 + T) = E := by
    unfold FP.Core.fieldE
    rw [b32_t, b32_e]
    omega
  have e3 : FP.Core.fieldS FP.Core.b32 (E * 8388608 + T) = false := by
    unfold FP.Core.fieldS
    rw [b32_t, b32_e, show (E * 8388608 + T) / 8388608 / 256 % 2 = 0 by omega]
    rfl
  unfold FP.Core.decode
  rw [e1, e2, e3, b32_e, b32_t, b32_q, if_neg (by omega), if_neg (by omega)]
  congr 1
  omega
theorem fl_enc {E c : Nat} (hE : 1 ≤ E ∧ E ≤ 254) (hc : 8388608 ≤ c ∧ c < 16777216) : FP.Core.encode FP.Core.b32 (.fin false c ((E : Int) - 150)) = E * 8388608 + (c - 8388608) := by
  show (if c < FP.Core.b32.tails then _ else FP.Core.assemble FP.Core.b32 false (((E : Int) - 150 - FP.Core.b32.qmin).toNat + 1) (c - FP.Core.b32.tails)) = _
  rw [b32_t, if_neg (by omega), b32_q]
  unfold FP.Core.assemble
  rw [b32_e, b32_t, show (((E : Int) - 150 - -149).toNat + 1) = E by omega]
  show (0 * 256 + E) * 8388608 + (c - 8388608) = _
  omega
theorem jf_n {n : Nat} (h : n < 4294967296) : (jf (n : Int)).toNat = n := by
  unfold jf
  rw [show ((n : Int)).toNat = n from rfl, UInt32.toNat_ofNat']
  omega
theorem jb_n {n : Nat} (h : n < 4294967296) : jb (UInt32.ofNat n) = (n : Int) := by
  unfold jb
  rw [UInt32.toNat_ofNat', show n % 2 ^ 32 = n by omega]
theorem nf_dec {x : Int} {E T : Nat} (h : nf x E T) : FP.Core.decode FP.Core.b32 (jf x).toNat = .fin false (8388608 + T) ((E : Int) - 150) := by
  obtain ⟨h1, h2, h3⟩ := h
  subst h3
  rw [jf_n (by omega), fl_dec h1 h2]
theorem jnn_n {n : Nat} (h : n ≤ 2139095040) : jnn (UInt32.ofNat n) := by
  show UInt32.ofNat n &&& 0x7fffffff ≤ 0x7f800000
  rw [UInt32.le_iff_toNat_le, UInt32.toNat_and]
  refine Nat.le_trans Nat.and_le_left ?_
  rw [UInt32.toNat_ofNat', show n % 2 ^ 32 = n by omega]
  exact h
/-- the leading digit -/
theorem ld_spec {a b : Nat} (ha : 0 < a) (hb : 0 < b) : b * 2 ^ (FP.Core.leading a b).toNat ≤ a * 2 ^ (-FP.Core.leading a b).toNat ∧ a * 2 ^ (-(FP.Core.leading a b + 1)).toNat < b * 2 ^ (FP.Core.leading a b + 1).toNat := by
  have a1 := Nat.log2_self_le (show a ≠ 0 by omega)
  have a2 := Nat.lt_log2_self (n := a)
  have b1 := Nat.log2_self_le (show b ≠ 0 by omega)
  have b2 := Nat.lt_log2_self (n := b)
  have hdef : FP.Core.leading a b = if b * 2 ^ ((a.log2 : Int) - (b.log2 : Int)).toNat ≤ a * 2 ^ (-((a.log2 : Int) - (b.log2 : Int))).toNat then (a.log2 : Int) - (b.log2 : Int) else (a.log2 : Int) - (b.log2 : Int) - 1 := rfl
  rw [hdef]
  generalize a.log2 = x at a1 a2
  generalize b.log2 = y at b1 b2
  have pp : ∀ u v w : Nat, u + v = w → 2 ^ w = 2 ^ u * 2 ^ v := fun u v w h => by rw [← h, Nat.pow_add]
  by_cases hc : b * 2 ^ ((x : Int) - (y : Int)).toNat ≤ a * 2 ^ (-((x : Int) - (y : Int))).toNat
  · rw [if_pos hc]
    refine ⟨hc, ?_⟩
    by_cases h : y ≤ x + 1
    · rw [show (-((x : Int) - (y : Int) + 1)).toNat = 0 by omega, show ((x : Int) - (y : Int) + 1).toNat = x + 1 - y by omega, Nat.pow_zero, Nat.mul_one]
      refine Nat.lt_of_lt_of_le a2 ?_
      rw [pp y (x + 1 - y) (x + 1) (by omega)]
      exact Nat.mul_le_mul_right _ b1
    · rw [show ((x : Int) - (y : Int) + 1).toNat = 0 by omega, show (-((x : Int) - (y : Int) + 1)).toNat = y - (x + 1) by omega, Nat.pow_zero, Nat.mul_one]
      refine Nat.lt_of_lt_of_le ?_ b1
      rw [pp (x + 1) (y - (x + 1)) y (by omega)]
      exact Nat.mul_lt_mul_of_pos_right a2 (Nat.two_pow_pos _)
  · rw [if_neg hc]
    refine ⟨?_, ?_⟩
    · by_cases h : y + 1 ≤ x
      · rw [show (-((x : Int) - (y : Int) - 1)).toNat = 0 by omega, show ((x : Int) - (y : Int) - 1).toNat = x - (y + 1) by omega, Nat.pow_zero, Nat.mul_one]
        refine Nat.le_trans ?_ a1
        rw [pp (y + 1) (x - (y + 1)) x (by omega)]
        exact Nat.mul_le_mul_right _ (Nat.le_of_lt b2)
      · rw [show ((x : Int) - (y : Int) - 1).toNat = 0 by omega, show (-((x : Int) - (y : Int) - 1)).toNat = (y + 1) - x by omega, Nat.pow_zero, Nat.mul_one]
        refine Nat.le_trans (Nat.le_of_lt b2) ?_
        rw [pp x (y + 1 - x) (y + 1) (by omega)]
        exact Nat.mul_le_mul_right _ a1
    · rw [show (x : Int) - (y : Int) - 1 + 1 = (x : Int) - (y : Int) by omega]
      exact Nat.lt_of_not_le hc
theorem ld_lo {a b l : Nat} (ha : 0 < a) (hb : 0 < b) (h : b ≤ a * 2 ^ l) : -(l : Int) ≤ FP.Core.leading a b := by
  have s := (ld_spec ha hb).2
  refine Decidable.byContradiction (fun hn => ?_)
  rw [show (FP.Core.leading a b + 1).toNat = 0 by omega, Nat.pow_zero, Nat.mul_one] at s
  have h2 : a * 2 ^ l ≤ a * 2 ^ (-(FP.Core.leading a b + 1)).toNat := Nat.mul_le_mul_left _ (Nat.pow_le_pow_right (by omega) (by omega))
  omega
theorem ld_hi {a b u : Nat} (ha : 0 < a) (hb : 0 < b) (h : a < b * 2 ^ u) : FP.Core.leading a b < (u : Int) := by
  have s := (ld_spec ha hb).1
  refine Decidable.byContradiction (fun hn => ?_)
  rw [show (-FP.Core.leading a b).toNat = 0 by omega, Nat.pow_zero, Nat.mul_one] at s
  have h2 : b * 2 ^ u ≤ b * 2 ^ (FP.Core.leading a b).toNat := Nat.mul_le_mul_left _ (Nat.pow_le_pow_right (by omega) (by omega))
  omega
theorem ld_ge {a b l : Nat} (ha : 0 < a) (hb : 0 < b) (h : b * 2 ^ l ≤ a) : (l : Int) ≤ FP.Core.leading a b := by
  have s := (ld_spec ha hb).2
  refine Decidable.byContradiction (fun hn => ?_)
  have h1 : a ≤ a * 2 ^ (-(FP.Core.leading a b + 1)).toNat := Nat.le_mul_of_pos_right _ (Nat.two_pow_pos _)
  have h2 : b * 2 ^ (FP.Core.leading a b + 1).toNat ≤ b * 2 ^ l := Nat.mul_le_mul_left _ (Nat.pow_le_pow_right (by omega) (by omega))
  omega
/-- the nearest whole number -/
theorem nr_def (n d : Nat) : FP.Core.nearest n d = if 2 * (n % d) < d then n / d else if d < 2 * (n % d) then n / d + 1 else n / d + n / d % 2 := rfl
theorem nr_lo {n d M : Nat} (hd : 0 < d) (h : M * d ≤ n) : M ≤ FP.Core.nearest n d := by
  have : M ≤ n / d := (Nat.le_div_iff_mul_le hd).2 h
  rw [nr_def]
  repeat' split
  all_goals omega
theorem nr_hi {n d M : Nat} (hd : 0 < d) (h : n < M * d) : FP.Core.nearest n d ≤ M := by
  have : n / d < M := (Nat.div_lt_iff_lt_mul hd).2 h
  rw [nr_def]
  repeat' split
  all_goals omega
theorem nr_eq {d M : Nat} (hd : 0 < d) : FP.Core.nearest (M * d) d = M := by
  rw [nr_def, Nat.mul_mod_left, if_pos (by omega), Nat.mul_div_cancel _ hd]
/-- a rounded ratio of no great size is normal -/
theorem rr {a b : Nat} {e : Int} (ha : 0 < a) (hb : 0 < b) (h1 : -126 ≤ FP.Core.leading a b + e) (h2 : FP.Core.leading a b + e ≤ 126) : ∃ c q, FP.Core.roundRatio FP.Core.b32 false a b e = .fin false c q ∧ 8388608 ≤ c ∧ c < 16777216 ∧ (q = FP.Core.leading a b + e - 23 ∨ q = FP.Core.leading a b + e - 22) := by
  have s := ld_spec ha hb
  have hq : FP.Core.quantum FP.Core.b32 a b e = FP.Core.leading a b + e - 23 := by
    show max FP.Core.b32.qmin (FP.Core.leading a b + e - (((24 : Nat) : Int) - 1)) = _
    rw [b32_q]
    omega
  have hr : FP.Core.roundRatio FP.Core.b32 false a b e = FP.Core.settle FP.Core.b32 false (FP.Core.nearest (FP.Core.unitsNum a e (FP.Core.leading a b + e - 23)) (FP.Core.unitsDen b e (FP.Core.leading a b + e - 23))) (FP.Core.leading a b + e - 23) := by
    show (if a = 0 then _ else FP.Core.roundAt FP.Core.b32 false a b e (FP.Core.quantum FP.Core.b32 a b e)) = _
    rw [if_neg (by omega), hq]
    rfl
  generalize FP.Core.leading a b = k at s h1 h2 hr ⊢
  have hn : FP.Core.unitsNum a e (k + e - 23) = a * 2 ^ (23 - k).toNat := by
    show a * 2 ^ (e - (k + e - 23)).toNat = _
    rw [show e - (k + e - 23) = 23 - k by omega]
  have hd : FP.Core.unitsDen b e (k + e - 23) = b * 2 ^ (k - 23).toNat := by
    show b * 2 ^ (k + e - 23 - e).toNat = _
    rw [show k + e - 23 - e = k - 23 by omega]
  rw [hn, hd] at hr
  have dp : 0 < b * 2 ^ (k - 23).toNat := Nat.mul_pos hb (Nat.two_pow_pos _)
  have lo : 8388608 * (b * 2 ^ (k - 23).toNat) ≤ a * 2 ^ (23 - k).toNat := by
    refine Nat.le_of_mul_le_mul_right ?_ (Nat.two_pow_pos k.toNat)
    have e1 : 8388608 * (b * 2 ^ (k - 23).toNat) * 2 ^ k.toNat = b * 2 ^ k.toNat * 2 ^ (23 + (k - 23).toNat) := by
      rw [Nat.pow_add, show 2 ^ 23 = 8388608 from rfl]
      ac_rfl
    have e2 : a * 2 ^ (23 - k).toNat * 2 ^ k.toNat = a * 2 ^ (-k).toNat * 2 ^ (23 + (k - 23).toNat) := by
      rw [Nat.mul_assoc, ← Nat.pow_add, Nat.mul_assoc, ← Nat.pow_add]
      congr 2
      omega
    rw [e1, e2]
    exact Nat.mul_le_mul_right _ s.1
  have hi : a * 2 ^ (23 - k).toNat < 16777216 * (b * 2 ^ (k - 23).toNat) := by
    refine Nat.lt_of_mul_lt_mul_right (a := 2 ^ (k + 1).toNat) ?_
    have e1 : 16777216 * (b * 2 ^ (k - 23).toNat) * 2 ^ (k + 1).toNat = b * 2 ^ (k + 1).toNat * 2 ^ (24 + (k - 23).toNat) := by
      rw [Nat.pow_add, show 2 ^ 24 = 16777216 from rfl]
      ac_rfl
    have e2 : a * 2 ^ (23 - k).toNat * 2 ^ (k + 1).toNat = a * 2 ^ (-(k + 1)).toNat * 2 ^ (24 + (k - 23).toNat) := by
      rw [Nat.mul_assoc, ← Nat.pow_add, Nat.mul_assoc, ← Nat.pow_add]
      congr 2
      omega
    rw [e1, e2]
    exact Nat.mul_lt_mul_of_pos_right s.2 (Nat.two_pow_pos _)
  have n1 := nr_lo dp lo
  have n2 := nr_hi dp hi
  generalize FP.Core.nearest (a * 2 ^ (23 - k).toNat) (b * 2 ^ (k - 23).toNat) = M at hr n1 n2
  rw [hr]
  have hs : FP.Core.settle FP.Core.b32 false M (k + e - 23) = if M < 16777216 then FP.Core.bound FP.Core.b32 false M (k + e - 23) else FP.Core.bound FP.Core.b32 false FP.Core.b32.tails (k + e - 23 + 1) := rfl
  have hbd : ∀ c q, q ≤ 104 → FP.Core.bound FP.Core.b32 false c q = .fin false c q := fun c q h => by
    show (if q ≤ FP.Core.b32.qmax then _ else _) = _
    rw [b32_x, if_pos h]
  rw [hs]
  by_cases hM : M < 16777216
  · rw [if_pos hM, hbd _ _ (by omega)]
    exact ⟨M, _, rfl, n1, hM, Or.inl rfl⟩
  · rw [if_neg hM, hbd _ _ (by omega), b32_t]
    exact ⟨8388608, _, rfl, by omega, by omega, Or.inr (by omega)⟩
/-- a ratio that has its digits -/
theorem rrx {a b M : Nat} {e q : Int} (ha : 0 < a) (hk : FP.Core.leading a b + e - 23 = q) (hq : -149 ≤ q ∧ q ≤ 104) (hd : 0 < FP.Core.unitsDen b e q) (hu : FP.Core.unitsNum a e q = M * FP.Core.unitsDen b e q) (hM : M < 16777216) : FP.Core.roundRatio FP.Core.b32 false a b e = .fin false M q := by
  have hq2 : FP.Core.quantum FP.Core.b32 a b e = q := by
    show max FP.Core.b32.qmin (FP.Core.leading a b + e - (((24 : Nat) : Int) - 1)) = _
    rw [b32_q]
    omega
  show (if a = 0 then _ else FP.Core.roundAt FP.Core.b32 false a b e (FP.Core.quantum FP.Core.b32 a b e)) = _
  rw [if_neg (by omega), hq2]
  show FP.Core.settle FP.Core.b32 false (FP.Core.nearest (FP.Core.unitsNum a e q) (FP.Core.unitsDen b e q)) q = _
  rw [hu, nr_eq hd]
  show (if M < 16777216 then FP.Core.bound FP.Core.b32 false M q else _) = _
  rw [if_pos hM]
  show (if q ≤ FP.Core.b32.qmax then _ else _) = _
  rw [b32_x, if_pos hq.2]
/-- what the encoding of a normal datum is -/
theorem nf_of {c : Nat} {q : Int} (hc : 8388608 ≤ c ∧ c < 16777216) (hq : -149 ≤ q ∧ q ≤ 104) : nf (jb (UInt32.ofNat (FP.Core.encode FP.Core.b32 (.fin false c q)))) (q + 150).toNat (c - 8388608) ∧ jnn (UInt32.ofNat (FP.Core.encode FP.Core.b32 (.fin false c q))) := by
  have e := fl_enc (E := (q + 150).toNat) (by omega) hc
  rw [show (((q + 150).toNat : Nat) : Int) - 150 = q by omega] at e
  rw [e, jb_n (by omega)]
  exact ⟨⟨by omega, by omega, rfl⟩, jnn_n (by omega)⟩
