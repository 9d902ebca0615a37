/-! the text: its tokens -/
abbrev TX : Type := Int → Int
abbrev TK : Type := Int × Int × Int
def isl (c : Int) : Bool := decide (97 ≤ c ∧ c ≤ 122)
def isd (c : Int) : Bool := decide (48 ≤ c ∧ c ≤ 57)
def isb (c : Int) : Bool := decide (c = 32 ∨ c = 10)
def skb (f : TX) (n i : Int) : Int := ffst (fun j => !isb (f j)) (n - i).toNat i
def skl (f : TX) (n i : Int) : Int := ffst (fun j => !isl (f j)) (n - i).toNat i
def skd (f : TX) (n i : Int) : Int := ffst (fun j => !isd (f j)) (n - i).toNat i
theorem sk_in (p : Int → Bool) {n i : Int} (h : i ≤ n) : i ≤ ffst p (n - i).toNat i ∧ ffst p (n - i).toNat i ≤ n := by
  have s := ffst_spec p (n - i).toNat i
  omega
/-- what stands behind e: kind (0 end, 1 word, 2 number, 3 sign, 4 none), begin, end -/
def nx (f : TX) (n i : Int) : TK := if n ≤ skb f n i then (0, skb f n i, skb f n i) else if isl (f (skb f n i)) = true then (1, skb f n i, skl f n (skb f n i)) else if isd (f (skb f n i)) = true then (if skd f n (skb f n i) - skb f n i ≤ 4 then 2 else 4, skb f n i, skd f n (skb f n i)) else (if f (skb f n i) = 62 ∨ f (skb f n i) = 59 then 3 else 4, skb f n i, skb f n i + 1)
/-- a text as it can be -/
abbrev okt (f : TX) (n : Int) : Prop := (0 ≤ n ∧ n ≤ 800) ∧ ∀ i, 0 ≤ i → i < n → 0 ≤ f i ∧ f i ≤ 255
def wf3 (f : TX) (n k b e : Int) : Prop := (0 ≤ k ∧ k ≤ 4) ∧ (0 ≤ b ∧ b ≤ e ∧ e ≤ n) ∧ (k ≠ 0 → b < e) ∧ (k = 1 → ∀ i, b ≤ i → i < e → isl (f i) = true) ∧ (k = 2 → e - b ≤ 4 ∧ ∀ i, b ≤ i → i < e → isd (f i) = true)
abbrev wft (f : TX) (n : Int) (t : TK) : Prop := wf3 f n t.1 t.2.1 t.2.2
theorem nx_wf {f : TX} {n i : Int} (h : 0 ≤ i ∧ i ≤ n) : wft f n (nx f n i) ∧ i ≤ (nx f n i).2.1 := by
  have b := sk_in (fun j => !isb (f j)) h.2
  have eb : skb f n i = ffst (fun j => !isb (f j)) (n - i).toNat i := rfl
  rw [← eb] at b
  unfold nx
  generalize skb f n i = q at b
  by_cases h1 : n ≤ q
  · rw [if_pos h1]
    show wf3 f n 0 q q ∧ i ≤ q
    exact ⟨⟨by omega, by omega, fun h => absurd rfl h, fun h => absurd h (by decide), fun h => absurd h (by decide)⟩, b.1⟩
  · rw [if_neg h1]
    by_cases h2 : isl (f q) = true
    · rw [if_pos h2]
      have l := ffst_spec (fun j => !isl (f j)) (n - q).toNat q
      have el : skl f n q = ffst (fun j => !isl (f j)) (n - q).toNat q := rfl
      rw [← el] at l
      have hlt : q < skl f n q := by
        refine Decidable.byContradiction (fun hc => ?_)
        have e : skl f n q = q := by omega
        have q2 := l.2.2.2 (by omega)
        rw [e, h2] at q2
        cases q2
      show wf3 f n 1 q (skl f n q) ∧ i ≤ q
      refine ⟨⟨by omega, by omega, fun _ => hlt, fun _ j j0 j1 => ?_, fun h => absurd h (by decide)⟩, b.1⟩
      have q2 := l.1 j j0 j1
      cases hl : isl (f j) with
      | true => rfl
      | false => rw [hl] at q2; cases q2
    · rw [if_neg h2]
      by_cases h3 : isd (f q) = true
      · rw [if_pos h3]
        have l := ffst_spec (fun j => !isd (f j)) (n - q).toNat q
        have el : skd f n q = ffst (fun j => !isd (f j)) (n - q).toNat q := rfl
        rw [← el] at l
        have hlt : q < skd f n q := by
          refine Decidable.byContradiction (fun hc => ?_)
          have e : skd f n q = q := by omega
          have q2 := l.2.2.2 (by omega)
          rw [e, h3] at q2
          cases q2
        have dig : ∀ j, q ≤ j → j < skd f n q → isd (f j) = true := fun j j0 j1 => by
          have q2 := l.1 j j0 j1
          cases hl : isd (f j) with
          | true => rfl
          | false => rw [hl] at q2; cases q2
        by_cases h4 : skd f n q - q ≤ 4
        · rw [if_pos h4]
          show wf3 f n 2 q (skd f n q) ∧ i ≤ q
          exact ⟨⟨by omega, by omega, fun _ => hlt, fun h => absurd h (by decide), fun _ => ⟨h4, dig⟩⟩, b.1⟩
        · rw [if_neg h4]
          show wf3 f n 4 q (skd f n q) ∧ i ≤ q
          exact ⟨⟨by omega, by omega, fun _ => hlt, fun h => absurd h (by decide), fun h => absurd h (by decide)⟩, b.1⟩
      · rw [if_neg h3]
        by_cases h4 : f q = 62 ∨ f q = 59
        · rw [if_pos h4]
          show wf3 f n 3 q (q + 1) ∧ i ≤ q
          exact ⟨⟨by omega, by omega, fun _ => by omega, fun h => absurd h (by decide), fun h => absurd h (by decide)⟩, b.1⟩
        · rw [if_neg h4]
          show wf3 f n 4 q (q + 1) ∧ i ≤ q
          exact ⟨⟨by omega, by omega, fun _ => by omega, fun h => absurd h (by decide), fun h => absurd h (by decide)⟩, b.1⟩
/-- a word as a number, of five bits a letter; a number's value -/
def nmk (f : TX) (b : Int) (k : Nat) : Int := fup (fun v i => 32 * v + (f i - 96)) k b 0
def vlk (f : TX) (b : Int) (k : Nat) : Int := fup (fun v i => 10 * v + (f i - 48)) k b 0
theorem nmk_s (f : TX) (b : Int) (k : Nat) : nmk f b (k + 1) = 32 * nmk f b k + (f (b + k) - 96) := fup_succ _ k b 0
theorem vlk_s (f : TX) (b : Int) (k : Nat) : vlk f b (k + 1) = 10 * vlk f b k + (f (b + k) - 48) := fup_succ _ k b 0
theorem isl_in {c : Int} (h : isl c = true) : 97 ≤ c ∧ c ≤ 122 := of_decide_eq_true h
theorem isd_in {c : Int} (h : isd c = true) : 48 ≤ c ∧ c ≤ 57 := of_decide_eq_true h
theorem nmk_in {f : TX} {b : Int} : ∀ {k : Nat}, k ≤ 7 → (∀ i, b ≤ i → i < b + k → isl (f i) = true) → 0 ≤ nmk f b k ∧ nmk f b k < 32 ^ k
  | 0, _, _ => ⟨Int.le_refl _, by show (0 : Int) < 1; omega⟩
  | k + 1, hk, h => by
    have ih := nmk_in (f := f) (b := b) (k := k) (by omega) (fun i h1 h2 => h i h1 (by omega))
    have l := isl_in (h (b + k) (by omega) (by omega))
    rw [nmk_s, show ((32 : Int) ^ (k + 1)) = 32 ^ k * 32 from Int.pow_succ ..]
    omega
theorem vlk_in {f : TX} {b : Int} : ∀ {k : Nat}, k ≤ 4 → (∀ i, b ≤ i → i < b + k → isd (f i) = true) → 0 ≤ vlk f b k ∧ vlk f b k < 10 ^ k
  | 0, _, _ => ⟨Int.le_refl _, by show (0 : Int) < 1; omega⟩
  | k + 1, hk, h => by
    have ih := vlk_in (f := f) (b := b) (k := k) (by omega) (fun i h1 h2 => h i h1 (by omega))
    have l := isd_in (h (b + k) (by omega) (by omega))
    rw [vlk_s, show ((10 : Int) ^ (k + 1)) = 10 ^ k * 10 from Int.pow_succ ..]
    omega
def nmt (f : TX) (t : TK) : Int := nmk f t.2.1 (t.2.2 - t.2.1).toNat
def vlt (f : TX) (t : TK) : Int := vlk f t.2.1 (t.2.2 - t.2.1).toNat
/-- the keyword: 0..3 the bounds, 4 pay, 5 trust, 6 at; -1 none -/
def kwv (v : Int) : Int := if v = 16441 then 4 else if v = 52 then 6 else if v = 21583476 then 5 else if v = 781652471 then 0 else if v = 13403133556 then 1 else if v = 409203 then 2 else if v = 230702 then 3 else -1
def kwt (f : TX) (t : TK) : Int := if t.2.2 - t.2.1 ≤ 7 then kwv (nmt f t) else -1
theorem kwv_in (v : Int) : -1 ≤ kwv v ∧ kwv v ≤ 6 := by
  unfold kwv
  repeat' split
  all_goals omega
theorem kwt_in (f : TX) (t : TK) : -1 ≤ kwt f t ∧ kwt f t ≤ 6 := by
  unfold kwt
  split
  · exact kwv_in _
  · omega
/-- longs -/
theorem j64n {n : Nat} (h : n < 4611686018427387904) : (BitVec.ofNat 64 n).toInt = (n : Int) := by
  rw [BitVec.toInt_eq_toNat_of_lt (by rw [BitVec.toNat_ofNat]; omega), BitVec.toNat_ofNat]
  omega
theorem i64n (n : Nat) : (Int64.ofInt (n : Int)).toBitVec = BitVec.ofNat 64 n := by
  rw [Int64.toBitVec_ofInt, BitVec.ofInt_natCast]
theorem lw_step {v c : Int} (hv : 0 ≤ v ∧ v < 1073741824) (hc : 0 ≤ c ∧ c < 32) : jlor (jlshl v 5) c = 32 * v + c := by
  obtain ⟨n, rfl⟩ := Int.eq_ofNat_of_zero_le hv.1
  obtain ⟨m, rfl⟩ := Int.eq_ofNat_of_zero_le hc.1
  have e1 : jlshl (n : Int) 5 = ((n * 32 : Nat) : Int) := by
    unfold jlshl
    rw [← Int64.toInt_toBitVec, Int64.toBitVec_shiftLeft, i64n, show (((Int32.ofInt 5).toInt64 &&& 63).toBitVec.smod 64) = BitVec.ofNat 64 5 by decide +kernel, BitVec.shiftLeft_eq', show (BitVec.ofNat 64 5).toNat = 5 from rfl]
    have : BitVec.ofNat 64 n <<< 5 = BitVec.ofNat 64 (n * 32) := by
      apply BitVec.eq_of_toNat_eq
      rw [BitVec.toNat_shiftLeft, BitVec.toNat_ofNat, BitVec.toNat_ofNat, Nat.shiftLeft_eq]
      omega
    rw [this, j64n (by omega)]
  rw [e1]
  unfold jlor
  rw [← Int64.toInt_toBitVec, Int64.toBitVec_or, i64n, i64n]
  have : BitVec.ofNat 64 (n * 32) ||| BitVec.ofNat 64 m = BitVec.ofNat 64 (n * 32 + m) := by
    apply BitVec.eq_of_toNat_eq
    rw [BitVec.toNat_or, BitVec.toNat_ofNat, BitVec.toNat_ofNat, BitVec.toNat_ofNat]
    have q := Nat.two_pow_add_eq_or_of_lt (i := 5) (b := m) (by omega) n
    rw [show n * 32 % 2 ^ 64 = 2 ^ 5 * n by omega, show m % 2 ^ 64 = m by omega, ← q]
    omega
  rw [this, j64n (by omega)]
  omega
theorem and31 {r : Int} (h : 97 ≤ r ∧ r ≤ 122) : jand r 31 = r - 96 := by
  have key : ∀ k : Nat, k < 26 → jand ((97 + k : Nat) : Int) 31 = ((97 + k : Nat) : Int) - 96 := by decide +kernel
  have := key (r - 97).toNat (by omega)
  rw [show ((97 + (r - 97).toNat : Nat) : Int) = r by omega] at this
  exact this
