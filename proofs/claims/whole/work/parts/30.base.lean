/-! BASE for the pure side: loops as folds, memory, bits -/
def fup {α : Type} (g : α → Int → α) : Nat → Int → α → α
  | 0, _, a => a
  | k + 1, i, a => fup g k (i + 1) (g a i)
theorem fup_loop {α : Type} {g : α → Int → α} {W : Int → α → Prop} (I : Int → α → Prop) {lo n : Int} (hI : ∀ i a, lo ≤ i → i < n → I i a → I (i + 1) (g a i)) (step : ∀ i a, lo ≤ i → i < n → I i a → W (i + 1) (g a i) → W i a) : ∀ (k : Nat) (i : Int) (a : α), lo ≤ i → i + (k : Int) = n → I i a → (I n (fup g k i a) → W n (fup g k i a)) → W i a
  | 0, i, a, _, hk, hi, h => by
    have e : i = n := by omega
    subst e
    exact h hi
  | k + 1, i, a, hl, hk, hi, h => step i a hl (by omega) hi (fup_loop I hI step k (i + 1) (g a i) (by omega) (by omega) (hI i a hl (by omega) hi) h)
/-- the loop without an invariant -/
theorem fup_lp {α : Type} {g : α → Int → α} {W : Int → α → Prop} {lo n : Int} (step : ∀ i a, lo ≤ i → i < n → W (i + 1) (g a i) → W i a) (k : Nat) (i : Int) (a : α) (hl : lo ≤ i) (hk : i + (k : Int) = n) (h : W n (fup g k i a)) : W i a :=
  fup_loop (fun _ _ => True) (fun _ _ _ _ _ => trivial) (fun i a h1 h2 _ h3 => step i a h1 h2 h3) k i a hl hk trivial (fun _ => h)
theorem fup_inv {α : Type} {g : α → Int → α} (I : Int → α → Prop) {lo n : Int} (hI : ∀ i a, lo ≤ i → i < n → I i a → I (i + 1) (g a i)) : ∀ (k : Nat) (i : Int) (a : α), lo ≤ i → i + (k : Int) = n → I i a → I n (fup g k i a)
  | 0, i, a, _, hk, hi => by
    have e : i = n := by omega
    subst e
    exact hi
  | k + 1, i, a, hl, hk, hi => fup_inv I hI k (i + 1) (g a i) (by omega) (by omega) (hI i a hl (by omega) hi)
theorem fup_congr {α : Type} {g g' : α → Int → α} {lo n : Int} (h : ∀ a i, lo ≤ i → i < n → g a i = g' a i) : ∀ (k : Nat) (i : Int) (a : α), lo ≤ i → i + (k : Int) = n → fup g k i a = fup g' k i a
  | 0, _, _, _, _ => rfl
  | k + 1, i, a, hl, hk => by
    show fup g k (i + 1) (g a i) = fup g' k (i + 1) (g' a i)
    rw [h a i hl (by omega)]
    exact fup_congr h k (i + 1) _ (by omega) (by omega)
theorem fup_succ {α : Type} (g : α → Int → α) : ∀ (k : Nat) (i : Int) (a : α), fup g (k + 1) i a = g (fup g k i a) (i + k)
  | 0, i, a => by
    show g a i = g a (i + 0)
    rw [Int.add_zero]
  | k + 1, i, a => by
    show fup g (k + 1) (i + 1) (g a i) = g (fup g k (i + 1) (g a i)) (i + (k + 1 : Nat))
    rw [fup_succ g k (i + 1) (g a i)]
    congr 1
    omega
/-- the first from i on, k of them, of which p holds; else i + k -/
def ffst (p : Int → Bool) : Nat → Int → Int
  | 0, i => i
  | k + 1, i => cond (p i) i (ffst p k (i + 1))
theorem ffst_lp {p : Int → Bool} {W : Int → Prop} {lo n : Int} (hit : ∀ i, lo ≤ i → i < n → p i = true → (∀ j, lo ≤ j → j < i → p j = false) → W i) (step : ∀ i, lo ≤ i → i < n → p i = false → W (i + 1) → W i) (out : (∀ j, lo ≤ j → j < n → p j = false) → W n) : ∀ (k : Nat) (i : Int), lo ≤ i → i + (k : Int) = n → (∀ j, lo ≤ j → j < i → p j = false) → W i
  | 0, i, _, hk, hp => by
    have e : i = n := by omega
    subst e
    exact out hp
  | k + 1, i, hl, hk, hp => by
    cases hc : p i with
    | true => exact hit i hl (by omega) hc hp
    | false =>
      refine step i hl (by omega) hc (ffst_lp hit step out k (i + 1) (by omega) (by omega) ?_)
      intro j h1 h2
      by_cases hj : j = i
      · subst hj; exact hc
      · exact hp j h1 (by omega)
theorem ffst_spec (p : Int → Bool) : ∀ (k : Nat) (i : Int), (∀ j, i ≤ j → j < ffst p k i → p j = false) ∧ i ≤ ffst p k i ∧ ffst p k i ≤ i + k ∧ (ffst p k i < i + k → p (ffst p k i) = true)
  | 0, i => ⟨fun j h1 h2 => absurd h2 (by unfold ffst; omega), by unfold ffst; omega, by unfold ffst; omega, fun h => absurd h (by unfold ffst; omega)⟩
  | k + 1, i => by
    have h := ffst_spec p k (i + 1)
    cases hc : p i with
    | true =>
      have e : ffst p (k + 1) i = i := by
        show cond (p i) i (ffst p k (i + 1)) = i
        rw [hc]
        rfl
      rw [e]
      exact ⟨fun j h1 h2 => by omega, by omega, by omega, fun _ => hc⟩
    | false =>
      have e : ffst p (k + 1) i = ffst p k (i + 1) := by
        show cond (p i) i (ffst p k (i + 1)) = ffst p k (i + 1)
        rw [hc]
        rfl
      rw [e]
      refine ⟨fun j h1 h2 => ?_, by omega, by omega, fun h5 => h.2.2.2 (by omega)⟩
      by_cases hj : j = i
      · subst hj; exact hc
      · exact h.1 j (by omega) h2
/-- memory -/
theorem jw_eq (μ : JM) (t : Nat) (x i v : Int) : jw μ t x i v t x i = v := by
  unfold jw
  rw [if_pos ⟨rfl, rfl, rfl⟩]
theorem jw_t {μ : JM} {t : Nat} {x i v : Int} {t' : Nat} {x' i' : Int} (h : t' ≠ t) : jw μ t x i v t' x' i' = μ t' x' i' := by
  unfold jw
  rw [if_neg (fun e => h e.1)]
theorem jw_x {μ : JM} {t : Nat} {x i v : Int} {t' : Nat} {x' i' : Int} (h : x' ≠ x) : jw μ t x i v t' x' i' = μ t' x' i' := by
  unfold jw
  rw [if_neg (fun e => h e.2.1)]
theorem jw_i {μ : JM} {t : Nat} {x i v : Int} {t' : Nat} {x' i' : Int} (h : i' ≠ i) : jw μ t x i v t' x' i' = μ t' x' i' := by
  unfold jw
  rw [if_neg (fun e => h e.2.2)]
/-- only the places of which P holds have been changed -/
def jfr (P : Nat → Int → Int → Prop) (μ ν : JM) : Prop := ∀ t x i, ¬ P t x i → ν t x i = μ t x i
theorem jfr_refl (P : Nat → Int → Int → Prop) (μ : JM) : jfr P μ μ := fun _ _ _ _ => rfl
theorem jfr_trans {P : Nat → Int → Int → Prop} {μ ν ξ : JM} (h : jfr P μ ν) (k : jfr P ν ξ) : jfr P μ ξ := fun t x i hp => (k t x i hp).trans (h t x i hp)
theorem jfr_mono {P R : Nat → Int → Int → Prop} {μ ν : JM} (h : jfr P μ ν) (hpq : ∀ t x i, P t x i → R t x i) : jfr R μ ν := fun t x i hq => h t x i (fun hp => hq (hpq t x i hp))
theorem jfr_jw {P : Nat → Int → Int → Prop} {μ ν : JM} {t : Nat} {x i v : Int} (h : jfr P μ ν) (hp : P t x i) : jfr P μ (jw ν t x i v) := by
  intro t' x' i' hp'
  rw [← h t' x' i' hp']
  unfold jw
  rw [if_neg]
  rintro ⟨rfl, rfl, rfl⟩
  exact hp' hp
theorem jfr_jcp {P : Nat → Int → Int → Prop} {μ ν : JM} {st dt : Nat} {sx sp dx dp n : Int} (h : jfr P μ ν) (hp : ∀ i, P dt dx i) : jfr P μ (jcp ν st sx sp dt dx dp n) := by
  intro t' x' i' hp'
  rw [← h t' x' i' hp']
  unfold jcp
  rw [if_neg]
  rintro ⟨rfl, rfl, _⟩
  exact hp' (hp i')
theorem jq {Q : JQ} {a b : Int} {μ ν : JM} (h : Q a μ) (e1 : b = a) (e2 : ν = μ) : Q b ν := by
  subst e1 e2
  exact h
/-- bits -/
def bt (x : Int) (k : Nat) : Bool := (BitVec.ofInt 32 x).getLsbD k
theorem j32 (x : Int) : (Int32.ofInt x).toBitVec = BitVec.ofInt 32 x := Int32.toBitVec_ofInt x
theorem bt_toInt (v : BitVec 32) (k : Nat) : bt v.toInt k = v.getLsbD k := by
  unfold bt
  rw [BitVec.ofInt_toInt]
theorem jand_bv (x y : Int) : jand x y = (BitVec.ofInt 32 x &&& BitVec.ofInt 32 y).toInt := by
  unfold jand
  rw [← Int32.toInt_toBitVec, Int32.toBitVec_and, j32, j32]
theorem jor_bv (x y : Int) : jor x y = (BitVec.ofInt 32 x ||| BitVec.ofInt 32 y).toInt := by
  unfold jor
  rw [← Int32.toInt_toBitVec, Int32.toBitVec_or, j32, j32]
theorem jxor_bv (x y : Int) : jxor x y = (BitVec.ofInt 32 x ^^^ BitVec.ofInt 32 y).toInt := by
  unfold jxor
  rw [← Int32.toInt_toBitVec, Int32.toBitVec_xor, j32, j32]
theorem bt_and (x y : Int) (k : Nat) : bt (jand x y) k = (bt x k && bt y k) := by
  rw [jand_bv, bt_toInt, BitVec.getLsbD_and]
  rfl
theorem bt_or (x y : Int) (k : Nat) : bt (jor x y) k = (bt x k || bt y k) := by
  rw [jor_bv, bt_toInt, BitVec.getLsbD_or]
  rfl
theorem bt_xor (x y : Int) (k : Nat) : bt (jxor x y) k = (bt x k ^^ bt y k) := by
  rw [jxor_bv, bt_toInt, BitVec.getLsbD_xor]
  rfl
theorem inR_bv (v : BitVec 32) : inR v.toInt := ⟨by have := BitVec.le_toInt v; omega, by have := BitVec.toInt_lt (x := v); omega⟩
theorem inR_and (x y : Int) : inR (jand x y) := jand_bv x y ▸ inR_bv _
theorem inR_or (x y : Int) : inR (jor x y) := jor_bv x y ▸ inR_bv _
theorem inR_xor (x y : Int) : inR (jxor x y) := jxor_bv x y ▸ inR_bv _
theorem inR_i32 (v : Int32) : inR v.toInt := by
  rw [← Int32.toInt_toBitVec]
  exact inR_bv _
theorem inR_shl (x y : Int) : inR (jshl x y) := inR_i32 _
theorem inR_shr (x y : Int) : inR (jshr x y) := inR_i32 _
theorem inR_ushr (x y : Int) : inR (jushr x y) := inR_i32 _
theorem bv_inR {x : Int} (h : inR x) : (BitVec.ofInt 32 x).toInt = x := by
  rw [BitVec.toInt_ofInt]
  have h1 := h.1
  have h2 := h.2
  rw [Int.bmod_def]
  omega
theorem bt_ext {x y : Int} (hx : inR x) (hy : inR y) (h : ∀ k, k < 32 → bt x k = bt y k) : x = y := by
  rw [← bv_inR hx, ← bv_inR hy]
  congr 1
  apply BitVec.eq_of_getLsbD_eq
  intro k hk
  exact h k hk
/-- a number without sign as its bits -/
theorem bt_nat {n : Nat} (k : Nat) (hk : k < 32) : bt (n : Int) k = n.testBit k := by
  unfold bt
  rw [BitVec.ofInt_natCast, BitVec.getLsbD_ofNat]
  simp [hk]
theorem bt_hi (x : Int) {k : Nat} (hk : 32 ≤ k) : bt x k = false := by
  unfold bt
  exact BitVec.getLsbD_of_ge _ _ hk
theorem bt_zero (k : Nat) : bt 0 k = false := by
  unfold bt
  simp
theorem eq0_of_bt {x : Int} (hx : inR x) (h : ∀ k, k < 32 → bt x k = false) : x = 0 := bt_ext hx ⟨by omega, by omega⟩ (fun k hk => (h k hk).trans (bt_zero k).symm)
theorem sh_amt (n : Nat) (h : n < 32) : ((Int32.ofInt (n : Int) &&& 31).toBitVec.smod 32) = BitVec.ofNat 32 n := by
  have : ∀ n : Nat, n < 32 → ((Int32.ofInt (n : Int) &&& 31).toBitVec.smod 32) = BitVec.ofNat 32 n := by decide +kernel
  exact this n h
theorem sh_amtu (n : Nat) (h : n < 32) : (((Int32.ofInt (n : Int)).toUInt32 &&& Int32.toUInt32 31).toBitVec % 32) = BitVec.ofNat 32 n := by
  have : ∀ n : Nat, n < 32 → (((Int32.ofInt (n : Int)).toUInt32 &&& Int32.toUInt32 31).toBitVec % 32) = BitVec.ofNat 32 n := by decide +kernel
  exact this n h
theorem jshl_bv (x : Int) {n : Nat} (h : n < 32) : jshl x (n : Int) = (BitVec.ofInt 32 x <<< n).toInt := by
  unfold jshl
  rw [← Int32.toInt_toBitVec, Int32.toBitVec_shiftLeft, sh_amt n h, j32, BitVec.shiftLeft_eq', BitVec.toNat_ofNat, Nat.mod_eq_of_lt (by omega)]
theorem jshr_bv (x : Int) {n : Nat} (h : n < 32) : jshr x (n : Int) = ((BitVec.ofInt 32 x).sshiftRight n).toInt := by
  unfold jshr
  rw [← Int32.toInt_toBitVec, Int32.toBitVec_shiftRight, sh_amt n h, j32, BitVec.sshiftRight_eq', BitVec.toNat_ofNat, Nat.mod_eq_of_lt (by omega)]
theorem jushr_bv (x : Int) {n : Nat} (h : n < 32) : jushr x (n : Int) = (BitVec.ofInt 32 x >>> n).toInt := by
  unfold jushr
  rw [← Int32.toInt_toBitVec]
  show ((Int32.ofInt x).toUInt32 >>> ((Int32.ofInt (n : Int)).toUInt32 &&& Int32.toUInt32 31)).toBitVec.toInt = _
  rw [UInt32.toBitVec_shiftRight, sh_amtu n h]
  show ((Int32.ofInt x).toBitVec >>> (BitVec.ofNat 32 n)).toInt = _
  rw [j32, BitVec.ushiftRight_eq', BitVec.toNat_ofNat, Nat.mod_eq_of_lt (by omega)]
theorem bt_shl (x : Int) {n : Nat} (h : n < 32) {k : Nat} (hk : k < 32) : bt (jshl x (n : Int)) k = (decide (n ≤ k) && bt x (k - n)) := by
  rw [jshl_bv x h, bt_toInt, BitVec.getLsbD_shiftLeft]
  unfold bt
  by_cases hn : k < n
  · simp [hn, hk, Nat.not_le.mpr hn]
  · simp [hn, hk, Nat.not_lt.mp hn]
theorem bt_ushr (x : Int) {n : Nat} (h : n < 32) (k : Nat) : bt (jushr x (n : Int)) k = bt x (n + k) := by
  rw [jushr_bv x h, bt_toInt, BitVec.getLsbD_ushiftRight]
  rfl
theorem bt_shr (x : Int) {n : Nat} (h : n < 32) {k : Nat} (hk : n + k < 32) : bt (jshr x (n : Int)) k = bt x (n + k) := by
  rw [jshr_bv x h, bt_toInt, BitVec.getLsbD_sshiftRight]
  unfold bt
  simp [hk]
  omega
theorem bt_one (k : Nat) : bt 1 k = decide (k = 0) := by
  by_cases hk : k < 32
  · have := bt_nat (n := 1) k hk
    rw [show ((1 : Nat) : Int) = 1 from rfl] at this
    rw [this]
    by_cases h0 : k = 0
    · subst h0
      rfl
    · rw [Nat.testBit_lt_two_pow (Nat.one_lt_two_pow h0)]
      symm
      simp [h0]
  · rw [bt_hi 1 (by omega)]
    symm
    simp
    omega
/-- the bit k of a set -/
theorem bt_bit {n : Nat} (h : n < 32) (k : Nat) : bt (jshl 1 (n : Int)) k = decide (k = n) := by
  by_cases hk : k < 32
  · rw [bt_shl 1 h hk, bt_one]
    by_cases e : k = n
    · subst e; simp
    · by_cases e2 : n ≤ k
      · have : ¬ (k - n = 0) := by omega
        simp [e, e2, this]
      · simp [e, e2]
  · rw [bt_hi _ (by omega)]
    symm
    simp
    omega
theorem and1 (x : Int) : jand x 1 = if bt x 0 = true then 1 else 0 := by
  refine bt_ext (inR_and x 1) (by split <;> exact ⟨by omega, by omega⟩) ?_
  intro k hk
  rw [bt_and, bt_one]
  by_cases h0 : k = 0
  · subst h0
    cases h : bt x 0
    · simp [bt_zero]
    · simp [bt_one]
  · have : decide (k = 0) = false := by simp [h0]
    rw [this, Bool.and_false]
    split
    · rw [bt_one]; simp [h0]
    · rw [bt_zero]
/-- has a set the member k -/
theorem has_u (s : Int) {k : Int} (h0 : 0 ≤ k) (h1 : k < 32) : jand (jushr s k) 1 = if bt s k.toNat = true then 1 else 0 := by
  obtain ⟨n, rfl⟩ := Int.eq_ofNat_of_zero_le h0
  rw [and1, bt_ushr s (by omega)]
  simp
theorem has_s (s : Int) {k : Int} (h0 : 0 ≤ k) (h1 : k < 32) : jand (jshr s k) 1 = if bt s k.toNat = true then 1 else 0 := by
  obtain ⟨n, rfl⟩ := Int.eq_ofNat_of_zero_le h0
  rw [and1, bt_shr s (by omega) (by omega)]
  simp
theorem bt_bitz {k : Int} (h0 : 0 ≤ k) (h1 : k < 32) (j : Nat) : bt (jshl 1 k) j = decide (j = k.toNat) := by
  obtain ⟨n, rfl⟩ := Int.eq_ofNat_of_zero_le h0
  exact bt_bit (by omega) j
