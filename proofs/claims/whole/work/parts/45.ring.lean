/-! RINGS: the accounts of a round from the least on; their code -/
def lead (b : BK) (r : List Int) : Int := fup (fun l k => if b 0 (r.getD k.toNat 0) < b 0 (r.getD l.toNat 0) then k else l) (r.length - 1) 1 0
def pent (b : BK) (r : List Int) (i : Int) : Int := b 0 (r.getD ((lead b r + i) % (r.length : Int)).toNat 0)
def pring (b : BK) (r : List Int) : List Int := (List.range r.length).map (fun (i : Nat) => pent b r (i : Int))
theorem lead_in (b : BK) {r : List Int} (h : 1 ≤ r.length) : 0 ≤ lead b r ∧ lead b r < (r.length : Int) := by
  have := fup_inv (g := fun l k => if b 0 (r.getD k.toNat 0) < b 0 (r.getD l.toNat 0) then k else l) (fun i l => 0 ≤ l ∧ l < i) (lo := 1) (n := (r.length : Int)) (fun k l h0 h1 h2 => by split <;> omega) (r.length - 1) 1 0 (by omega) (by omega) (by omega)
  exact this
theorem lead_min (b : BK) {r : List Int} (h : 1 ≤ r.length) : ∀ j, 0 ≤ j → j < (r.length : Int) → b 0 (r.getD (lead b r).toNat 0) ≤ b 0 (r.getD j.toNat 0) := by
  have := fup_inv (g := fun l k => if b 0 (r.getD k.toNat 0) < b 0 (r.getD l.toNat 0) then k else l) (fun i l => ∀ j, 0 ≤ j → j < i → b 0 (r.getD l.toNat 0) ≤ b 0 (r.getD j.toNat 0)) (lo := 1) (n := (r.length : Int)) (fun k l h0 h1 h2 => by
    intro j g0 g1
    by_cases hj : j = k
    · subst hj
      split
      · exact Int.le_refl _
      · omega
    · have := h2 j g0 (by omega)
      split
      · omega
      · exact this) (r.length - 1) 1 0 (by omega) (by omega) (fun j g0 g1 => by
    have : j = 0 := by omega
    subst this
    exact Int.le_refl _)
  exact this
/-- good rounds: what is wanted of them here -/
theorem gr_len {b : BK} {r : List Int} (h : gr b r) : 2 ≤ r.length ∧ r.length ≤ 5 := by
  have := h.2.2
  rw [List.length_reverse] at this
  exact this
theorem gr_in {b : BK} {r : List Int} (h : gr b r) {t : Int} (ht : t ∈ r) : 0 ≤ t ∧ t < b 5 1 := okp_in h.1 t (List.mem_reverse.mpr ht)
theorem gr_get {b : BK} {r : List Int} (h : gr b r) {i : Nat} (hi : i < r.length) : 0 ≤ r.getD i 0 ∧ r.getD i 0 < b 5 1 := gr_in h (getD_mem hi)
theorem gr_asc {b : BK} (hv : vb b) {r : List Int} (h : gr b r) : r.Pairwise (· < ·) := by
  have := okp_desc hv h.1
  rw [List.pairwise_reverse] at this
  exact this
theorem asc_get {r : List Int} (h : r.Pairwise (· < ·)) {i j : Nat} (hij : i < j) (hj : j < r.length) : r.getD i 0 < r.getD j 0 := by
  rw [List.getD_eq_getElem?_getD, List.getD_eq_getElem?_getD, List.getElem?_eq_getElem hj, List.getElem?_eq_getElem (by omega)]
  exact List.pairwise_iff_getElem.mp h i j (by omega) hj hij
theorem gr_inj {b : BK} (hv : vb b) {r : List Int} (h : gr b r) {i j : Nat} (hi : i < r.length) (hj : j < r.length) (e : b 0 (r.getD i 0) = b 0 (r.getD j 0)) : i = j := by
  have e2 := okp_froms h.1 _ (List.mem_reverse.mpr (getD_mem hi)) _ (List.mem_reverse.mpr (getD_mem hj)) e
  rcases Nat.lt_trichotomy i j with hc | hc | hc
  · have := asc_get (gr_asc hv h) hc hj
    omega
  · exact hc
  · have := asc_get (gr_asc hv h) hc hi
    omega
theorem mem_get {l : List Int} {t : Int} (h : t ∈ l) : ∃ i, i < l.length ∧ l.getD i 0 = t := by
  obtain ⟨i, hi, e⟩ := List.getElem_of_mem h
  refine ⟨i, hi, ?_⟩
  rw [List.getD_eq_getElem?_getD, List.getElem?_eq_getElem hi]
  exact e
theorem pent_inj {b : BK} (hv : vb b) {r : List Int} (h : gr b r) {i j : Int} (hi : 0 ≤ i ∧ i < (r.length : Int)) (hj : 0 ≤ j ∧ j < (r.length : Int)) (e : pent b r i = pent b r j) : i = j := by
  have hl := gr_len h
  have ld := lead_in b (r := r) (by omega)
  have e2 := gr_inj hv h (i := ((lead b r + i) % (r.length : Int)).toNat) (j := ((lead b r + j) % (r.length : Int)).toNat) (by have := Int.emod_lt_of_pos (lead b r + i) (show (0 : Int) < r.length by omega); have := Int.emod_nonneg (lead b r + i) (show (r.length : Int) ≠ 0 by omega); omega) (by have := Int.emod_lt_of_pos (lead b r + j) (show (0 : Int) < r.length by omega); have := Int.emod_nonneg (lead b r + j) (show (r.length : Int) ≠ 0 by omega); omega) e
  have h5 : r.length = 2 ∨ r.length = 3 ∨ r.length = 4 ∨ r.length = 5 := by omega
  rcases h5 with h5 | h5 | h5 | h5 <;> rw [h5] at e2 hi hj ld <;> omega
theorem pent_mem {b : BK} {r : List Int} (hl : 2 ≤ r.length ∧ r.length ≤ 5) (a : Int) : (∃ t ∈ r, b 0 t = a) ↔ ∃ i : Nat, i < r.length ∧ pent b r (i : Int) = a := by
  have ld := lead_in b (r := r) (by omega)
  have h5 : r.length = 2 ∨ r.length = 3 ∨ r.length = 4 ∨ r.length = 5 := by omega
  constructor
  · rintro ⟨t, ht, e⟩
    obtain ⟨j, hj, hjt⟩ := mem_get ht
    refine ⟨(((j : Int) - lead b r) % (r.length : Int)).toNat, by rcases h5 with h5 | h5 | h5 | h5 <;> rw [h5] at hj ld ⊢ <;> omega, ?_⟩
    unfold pent
    have : ((lead b r + ((((j : Int) - lead b r) % (r.length : Int)).toNat : Int)) % (r.length : Int)).toNat = j := by rcases h5 with h5 | h5 | h5 | h5 <;> rw [h5] at hj ld ⊢ <;> omega
    rw [this, hjt, e]
  · rintro ⟨i, hi, e⟩
    exact ⟨_, getD_mem (by rcases h5 with h5 | h5 | h5 | h5 <;> rw [h5] at hi ld ⊢ <;> omega), e⟩
theorem pring_len (b : BK) (r : List Int) : (pring b r).length = r.length := by simp [pring]
theorem pring_get (b : BK) (r : List Int) {i : Nat} (h : i < r.length) : (pring b r).getD i 0 = pent b r (i : Int) := by
  unfold pring
  rw [List.getD_eq_getElem?_getD, List.getElem?_map, List.getElem?_range h]
  rfl
theorem mem_pring {b : BK} {r : List Int} (hl : 2 ≤ r.length ∧ r.length ≤ 5) (a : Int) : a ∈ pring b r ↔ ∃ t ∈ r, b 0 t = a := by
  rw [pent_mem hl]
  unfold pring
  simp only [List.mem_map, List.mem_range]
theorem pent_0 {b : BK} {r : List Int} (hl : 2 ≤ r.length ∧ r.length ≤ 5) : (∃ t ∈ r, b 0 t = pent b r 0) ∧ ∀ t ∈ r, pent b r 0 ≤ b 0 t := by
  have ld := lead_in b (r := r) (by omega)
  refine ⟨(pent_mem hl _).mpr ⟨0, by omega, rfl⟩, fun t ht => ?_⟩
  obtain ⟨j, hj, e⟩ := mem_get ht
  have := lead_min b (r := r) (by omega) (j : Int) (by omega) (by omega)
  unfold pent
  rw [Int.add_zero, Int.emod_eq_of_lt ld.1 ld.2, ← e]
  simpa using this
/-- the reference's test: the same accounts, one after the other -/
theorem like_iff {b : BK} (hv : vb b) {r o : List Int} (hr : gr b r) (ho : gr b o) : ((∀ a, (∃ t ∈ r, b 0 t = a) ↔ ∃ t ∈ o, b 0 t = a) ∧ ∀ i : Int, 1 ≤ i → i < (r.length : Int) → pent b r i = pent b o i) ↔ pring b r = pring b o := by
  have lr := gr_len hr
  have lo := gr_len ho
  constructor
  · rintro ⟨h1, h2⟩
    have e0 : pent b r 0 = pent b o 0 := by
      have a1 := pent_0 (b := b) lr
      have a2 := pent_0 (b := b) lo
      obtain ⟨t, ht, et⟩ := (h1 _).mp a1.1
      obtain ⟨u, hu, eu⟩ := (h1 _).mpr a2.1
      have b1 := a2.2 t ht
      have b2 := a1.2 u hu
      omega
    have hall : ∀ i : Int, 0 ≤ i → i < (r.length : Int) → pent b r i = pent b o i := by
      intro i g0 g1
      by_cases hi : i = 0
      · subst hi; exact e0
      · exact h2 i (by omega) g1
    have el : r.length = o.length := by
      rcases Nat.lt_trichotomy r.length o.length with hc | hc | hc
      · exfalso
        obtain ⟨i, hi, e⟩ := (pent_mem lr _).mp ((h1 _).mpr ((pent_mem lo (pent b o (r.length : Int))).mpr ⟨r.length, hc, rfl⟩))
        rw [hall i (by omega) (by omega)] at e
        have := pent_inj hv ho (i := (i : Int)) (j := (r.length : Int)) (by omega) (by omega) e
        omega
      · exact hc
      · exfalso
        have a1 := hall (o.length : Int) (by omega) (by omega)
        have a2 : pent b o (o.length : Int) = pent b o 0 := by
          unfold pent
          rw [Int.add_emod_right, Int.add_zero]
        rw [a2, ← e0] at a1
        have := pent_inj hv hr (i := (o.length : Int)) (j := 0) (by omega) (by omega) a1
        omega
    unfold pring
    rw [← el]
    refine List.map_congr_left (fun i hi => ?_)
    exact hall (i : Int) (by omega) (by have := List.mem_range.mp hi; omega)
  · intro e
    have el : r.length = o.length := by rw [← pring_len b r, ← pring_len b o, e]
    refine ⟨fun a => by rw [← mem_pring lr, ← mem_pring lo, e], fun i h1 h2 => ?_⟩
    have := pring_get b r (i := i.toNat) (by omega)
    rw [e, pring_get b o (by omega)] at this
    have hi : ((i.toNat : Nat) : Int) = i := by omega
    rw [hi] at this
    exact this.symm
/-- the code of a ring -/
def pcode : List Int → Int
  | [] => 0
  | a :: l => pcode l * 16 + (a + 1)
abbrev small (l : List Int) : Prop := ∀ a ∈ l, 0 ≤ a ∧ a < 12
theorem pcode_pos : ∀ {l : List Int}, small l → 0 ≤ pcode l
  | [], _ => Int.le_refl _
  | a :: l, h => by
    have := pcode_pos (l := l) (fun x hx => h x (List.mem_cons_of_mem _ hx))
    have := h a (List.mem_cons_self ..)
    unfold pcode
    omega
theorem pcode_inj : ∀ {l k : List Int}, small l → small k → pcode l = pcode k → l = k
  | [], [], _, _, _ => rfl
  | [], a :: k, _, hk, h => by
    have := pcode_pos (l := k) (fun x hx => hk x (List.mem_cons_of_mem _ hx))
    have := hk a (List.mem_cons_self ..)
    unfold pcode at h
    omega
  | a :: l, [], hl, _, h => by
    have := pcode_pos (l := l) (fun x hx => hl x (List.mem_cons_of_mem _ hx))
    have := hl a (List.mem_cons_self ..)
    unfold pcode at h
    omega
  | a :: l, c :: k, hl, hk, h => by
    have h1 := hl a (List.mem_cons_self ..)
    have h2 := hk c (List.mem_cons_self ..)
    unfold pcode at h
    have e1 : a = c := by omega
    have e2 : pcode l = pcode k := by omega
    rw [e1, pcode_inj (fun x hx => hl x (List.mem_cons_of_mem _ hx)) (fun x hx => hk x (List.mem_cons_of_mem _ hx)) e2]
theorem pcode_le : ∀ {l : List Int}, small l → (l.length = 0 → pcode l = 0) ∧ (l.length = 1 → pcode l < 16) ∧ (l.length = 2 → pcode l < 256) ∧ (l.length = 3 → pcode l < 4096) ∧ (l.length = 4 → pcode l < 65536) ∧ (l.length = 5 → pcode l < 1048576)
  | [], _ => ⟨fun _ => rfl, by simp, by simp, by simp, by simp, by simp⟩
  | a :: l, h => by
    have ih := pcode_le (l := l) (fun x hx => h x (List.mem_cons_of_mem _ hx))
    have := h a (List.mem_cons_self ..)
    unfold pcode
    simp only [List.length_cons]
    refine ⟨by omega, fun hl => ?_, fun hl => ?_, fun hl => ?_, fun hl => ?_, fun hl => ?_⟩
    · have := ih.1 (by omega); omega
    · have := ih.2.1 (by omega); omega
    · have := ih.2.2.1 (by omega); omega
    · have := ih.2.2.2.1 (by omega); omega
    · have := ih.2.2.2.2.1 (by omega); omega
theorem pcode_lt {l : List Int} (h : small l) (hl : l.length ≤ 5) : 0 ≤ pcode l ∧ pcode l < 1048576 := by
  have a := pcode_le h
  refine ⟨pcode_pos h, ?_⟩
  have h5 : l.length = 0 ∨ l.length = 1 ∨ l.length = 2 ∨ l.length = 3 ∨ l.length = 4 ∨ l.length = 5 := by omega
  rcases h5 with h5 | h5 | h5 | h5 | h5 | h5
  · have := a.1 h5; omega
  · have := a.2.1 h5; omega
  · have := a.2.2.1 h5; omega
  · have := a.2.2.2.1 h5; omega
  · have := a.2.2.2.2.1 h5; omega
  · exact a.2.2.2.2.2 h5
/-- shifts and masks of what has no sign, as arithmetic -/
theorem bv_nat {n : Nat} (h : n < 2147483648) : (BitVec.ofInt 32 (n : Int)).toNat = n := by
  rw [BitVec.toNat_ofInt]
  omega
theorem toInt_small {v : BitVec 32} (h : v.toNat < 2147483648) : v.toInt = (v.toNat : Int) := by
  rw [BitVec.toInt_eq_toNat_cond]
  omega
theorem ushr_n {n k : Nat} (h : n < 2147483648) (hk : k < 32) : jushr (n : Int) (k : Int) = ((n / 2 ^ k : Nat) : Int) := by
  have e : (BitVec.ofInt 32 (n : Int) >>> k).toNat = n / 2 ^ k := by
    rw [BitVec.toNat_ushiftRight, bv_nat h, Nat.shiftRight_eq_div_pow]
  rw [jushr_bv _ hk, toInt_small (by rw [e]; exact Nat.lt_of_le_of_lt (Nat.div_le_self _ _) h), e]
theorem and_n {n m : Nat} (h : n < 2147483648) (hm : m < 2147483648) : jand (n : Int) (m : Int) = ((n &&& m : Nat) : Int) := by
  have e : (BitVec.ofInt 32 (n : Int) &&& BitVec.ofInt 32 (m : Int)).toNat = n &&& m := by
    rw [BitVec.toNat_and, bv_nat h, bv_nat hm]
  rw [jand_bv, toInt_small (by rw [e]; exact Nat.lt_of_le_of_lt Nat.and_le_left h), e]
theorem or_n {n m : Nat} (h : n < 2147483648) (hm : m < 2147483648) : jor (n : Int) (m : Int) = ((n ||| m : Nat) : Int) := by
  have e : (BitVec.ofInt 32 (n : Int) ||| BitVec.ofInt 32 (m : Int)).toNat = n ||| m := by
    rw [BitVec.toNat_or, bv_nat h, bv_nat hm]
  rw [jor_bv, toInt_small (by rw [e]; exact Nat.or_lt_two_pow (n := 31) h hm), e]
theorem shl_n {n k : Nat} (hk : k < 32) (h : n * 2 ^ k < 2147483648) : jshl (n : Int) (k : Int) = ((n * 2 ^ k : Nat) : Int) := by
  have hn : n < 2147483648 := Nat.lt_of_le_of_lt (Nat.le_mul_of_pos_right _ (Nat.two_pow_pos k)) h
  have e : (BitVec.ofInt 32 (n : Int) <<< k).toNat = n * 2 ^ k := by
    rw [BitVec.toNat_shiftLeft, bv_nat hn, Nat.shiftLeft_eq, Nat.mod_eq_of_lt (by omega)]
  rw [jshl_bv _ hk, toInt_small (by rw [e]; exact h), e]
/-- the digits of a code -/
theorem dig_n : ∀ (i : Nat) (l : List Int), small l → ((pcode l).toNat / 16 ^ i) % 16 = if i < l.length then (l.getD i 0 + 1).toNat else 0
  | i, [], _ => by simp [pcode]
  | 0, a :: l, h => by
    have h1 := h a (List.mem_cons_self ..)
    have := pcode_pos (l := l) (fun x hx => h x (List.mem_cons_of_mem _ hx))
    simp only [List.length_cons, Nat.zero_lt_succ, if_true, List.getD_cons_zero, Nat.pow_zero, Nat.div_one]
    unfold pcode
    omega
  | i + 1, a :: l, h => by
    have h1 := h a (List.mem_cons_self ..)
    have h0 := pcode_pos (l := l) (fun x hx => h x (List.mem_cons_of_mem _ hx))
    have ih := dig_n i l (fun x hx => h x (List.mem_cons_of_mem _ hx))
    have e : (pcode (a :: l)).toNat / 16 ^ (i + 1) = (pcode l).toNat / 16 ^ i := by
      rw [Nat.pow_succ, Nat.mul_comm, ← Nat.div_div_eq_div_mul]
      congr 1
      show (pcode l * 16 + (a + 1)).toNat / 16 = (pcode l).toNat
      omega
    rw [e, ih]
    simp only [List.length_cons, List.getD_cons_succ]
    by_cases hc : i < l.length
    · rw [if_pos hc, if_pos (by omega)]
    · rw [if_neg hc, if_neg (by omega)]
theorem dig {l : List Int} (h : small l) (hl : l.length ≤ 5) {i : Int} (h0 : 0 ≤ i) (h1 : i < 5) : jand (jushr (pcode l) (4 * i)) 15 = if i < (l.length : Int) then l.getD i.toNat 0 + 1 else 0 := by
  have hp := pcode_lt h hl
  obtain ⟨n, rfl⟩ := Int.eq_ofNat_of_zero_le h0
  have e1 : pcode l = (((pcode l).toNat : Nat) : Int) := by omega
  have e2 : (4 : Int) * (n : Int) = ((4 * n : Nat) : Int) := by omega
  rw [e1, e2, ushr_n (by omega) (by omega)]
  have : jand (((pcode l).toNat / 2 ^ (4 * n) : Nat) : Int) 15 = (((pcode l).toNat / 2 ^ (4 * n) &&& 15 : Nat) : Int) := and_n (m := 15) (Nat.lt_of_le_of_lt (Nat.div_le_self _ _) (by omega)) (by omega)
  rw [this]
  have e3 : (pcode l).toNat / 2 ^ (4 * n) &&& 15 = ((pcode l).toNat / 2 ^ (4 * n)) % 16 := Nat.and_two_pow_sub_one_eq_mod _ 4
  have e4 : 2 ^ (4 * n) = 16 ^ n := by rw [Nat.pow_mul]
  rw [e3, e4, dig_n n l h]
  by_cases hc : n < l.length
  · have hc' : ((n : Int) < (l.length : Int)) := by omega
    rw [if_pos hc, if_pos hc']
    have := h _ (getD_mem hc)
    simp only [Int.toNat_natCast]
    omega
  · have hc' : ¬ ((n : Int) < (l.length : Int)) := by omega
    rw [if_neg hc, if_neg hc']
    rfl
theorem pring_small {b : BK} (hv : vb b) {r : List Int} (h : gr b r) : small (pring b r) := by
  intro a ha
  obtain ⟨t, ht, e⟩ := (mem_pring (gr_len h) a).mp ha
  have ti := gr_in h ht
  have tt := vb_t hv ti.1 ti.2
  have hn := vb_n hv
  omega
/-- code by code, from the last entry down -/
theorem code_step {c a : Int} (hc : 0 ≤ c ∧ c < 65536) (ha : 0 ≤ a ∧ a < 12) : jor (jshl c 4) (a + 1) = c * 16 + (a + 1) := by
  obtain ⟨n, rfl⟩ := Int.eq_ofNat_of_zero_le hc.1
  obtain ⟨m, hm⟩ := Int.eq_ofNat_of_zero_le (show 0 ≤ a + 1 by omega)
  rw [hm]
  have e := shl_n (n := n) (k := 4) (by omega) (by omega)
  rw [show ((4 : Nat) : Int) = 4 from rfl] at e
  rw [e, or_n (by omega) (by omega)]
  have : n * 2 ^ 4 ||| m = n * 2 ^ 4 + m := by
    rw [← Nat.shiftLeft_eq, Nat.shiftLeft_add_eq_or_of_lt (show m < 2 ^ 4 by omega)]
  rw [this]
  omega
