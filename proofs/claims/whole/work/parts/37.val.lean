/-! books stay such as can be -/
theorem pdn_spec {b : BK} (hv : vb b) (w : Int) : ∀ k : Nat, (k : Int) ≤ b 5 1 → (∀ i, 0 ≤ i → i < pdn b w k → b 2 i ≤ w) ∧ (∀ i, pdn b w k ≤ i → i < k → w < b 2 i)
  | 0, _ => ⟨fun i h0 h1 => by unfold pdn at h1; omega, fun i h0 h1 => by have := pdn_le b w 0; omega⟩
  | k + 1, hk => by
    have ih := pdn_spec hv w k (by omega)
    unfold pdn
    split
    · rename_i hc
      refine ⟨ih.1, fun i h0 h1 => ?_⟩
      by_cases hi : i = k
      · subst hi; exact hc
      · exact ih.2 i h0 (by omega)
    · rename_i hc
      refine ⟨fun i h0 h1 => ?_, fun i h0 h1 => by omega⟩
      have := vb_so hv (s := i) (t := k) h0 (by omega) (by omega)
      omega
theorem vb_pins {b : BK} (hv : vb b) (hm32 : b 5 1 < 32) {f t a w : Int} (hf : 0 ≤ f ∧ f < b 5 0) (ht : 0 ≤ t ∧ t < b 5 0) (hft : f ≠ t) (ha : 1 ≤ a ∧ a ≤ 9999) (hw : 0 ≤ w ∧ w ≤ 9999) : vb (pins b (pdn b w (nm b)) f t a w) := by
  have hm := vb_m hv
  have hnm : (nm b : Int) = b 5 1 := by have := nm_eq hv; omega
  have sp := pdn_spec hv w (nm b) (by omega)
  have le := pdn_le b w (nm b)
  rw [hnm] at sp le
  generalize pdn b w (nm b) = p at sp le ⊢
  have e0 : pins b p f t a w 5 0 = b 5 0 := by simp [pins]
  have e1 : pins b p f t a w 5 1 = b 5 1 + 1 := by simp [pins]
  have e2 : pins b p f t a w 5 2 = b 5 2 := by simp [pins]
  have e4 : ∀ k, pins b p f t a w 4 k = b 4 k := fun k => by simp [pins]
  have r : ∀ i, (i < p → ∀ j, j < 4 → pins b p f t a w j i = b j i) ∧ (p < i → ∀ j, j < 4 → pins b p f t a w j i = b j (i - 1)) := by
    intro i
    refine ⟨fun h j hj => ?_, fun h j hj => ?_⟩
    · unfold pins
      rw [if_neg (by omega), if_neg (by omega), if_pos h]
    · unfold pins
      rw [if_neg (by omega), if_neg (by omega), if_neg (by omega), if_neg (by omega)]
  have q : pins b p f t a w 0 p = f ∧ pins b p f t a w 1 p = t ∧ pins b p f t a w 2 p = w ∧ pins b p f t a w 3 p = a := by simp [pins]
  refine ⟨?_, ?_, ?_, ?_, ?_, ?_, ?_, ?_, ?_⟩
  · rw [e0]; exact vb_n hv
  · rw [e1]; omega
  · rw [e2]; exact vb_tr hv
  · rw [e4]; exact vb_w hv
  · rw [e4]; exact vb_lo hv
  · rw [e4]; exact vb_ls hv
  · rw [e4]; exact vb_ga hv
  · intro i h0 h1
    rw [e1] at h1
    rw [e0]
    rcases Int.lt_trichotomy i p with hc | hc | hc
    · rw [(r i).1 hc 0 (by omega), (r i).1 hc 1 (by omega), (r i).1 hc 2 (by omega), (r i).1 hc 3 (by omega)]
      exact vb_t hv h0 (by omega)
    · subst hc
      rw [q.1, q.2.1, q.2.2.1, q.2.2.2]
      exact ⟨hf, ht, hft, hw, ha⟩
    · rw [(r i).2 hc 0 (by omega), (r i).2 hc 1 (by omega), (r i).2 hc 2 (by omega), (r i).2 hc 3 (by omega)]
      exact vb_t hv (by omega) (by omega)
  · intro s i h0 h1 h2
    rw [e1] at h2
    rcases Int.lt_trichotomy i p with hc | hc | hc
    · rw [(r i).1 hc 2 (by omega), (r s).1 (by omega) 2 (by omega)]
      exact vb_so hv h0 h1 (by omega)
    · subst hc
      rw [q.2.2.1]
      by_cases hs : s = i
      · subst hs; rw [q.2.2.1]; exact Int.le_refl _
      · rw [(r s).1 (by omega) 2 (by omega)]
        exact sp.1 s h0 (by omega)
    · rw [(r i).2 hc 2 (by omega)]
      have := sp.2 (i - 1) (by omega) (by omega)
      rcases Int.lt_trichotomy s p with hs | hs | hs
      · rw [(r s).1 hs 2 (by omega)]
        have := sp.1 s h0 hs
        omega
      · subst hs; rw [q.2.2.1]; omega
      · rw [(r s).2 hs 2 (by omega)]
        exact vb_so hv (by omega) (by omega) (by omega)
theorem vb_prem {b : BK} (hv : vb b) {x : Int} (hx : 0 ≤ x ∧ x < b 5 1) : vb (prem b x) := by
  have hm := vb_m hv
  have e0 : prem b x 5 0 = b 5 0 := by simp [prem]
  have e1 : prem b x 5 1 = b 5 1 - 1 := by simp [prem]
  have e2 : prem b x 5 2 = b 5 2 := by simp [prem]
  have e4 : ∀ k, prem b x 4 k = b 4 k := fun k => by simp [prem]
  have r : ∀ i, (i < x → ∀ j, j < 4 → prem b x j i = b j i) ∧ (¬ i < x → ∀ j, j < 4 → prem b x j i = b j (i + 1)) := by
    intro i
    refine ⟨fun h j hj => ?_, fun h j hj => ?_⟩
    · unfold prem
      rw [if_neg (by omega), if_neg (by omega), if_pos h]
    · unfold prem
      rw [if_neg (by omega), if_neg (by omega), if_neg h]
  refine ⟨?_, ?_, ?_, ?_, ?_, ?_, ?_, ?_, ?_⟩
  · rw [e0]; exact vb_n hv
  · rw [e1]; omega
  · rw [e2]; exact vb_tr hv
  · rw [e4]; exact vb_w hv
  · rw [e4]; exact vb_lo hv
  · rw [e4]; exact vb_ls hv
  · rw [e4]; exact vb_ga hv
  · intro i h0 h1
    rw [e1] at h1
    rw [e0]
    by_cases hc : i < x
    · rw [(r i).1 hc 0 (by omega), (r i).1 hc 1 (by omega), (r i).1 hc 2 (by omega), (r i).1 hc 3 (by omega)]
      exact vb_t hv h0 (by omega)
    · rw [(r i).2 hc 0 (by omega), (r i).2 hc 1 (by omega), (r i).2 hc 2 (by omega), (r i).2 hc 3 (by omega)]
      exact vb_t hv (by omega) (by omega)
  · intro s i h0 h1 h2
    rw [e1] at h2
    by_cases hc : i < x
    · rw [(r i).1 hc 2 (by omega), (r s).1 (by omega) 2 (by omega)]
      exact vb_so hv h0 h1 (by omega)
    · rw [(r i).2 hc 2 (by omega)]
      by_cases hs : s < x
      · rw [(r s).1 hs 2 (by omega)]
        exact vb_so hv h0 (by omega) (by omega)
      · rw [(r s).2 hs 2 (by omega)]
        exact vb_so hv (by omega) (by omega) (by omega)
theorem lt_of_bt {x : Int} (hx : inR x) {n : Nat} (hn : n < 32) (h : ∀ k, n ≤ k → k < 32 → bt x k = false) : 0 ≤ x ∧ x < 2 ^ n := by
  have e : x = ((BitVec.ofInt 32 x).toNat : Int) := by
    conv => lhs; rw [← bv_inR hx]
    apply BitVec.toInt_eq_toNat_of_msb
    rw [BitVec.msb_eq_getLsbD_last]
    exact h 31 (by omega) (by omega)
  have l : (BitVec.ofInt 32 x).toNat < 2 ^ n := by
    apply Nat.lt_pow_two_of_testBit
    intro i hi
    by_cases h32 : i < 32
    · exact h i hi h32
    · exact Nat.testBit_lt_two_pow (Nat.lt_of_lt_of_le (BitVec.isLt _) (Nat.pow_le_pow_right (by omega) (by omega)))
  rw [e]
  refine ⟨by omega, ?_⟩
  have : ((BitVec.ofInt 32 x).toNat : Int) < ((2 ^ n : Nat) : Int) := Int.ofNat_lt.mpr l
  simpa using this
theorem bt_lt {x : Int} (h0 : 0 ≤ x) {n : Nat} (h1 : x < 2 ^ n) {k : Nat} (hk : n ≤ k) : bt x k = false := by
  obtain ⟨m, rfl⟩ := Int.eq_ofNat_of_zero_le h0
  by_cases h32 : k < 32
  · rw [bt_nat k h32]
    apply Nat.testBit_lt_two_pow
    have : m < 2 ^ n := by
      have : ((m : Int)) < ((2 ^ n : Nat) : Int) := by simpa using h1
      omega
    exact Nat.lt_of_lt_of_le this (Nat.pow_le_pow_right (by omega) hk)
  · exact bt_hi _ (by omega)
theorem tr_hi {x : Int} (h : 0 ≤ x ∧ x < 4096) {k : Nat} (hk : 12 ≤ k) : bt x k = false := bt_lt h.1 (n := 12) (by omega) hk
theorem tr_of {x : Int} (hx : inR x) (h : ∀ k, 12 ≤ k → k < 32 → bt x k = false) : 0 ≤ x ∧ x < 4096 := by
  have := lt_of_bt hx (n := 12) (by omega) h
  exact ⟨this.1, by have := this.2; omega⟩
theorem shr_eq {x : Int} (h : 0 ≤ x ∧ x < 4096) {k : Int} (h0 : 0 ≤ k) (h1 : k < 32) : jshr x k = jushr x k := by
  obtain ⟨n, rfl⟩ := Int.eq_ofNat_of_zero_le h0
  rw [jshr_bv x (by omega), jushr_bv x (by omega)]
  congr 1
  rw [BitVec.sshiftRight_eq_of_msb_false]
  rw [BitVec.msb_eq_getLsbD_last]
  exact tr_hi h (k := 31) (by omega)
theorem ptr_in {x : Int} (h : 0 ≤ x ∧ x < 4096) {g : Int} (h0 : 0 ≤ g) (h1 : g < 31) : 0 ≤ ptr x g ∧ ptr x g < 4096 := by
  refine tr_of (inR_or _ _) (fun k hk hk2 => ?_)
  obtain ⟨n, rfl⟩ := Int.eq_ofNat_of_zero_le h0
  unfold ptr
  rw [bt_or, bt_and, tr_hi h hk, Bool.false_and, Bool.false_or]
  rw [show ((n : Int) + 1) = ((n + 1 : Nat) : Int) by omega, bt_shl _ (by omega) hk2, bt_ushr _ (by omega)]
  by_cases hn : n ≤ k
  · rw [show n + 1 + (k - n) = k + 1 by omega, tr_hi h (by omega), Bool.and_false]
  · simp [hn]
theorem vb_pmrg {b : BK} (hv : vb b) {l g : Int} (hl : 0 ≤ l) (hlg : l < g) (hg : g < b 5 0) : vb (pmrg b l g) := by
  have hm := vb_m hv
  have hn := vb_n hv
  have hnm : (nm b : Int) = b 5 1 := by have := nm_eq hv; omega
  have e0 : pmrg b l g 5 0 = b 5 0 - 1 := by simp [pmrg]
  have e1 : pmrg b l g 5 1 = ((pkl b l g).length : Int) := by simp [pmrg]
  have e2 : pmrg b l g 5 2 = ptr (b 5 2) g := by simp [pmrg]
  have e4 : ∀ k, pmrg b l g 4 k = b 4 k := fun k => by simp [pmrg]
  have ln : ((pkl b l g).length : Int) ≤ b 5 1 := by
    have := fk_len (P := pkp b l g) (nm b) 0
    unfold pkl
    omega
  have mem : ∀ i : Int, 0 ≤ i → i < ((pkl b l g).length : Int) → (0 ≤ (pkl b l g).getD i.toNat 0 ∧ (pkl b l g).getD i.toNat 0 < b 5 1) ∧ ren l g (b 0 ((pkl b l g).getD i.toNat 0)) ≠ ren l g (b 1 ((pkl b l g).getD i.toNat 0)) := by
    intro i h0 h1
    have := fk_mem (P := pkp b l g) (nm b) 0 _ (getD_mem (l := pkl b l g) (i := i.toNat) (by omega))
    refine ⟨⟨by omega, by omega⟩, ?_⟩
    have h := this.2.2
    simpa using h
  have rn : ∀ a, 0 ≤ a → a < b 5 0 → 0 ≤ ren l g a ∧ ren l g a < b 5 0 - 1 := by
    intro a h0 h1
    unfold ren
    split
    · omega
    · split <;> omega
  refine ⟨?_, ?_, ?_, ?_, ?_, ?_, ?_, ?_, ?_⟩
  · rw [e0]; omega
  · rw [e1]; omega
  · rw [e2]; exact ptr_in (vb_tr hv) (by omega) (by omega)
  · rw [e4]; exact vb_w hv
  · rw [e4]; exact vb_lo hv
  · rw [e4]; exact vb_ls hv
  · rw [e4]; exact vb_ga hv
  · intro i h0 h1
    rw [e1] at h1
    have q := mem i h0 h1
    have t := vb_t hv q.1.1 q.1.2
    have r0 := rn _ t.1.1 t.1.2
    have r1 := rn _ t.2.1.1 t.2.1.2
    rw [e0]
    have f0 : pmrg b l g 0 i = ren l g (b 0 ((pkl b l g).getD i.toNat 0)) := by simp [pmrg]
    have f1 : pmrg b l g 1 i = ren l g (b 1 ((pkl b l g).getD i.toNat 0)) := by simp [pmrg]
    have f2 : pmrg b l g 2 i = b 2 ((pkl b l g).getD i.toNat 0) := by simp [pmrg]
    have f3 : pmrg b l g 3 i = b 3 ((pkl b l g).getD i.toNat 0) := by simp [pmrg]
    rw [f0, f1, f2, f3]
    exact ⟨r0, r1, q.2, t.2.2.2.1, t.2.2.2.2⟩
  · intro s i h0 h1 h2
    rw [e1] at h2
    have f2 : ∀ i, pmrg b l g 2 i = b 2 ((pkl b l g).getD i.toNat 0) := fun i => by simp [pmrg]
    rw [f2, f2]
    by_cases hs : s = i
    · subst hs; exact Int.le_refl _
    · have q := mem s h0 (by omega)
      have q2 := mem i (by omega) h2
      have := fk_mono (P := pkp b l g) (nm b) 0 s.toNat i.toNat (by omega) (by show i.toNat < (pkl b l g).length; omega)
      exact vb_so hv q.1.1 (Int.le_of_lt this) q2.1.2
theorem vb_bk0 : vb bk0 := by
  refine ⟨?_, ?_, ?_, ?_, ?_, ?_, ?_, ?_, ?_⟩ <;> simp [bk0] <;> intros <;> omega
