/-! the rows of the alarms grow, one behind the other -/
abbrev PGA (c : Int) : Nat → Int → Int → Prop := fun t y i => ((t = 50 ∨ t = 51) ∧ c - 159 ≤ y) ∨ t = 53 ∨ t = 54 ∨ (t = 27 ∧ y = 0 ∧ 2 ≤ i ∧ i ≤ 9)
theorem jfr_ga {ν ξ : JM} {c c' : Int} {k : Nat} (hk : 2 ≤ k ∧ k < 10) (hc : c ≤ c') (h : jfr (fun t y i => ((t = 50 ∨ t = 51) ∧ y = c' - 159) ∨ t = 53 ∨ t = 54 ∨ (t = qT k ∧ y = 0 ∧ i = qF k)) ν ξ) : jfr (PGA c) ν ξ := by
  refine jfr_mono h (fun t y i h => ?_)
  rcases h with h | h | h | h
  · exact Or.inl ⟨h.1, by omega⟩
  · exact Or.inr (Or.inl h)
  · exact Or.inr (Or.inr (Or.inl h))
  · refine Or.inr (Or.inr (Or.inr ?_))
    unfold qT qF at h
    rw [if_neg (by omega), if_neg (by omega), if_neg (by omega)] at h
    exact ⟨h.1, h.2.1, by omega, by omega⟩
def GR (ν ζ : JM) (cap : Nat → Int) (k : Nat) (n : Int) : Prop := JA ζ (fun j => if j = k then n else cap j) ∧ (∀ j, j < 10 → ∀ i, 0 ≤ i → i < cap j → arr ζ j i = arr ν j i) ∧ ζ 53 0 0 = ν 53 0 0 + 1 ∧ ζ 54 0 0 = ν 54 0 0 + n ∧ jfr (PGA (ν 53 0 0)) ν ζ
theorem c_grow1 {d k : Nat} {ca : Int} {cap : Nat → Int} {ν : JM} {Q : JQ} (hk : 2 ≤ k ∧ k < 10) (hJ : JA ν cap) (hc : cap k = ca) (hca : 16 ≤ ca ∧ ca ≤ 12000) (h53 : ν 53 0 0 < 600000) (h54 : ν 54 0 0 + ca * 2 ≤ 7302250) (K : ∀ r ξ, 0 ≤ r → GR ν (jw ξ 27 0 (k : Int) (r + 1)) cap k (ca * 2) → Q r ξ) : wp true d 321 0 [(50, ν 27 0 (k : Int) - 1), (0, ca * 2), (9, 0)] [] ν Q := by
  have q := hJ.2.2.1 k hk.2
  have e : qp ν k = ν 27 0 (k : Int) - 1 := by
    unfold qp
    rw [if_neg (by omega), if_neg (by omega)]
  have eT : qT k = 27 := by
    unfold qT
    rw [if_neg (by omega)]
  have eF : qF k = (k : Int) := by
    unfold qF
    rw [if_neg (by omega), if_neg (by omega)]
  rw [e, hc] at q
  have b1 := hJ.1
  have b2 := hJ.2.1
  refine c_copyOf (by omega) ⟨b1, h53⟩ ⟨b2, h54⟩ ⟨by omega, by omega⟩ (by omega) (fun ξ f1 f2 f3 f4 f5 => K _ _ (by omega) ?_)
  rw [q.2.2.1] at f2
  have g := JA_grow (k := k) (n := ca * 2) (ζ := jw ξ 27 0 (k : Int) (ν 53 0 0 - 159 + 1)) hk.2 hJ (by omega) f1 (by rw [hc, e]; exact f2) f3 f4 f5 (by rw [eT, eF])
  exact ⟨g.1, g.2.1, g.2.2.1, g.2.2.2.1, jfr_ga hk (Int.le_refl _) g.2.2.2.2⟩
abbrev capi (cp ca : Int) (m : Nat) : Nat → Int := fun j => if 2 ≤ j ∧ j ≤ m then ca * 2 else cpa cp ca j
def CU (cp ca : Int) (ν ζ : JM) (m : Nat) : Prop := JA ζ (capi cp ca m) ∧ (∀ j, j < 10 → ∀ i, 0 ≤ i → i < cpa cp ca j → arr ζ j i = arr ν j i) ∧ ζ 53 0 0 = ν 53 0 0 + ((m : Int) - 1) ∧ ζ 54 0 0 = ν 54 0 0 + ((m : Int) - 1) * (ca * 2) ∧ jfr (PGA (ν 53 0 0)) ν ζ
theorem PGA_mono {c c' : Int} (h : c ≤ c') {t : Nat} {y i : Int} (hp : PGA c' t y i) : PGA c t y i := by
  rcases hp with hp | hp
  · exact Or.inl ⟨hp.1, by omega⟩
  · exact Or.inr hp
theorem CU_step {cp ca : Int} {ν ζ ζ' : JM} {m : Nat} (hca : 16 ≤ ca) (hm : 1 ≤ m ∧ m < 9) (h : CU cp ca ν ζ m) (g : GR ζ ζ' (capi cp ca m) (m + 1) (ca * 2)) : CU cp ca ν ζ' (m + 1) := by
  have h3 := h.2.2.1
  refine ⟨?_, fun j hj i h0 h1 => ?_, ?_, ?_, jfr_trans h.2.2.2.2 (jfr_mono g.2.2.2.2 (fun t y i hp => PGA_mono (by omega) hp))⟩
  · have g1 := g.1
    refine ⟨g1.1, g1.2.1, fun j hj => ?_, g1.2.2.2⟩
    have ec : capi cp ca (m + 1) j = if j = m + 1 then ca * 2 else capi cp ca m j := by
      unfold capi
      by_cases a : j = m + 1
      · rw [if_pos a, if_pos (by omega)]
      · rw [if_neg a]
        by_cases c : 2 ≤ j ∧ j ≤ m
        · rw [if_pos c, if_pos (by omega)]
        · rw [if_neg c, if_neg (by omega)]
    rw [ec]
    exact g1.2.2.1 j hj
  · refine (g.2.1 j hj i h0 ?_).trans (h.2.1 j hj i h0 h1)
    unfold capi
    split
    · rename_i a
      have : i < ca := by
        have h2 : i < cpa cp ca j := h1
        unfold cpa at h2
        rw [if_neg (by omega)] at h2
        exact h2
      omega
    · exact h1
  · rw [g.2.2.1, h3]
    omega
  · rw [g.2.2.2.1, h.2.2.2.1]
    have : (((m + 1 : Nat) : Int) - 1) * (ca * 2) = ((m : Int) - 1) * (ca * 2) + ca * 2 := by
      rw [show ((m + 1 : Nat) : Int) - 1 = ((m : Int) - 1) + 1 by omega, Int.add_mul]
      omega
    rw [this]
    omega
theorem CU_get {cp ca : Int} {ν ζ : JM} {m k : Nat} (h : CU cp ca ν ζ m) (hk : m < k ∧ 2 ≤ k ∧ k < 10) : 1 ≤ ζ 27 0 (k : Int) ∧ capi cp ca m k = ca := by
  have q := h.1.2.2.1 k hk.2.2
  have e : qp ζ k = ζ 27 0 (k : Int) - 1 := by
    unfold qp
    rw [if_neg (by omega), if_neg (by omega)]
  rw [e] at q
  refine ⟨by omega, ?_⟩
  unfold capi cpa
  rw [if_neg (by omega), if_neg (by omega)]
theorem CU_room {cp ca : Int} {ν ζ : JM} {m : Nat} (hca : 16 ≤ ca ∧ ca ≤ 12000) (hm : 1 ≤ m ∧ m < 10) (h53 : ν 53 0 0 ≤ 100000) (h54 : ν 54 0 0 ≤ 5000000) (h : CU cp ca ν ζ m) : ζ 53 0 0 < 600000 ∧ ζ 54 0 0 + ca * 2 ≤ 7302250 := by
  have h3 := h.2.2.1
  have h4 := h.2.2.2.1
  refine ⟨by omega, ?_⟩
  have : ((m : Int) - 1) * (ca * 2) ≤ 8 * (12000 * 2) := Int.mul_le_mul (by omega) (by omega) (by omega) (by omega)
  omega
theorem c_widenA {d : Nat} {cp ca : Int} {ν : JM} {Q : JQ} (hN : JN cp ca ν) (hca : ca ≤ 12000) (k : ∀ ξ, JN cp (2 * ca) ξ → jfr (PGA (ν 53 0 0)) ν ξ → (∀ j, j < 10 → ∀ i, 0 ≤ i → i < cpa cp ca j → arr ξ j i = arr ν j i) → Q 1 ξ) : wp true (d + 1) 7 0 [(27, 0), (9, 0)] [] ν Q := by
  have b1 := hN.2.1
  have b2 := hN.2.2.1
  have b3 := hN.2.2.2.1
  have b4 := hN.2.2.2.2
  have hc2 : 16 ≤ ca ∧ ca ≤ 12000 := ⟨b2.1, hca⟩
  have r53 : ν 53 0 0 ≤ 100000 := by omega
  have r54 : ν 54 0 0 ≤ 5000000 := by omega
  have cu : CU cp ca ν ν 1 := by
    refine ⟨?_, fun _ _ _ _ _ => rfl, by omega, by omega, jfr_refl _ _⟩
    refine ⟨hN.1.1, hN.1.2.1, fun j hj => ?_, hN.1.2.2.2⟩
    have ec : capi cp ca 1 j = cpa cp ca j := by
      unfold capi
      rw [if_neg (by omega)]
    rw [ec]
    exact hN.1.2.2.1 j hj
  have q3 := hN.1.2.2.1 3 (by omega)
  have l3 : 0 ≤ ν 27 0 3 - 1 ∧ ν 51 (ν 27 0 3 - 1) 0 = ca := ⟨q3.1, q3.2.2.1⟩
  have n2 : 1 ≤ ν 27 0 2 := (CU_get (k := 2) cu (by omega)).1
  refine s_X0_widen_0 _ _ _ ?_
  rw [l3.2]
  refine ⟨by omega, ⟨⟨by omega, by omega⟩, ⟨by omega, by omega⟩⟩, fun _ => ⟨by omega, n2, ?_⟩, fun h => absurd (by omega) h⟩
  clear q3 l3 n2
  refine c_grow1 (k := 2) (by omega) cu.1 (CU_get (k := 2) cu (by omega)).2 hc2 (CU_room hc2 (by omega) r53 r54 cu).1 (CU_room hc2 (by omega) r53 r54 cu).2 (fun r ξ hr g => ⟨hr, ?_⟩)
  have cu := CU_step hc2.1 (by omega) cu g
  clear g
  change CU cp ca ν (jw ξ 27 0 2 (r + 1)) 2 at cu
  generalize jw ξ 27 0 2 (r + 1) = ζ at cu ⊢
  refine ⟨(CU_get (k := 3) cu (by omega)).1, ?_⟩
  refine c_grow1 (k := 3) (by omega) cu.1 (CU_get (k := 3) cu (by omega)).2 hc2 (CU_room hc2 (by omega) r53 r54 cu).1 (CU_room hc2 (by omega) r53 r54 cu).2 (fun r ξ hr g => ⟨hr, ?_⟩)
  have cu := CU_step hc2.1 (by omega) cu g
  clear g
  change CU cp ca ν (jw ξ 27 0 3 (r + 1)) 3 at cu
  generalize jw ξ 27 0 3 (r + 1) = ζ at cu ⊢
  refine ⟨(CU_get (k := 4) cu (by omega)).1, ?_⟩
  refine c_grow1 (k := 4) (by omega) cu.1 (CU_get (k := 4) cu (by omega)).2 hc2 (CU_room hc2 (by omega) r53 r54 cu).1 (CU_room hc2 (by omega) r53 r54 cu).2 (fun r ξ hr g => ⟨hr, ?_⟩)
  have cu := CU_step hc2.1 (by omega) cu g
  clear g
  change CU cp ca ν (jw ξ 27 0 4 (r + 1)) 4 at cu
  generalize jw ξ 27 0 4 (r + 1) = ζ at cu ⊢
  refine ⟨(CU_get (k := 5) cu (by omega)).1, ?_⟩
  refine c_grow1 (k := 5) (by omega) cu.1 (CU_get (k := 5) cu (by omega)).2 hc2 (CU_room hc2 (by omega) r53 r54 cu).1 (CU_room hc2 (by omega) r53 r54 cu).2 (fun r ξ hr g => ⟨hr, ?_⟩)
  have cu := CU_step hc2.1 (by omega) cu g
  clear g
  change CU cp ca ν (jw ξ 27 0 5 (r + 1)) 5 at cu
  generalize jw ξ 27 0 5 (r + 1) = ζ at cu ⊢
  refine ⟨(CU_get (k := 6) cu (by omega)).1, ?_⟩
  refine c_grow1 (k := 6) (by omega) cu.1 (CU_get (k := 6) cu (by omega)).2 hc2 (CU_room hc2 (by omega) r53 r54 cu).1 (CU_room hc2 (by omega) r53 r54 cu).2 (fun r ξ hr g => ⟨hr, ?_⟩)
  have cu := CU_step hc2.1 (by omega) cu g
  clear g
  change CU cp ca ν (jw ξ 27 0 6 (r + 1)) 6 at cu
  generalize jw ξ 27 0 6 (r + 1) = ζ at cu ⊢
  refine ⟨(CU_get (k := 7) cu (by omega)).1, ?_⟩
  refine c_grow1 (k := 7) (by omega) cu.1 (CU_get (k := 7) cu (by omega)).2 hc2 (CU_room hc2 (by omega) r53 r54 cu).1 (CU_room hc2 (by omega) r53 r54 cu).2 (fun r ξ hr g => ⟨hr, ?_⟩)
  have cu := CU_step hc2.1 (by omega) cu g
  clear g
  change CU cp ca ν (jw ξ 27 0 7 (r + 1)) 7 at cu
  generalize jw ξ 27 0 7 (r + 1) = ζ at cu ⊢
  refine ⟨(CU_get (k := 8) cu (by omega)).1, ?_⟩
  refine c_grow1 (k := 8) (by omega) cu.1 (CU_get (k := 8) cu (by omega)).2 hc2 (CU_room hc2 (by omega) r53 r54 cu).1 (CU_room hc2 (by omega) r53 r54 cu).2 (fun r ξ hr g => ⟨hr, ?_⟩)
  have cu := CU_step hc2.1 (by omega) cu g
  clear g
  change CU cp ca ν (jw ξ 27 0 8 (r + 1)) 8 at cu
  generalize jw ξ 27 0 8 (r + 1) = ζ at cu ⊢
  refine ⟨(CU_get (k := 9) cu (by omega)).1, ?_⟩
  refine c_grow1 (k := 9) (by omega) cu.1 (CU_get (k := 9) cu (by omega)).2 hc2 (CU_room hc2 (by omega) r53 r54 cu).1 (CU_room hc2 (by omega) r53 r54 cu).2 (fun r ξ hr g => ⟨hr, ?_⟩)
  have cu := CU_step hc2.1 (by omega) cu g
  clear g
  change CU cp ca ν (jw ξ 27 0 9 (r + 1)) 9 at cu
  generalize jw ξ 27 0 9 (r + 1) = ζ at cu ⊢
  have h3 := cu.2.2.1
  have h4 := cu.2.2.2.1
  refine ⟨by omega, by omega, k _ ⟨?_, b1, ⟨by omega, by omega⟩, by omega, by omega⟩ cu.2.2.2.2 cu.2.1⟩
  refine ⟨cu.1.1, cu.1.2.1, fun j hj => ?_, cu.1.2.2.2⟩
  have ec : cpa cp (2 * ca) j = capi cp ca 9 j := by
    unfold capi cpa
    by_cases a : j < 2
    · rw [if_pos a, if_neg (by omega), if_pos a]
    · rw [if_neg a, if_pos (by omega)]
      omega
  rw [ec]
  exact cu.1.2.2.1 j hj
