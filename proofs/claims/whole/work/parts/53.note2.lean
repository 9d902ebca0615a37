/-! a round noted with its alarm -/
theorem c_begin {d : Nat} {A : LL} {cn wi sp fl : Nat → Int} {cp ca : Int} {g : List Int} {ν : JM} {Q : JQ} (hN : JN cp ca ν) (hA : AS A cn wi sp fl ν) (hc : (A.length : Int) ≤ ca) (hl : A.length ≤ 11999) (hg : small g ∧ g.length ≤ 5) (k : ∀ ξ ca', JN cp ca' ξ → (A.length : Int) < ca' → jfr (fun t y i => PAl t y i ∨ PGA (ν 53 0 0) t y i) ν ξ → (∀ i, 0 ≤ i → i < cp → arr ξ 0 i = arr ν 0 i ∧ arr ξ 1 i = arr ν 1 i) → ξ 22 0 6 = ν 22 0 6 → AS (A ++ [g]) (fun a => if a = A.length then 0 else cn a) wi sp (fun a => if a = A.length then 0 else fl a) ξ → Q (A.length : Int) ξ) : wp true (d + 2) 6 0 [(27, 0), (0, pcode g), (9, 0)] [] ν Q := by
  have n3 : ν 51 (ν 27 0 3 - 1) 0 = ca := (JN_a hN 3 (by omega)).2
  have o3 : 1 ≤ ν 27 0 3 := (JN_a hN 3 (by omega)).1
  have b0 := hN.2.2.1
  refine s_X0_begin_0 _ _ _ _ ?_
  rw [hA.1, n3]
  refine ⟨o3, ⟨⟨by omega, by omega⟩, ⟨by omega, by omega⟩⟩, fun h => ?_, fun h => ?_⟩
  · refine c_begin21 hN hA h (by omega) hg (fun ξ h1 h2 h3 h4 h5 => k ξ ca h1 h (jfr_mono h2 (fun t y i h => Or.inl h)) (fun i _ _ => ⟨h3 i, h4 i⟩) (h2 _ _ _ (by omega)) h5)
  · refine c_widenA hN (by omega) (fun ζ hN' hf hcon => ⟨by decide, fun _ => ?_, fun h => (h (by decide)).elim⟩)
    have hA' : AS A cn wi sp fl ζ := AS_fr hA (hf _ _ _ (by omega)) (fun i => hf _ _ _ (by omega)) (fun j h2 h10 a ha => hcon j h10 a (by omega) (by show (a : Int) < if j < 2 then cp else ca; rw [if_neg (by omega)]; omega))
    refine c_begin21 hN' hA' (by omega) (by omega) hg (fun ξ h1 h2 h3 h4 h5 => k ξ _ h1 (by omega) (jfr_trans (jfr_mono hf (fun t y i h => Or.inr h)) (jfr_mono h2 (fun t y i h => Or.inl h))) (fun i i0 i1 => ⟨(h3 i).trans (hcon 0 (by omega) i i0 i1), (h4 i).trans (hcon 1 (by omega) i i0 i1)⟩) ((h2 _ _ _ (by omega)).trans (hf _ _ _ (by omega))) h5)
theorem AS_congr {A : LL} {cn wi sp fl cn' wi' sp' fl' : Nat → Int} {ν : JM} (h : AS A cn wi sp fl ν) (e : ∀ a, a < A.length → cn a = cn' a ∧ fl a = fl' a ∧ (cn' a ≠ 0 → wi a = wi' a ∧ sp a = sp' a)) : AS A cn' wi' sp' fl' ν := by
  refine ⟨h.1, h.2.1, fun a ha => ?_⟩
  have q := h.2.2 a ha
  have ee := e a ha
  rw [ee.1, ee.2.1] at q
  refine ⟨q.1, q.2.1, q.2.2.1, q.2.2.2.1, fun hne => ?_, q.2.2.2.2.2.1, q.2.2.2.2.2.2⟩
  have z := q.2.2.2.2.1 hne
  have z2 := ee.2.2 hne
  exact ⟨z.1.trans z2.1, z.2.trans z2.2⟩
theorem c_note20 {d : Nat} {A : LL} {cn wi sp fl : Nat → Int} {cp ca : Int} {c rd tm mu : Int} {a : Nat} {ν : JM} {Q : JQ} (hN : JN cp ca ν) (hA : AS A cn wi sp fl ν) (hc : (A.length : Int) ≤ ca) (hl : A.length ≤ 12000) (ha : a < A.length) (hcn : ∀ x, x < A.length → 0 ≤ cn x ∧ cn x ≤ 20000) (hsp : cn a ≠ 0 → inR (sp a)) (htm : inR tm) (k : ∀ ξ, JN cp ca ξ → jfr PAl ν ξ → (∀ i, arr ξ 0 i = arr ν 0 i) → (∀ i, arr ξ 1 i = arr ν 1 i) → AS A (fun x => if x = a then cn a + 1 else cn x) (fun x => if x = a ∧ (cn a = 0 ∨ tm < sp a) then rd else wi x) (fun x => if x = a ∧ (cn a = 0 ∨ tm < sp a) then tm else sp x) (fun x => if x = a then fl a + mu else fl x) ξ → Q (a : Int) ξ) : wp true d 3 20 [(27, 0), (0, c), (0, rd), (0, tm), (0, mu), (0, (a : Int))] [] ν Q := by
  have b0 := hN.2.2.1
  have qa := hA.2.2 a ha
  have ca0 := hcn a ha
  have fin : ∀ M, JN cp ca M → jfr PAl ν M → M 27 0 0 = ν 27 0 0 → (∀ i, M 46 0 i = ν 46 0 i) → (∀ j, j < 10 → ∀ i, arr M j i = if j = 6 ∧ i = (a : Int) ∧ (cn a = 0 ∨ tm < sp a) then rd else if j = 7 ∧ i = (a : Int) ∧ (cn a = 0 ∨ tm < sp a) then tm else arr ν j i) → wp true d 3 65 [(27, 0), (0, c), (0, rd), (0, tm), (0, mu), (0, (a : Int))] [] M Q := by
    intro M N1 f1 c0 c46 a1
    refine s_X0_note_65 _ _ _ _ _ _ _ _ ?_
    have o5 : 1 ≤ M 27 0 5 := (JN_a N1 5 (by omega)).1
    have l5 : M 51 (M 27 0 5 - 1) 0 = ca := (JN_a N1 5 (by omega)).2
    have v5 : M 50 (M 27 0 5 - 1) (a : Int) = cn a := by
      have e := a1 5 (by omega) (a : Int)
      rw [if_neg (by omega), if_neg (by omega), qa.2.2.2.1] at e
      exact e
    rw [v5, l5]
    obtain ⟨M2, h2⟩ : ∃ M', M' = jw M 50 (M 27 0 5 - 1) (a : Int) (cn a + 1) := ⟨_, rfl⟩
    rw [← h2]
    have w2 := arr_w (k := 5) N1.1 (by omega) (v := cn a + 1) (i := (a : Int)) (ν' := M2) h2
    have N2 := JN_jw N1 w2.2.2
    have f2 : jfr PAl M M2 := by rw [h2]; exact jfr_jw (jfr_refl _ _) (Or.inl rfl)
    clear h2
    have o8 : 1 ≤ M2 27 0 8 := (JN_a N2 8 (by omega)).1
    have l8 : M2 51 (M2 27 0 8 - 1) 0 = ca := (JN_a N2 8 (by omega)).2
    have v8 : M2 50 (M2 27 0 8 - 1) (a : Int) = fl a := by
      have e := w2.2.1 8 (by omega) (a : Int)
      rw [if_neg (by omega), a1 8 (by omega), if_neg (by omega), if_neg (by omega), qa.2.2.2.2.2.1] at e
      exact e
    rw [v8, l8]
    obtain ⟨M3, h3⟩ : ∃ M', M' = jw M2 50 (M2 27 0 8 - 1) (a : Int) (fl a + mu) := ⟨_, rfl⟩
    rw [← h3]
    have w3 := arr_w (k := 8) N2.1 (by omega) (v := fl a + mu) (i := (a : Int)) (ν' := M3) h3
    have N3 := JN_jw N2 w3.2.2
    have f3 : jfr PAl M2 M3 := by rw [h3]; exact jfr_jw (jfr_refl _ _) (Or.inl rfl)
    clear h3
    have AR : ∀ j, j < 10 → ∀ i, arr M3 j i = if j = 8 ∧ i = (a : Int) then fl a + mu else if j = 5 ∧ i = (a : Int) then cn a + 1 else if j = 6 ∧ i = (a : Int) ∧ (cn a = 0 ∨ tm < sp a) then rd else if j = 7 ∧ i = (a : Int) ∧ (cn a = 0 ∨ tm < sp a) then tm else arr ν j i := fun j hj i => by
      rw [w3.2.1 j hj i, w2.2.1 j hj i, a1 j hj i]
    have ff := jfr_trans f1 (jfr_trans f2 f3)
    have ez : ∀ t y i', (t = 27 ∧ i' = 0) ∨ t = 46 → M3 t y i' = M t y i' := fun t y i' h => by rw [w3.2.2 _ _ _ (by omega), w2.2.2 _ _ _ (by omega)]
    refine ⟨o5, by omega, by omega, by omega, by omega, o8, by omega, by omega, by omega, by omega, k M3 N3 ff (fun i => ?_) (fun i => ?_) ?_⟩
    · rw [AR 0 (by omega)]; simp
    · rw [AR 1 (by omega)]; simp
    · refine ⟨?_, fun i i0 i1 => ?_, fun x hx => ?_⟩
      · rw [ez _ _ _ (by omega), c0]; exact hA.1
      · rw [ez _ _ _ (by omega), c46]; exact hA.2.1 i i0 i1
      · rw [AR 3 (by omega), AR 2 (by omega), AR 4 (by omega), AR 5 (by omega), AR 6 (by omega), AR 7 (by omega), AR 8 (by omega), AR 9 (by omega)]
        have qx := hA.2.2 x hx
        by_cases e : x = a
        · subst e
          refine ⟨?_, ?_, ?_, ?_, fun _ => ⟨?_, ?_⟩, ?_, ?_⟩
          · simp; exact qx.1
          · simp; exact qx.2.1
          · simp only [Nat.reduceEqDiff, false_and, if_false]; exact qx.2.2.1
          · simp
          · by_cases up : cn x = 0 ∨ tm < sp x
            · simp [up]
            · simp only [up, and_false, and_true, if_false, Nat.reduceEqDiff, false_and]
              exact (qx.2.2.2.2.1 (fun h => up (Or.inl h))).1
          · by_cases up : cn x = 0 ∨ tm < sp x
            · simp [up]
            · simp only [up, and_false, and_true, if_false, Nat.reduceEqDiff, false_and]
              exact (qx.2.2.2.2.1 (fun h => up (Or.inl h))).2
          · simp
          · simp; exact qx.2.2.2.2.2.2
        · have hi : ¬ (x : Int) = (a : Int) := by omega
          simp only [e, hi, false_and, and_false, if_false]
          exact qx
  refine s_X0_note_20 _ _ _ _ _ _ _ _ ?_
  have o5 : 1 ≤ ν 27 0 5 := (JN_a hN 5 (by omega)).1
  have l5 : ν 51 (ν 27 0 5 - 1) 0 = ca := (JN_a hN 5 (by omega)).2
  have o6 : 1 ≤ ν 27 0 6 := (JN_a hN 6 (by omega)).1
  have l6 : ν 51 (ν 27 0 6 - 1) 0 = ca := (JN_a hN 6 (by omega)).2
  have o7 : 1 ≤ ν 27 0 7 := (JN_a hN 7 (by omega)).1
  have l7 : ν 51 (ν 27 0 7 - 1) 0 = ca := (JN_a hN 7 (by omega)).2
  have v5 : ν 50 (ν 27 0 5 - 1) (a : Int) = cn a := qa.2.2.2.1
  rw [v5, l5, l6, l7]
  obtain ⟨M1, h1⟩ : ∃ M', M' = jw ν 50 (ν 27 0 6 - 1) (a : Int) rd := ⟨_, rfl⟩
  rw [← h1]
  have w1 := arr_w (k := 6) hN.1 (by omega) (v := rd) (i := (a : Int)) (ν' := M1) h1
  have N1 := JN_jw hN w1.2.2
  have f1 : jfr PAl ν M1 := by rw [h1]; exact jfr_jw (jfr_refl _ _) (Or.inl rfl)
  clear h1
  have o17 : 1 ≤ M1 27 0 7 := (JN_a N1 7 (by omega)).1
  have l17 : M1 51 (M1 27 0 7 - 1) 0 = ca := (JN_a N1 7 (by omega)).2
  rw [l17]
  obtain ⟨M2, h2⟩ : ∃ M', M' = jw M1 50 (M1 27 0 7 - 1) (a : Int) tm := ⟨_, rfl⟩
  rw [← h2]
  have w2 := arr_w (k := 7) N1.1 (by omega) (v := tm) (i := (a : Int)) (ν' := M2) h2
  have N2 := JN_jw N1 w2.2.2
  have f2 : jfr PAl M1 M2 := by rw [h2]; exact jfr_jw (jfr_refl _ _) (Or.inl rfl)
  clear h2
  have up : (cn a = 0 ∨ tm < sp a) → wp true d 3 65 [(27, 0), (0, c), (0, rd), (0, tm), (0, mu), (0, (a : Int))] [] M2 Q := by
    intro up
    refine fin M2 N2 (jfr_trans f1 f2) (by rw [w2.2.2 _ _ _ (by omega), w1.2.2 _ _ _ (by omega)]) (fun i => by rw [w2.2.2 _ _ _ (by omega), w1.2.2 _ _ _ (by omega)]) (fun j hj i => ?_)
    rw [w2.2.1 j hj i, w1.2.1 j hj i]
    by_cases j6 : j = 6
    · subst j6
      simp [up]
    · by_cases j7 : j = 7
      · subst j7
        simp [up]
      · simp [j6, j7]
  have no : ¬ (cn a = 0 ∨ tm < sp a) → wp true d 3 65 [(27, 0), (0, c), (0, rd), (0, tm), (0, mu), (0, (a : Int))] [] ν Q := by
    intro up
    refine fin ν hN (jfr_refl _ _) rfl (fun _ => rfl) (fun j hj i => ?_)
    rw [if_neg (fun h => up h.2.2), if_neg (fun h => up h.2.2)]
  refine ⟨by omega, fun _ => ⟨o5, by omega, by omega, by omega, fun h0 => ⟨o6, by omega, by omega, o17, by omega, by omega, up (Or.inl h0)⟩, fun h0 => ?_⟩, fun h => absurd (by omega) h⟩
  have z := qa.2.2.2.2.1 h0
  have v7 : ν 50 (ν 27 0 7 - 1) (a : Int) = sp a := z.2
  rw [v7]
  exact ⟨o7, by omega, by omega, ⟨htm, hsp h0⟩, fun h1 => no (fun h => by rcases h with h | h <;> omega), fun h1 => ⟨o6, by omega, by omega, o17, by omega, by omega, up (Or.inr (by omega))⟩⟩
