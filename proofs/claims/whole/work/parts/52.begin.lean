/-! an alarm begun; a round noted -/
abbrev PAl : Nat → Int → Int → Prop := fun t y i => t = 50 ∨ (t = 27 ∧ y = 0 ∧ i = 0) ∨ t = 46
theorem c_begin21 {d : Nat} {A : LL} {cn wi sp fl : Nat → Int} {cp ca : Int} {g : List Int} {ν : JM} {Q : JQ} (hN : JN cp ca ν) (hA : AS A cn wi sp fl ν) (hc : (A.length : Int) < ca) (hl : A.length ≤ 12000) (hg : small g ∧ g.length ≤ 5) (k : ∀ ξ, JN cp ca ξ → jfr PAl ν ξ → (∀ i, arr ξ 0 i = arr ν 0 i) → (∀ i, arr ξ 1 i = arr ν 1 i) → AS (A ++ [g]) (fun a => if a = A.length then 0 else cn a) wi sp (fun a => if a = A.length then 0 else fl a) ξ → Q (A.length : Int) ξ) : wp true (d + 1) 6 21 [(27, 0), (0, pcode g), (9, 0)] [] ν Q := by
  have hh := jhash_in (pcode g)
  have b0 := hN.2.2.1
  refine s_X0_begin_21 _ _ _ _ ?_
  rw [hA.1]
  obtain ⟨M1, h1⟩ : ∃ M, M = jw ν 27 0 0 ((A.length : Int) + 1) := ⟨_, rfl⟩
  rw [← h1]
  have N1 : JN cp ca M1 := JN_fr hN (fun i _ => by rw [h1, jw_t (by omega)]) (fun i h2 _ => by rw [h1, jw_i (by omega)]) (fun y => by rw [h1, jw_t (by omega)]) (by rw [h1, jw_t (by omega)]) (by rw [h1, jw_t (by omega)])
  have a1 : ∀ j, j < 10 → ∀ i, arr M1 j i = arr ν j i := fun j hj i => by
    show M1 50 (qp M1 j) i = _
    rw [qp_fr hj (fun i _ => by rw [h1, jw_t (by omega)]) (fun i h2 _ => by rw [h1, jw_i (by omega)]), h1, jw_t (by omega)]
  have c1 : M1 27 0 0 = (A.length : Int) + 1 := by rw [h1, jw_eq]
  have d1 : ∀ i, M1 46 0 i = ν 46 0 i := fun i => by rw [h1, jw_t (by omega)]
  have f1 : jfr PAl ν M1 := by rw [h1]; exact jfr_jw (jfr_refl _ _) (Or.inr (Or.inl ⟨rfl, rfl, rfl⟩))
  clear h1
  obtain ⟨M2, h2⟩ : ∃ M, M = jw M1 50 (M1 27 0 3 - 1) (A.length : Int) (pcode g) := ⟨_, rfl⟩
  rw [← h2]
  have w2 := arr_w (k := 3) N1.1 (by omega) (v := pcode g) (i := (A.length : Int)) (ν' := M2) h2
  have N2 := JN_jw N1 w2.2.2
  have f2 : jfr PAl M1 M2 := by rw [h2]; exact jfr_jw (jfr_refl _ _) (Or.inl rfl)
  clear h2
  obtain ⟨M3, h3⟩ : ∃ M, M = jw M2 50 (M2 27 0 2 - 1) (A.length : Int) (M2 46 0 (jand (jxor (jxor (pcode g) (jushr (pcode g) 6)) (jushr (pcode g) 12)) 63)) := ⟨_, rfl⟩
  rw [← h3]
  have w3 := arr_w (k := 2) N2.1 (by omega) (v := M2 46 0 (jand (jxor (jxor (pcode g) (jushr (pcode g) 6)) (jushr (pcode g) 12)) 63)) (i := (A.length : Int)) (ν' := M3) h3
  have e46 : M2 46 0 (jand (jxor (jxor (pcode g) (jushr (pcode g) 6)) (jushr (pcode g) 12)) 63) = pvh A (jhash (pcode g)) A.length := by
    rw [w2.2.2 _ _ _ (by omega), d1]
    exact hA.2.1 _ hh.1 hh.2
  rw [e46] at w3
  have N3 := JN_jw N2 w3.2.2
  have f3 : jfr PAl M2 M3 := by rw [h3]; exact jfr_jw (jfr_refl _ _) (Or.inl rfl)
  clear h3 e46
  obtain ⟨M4, h4⟩ : ∃ M, M = jw M3 46 0 (jand (jxor (jxor (pcode g) (jushr (pcode g) 6)) (jushr (pcode g) 12)) 63) (A.length : Int) := ⟨_, rfl⟩
  rw [← h4]
  have N4 : JN cp ca M4 := JN_fr N3 (fun i _ => by rw [h4, jw_t (by omega)]) (fun i h2 _ => by rw [h4, jw_t (by omega)]) (fun y => by rw [h4, jw_t (by omega)]) (by rw [h4, jw_t (by omega)]) (by rw [h4, jw_t (by omega)])
  have a4 : ∀ j, j < 10 → ∀ i, arr M4 j i = arr M3 j i := fun j hj i => by
    show M4 50 (qp M4 j) i = _
    rw [qp_fr hj (fun i _ => by rw [h4, jw_t (by omega)]) (fun i h2 _ => by rw [h4, jw_t (by omega)]), h4, jw_t (by omega)]
  have c4 : M4 27 0 0 = (A.length : Int) + 1 := by rw [h4, jw_t (by omega), w3.2.2 _ _ _ (by omega), w2.2.2 _ _ _ (by omega), c1]
  have d4 : ∀ i, M4 46 0 i = if i = jhash (pcode g) then (A.length : Int) else ν 46 0 i := fun i => by
    show M4 46 0 i = if i = (jand (jxor (jxor (pcode g) (jushr (pcode g) 6)) (jushr (pcode g) 12)) 63) then (A.length : Int) else ν 46 0 i
    rw [h4]
    by_cases hi : i = (jand (jxor (jxor (pcode g) (jushr (pcode g) 6)) (jushr (pcode g) 12)) 63)
    · rw [if_pos hi, hi, jw_eq]
    · rw [if_neg hi, jw_i hi, w3.2.2 _ _ _ (by omega), w2.2.2 _ _ _ (by omega), d1]
  have f4 : jfr PAl M3 M4 := by rw [h4]; exact jfr_jw (jfr_refl _ _) (Or.inr (Or.inr rfl))
  clear h4
  have o13 : 1 ≤ M1 27 0 3 := (JN_a N1 3 (by omega)).1
  have l13 : M1 51 (M1 27 0 3 - 1) 0 = ca := (JN_a N1 3 (by omega)).2
  have o22 : 1 ≤ M2 27 0 2 := (JN_a N2 2 (by omega)).1
  have l22 : M2 51 (M2 27 0 2 - 1) 0 = ca := (JN_a N2 2 (by omega)).2
  have o44 : 1 ≤ M4 27 0 4 := (JN_a N4 4 (by omega)).1
  have l44 : M4 51 (M4 27 0 4 - 1) 0 = ca := (JN_a N4 4 (by omega)).2
  rw [l13, l22]
  refine ⟨o13, by omega, hc, o22, hh.1, hh.2, by omega, hc, hh.1, hh.2, o44, c_membersOf hg.1 hg.2 (fun r hr hb => ?_)⟩
  rw [l44]
  obtain ⟨M5, h5⟩ : ∃ M, M = jw M4 50 (M4 27 0 4 - 1) (A.length : Int) r := ⟨_, rfl⟩
  rw [← h5]
  have w5 := arr_w (k := 4) N4.1 (by omega) (v := r) (i := (A.length : Int)) (ν' := M5) h5
  have N5 := JN_jw N4 w5.2.2
  have f5 : jfr PAl M4 M5 := by rw [h5]; exact jfr_jw (jfr_refl _ _) (Or.inl rfl)
  clear h5
  obtain ⟨M6, h6⟩ : ∃ M, M = jw M5 50 (M5 27 0 5 - 1) (A.length : Int) 0 := ⟨_, rfl⟩
  rw [← h6]
  have w6 := arr_w (k := 5) N5.1 (by omega) (v := 0) (i := (A.length : Int)) (ν' := M6) h6
  have N6 := JN_jw N5 w6.2.2
  have f6 : jfr PAl M5 M6 := by rw [h6]; exact jfr_jw (jfr_refl _ _) (Or.inl rfl)
  clear h6
  obtain ⟨M7, h7⟩ : ∃ M, M = jw M6 50 (M6 27 0 8 - 1) (A.length : Int) 0 := ⟨_, rfl⟩
  rw [← h7]
  have w7 := arr_w (k := 8) N6.1 (by omega) (v := 0) (i := (A.length : Int)) (ν' := M7) h7
  have N7 := JN_jw N6 w7.2.2
  have f7 : jfr PAl M6 M7 := by rw [h7]; exact jfr_jw (jfr_refl _ _) (Or.inl rfl)
  clear h7
  obtain ⟨M8, h8⟩ : ∃ M, M = jw M7 50 (M7 27 0 9 - 1) (A.length : Int) 0 := ⟨_, rfl⟩
  rw [← h8]
  have w8 := arr_w (k := 9) N7.1 (by omega) (v := 0) (i := (A.length : Int)) (ν' := M8) h8
  have N8 := JN_jw N7 w8.2.2
  have f8 : jfr PAl M7 M8 := by rw [h8]; exact jfr_jw (jfr_refl _ _) (Or.inl rfl)
  clear h8
  have o55 : 1 ≤ M5 27 0 5 := (JN_a N5 5 (by omega)).1
  have l55 : M5 51 (M5 27 0 5 - 1) 0 = ca := (JN_a N5 5 (by omega)).2
  have o68 : 1 ≤ M6 27 0 8 := (JN_a N6 8 (by omega)).1
  have l68 : M6 51 (M6 27 0 8 - 1) 0 = ca := (JN_a N6 8 (by omega)).2
  have o79 : 1 ≤ M7 27 0 9 := (JN_a N7 9 (by omega)).1
  have l79 : M7 51 (M7 27 0 9 - 1) 0 = ca := (JN_a N7 9 (by omega)).2
  rw [l55, l68, l79]
  have AR : ∀ j, j < 10 → ∀ i, arr M8 j i = if j = 9 ∧ i = (A.length : Int) then 0 else if j = 8 ∧ i = (A.length : Int) then 0 else if j = 5 ∧ i = (A.length : Int) then 0 else if j = 4 ∧ i = (A.length : Int) then r else if j = 2 ∧ i = (A.length : Int) then pvh A (jhash (pcode g)) A.length else if j = 3 ∧ i = (A.length : Int) then pcode g else arr ν j i := by
    intro j hj i
    rw [w8.2.1 j hj i, w7.2.1 j hj i, w6.2.1 j hj i, w5.2.1 j hj i, a4 j hj i, w3.2.1 j hj i, w2.2.1 j hj i, a1 j hj i]
  have z0 : M8 27 0 0 = (A.length : Int) + 1 := by rw [w8.2.2 _ _ _ (by omega), w7.2.2 _ _ _ (by omega), w6.2.2 _ _ _ (by omega), w5.2.2 _ _ _ (by omega), c4]
  have z46 : ∀ i, M8 46 0 i = if i = jhash (pcode g) then (A.length : Int) else ν 46 0 i := fun i => by rw [w8.2.2 _ _ _ (by omega), w7.2.2 _ _ _ (by omega), w6.2.2 _ _ _ (by omega), w5.2.2 _ _ _ (by omega), d4]
  refine ⟨by omega, hc, o55, by omega, hc, o68, by omega, hc, o79, by omega, hc, k M8 N8 (jfr_trans f1 (jfr_trans f2 (jfr_trans f3 (jfr_trans f4 (jfr_trans f5 (jfr_trans f6 (jfr_trans f7 f8))))))) (fun i => ?_) (fun i => ?_) ⟨?_, fun h h0 h1 => ?_, fun a ha => ?_⟩⟩
  · rw [AR 0 (by omega)]; simp
  · rw [AR 1 (by omega)]; simp
  · rw [z0]; simp
  · rw [z46, List.length_append, List.length_singleton]
    show _ = pvh (A ++ [g]) h (A.length + 1)
    unfold pvh
    rw [gda_r (Nat.le_refl _), Nat.sub_self, List.getD_cons_zero, pvh_app A g h A.length (Nat.le_refl _)]
    by_cases hc2 : h = jhash (pcode g)
    · rw [if_pos hc2, if_pos hc2.symm]
    · rw [if_neg hc2, if_neg (fun e => hc2 e.symm)]
      exact hA.2.1 h h0 h1
  · have ha' : a < A.length + 1 := by simpa using ha
    rw [AR 3 (by omega), AR 2 (by omega), AR 4 (by omega), AR 5 (by omega), AR 6 (by omega), AR 7 (by omega), AR 8 (by omega), AR 9 (by omega)]
    by_cases hal : a = A.length
    · subst hal
      rw [gda_r (Nat.le_refl _), Nat.sub_self, List.getD_cons_zero]
      refine ⟨?_, ?_, ?_, ?_, ?_, ?_, ?_⟩
      · simp
      · simp
        exact (pvh_app A g _ A.length (Nat.le_refl _)).symm
      · simp only [if_true, and_true, if_false, Nat.reduceEqDiff, false_and]
        exact ⟨hr, hb⟩
      · simp
      · intro h
        exact absurd (if_pos rfl) h
      · simp
      · simp
    · have hi : ¬ (a : Int) = (A.length : Int) := by omega
      have q := hA.2.2 a (by omega)
      rw [gda_l (by omega)]
      simp only [hal, hi, and_false, if_false]
      rw [pvh_app A g _ a (by omega)]
      exact q
