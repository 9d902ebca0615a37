/-! ways: the class's walk -/
abbrev PWk : Nat → Int → Int → Prop := fun t y _ => t = 25 ∨ t = 39 ∨ t = 42 ∨ t = 43 ∨ t = 44 ∨ ((12 ≤ t ∧ t ≤ 17) ∧ y = 5)
theorem wsd0 (b : BK) (f T g : Int) : wsd b f T g ([], 0, 0, 0) := ⟨Or.inl rfl, Or.inl rfl, ⟨Int.le_refl _, by decide⟩, fun j hj => (by rw [show (([], 0, 0, 0) : WR).2.2.1 = 0 from rfl, bt_zero] at hj; cases hj), Or.inl rfl⟩
theorem wfi_of {b : BK} {f T g : Int} {R : WR} (h : wsd b f T g R) (h2 : ∀ (r : Int) (e : List Int), wy b f T (e ++ [r]) → (g = -1 ∨ b 1 (hd (e ++ [r])) = g) → cov b g (e ++ [r]) R) : wfi b f T g R := by
  refine ⟨h, fun w hw hg => ?_⟩
  have hne := wy_ne hw
  have e : w = w.dropLast ++ [w.getLast hne] := (List.dropLast_concat_getLast hne).symm
  rw [e] at hw hg ⊢
  exact h2 _ _ hw hg
theorem wy_root {b : BK} {f T r : Int} : ∀ {e : List Int}, wy b f T (e ++ [r]) → (0 ≤ r ∧ r < b 5 1) ∧ b 0 r = f ∧ T ≤ b 2 r := fun {e} h => by
  have q : wy b f T [r] := wy_suf (fun h => by cases h) e h
  rcases q.2.2 with h2 | h2
  · exact ⟨q.1, h2.2.1, h2.2.2⟩
  · exact absurd rfl h2.1
theorem wy_beg {b : BK} (hv : vb b) {f T t : Int} (hf : 0 ≤ f ∧ f < b 5 0) (ht : 0 ≤ t ∧ t < b 5 1) (h1 : b 0 t = f) (h2 : T ≤ b 2 t) : wy b f T [t] := by
  have hn := vb_n hv
  have tt := vb_t hv ht.1 ht.2
  refine ⟨ht, ?_, Or.inl ⟨rfl, h1, h2⟩⟩
  rw [show so b f [] = jshl 1 f from rfl, bt_bitz hf.1 (by omega)]
  exact decide_eq_false (by omega)
theorem c_walk119 {d : Nat} {b : BK} {f T g : Int} {ν : JM} {Q : JQ} (hv : vb b) (hf : 0 ≤ f ∧ f < b 5 0) (hg : inR g) (hT : inR T) (K : ∀ ξ O R, CW b f g O R ξ → wfi b f T g R → jfr PWk ν ξ → Q 0 ξ) : ∀ (n : Nat) (i : Int) (O : LL) (R : WR) (ξ : JM), i + (n : Int) = b 5 1 → 0 ≤ i → gI b f T g [] i O R → CW b f g O R ξ → jfr PWk ν ξ → (∀ (r : Int) (e : List Int), r < i → wy b f T (e ++ [r]) → cov b g (e ++ [r]) R) → wp true (d + 14) 123 119 [(25, 0), (12, 0), (0, f), (0, g), (0, T), (0, i)] [] ξ Q
  | 0, i, O, R, ξ, hn, hi, h1, h2, h3, h4 => by
    have hm := vb_m hv
    refine s_X9_walk_119 (d + 13) _ _ _ _ _ _ _ ?_
    rw [isC_m h2.1]
    exact ⟨⟨⟨by omega, by omega⟩, ⟨by omega, by omega⟩⟩, fun _ => K ξ O R h2 (wfi_of h1.1 (fun r e he _ => h4 r e (by have := (wy_root he).1; omega) he)) h3, fun h => absurd (by omega) h⟩
  | n + 1, i, O, R, ξ, hn, hi, h1, h2, h3, h4 => by
    have hm := vb_m hv
    have nb := vb_n hv
    have t := isC_t h2.1 (t := i) hi (by omega)
    have tt := vb_t hv (t := i) hi (by omega)
    have no : ¬ (b 0 i = f ∧ T ≤ b 2 i) → wp true (d + 14) 123 119 [(25, 0), (12, 0), (0, f), (0, g), (0, T), (0, (i + 1))] [] ξ Q := fun hno => c_walk119 hv hf hg hT K n (i + 1) O R ξ (by omega) (by omega) (gI_up h1 (by omega)) h2 h3 (fun r e hr he => by
      by_cases hri : r < i
      · exact h4 r e hri he
      · have := wy_root he
        rw [show r = i by omega] at this
        exact absurd this.2 hno)
    refine s_X9_walk_119 (d + 13) _ _ _ _ _ _ _ ?_
    rw [isC_m h2.1, t.1, t.2.2.1, t.2.1]
    refine ⟨⟨⟨by omega, by omega⟩, ⟨by omega, by omega⟩⟩, fun h => absurd h (by omega), fun _ => ⟨by omega, by omega, Or.inr ⟨⟨by omega, by omega⟩, ⟨by omega, by omega⟩⟩, fun h => no (fun q => h q.1), fun h => ⟨by omega, by omega, ⟨⟨by omega, by omega⟩, hT⟩, fun h5 => no (fun q => by omega), fun h5 => ⟨by omega, by omega, ?_⟩⟩⟩⟩
    have ef : b 0 i = f := Decidable.byContradiction h
    have hw : wy b f T [i] := wy_beg hv hf ⟨hi, by omega⟩ ef (by omega)
    exact c_go hv hf hg 11 d [] i O R ξ _ rfl hw h1 h2 trivial (fun ζ N R' b1 b2 b3 b4 b5 b6 b7 => c_walk119 hv hf hg hT K n (i + 1) (N ++ O) R' ζ (by omega) (by omega) b4 b1 (jfr_trans h3 (jfr_mono b3 (fun t y i h => by omega))) (fun r e hr he => by
      by_cases hri : r < i
      · exact b5 _ (h4 r e hri he)
      · have : r = i := by omega
        subst this
        exact b7 e he))
theorem c_walk82 {d : Nat} {b : BK} {f T g : Int} {ν : JM} {Q : JQ} (hv : vb b) (K : ∀ ξ, jfr PWk ν ξ → isC ξ 5 b → (∀ y i, ξ 39 y i = ν 39 y i) → (∀ y i, ξ 25 y i = ν 25 y i) → (∀ t, 0 ≤ t → t < b 5 1 → inR (ξ 42 0 t) ∧ ∀ j : Nat, j < 32 → bt (ξ 42 0 t) j = decide ((j : Int) < b 5 1 ∧ pstep b t j)) → wp true (d + 14) 123 119 [(25, 0), (12, 0), (0, f), (0, g), (0, T), (0, 0)] [] ξ Q) : ∀ (n : Nat) (i : Int) (ξ : JM), i + (n : Int) = b 5 1 → 0 ≤ i → isC ξ 5 b → jfr PWk ν ξ → (∀ y i, ξ 39 y i = ν 39 y i) → (∀ y i, ξ 25 y i = ν 25 y i) → (∀ t, 0 ≤ t → t < i → inR (ξ 42 0 t) ∧ ∀ j : Nat, j < 32 → bt (ξ 42 0 t) j = decide ((j : Int) < b 5 1 ∧ pstep b t j)) → wp true (d + 14) 123 82 [(25, 0), (12, 0), (0, f), (0, g), (0, T), (0, i)] [] ξ Q
  | 0, i, ξ, hn, hi, hC, hf, h9, h5, h2 => by
    have hm := vb_m hv
    refine s_X9_walk_82 (d + 13) _ _ _ _ _ _ _ ?_
    rw [isC_m hC]
    exact ⟨⟨⟨by omega, by omega⟩, ⟨by omega, by omega⟩⟩, fun _ => K ξ hf hC h9 h5 (fun t t0 t1 => h2 t t0 (by omega)), fun h => absurd (by omega) h⟩
  | n + 1, i, ξ, hn, hi, hC, hf, h9, h5, h2 => by
    have hm := vb_m hv
    refine s_X9_walk_82 (d + 13) _ _ _ _ _ _ _ ?_
    rw [isC_m hC]
    refine ⟨⟨⟨by omega, by omega⟩, ⟨by omega, by omega⟩⟩, fun h => absurd h (by omega), fun _ => c_stepsFrom (d := d + 12) hC hv hi (by omega) (fun r hr hb => ⟨by omega, by omega, c_walk82 hv K n (i + 1) _ (by omega) (by omega) (isC_fr hC (fun t _ _ i => jw_t (by omega))) (jfr_jw hf (by omega)) (fun y i => (jw_t (by omega)).trans (h9 y i)) (fun y i => (jw_t (by omega)).trans (h5 y i)) (fun t t0 t1 => ?_)⟩)⟩
    by_cases e : t = i
    · subst e
      rw [jw_eq]
      exact ⟨hr, hb⟩
    · rw [jw_i e]
      exact h2 t t0 (by omega)
theorem c_walk43 {d : Nat} {b : BK} {f T g : Int} {ν : JM} {Q : JQ} (hv : vb b) (K : ∀ ξ, jfr PWk ν ξ → isC ξ 5 b → (∀ S, 0 ≤ S → S < jshl 1 (b 5 0) → ξ 39 0 S = 0) → (∀ y i, ξ 25 y i = ν 25 y i) → wp true (d + 14) 123 82 [(25, 0), (12, 0), (0, f), (0, g), (0, T), (0, 0)] [] ξ Q) : ∀ (n : Nat) (i : Int) (ξ : JM), i + (n : Int) = jshl 1 (b 5 0) → 0 ≤ i → isC ξ 5 b → jfr PWk ν ξ → (∀ S, 0 ≤ S → S < i → ξ 39 0 S = 0) → (∀ y i, ξ 25 y i = ν 25 y i) → wp true (d + 14) 123 43 [(25, 0), (12, 0), (0, f), (0, g), (0, T), (0, i)] [] ξ Q
  | 0, i, ξ, hn, hi, hC, hf, h9, h5 => by
    have sa := sall_in hv
    have ss := sall_shl hv
    have k := K ξ hf hC (fun S s0 s1 => h9 S s0 (by omega)) h5
    refine s_X9_walk_43 (d + 14) _ _ _ _ _ _ _ ?_
    rw [isC_n hC]
    exact ⟨⟨⟨by omega, by omega⟩, ⟨by omega, by omega⟩⟩, fun _ => k, fun _ => ⟨⟨⟨by omega, by omega⟩, ⟨by omega, by omega⟩⟩, fun _ => k, fun h => absurd (by omega) h⟩⟩
  | n + 1, i, ξ, hn, hi, hC, hf, h9, h5 => by
    have sa := sall_in hv
    have ss := sall_shl hv
    refine s_X9_walk_43 (d + 14) _ _ _ _ _ _ _ ?_
    rw [isC_n hC]
    refine ⟨⟨⟨by omega, by omega⟩, ⟨by omega, by omega⟩⟩, fun h => absurd h (by omega), fun _ => ⟨⟨⟨by omega, by omega⟩, ⟨by omega, by omega⟩⟩, fun h => absurd h (by omega), fun _ => ⟨hi, by omega, c_walk43 hv K n (i + 1) _ (by omega) (by omega) (isC_fr hC (fun t _ _ i => jw_t (by omega))) (jfr_jw hf (by omega)) (fun S s0 s1 => ?_) (fun y i => (jw_t (by omega)).trans (h5 y i))⟩⟩⟩
    by_cases e : S = i
    · subst e
      exact jw_eq _ _ _ _ _
    · rw [jw_i e]
      exact h9 S s0 (by omega)
theorem c_walk {d : Nat} {b : BK} {f T g : Int} {ν : JM} {Q : JQ} (hv : vb b) (hC : isC ν 0 b) (hf : 0 ≤ f ∧ f < b 5 0) (hg : inR g) (hT : inR T) (K : ∀ ξ O R, CW b f g O R ξ → wfi b f T g R → jfr PWk ν ξ → Q 0 ξ) : wp true (d + 14) 123 0 [(25, 0), (12, 0), (0, f), (0, g), (0, T), (9, 0)] [] ν Q := by
  have nb := vb_n hv
  have sa := sall_in hv
  have ss := sall_shl hv
  refine s_X9_walk_0 (d + 13) _ _ _ _ _ _ (c_copy hC hv (by omega) (fun ν1 hf1 hC1 => ?_))
  have e : ∀ t y i, ¬ (t = 25 ∧ y = 0) → jw (jw (jw (jw (jw (jw ν1 25 0 5 g) 25 0 6 10000) 25 0 7 0) 25 0 8 0) 25 0 9 0) 25 0 10 0 t y i = ν1 t y i := fun t y i h => by
    unfold jw
    rw [if_neg (by omega), if_neg (by omega), if_neg (by omega), if_neg (by omega), if_neg (by omega), if_neg (by omega)]
  have e5 : ∀ i v, (i = 5 ∧ v = g) ∨ (i = 6 ∧ v = 10000) ∨ ((7 ≤ i ∧ i ≤ 10) ∧ v = 0) → jw (jw (jw (jw (jw (jw ν1 25 0 5 g) 25 0 6 10000) 25 0 7 0) 25 0 8 0) 25 0 9 0) 25 0 10 0 25 0 i = v := fun i v h => by
    unfold jw
    repeat' split
    all_goals omega
  generalize jw (jw (jw (jw (jw (jw ν1 25 0 5 g) 25 0 6 10000) 25 0 7 0) 25 0 8 0) 25 0 9 0) 25 0 10 0 = M at e e5
  have fM : jfr PWk ν M := fun t y i h => by rw [e _ _ _ (by omega), hf1 _ _ _ (by unfold PBk; omega)]
  have CM : isC M 5 b := isC_fr hC1 (fun t _ _ i => e _ _ _ (by omega))
  refine c_walk43 hv (fun ξ hf2 hC2 h39 h25 => c_walk82 hv (fun ζ hf3 hC3 h39' h25' h42 => ?_) (nm b) 0 ξ (nm_eq hv) (Int.le_refl _) hC2 (jfr_refl _ _) (fun _ _ => rfl) (fun _ _ => rfl) (fun t t0 t1 => by omega)) (jshl 1 (b 5 0)).toNat 0 M (by omega) (Int.le_refl _) CM (jfr_refl _ _) (fun S s0 s1 => by omega) (fun _ _ => rfl)
  have q5 : ∀ i v, (i = 5 ∧ v = g) ∨ (i = 6 ∧ v = 10000) ∨ ((7 ≤ i ∧ i ≤ 10) ∧ v = 0) → ζ 25 0 i = v := fun i v h => by rw [h25', h25]; exact e5 i v h
  refine c_walk119 hv hf hg hT (fun η O R w1 w2 w3 => K η O R w1 w2 (jfr_trans fM (jfr_trans hf2 (jfr_trans hf3 w3)))) (nm b) 0 [] ([], 0, 0, 0) ζ (nm_eq hv) (Int.le_refl _) ⟨wsd0 b f T g, fun o ho => (by cases ho), Or.inl rfl, fun o ho => (by cases ho), fun o ho => (by cases ho)⟩ ⟨hC3, h42, q5 _ _ (by omega), ?_, q5 _ _ (by simp), q5 _ _ (by simp), q5 _ _ (by simp), q5 _ _ (by simp), trivial, fun S t s0 s1 t0 t1 hb => ?_⟩ (jfr_refl _ _) (fun r e hr he => by
    have := (wy_root he).1
    omega)
  · rw [if_pos rfl]
    exact q5 _ _ (by simp)
  · rw [h39', h39 S s0 s1, bt_zero] at hb
    cases hb
