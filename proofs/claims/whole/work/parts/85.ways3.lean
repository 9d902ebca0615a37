/-! ways: the class -/
abbrev PWc : Nat → Int → Int → Prop := fun t _ _ => t = 25 ∨ t = 39 ∨ t = 43 ∨ t = 44
theorem c_arrive {d : Nat} {b : BK} {f T g : Int} {O : LL} {R : WR} {w : List Int} {ν : JM} {Q : JQ} (hv : vb b) (hf : 0 ≤ f ∧ f < b 5 0) (hg : inR g) (hR : wsd b f T g R) (h : CW b f g O R ν) (hw : wy b f T w) (hp : pw (ν 43 0) w) (k : ∀ ξ, CW b f g O (ar b g (cC b w R) w R) ξ → jfr (fun t _ _ => t = 25 ∨ t = 44) ν ξ → Q 0 ξ) : wp true d 125 0 [(25, 0), (0, hd w), (0, (w.length : Int))] [] ν Q := by
  obtain ⟨hC, hN, h5, h6, h7, h8, h9, h10, hb, hs⟩ := h
  have hm := vb_m hv
  have nb := vb_n hv
  have hh := wy_hd hw
  have t := isC_t hC hh.1 hh.2
  have tt := vb_t hv hh.1 hh.2
  have wl := wy_len hv hf hw
  have wi := wsd_in hv hf hR
  refine s_X9_arrive_0 _ _ _ _ _ ?_
  rw [t.2.1]
  generalize e1 : jw ν 25 0 9 (jor (ν 25 0 9) (jshl 1 (b 1 (hd w)))) = M1
  have f1 : M1 25 0 9 = jor R.2.2.1 (jshl 1 (b 1 (hd w))) := by rw [← e1, jw_eq, h9]
  have g1 : ∀ t y i, ¬ (t = 25 ∧ y = 0 ∧ i = 9) → M1 t y i = ν t y i := fun t y i h => by
    rw [← e1]
    unfold jw
    rw [if_neg h]
  have f1b : M1 25 0 10 = R.2.2.2 := (g1 _ _ _ (by omega)).trans h10
  rw [f1b]
  generalize e2 : jw M1 25 0 10 (jmax R.2.2.2 (w.length : Int)) = M2
  have f2 : M2 25 0 10 = jmax R.2.2.2 (w.length : Int) := by rw [← e2, jw_eq]
  have g2 : ∀ t y i, ¬ (t = 25 ∧ y = 0 ∧ (i = 9 ∨ i = 10)) → M2 t y i = ν t y i := fun t y i h => by
    rw [← e2]
    unfold jw
    rw [if_neg (by omega)]
    exact g1 _ _ _ (by omega)
  have f2b : M2 25 0 9 = jor R.2.2.1 (jshl 1 (b 1 (hd w))) := by rw [← e2, jw_i (by omega), f1]
  have f2c : M2 14 5 (hd w) = b 1 (hd w) := (g2 _ _ _ (by omega)).trans t.2.1
  have f2d : M2 25 0 5 = g := (g2 _ _ _ (by omega)).trans h5
  have f2e : M2 25 0 8 = R.2.1 := (g2 _ _ _ (by omega)).trans h8
  have f2f : M2 16 5 (hd w) = b 3 (hd w) := (g2 _ _ _ (by omega)).trans t.2.2.2
  rw [f2c, f2d, f2e, f2f]
  refine ⟨hh.1, by omega, by omega, ⟨by omega, by omega⟩, hh.1, by omega, Or.inr ⟨⟨by omega, by omega⟩, hg⟩, fun he => ?_, fun hne => ?_⟩
  · generalize e3 : jw M2 25 0 8 (jmax R.2.1 (b 3 (hd w))) = M3
    have f3 : M3 25 0 8 = jmax R.2.1 (b 3 (hd w)) := by rw [← e3, jw_eq]
    have g3 : ∀ t y i, ¬ (t = 25 ∧ y = 0 ∧ (i = 8 ∨ i = 9 ∨ i = 10)) → M3 t y i = ν t y i := fun t y i h => by
      rw [← e3]
      unfold jw
      rw [if_neg (by omega)]
      exact g2 _ _ _ (by omega)
    have f3b : M3 25 0 9 = jor R.2.2.1 (jshl 1 (b 1 (hd w))) := by rw [← e3, jw_i (by omega), f2b]
    have f3c : M3 25 0 10 = jmax R.2.2.2 (w.length : Int) := by rw [← e3, jw_i (by omega), f2]
    have f3d : M3 15 5 (hd w) = b 2 (hd w) := (g3 _ _ _ (by omega)).trans t.2.2.1
    have f3e : M3 25 0 6 = if R.1 = [] then 10000 else b 2 (hd R.1) := (g3 _ _ _ (by omega)).trans h6
    have f3f : M3 25 0 7 = (R.1.length : Int) := (g3 _ _ _ (by omega)).trans h7
    have yes : cC b w R = true → wp true d 125 109 [(25, 0), (0, hd w), (0, (w.length : Int))] [] M3 Q := fun hc => by
      refine s_X9_arrive_109 _ _ _ _ _ ?_
      rw [f3d]
      refine ⟨hh.1, by omega, by omega, by omega, by omega, by omega, by omega, k _ ?_ (jfr_jcp (jfr_jw (jfr_jw (fun t y i h => g3 _ _ _ (by omega)) (Or.inl rfl)) (Or.inl rfl)) (fun _ => Or.inr rfl))⟩
      rw [show ar b g (cC b w R) w R = (w, jmax R.2.1 (b 3 (hd w)), jor R.2.2.1 (jshl 1 (b 1 (hd w))), jmax R.2.2.2 (w.length : Int)) by unfold ar; rw [if_pos ⟨he, hc⟩, if_pos he]]
      have ee : ∀ t y i, t ≠ 44 → jcp (jw (jw M3 25 0 6 (b 2 (hd w))) 25 0 7 (w.length : Int)) 43 0 0 44 0 0 12 t y i = jw (jw M3 25 0 6 (b 2 (hd w))) 25 0 7 (w.length : Int) t y i := fun t y i h => by
        unfold jcp
        rw [if_neg (by omega)]
      have e4 : ∀ t y i, t ≠ 44 → ¬ (t = 25 ∧ y = 0 ∧ (i = 6 ∨ i = 7)) → jcp (jw (jw M3 25 0 6 (b 2 (hd w))) 25 0 7 (w.length : Int)) 43 0 0 44 0 0 12 t y i = M3 t y i := fun t y i h h2 => by
        rw [ee _ _ _ h]
        unfold jw
        rw [if_neg (by omega), if_neg (by omega)]
      refine ⟨isC_fr hC (fun t t0 t1 i => by rw [e4 _ _ _ (by omega) (by omega), g3 _ _ _ (by omega)]), fun t t0 t1 => ?_, ?_, ?_, ?_, ?_, ?_, ?_, ?_, fun S t s0 s1 t0 t1 hb => ?_⟩
      · rw [e4 _ _ _ (by omega) (by omega), g3 _ _ _ (by omega)]
        exact hN t t0 t1
      · rw [e4 _ _ _ (by omega) (by omega), g3 _ _ _ (by omega)]
        exact h5
      · rw [ee _ _ _ (by omega), jw_i (by omega), jw_eq]
        exact (if_neg (wy_ne hw)).symm
      · rw [ee _ _ _ (by omega), jw_eq]
      · rw [e4 _ _ _ (by omega) (by omega), f3]
      · rw [e4 _ _ _ (by omega) (by omega), f3b]
      · rw [e4 _ _ _ (by omega) (by omega), f3c]
      · refine pw_fr hp (fun i i0 i1 => ?_)
        have i2 : i < (w.length : Int) := i1
        unfold jcp
        rw [if_pos ⟨rfl, rfl, by omega, by omega⟩, show 0 + (i - 0) = i by omega, jw_t (by omega), jw_t (by omega), g3 _ _ _ (by omega)]
      · rw [e4 _ _ _ (by omega) (by omega), g3 _ _ _ (by omega)] at hb
        exact hs S t s0 s1 t0 t1 hb
    have no : cC b w R = false → Q 0 M3 := fun hc => by
      refine k _ ?_ (fun t y i h => g3 _ _ _ (by omega))
      rw [show ar b g (cC b w R) w R = (R.1, jmax R.2.1 (b 3 (hd w)), jor R.2.2.1 (jshl 1 (b 1 (hd w))), jmax R.2.2.2 (w.length : Int)) by unfold ar; rw [hc, if_neg (fun h => by cases h.2), if_pos he]]
      refine ⟨isC_fr hC (fun t t0 t1 i => g3 _ _ _ (by omega)), fun t t0 t1 => ?_, (g3 _ _ _ (by omega)).trans h5, f3e, f3f, f3, f3b, f3c, pw_fr hb (fun i _ _ => g3 _ _ _ (by omega)), fun S t s0 s1 t0 t1 hb => ?_⟩
      · rw [g3 _ _ _ (by omega)]
        exact hN t t0 t1
      · rw [g3 _ _ _ (by omega)] at hb
        exact hs S t s0 s1 t0 t1 hb
    rw [f3d, f3e, f3f]
    by_cases hne : R.1 = []
    · have hc : cC b w R = true := decide_eq_true (Or.inl hne)
      rw [if_pos hne]
      exact ⟨hh.1, by omega, ⟨by omega, by omega⟩, ⟨by omega, by omega⟩, hh.1, by omega, ⟨⟨by omega, by omega⟩, ⟨by omega, by omega⟩⟩, fun _ => yes hc, fun h => absurd (by omega) h⟩
    · have rh := wi.2.2.2 hne
      have rt := vb_t hv rh.1 rh.2
      rw [if_neg hne]
      refine ⟨hh.1, by omega, ⟨by omega, by omega⟩, ⟨by omega, by omega⟩, hh.1, by omega, ⟨⟨by omega, by omega⟩, ⟨by omega, by omega⟩⟩, fun h1 => yes (decide_eq_true (Or.inr (Or.inl h1))), fun h1 => ⟨hh.1, by omega, Or.inr ⟨⟨by omega, by omega⟩, ⟨by omega, by omega⟩⟩, fun h2 => no (decide_eq_false (fun h => ?_)), fun h2 => ⟨⟨⟨by omega, by omega⟩, ⟨by omega, by omega⟩⟩, fun h3 => no (decide_eq_false (fun h => ?_)), fun h3 => yes (decide_eq_true (Or.inr (Or.inr ⟨by omega, by omega⟩)))⟩⟩⟩
      · rcases h with h | h | h
        · exact hne h
        · exact h1 h
        · exact h2 h.1
      · rcases h with h | h | h
        · exact hne h
        · exact h1 h
        · omega
  · refine k _ ?_ (fun t y i h => g2 _ _ _ (by omega))
    rw [show ar b g (cC b w R) w R = (R.1, R.2.1, jor R.2.2.1 (jshl 1 (b 1 (hd w))), jmax R.2.2.2 (w.length : Int)) by unfold ar; rw [if_neg (fun h => hne h.1), if_neg hne]]
    refine ⟨isC_fr hC (fun t t0 t1 i => g2 _ _ _ (by omega)), fun t t0 t1 => ?_, f2d, (g2 _ _ _ (by omega)).trans h6, (g2 _ _ _ (by omega)).trans h7, f2e, f2b, f2, pw_fr hb (fun i _ _ => g2 _ _ _ (by omega)), fun S t s0 s1 t0 t1 hb => ?_⟩
    · rw [g2 _ _ _ (by omega)]
      exact hN t t0 t1
    · rw [g2 _ _ _ (by omega)] at hb
      exact hs S t s0 s1 t0 t1 hb
theorem CW_fr {b : BK} {f g : Int} {O : LL} {R : WR} {ν ξ : JM} (h : CW b f g O R ν) (e : ∀ t y i, t ≠ 43 → ξ t y i = ν t y i) : CW b f g O R ξ := by
  obtain ⟨hC, hN, h5, h6, h7, h8, h9, h10, hb, hs⟩ := h
  refine ⟨isC_fr hC (fun t t0 t1 i => e _ _ _ (by omega)), fun t t0 t1 => by rw [e _ _ _ (by omega)]; exact hN t t0 t1, by rw [e _ _ _ (by omega)]; exact h5, by rw [e _ _ _ (by omega)]; exact h6, by rw [e _ _ _ (by omega)]; exact h7, by rw [e _ _ _ (by omega)]; exact h8, by rw [e _ _ _ (by omega)]; exact h9, by rw [e _ _ _ (by omega)]; exact h10, pw_fr hb (fun i _ _ => e _ _ _ (by omega)), fun S t s0 s1 t0 t1 hb => ?_⟩
  rw [e _ _ _ (by omega)] at hb
  exact hs S t s0 s1 t0 t1 hb
theorem c_go {b : BK} {f T g : Int} (hv : vb b) (hf : 0 ≤ f ∧ f < b 5 0) (hg : inR g) : ∀ (k d : Nat) (p : List Int) (t : Int) (O : LL) (R : WR) (ν : JM) (Q : JQ), p.length + 1 + k = 12 → wy b f T (t :: p) → gI b f T g p t O R → CW b f g O R ν → pw (ν 43 0) p → (∀ ξ N R', CW b f g (N ++ O) R' ξ → (∀ i, 0 ≤ i → i < (p.length : Int) → ξ 43 0 i = ν 43 0 i) → jfr PWc ν ξ → gI b f T g p (t + 1) (N ++ O) R' → wmo b g R R' → (∀ n ∈ N, ∃ e, n = e ++ t :: p) → (∀ e, wy b f T (e ++ t :: p) → cov b g (e ++ t :: p) R') → Q 0 ξ) → wp true (d + k + 2) 124 0 [(25, 0), (0, t), (0, so b f (t :: p)), (0, (p.length : Int)), (9, 0), (9, 0), (9, 0), (9, 0)] [] ν Q := by
  have hm := vb_m hv
  have hn := vb_n hv
  have hnm : (nm b : Int) = b 5 1 := by have := nm_eq hv; omega
  intro k
  induction k with
  | zero =>
    intro d p t O R ν Q hk hw _ _ _ _
    have := wy_len hv hf hw
    rw [List.length_cons] at this
    omega
  | succ k ih =>
    intro d p t O R ν Q hk hw hI hW hp K
    have sl := so_lt hv hf hw
    have wl := wy_len hv hf hw
    have el : ((t :: p).length : Int) = (p.length : Int) + 1 := by simp
    have hh : 0 ≤ t ∧ t < b 5 1 := hw.1
    refine s_X9_go_0 (d + k + 2) _ _ _ _ _ ⟨⟨⟨by omega, by omega⟩, ⟨by omega, by omega⟩⟩, fun h => absurd h (by omega), fun _ => ⟨⟨⟨by omega, by omega⟩, ⟨by omega, by omega⟩⟩, fun h => absurd h (by omega), fun _ => ⟨⟨⟨by omega, by omega⟩, ⟨by omega, by omega⟩⟩, fun h => absurd h (by omega), fun _ => ⟨⟨⟨by omega, by omega⟩, ⟨by omega, by omega⟩⟩, fun _ => ⟨by omega, by omega, ?_⟩, fun h => absurd sl.1.2 h⟩⟩⟩⟩
    rw [has_u _ hh.1 (by omega)]
    cases hb : bt (ν 39 0 (so b f (t :: p))) t.toNat with
    | true =>
      rw [if_pos rfl]
      refine ⟨by decide, fun h => absurd h (by decide), fun _ => ?_⟩
      obtain ⟨o, ho, h1, h2⟩ := hW.2.2.2.2.2.2.2.2.2 _ t sl.1.1 sl.2 hh.1 (by omega) hb
      exact K ν [] R hW (fun _ _ _ => rfl) (jfr_refl _ _) (gI_up hI (by omega)) (wmo_refl _ _ _) (fun n hn => by cases hn) (gI_seen hv hf hI hw ho h1 h2)
    | false =>
      rw [if_neg (by decide)]
      refine ⟨by decide, fun _ => ⟨by omega, by omega, by omega, by omega, by omega, by omega, ?_⟩, fun h => absurd rfl h⟩
      have en := gI_enter hv hI hw
      generalize e1 : jw (jw ν 39 0 (so b f (t :: p)) (jor (ν 39 0 (so b f (t :: p))) (jshl 1 t))) 43 0 (p.length : Int) t = M1
      have g1 : ∀ t' y i, t' ≠ 43 → ¬ (t' = 39 ∧ y = 0 ∧ i = so b f (t :: p)) → M1 t' y i = ν t' y i := fun t' y i h h2 => by
        rw [← e1]
        unfold jw
        rw [if_neg (fun h3 => h h3.1), if_neg h2]
      have g1b : ∀ i, i ≠ (p.length : Int) → M1 43 0 i = ν 43 0 i := fun i h => by rw [← e1, jw_i h, jw_t (by omega)]
      have hW1 : CW b f g ((t :: p) :: O) R M1 := by
        obtain ⟨hC, hN, h5, h6, h7, h8, h9, h10, hb2, hs⟩ := hW
        refine ⟨isC_fr hC (fun t t0 t1 i => g1 _ _ _ (by omega) (by omega)), fun t t0 t1 => by rw [g1 _ _ _ (by omega) (by omega)]; exact hN t t0 t1, by rw [g1 _ _ _ (by omega) (by omega)]; exact h5, by rw [g1 _ _ _ (by omega) (by omega)]; exact h6, by rw [g1 _ _ _ (by omega) (by omega)]; exact h7, by rw [g1 _ _ _ (by omega) (by omega)]; exact h8, by rw [g1 _ _ _ (by omega) (by omega)]; exact h9, by rw [g1 _ _ _ (by omega) (by omega)]; exact h10, pw_fr hb2 (fun i _ _ => g1 _ _ _ (by omega) (by omega)), fun S t' s0 s1 t0 t1 hb => ?_⟩
        by_cases hS : S = so b f (t :: p)
        · subst hS
          rw [← e1, jw_t (by omega), jw_eq, bt_or, bt_bitz hh.1 (by omega), Bool.or_eq_true] at hb
          rcases hb with hb | hb
          · obtain ⟨o, ho, q⟩ := hs _ t' s0 s1 t0 t1 hb
            exact ⟨o, List.mem_cons_of_mem _ ho, q⟩
          · have := of_decide_eq_true hb
            exact ⟨t :: p, List.mem_cons_self .., rfl, show t = t' by omega⟩
        · rw [g1 _ _ _ (by omega) (by omega)] at hb
          obtain ⟨o, ho, q⟩ := hs _ t' s0 s1 t0 t1 hb
          exact ⟨o, List.mem_cons_of_mem _ ho, q⟩
      have hp1 : pw (M1 43 0) (t :: p) := ⟨by rw [← e1, jw_eq], pw_fr hp (fun i i0 i1 => g1b i (by omega))⟩
      have fr1 : jfr PWc ν M1 := fun t' y i h => g1 _ _ _ (by omega) (by omega)
      have ca := c_arrive (d := d + k + 2) (Q := fun _ μ1 => 0 ≤ t ∧ t < 32 ∧ wp true (d + k + 2 + 1) 124 80 [(25, 0), (0, t), (0, so b f (t :: p)), (0, (p.length : Int)), (12, 5), (0, μ1 42 0 t), (0, 0), (9, 0)] [] μ1 Q) hv hf hg hI.1 hW1 hw hp1
      rw [el] at ca
      refine ca (fun ξ hWx hfx => ⟨hh.1, by omega, ?_⟩)
      generalize eR : ar b g (cC b (t :: p) R) (t :: p) R = R1 at en hWx
      have hpx : pw (ξ 43 0) (t :: p) := pw_fr hp1 (fun i _ _ => hfx _ _ _ (by omega))
      have frx : jfr PWc ν ξ := jfr_trans fr1 (fun t' y i h => hfx _ _ _ (by omega))
      have pax : ∀ i, 0 ≤ i → i < (p.length : Int) → ξ 43 0 i = ν 43 0 i := fun i i0 i1 => by rw [hfx _ _ _ (by omega), g1b i (by omega)]
      have fin : ∀ (N : LL) (R' : WR) (ν' : JM) (r : Int), CW b f g (N ++ (t :: p) :: O) R' ν' → (∀ i, 0 ≤ i → i < (p.length : Int) → ν' 43 0 i = ν 43 0 i) → jfr PWc ν ν' → gI b f T g (t :: p) r (N ++ (t :: p) :: O) R' → wmo b g R1 R' → (∀ n ∈ N, ∃ e, n = e ++ t :: p) → (∀ (r : Int) (e : List Int), wy b f T (e ++ r :: t :: p) → cov b g (e ++ r :: t :: p) R') → Q 0 ν' := by
        intro N R' ν' r a1 a2 a3 a4 a5 a6 a7
        have ca := cov_all (a5 _ en.2.1) a7
        have hm' := wmo_trans en.2.2 a5
        have gl := gI_leave hI a4 a6 hm' ca
        rw [show N ++ (t :: p) :: O = (N ++ [t :: p]) ++ O by simp] at a1 gl
        refine K ν' (N ++ [t :: p]) R' a1 a2 a3 gl hm' (fun n hn => ?_) ca
        rcases List.mem_append.mp hn with hn | hn
        · exact a6 n hn
        · exact ⟨[], by rw [List.mem_singleton.mp hn]; rfl⟩
      have loop : ∀ (M n i : Nat) (rest turn : Int) (u : JV) (N : LL) (R' : WR) (ν' : JM), n ≤ M → i + n = nm b → 0 ≤ turn → turn ≤ i → inR rest → (∀ j : Nat, j < 32 → bt rest j = decide (i ≤ j ∧ (j : Int) < b 5 1 ∧ pstep b t j)) → CW b f g (N ++ (t :: p) :: O) R' ν' → pw (ν' 43 0) (t :: p) → (∀ i, 0 ≤ i → i < (p.length : Int) → ν' 43 0 i = ν 43 0 i) → jfr PWc ν ν' → gI b f T g (t :: p) (i : Int) (N ++ (t :: p) :: O) R' → wmo b g R1 R' → (∀ n ∈ N, ∃ e, n = e ++ t :: p) → (∀ (r : Int) (e : List Int), r < i → wy b f T (e ++ r :: t :: p) → cov b g (e ++ r :: t :: p) R') → wp true (d + k + 3) 124 80 [(25, 0), (0, t), (0, so b f (t :: p)), (0, (p.length : Int)), (12, 5), (0, rest), (0, turn), u] [] ν' Q := by
        intro M
        induction M with
        | zero =>
          intro n i rest turn u N R' ν' hM0 hin ht0 ht1 hr hbits a1 ap a2 a3 a4 a5 a6 a7
          have q : Q 0 ν' := fin N R' ν' _ a1 a2 a3 a4 a5 a6 (fun r e he => a7 r e (by have := (wy_one (fun h => by cases h) he).1; omega) he)
          have r0 : rest = 0 := eq0_of_bt hr (fun j hj => by
            rw [hbits j hj]
            exact decide_eq_false (fun h => by omega))
          exact s_X9_go_80 _ _ _ _ _ _ _ _ _ ⟨⟨⟨by omega, by omega⟩, ⟨by omega, by omega⟩⟩, fun _ => q, fun _ => ⟨Or.inl r0, fun _ => q, fun h => absurd r0 h⟩⟩
        | succ M ihM =>
          intro n i rest turn u N R' ν' hM0 hin ht0 ht1 hr hbits a1 ap a2 a3 a4 a5 a6 a7
          by_cases r0 : rest = 0
          · have q : Q 0 ν' := fin N R' ν' _ a1 a2 a3 a4 a5 a6 (fun r e he => by
              by_cases hri : r < i
              · exact a7 r e hri he
              · have o := wy_one (fun h => by cases h) he
                have hbr := hbits r.toNat (by omega)
                rw [r0, bt_zero] at hbr
                exact absurd ⟨by omega, by omega, by rw [show ((r.toNat : Nat) : Int) = r by omega]; exact o.2.2⟩ (of_decide_eq_false hbr.symm))
            exact s_X9_go_80 _ _ _ _ _ _ _ _ _ ⟨⟨⟨by omega, by omega⟩, ⟨by omega, by omega⟩⟩, fun _ => q, fun _ => ⟨Or.inl r0, fun _ => q, fun h => absurd r0 h⟩⟩
          · obtain ⟨s, hs⟩ := lowb_ex hr r0
            have hbs := hbits s hs.1
            rw [hs.2.1] at hbs
            have hst := of_decide_eq_true hbs.symm
            have ts := isC_t a1.1 (t := (s : Int)) (by omega) hst.2.1
            have vs := vb_t hv (t := (s : Int)) (by omega) hst.2.1
            have bits' : ∀ j : Nat, j < 32 → bt (jand rest (rest - 1)) j = decide (s + 1 ≤ j ∧ (j : Int) < b 5 1 ∧ pstep b t j) := by
              intro j hj
              rw [bt_clear hs, hbits j hj]
              by_cases hjt : j = s
              · subst hjt
                rw [decide_eq_false (show ¬ j ≠ j from fun h => h rfl), Bool.and_false]
                exact (decide_eq_false (fun h => by omega)).symm
              · rw [decide_eq_true hjt, Bool.and_true]
                by_cases hlt : j < s
                · have hz := hs.2.2 j hlt
                  rw [hbits j hj] at hz
                  rw [hz]
                  exact (decide_eq_false (fun h => by omega)).symm
                · have a1 : i ≤ j := by omega
                  have a2 : s + 1 ≤ j := by omega
                  simp [a1, a2]
            have skip : ∀ (r : Int) (e : List Int), r < (s : Int) → wy b f T (e ++ r :: t :: p) → cov b g (e ++ r :: t :: p) R' := fun r e hrs he => by
              by_cases hri : r < i
              · exact a7 r e hri he
              · have o := wy_one (fun h => by cases h) he
                have hbr := hbits r.toNat (by omega)
                rw [hs.2.2 r.toNat (by omega)] at hbr
                exact absurd ⟨by omega, by omega, by rw [show ((r.toNat : Nat) : Int) = r by omega]; exact o.2.2⟩ (of_decide_eq_false hbr.symm)
            have a4s : gI b f T g (t :: p) (s : Int) (N ++ (t :: p) :: O) R' := gI_up a4 (by omega)
            refine s_X9_go_80 _ _ _ _ _ _ _ _ _ ⟨⟨⟨by omega, by omega⟩, ⟨by omega, by omega⟩⟩, fun h => absurd h (by omega), fun _ => ⟨Or.inr ⟨hr, ⟨by omega, by omega⟩⟩, fun h => absurd h r0, fun _ => w_lowestBit hs ?_⟩⟩
            rw [ts.2.1, has_u _ vs.2.1.1 (by omega)]
            refine ⟨by omega, by omega, ?_⟩
            cases hbt : bt (so b f (t :: p)) (b 1 (s : Int)).toNat with
            | true =>
              rw [if_pos rfl]
              refine ⟨by decide, fun _ => ?_, fun h => absurd (by decide) h⟩
              refine ihM (n - (s - i) - 1) (s + 1) _ _ _ N R' ν' (by omega) (by omega) (by omega) (by omega) (inR_and _ _) bits' a1 ap a2 a3 (gI_up a4s (by omega)) a5 a6 (fun r e hr he => ?_)
              by_cases hrs : r < (s : Int)
              · exact skip r e hrs he
              · have o := wy_one (fun h => by cases h) he
                rw [show r = (s : Int) by omega, hbt] at o
                cases o.2.1
            | false =>
              rw [if_neg (by decide)]
              refine ⟨by decide, fun h => absurd rfl h, fun _ => ⟨by omega, by omega, ?_⟩⟩
              have hw2 : wy b f T ((s : Int) :: t :: p) := ⟨⟨by omega, hst.2.1⟩, hbt, Or.inr ⟨(fun h => by cases h), hst.2.2, hw⟩⟩
              have cg := ih d (t :: p) (s : Int) (N ++ (t :: p) :: O) R' ν' (fun _ μ2 => wp true (d + k + 3) 124 80 [(25, 0), (0, t), (0, so b f (t :: p)), (0, (p.length : Int)), (12, 5), (0, jand rest (rest - 1)), (0, turn + 1), (0, (s : Int))] [] μ2 Q) (by rw [List.length_cons]; omega) hw2 a4s a1 ap (fun ζ N2 R2 b1 b2 b3 b4 b5 b6 b7 => ?_)
              · rw [el] at cg
                exact cg
              · rw [← List.append_assoc] at b1 b4
                rw [el] at b2
                refine ihM (n - (s - i) - 1) (s + 1) _ _ _ (N2 ++ N) R2 ζ (by omega) (by omega) (by omega) (by omega) (inR_and _ _) bits' b1 (pw_fr ap (fun i i0 i1 => b2 i i0 (by rw [← el]; exact i1))) (fun i i0 i1 => (b2 i i0 (by omega)).trans (a2 i i0 i1)) (jfr_trans a3 b3) b4 (wmo_trans a5 b5) (fun n hn => ?_) (fun r e hr he => ?_)
                · rcases List.mem_append.mp hn with hn | hn
                  · obtain ⟨e, he⟩ := b6 n hn
                    exact ⟨e ++ [(s : Int)], by rw [he]; simp⟩
                  · exact a6 n hn
                · by_cases hrs : r < (s : Int)
                  · exact b5 _ (skip r e hrs he)
                  · have : r = (s : Int) := by omega
                    subst this
                    exact b7 e he
      have nx := hWx.2.1 t hh.1 hh.2
      exact loop (nm b) (nm b) 0 _ 0 _ [] R1 ξ (Nat.le_refl _) (by omega) (by omega) (by omega) nx.1 (fun j hj => by rw [nx.2 j hj]; simp) hWx hpx pax frx en.1 (wmo_refl _ _ _) (fun n hn => by cases hn) (fun r e hr he => by
        have := (wy_one (fun h => by cases h) he).1
        omega)
