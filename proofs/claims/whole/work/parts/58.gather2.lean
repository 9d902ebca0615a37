/-! the class's gathering, all in all -/
/-- the alarms as they stand; those told already of a call have that call's number, or a lesser one -/
def AQn (b : BK) (F : LL) (ν : JM) : Prop := ν 27 0 0 = ((pal b F F.length).length : Int) ∧ ∀ a : Nat, a < (pal b F F.length).length → arr ν 3 (a : Int) = pcode ((pal b F F.length).getD a []) ∧ (inR (arr ν 4 (a : Int)) ∧ ∀ j : Nat, j < 32 → (bt (arr ν 4 (a : Int)) j = true ↔ (j : Int) ∈ (pal b F F.length).getD a [])) ∧ arr ν 5 (a : Int) = pcn b F ((pal b F F.length).getD a []) F.length ∧ arr ν 6 (a : Int) = pwi b F ((pal b F F.length).getD a []) F.length ∧ arr ν 8 (a : Int) = pfl b F ((pal b F F.length).getD a []) F.length ∧ 0 ≤ arr ν 9 (a : Int) ∧ arr ν 9 (a : Int) ≤ ν 27 0 10
def RS (b : BK) (F : LL) (ν : JM) : Prop := isC ν 2 b ∧ RC F ν ∧ (∃ cp ca, JN cp ca ν ∧ (F.length : Int) ≤ cp ∧ ((pal b F F.length).length : Int) ≤ ca) ∧ AQn b F ν ∧ (∀ r : Nat, r < F.length → arr ν 1 (r : Int) = (aix b F r : Int)) ∧ (∀ t, 0 ≤ t → t < 32 → ν 34 0 t = pus F t F.length ∧ ν 35 0 t = pcl F t F.length) ∧ (∀ t, 0 ≤ t → t < b 5 1 → ν 37 0 t = (pun b F F.length).1 t) ∧ ν 22 0 12 = (pun b F F.length).2 ∧ ∀ a, 0 ≤ a → a < 12 → ν 36 0 a = pct b F (mem12 a) F.length
/-- what gathering changes -/
abbrev PGa : Nat → Int → Int → Prop := fun t y i => ((12 ≤ t ∧ t ≤ 17) ∧ y = 2) ∨ (t = 22 ∧ y = 0) ∨ (t = 27 ∧ y = 0 ∧ 0 ≤ i ∧ i ≤ 9) ∨ t = 46 ∨ ((t = 32 ∨ t = 33) ∧ y = 0) ∨ (34 ≤ t ∧ t ≤ 37) ∨ (50 ≤ t ∧ t ≤ 54)
/-- while rounds are counted -/
def G (b : BK) (F : LL) (n : Nat) (ν0 ν : JM) : Prop := jfr PGa ν0 ν ∧ isC ν 2 b ∧ RC F ν ∧ (∃ cp ca, JN cp ca ν ∧ (F.length : Int) ≤ cp ∧ ((pal b F n).length : Int) ≤ ca) ∧ ASn b F n ν ∧ (∀ r : Nat, r < n → arr ν 1 (r : Int) = (aix b F r : Int)) ∧ (∀ t, 0 ≤ t → t < 32 → ν 34 0 t = pus F t n ∧ ν 35 0 t = pcl F t n) ∧ (∀ t, 0 ≤ t → t < b 5 1 → ν 37 0 t = (pun b F n).1 t) ∧ ν 22 0 12 = (pun b F n).2
theorem arr_fr {μ ν : JM} {k : Nat} (hk : k < 10) (e1 : ∀ i, i = 5 ∨ i = 6 → ν 22 0 i = μ 22 0 i) (e2 : ∀ i, 2 ≤ i → i ≤ 9 → ν 27 0 i = μ 27 0 i) (e3 : ∀ y i, ν 50 y i = μ 50 y i) (i : Int) : arr ν k i = arr μ k i := by
  show ν 50 (qp ν k) i = μ 50 (qp μ k) i
  rw [qp_fr hk e1 e2, e3]
theorem ASn_fr {b : BK} {F : LL} {n : Nat} {μ ν : JM} (h : ASn b F n μ) (e1 : ∀ i, i = 5 ∨ i = 6 → ν 22 0 i = μ 22 0 i) (e2 : ∀ i, 0 ≤ i → i ≤ 9 → ν 27 0 i = μ 27 0 i) (e3 : ∀ y i, ν 50 y i = μ 50 y i) (e4 : ∀ i, ν 46 0 i = μ 46 0 i) : ASn b F n ν :=
  AS_fr h (e2 0 (by omega) (by omega)) e4 (fun k _ hk a _ => arr_fr hk e1 (fun i h1 h2 => e2 i (by omega) h2) e3 _)
theorem G_36 {b : BK} {F : LL} {n : Nat} {ν0 ν ξ : JM} (h : G b F n ν0 ν) (e : ∀ t y i, t ≠ 36 → ξ t y i = ν t y i) : G b F n ν0 ξ := by
  obtain ⟨g1, g2, g3, ⟨cp, ca, gN, gc1, gc2⟩, g5, g6, g7, g8, g9⟩ := h
  refine ⟨fun t y i hp => ?_, isC_fr g2 (fun t _ _ i => e _ _ _ (by omega)), RC_fr g3 (e _ _ _ (by omega)) (e _ _ _ (by omega)) (e _ _ _ (by omega)) (fun r _ => e _ _ _ (by omega)), ⟨cp, ca, JN_fr gN (fun i _ => e _ _ _ (by omega)) (fun i _ _ => e _ _ _ (by omega)) (fun y => e _ _ _ (by omega)) (e _ _ _ (by omega)) (e _ _ _ (by omega)), gc1, gc2⟩, ASn_fr g5 (fun i _ => e _ _ _ (by omega)) (fun i _ _ => e _ _ _ (by omega)) (fun y i => e _ _ _ (by omega)) (fun i => e _ _ _ (by omega)), fun r hr => ?_, fun t t0 t1 => ?_, fun t t0 t1 => ?_, ?_⟩
  · rw [e _ _ _ (fun h => hp (by omega))]
    exact g1 t y i hp
  · rw [arr_fr (by omega) (fun i _ => e _ _ _ (by omega)) (fun i _ _ => e _ _ _ (by omega)) (fun y i => e _ _ _ (by omega))]
    exact g6 r hr
  · rw [e _ _ _ (by omega), e _ _ _ (by omega)]
    exact g7 t t0 t1
  · rw [e _ _ _ (by omega)]
    exact g8 t t0 t1
  · rw [e _ _ _ (by omega)]
    exact g9
theorem c_gather {d : Nat} {b : BK} {cp0 ca0 : Int} {ν0 : JM} {Q : JQ} (hv : vb b) (hC0 : isC ν0 0 b) (hN0 : JN cp0 ca0 ν0) (hcall : 0 ≤ ν0 27 0 10) (k : ∀ ξ, jfr PGa ν0 ξ → RS b (pro b (fun _ => b 4 0)) ξ → Q 0 ξ) : wp true (d + 12) 93 0 [(22, 0), (12, 0), (9, 0)] [] ν0 Q := by
  have hm := vb_m hv
  have hF := rounds_le hv (b 4 0)
  have hg : gd b (pro b (fun _ => b 4 0)) := pro_good hv _
  -- the last loop: what accounts are touched
  have last : ∀ ν, G b (pro b (fun _ => b 4 0)) (pro b (fun _ => b 4 0)).length ν0 ν → wp true (d + 12) 93 129 [(22, 0), (12, 0), (0, 0)] [] ν Q := by
    generalize pro b (fun _ => b 4 0) = F at hF hg k
    intro ν hG
    have key : ∀ (q : Nat) (i : Int) (ξ : JM), i + q = 12 → 0 ≤ i → G b F F.length ν0 ξ → (∀ a, 0 ≤ a → a < i → ξ 36 0 a = pct b F (mem12 a) F.length) → wp true (d + 12) 93 129 [(22, 0), (12, 0), (0, i)] [] ξ Q := by
      intro q
      induction q with
      | zero =>
        intro i ξ h1 h2 h3 h4
        obtain ⟨g1, g2, g3, g4, g5, g6, g7, g8, g9⟩ := h3
        refine s_X8_gather_129 _ _ _ _ _ ⟨⟨⟨by omega, by omega⟩, ⟨by omega, by omega⟩⟩, fun _ => k ξ g1 ⟨g2, g3, g4, ⟨g5.1, fun a ha => ?_⟩, g6, g7, g8, g9, fun a a0 a1 => h4 a a0 (by omega)⟩, fun h => absurd h (by omega)⟩
        have z := g5.2.2 a ha
        have hne : cnF b F F.length a ≠ 0 := by
          have := (pcn_le b F ((pal b F F.length).getD a []) F.length).2.2.mp (gdl_mem ha)
          show pcn b F ((pal b F F.length).getD a []) F.length ≠ 0
          omega
        have zw := z.2.2.2.2.1 hne
        have ec : ξ 27 0 10 = ν0 27 0 10 := g1 _ _ _ (by omega)
        exact ⟨z.1, z.2.2.1, z.2.2.2.1, zw.1, z.2.2.2.2.2.1, by rw [z.2.2.2.2.2.2]; exact Int.le_refl _, by rw [z.2.2.2.2.2.2, ec]; exact hcall⟩
      | succ q ih =>
        intro i ξ h1 h2 h3 h4
        have h3' := h3
        obtain ⟨g1, g2, g3, ⟨cp, ca, gN, gc1, gc2⟩, g5, g6, g7, g8, g9⟩ := h3
        refine s_X8_gather_129 _ _ _ _ _ ⟨⟨⟨by omega, by omega⟩, ⟨by omega, by omega⟩⟩, fun h => absurd h (by omega), fun _ => c_roundsWith gN g5 gc2 ⟨h2, by omega⟩ ⟨by omega, by omega, ?_⟩⟩
        refine ih (i + 1) _ (by omega) (by omega) (G_36 h3' (fun t y i' ht => jw_t ht)) (fun a a0 a1 => ?_)
        by_cases e : a = i
        · subst e; rw [jw_eq]
        · rw [jw_i e]; exact h4 a a0 (by omega)
    exact key 12 0 ν (by omega) (by omega) hG (fun a a0 a1 => by omega)
  -- one round after the other
  have mid : ∀ ν, G b (pro b (fun _ => b 4 0)) 0 ν0 ν → wp true (d + 12) 93 74 [(22, 0), (12, 0), (0, 0)] [] ν Q := by
    generalize pro b (fun _ => b 4 0) = F at hF hg last
    intro ν hG
    have key : ∀ (q n : Nat) (ξ : JM), n + q = F.length → G b F n ν0 ξ → wp true (d + 12) 93 74 [(22, 0), (12, 0), (0, (n : Int))] [] ξ Q := by
      intro q
      induction q with
      | zero =>
        intro n ξ h1 h3
        have en : n = F.length := by omega
        subst en
        have g3 := h3.2.2.1
        refine s_X8_gather_74 _ _ _ _ _ ?_
        rw [g3.1]
        exact ⟨⟨⟨by omega, by omega⟩, ⟨by omega, by omega⟩⟩, fun _ => last ξ h3, fun h => absurd (Int.le_refl _) h⟩
      | succ q ih =>
        intro n ξ h1 h3
        obtain ⟨g1, g2, g3, ⟨cp, ca, gN, gc1, gc2⟩, g5, g6, g7, g8, g9⟩ := h3
        have hn : n < F.length := by omega
        have nn : ((n : Int)).toNat = n := by omega
        refine s_X8_gather_74 _ _ _ _ _ ?_
        rw [g3.1]
        refine ⟨⟨⟨by omega, by omega⟩, ⟨by omega, by omega⟩⟩, fun h => absurd h (by omega), fun _ => c_countIn hv g3 hg hn g7 (fun M1 f1 u1 => ?_)⟩
        have R1 : RC F M1 := RC_fr g3 (f1 _ _ _ (by omega)) (f1 _ _ _ (by omega)) (f1 _ _ _ (by omega)) (fun r _ => f1 _ _ _ (by omega))
        refine c_net hv R1 hg hn (fun t t0 t1 => by rw [f1 _ _ _ (by omega)]; exact g8 t t0 t1) (by rw [f1 _ _ _ (by omega)]; exact g9) (fun M2 f2 u2 s2 => ?_)
        have R2 : RC F M2 := RC_fr R1 (f2 _ _ _ (by omega)) (f2 _ _ _ (by omega)) (f2 _ _ _ (by omega)) (fun r _ => f2 _ _ _ (by omega))
        have C2 : isC M2 2 b := isC_fr (isC_fr g2 (fun t _ _ i => f1 _ _ _ (by omega))) (fun t _ _ i => f2 _ _ _ (by omega))
        have N2 : JN cp ca M2 := JN_fr (JN_fr gN (fun i _ => f1 _ _ _ (by omega)) (fun i _ _ => f1 _ _ _ (by omega)) (fun y => f1 _ _ _ (by omega)) (f1 _ _ _ (by omega)) (f1 _ _ _ (by omega))) (fun i _ => f2 _ _ _ (by omega)) (fun i _ _ => f2 _ _ _ (by omega)) (fun y => f2 _ _ _ (by omega)) (f2 _ _ _ (by omega)) (f2 _ _ _ (by omega))
        have A2 : ASn b F n M2 := ASn_fr (ASn_fr g5 (fun i _ => f1 _ _ _ (by omega)) (fun i _ _ => f1 _ _ _ (by omega)) (fun y i => f1 _ _ _ (by omega)) (fun i => f1 _ _ _ (by omega))) (fun i _ => f2 _ _ _ (by omega)) (fun i _ _ => f2 _ _ _ (by omega)) (fun y i => f2 _ _ _ (by omega)) (fun i => f2 _ _ _ (by omega))
        have q1 := N2.1.2.2.1 1 (by omega)
        have e1 : qp M2 1 = M2 22 0 6 - 1 := rfl
        rw [e1] at q1
        have l1 : M2 51 (M2 22 0 6 - 1) 0 = cp := q1.2.2.1
        have p1 : 0 ≤ M2 22 0 6 - 1 := q1.1
        refine ⟨by omega, w_ringOf hv C2 R2 hg ⟨by omega, by omega⟩ (w_spanOf hv C2 R2 hg ⟨by omega, by omega⟩ (w_flowOf hv C2 R2 hg ⟨by omega, by omega⟩ ?_))⟩
        rw [nn]
        refine c_note hv hg hF hn N2 A2 gc2 (fun M3 ca' N3 c3 f3 a3 A3 => ?_)
        have h53 := N2.1.1
        have x6 : M3 22 0 6 = M2 22 0 6 := f3 _ _ _ (by omega)
        have x5 : M3 22 0 5 = M2 22 0 5 := f3 _ _ _ (by omega)
        have q3 := N3.1.2.2.1 1 (by omega)
        have e3 : qp M3 1 = M2 22 0 6 - 1 := by
          show M3 22 0 6 - 1 = _
          rw [x6]
        rw [e3] at q3
        have l3 : M3 51 (M2 22 0 6 - 1) 0 = cp := q3.2.2.1
        rw [l3]
        refine ⟨by omega, by omega, ?_⟩
        rw [show (n : Int) + 1 = ((n + 1 : Nat) : Int) by omega]
        have w := arr_w (k := 1) N3.1 (by omega) (v := (aix b F n : Int)) (i := (n : Int)) (ν' := jw M3 50 (M2 22 0 6 - 1) (n : Int) (aix b F n : Int)) (by rw [e3])
        generalize jw M3 50 (M2 22 0 6 - 1) (n : Int) (aix b F n : Int) = M4 at w ⊢
        have N4 := JN_jw N3 w.2.2
        have fr3 : ∀ t y i, (t ≠ 50 ∧ t ≠ 51 ∧ t ≠ 53 ∧ t ≠ 54 ∧ t ≠ 27 ∧ t ≠ 46) → M4 t y i = M2 t y i := fun t y i h => by rw [w.2.2 _ _ _ h.1, f3 _ _ _ (by omega)]
        have fr1 : ∀ t y i, (t ≠ 50 ∧ t ≠ 51 ∧ t ≠ 53 ∧ t ≠ 54 ∧ t ≠ 27 ∧ t ≠ 46 ∧ t ≠ 34 ∧ t ≠ 35 ∧ t ≠ 37 ∧ ¬ (t = 22 ∧ i = 12)) → M4 t y i = ξ t y i := fun t y i h => by rw [fr3 _ _ _ (by omega), f2 _ _ _ (by omega), f1 _ _ _ (by omega)]
        have a0 : ∀ i, 0 ≤ i → i < cp → arr M4 0 i = arr M2 0 i := fun i i0 i1 => by rw [w.2.1 0 (by omega) i, if_neg (by omega)]; exact (a3 i i0 i1).1
        refine ih (n + 1) M4 (by omega) ⟨?_, ?_, ?_, ⟨cp, ca', N4, gc1, c3⟩, ?_, fun r hr => ?_, fun t t0 t1 => ?_, fun t t0 t1 => ?_, ?_⟩
        · intro t y i hp
          have c27 : t = 27 → M4 t y i = ξ t y i := fun h => by
            rw [w.2.2 _ _ _ (by omega), f3 _ _ _ (fun h2 => hp (by omega)), f2 _ _ _ (by omega), f1 _ _ _ (by omega)]
          by_cases h27 : t = 27
          · rw [c27 h27]
            exact g1 t y i hp
          · by_cases h22 : t = 22 ∧ i = 12
            · rw [fr3 _ _ _ (by omega), f2 _ _ _ (fun h => hp (by omega)), f1 _ _ _ (by omega)]
              exact g1 t y i hp
            · rw [fr1 _ _ _ ⟨fun h => hp (by omega), fun h => hp (by omega), fun h => hp (by omega), fun h => hp (by omega), h27, fun h => hp (by omega), fun h => hp (by omega), fun h => hp (by omega), fun h => hp (by omega), h22⟩]
              exact g1 t y i hp
        · exact isC_fr C2 (fun t _ _ i => fr3 _ _ _ (by omega))
        · have q0 : qp M4 0 = M2 22 0 5 - 1 := by
            show M4 22 0 5 - 1 = _
            rw [fr3 _ _ _ (by omega)]
          refine ⟨by rw [fr3 _ _ _ (by omega)]; exact R2.1, R2.2.1, by rw [fr3 _ _ _ (by omega)]; exact R2.2.2.1, ?_, fun r hr => ?_⟩
          · have q4 := N4.1.2.2.1 0 (by omega)
            rw [q0] at q4
            have l4 : M4 51 (M2 22 0 5 - 1) 0 = cp := q4.2.2.1
            rw [fr3 22 0 5 (by omega), l4]
            exact gc1
          · have := a0 (r : Int) (by omega) (by omega)
            rw [show arr M4 0 (r : Int) = M4 50 (M4 22 0 5 - 1) (r : Int) from rfl, show arr M2 0 (r : Int) = M2 50 (M2 22 0 5 - 1) (r : Int) from rfl] at this
            rw [this]
            exact R2.2.2.2.2 r hr
        · exact AS_fr A3 (w.2.2 _ _ _ (by omega)) (fun i => w.2.2 _ _ _ (by omega)) (fun j j2 j10 a ha => by rw [w.2.1 j j10, if_neg (by omega)])
        · rw [w.2.1 1 (by omega)]
          by_cases hrn : r = n
          · subst hrn
            rw [if_pos ⟨rfl, rfl⟩]
          · rw [if_neg (fun h => by omega), (a3 (r : Int) (by omega) (by omega)).2]
            rw [arr_fr (by omega) (fun i _ => f2 _ _ _ (by omega)) (fun i _ _ => f2 _ _ _ (by omega)) (fun y i => f2 _ _ _ (by omega)), arr_fr (by omega) (fun i _ => f1 _ _ _ (by omega)) (fun i _ _ => f1 _ _ _ (by omega)) (fun y i => f1 _ _ _ (by omega))]
            exact g6 r (by omega)
        · rw [fr3 _ _ _ (by omega), fr3 _ _ _ (by omega), f2 _ _ _ (by omega), f2 _ _ _ (by omega)]
          exact u1 t t0 t1
        · rw [fr3 _ _ _ (by omega)]
          exact u2 t t0 t1
        · rw [fr3 _ _ _ (by omega)]
          exact s2
    exact key F.length 0 ν (by omega) hG
  refine s_X8_gather_0 (d + 11) _ _ _ (c_copy hC0 hv (by omega) (fun M1 f1 C1 => c_wipeA (fun M2 f2 c0 h0 => ?_)))
  have C2 : isC M2 2 b := isC_fr C1 (fun t _ _ i => by rw [f2 _ _ _ (by omega), jw_t (by omega), jw_t (by omega)])
  have N2 : JN cp0 ca0 M2 := JN_fr hN0 (fun i _ => by rw [f2 _ _ _ (by omega), jw_i (by omega), jw_i (by omega), f1 _ _ _ (by omega)]) (fun i _ _ => by rw [f2 _ _ _ (by omega), jw_t (by omega), jw_t (by omega), f1 _ _ _ (by omega)]) (fun y => by rw [f2 _ _ _ (by omega), jw_t (by omega), jw_t (by omega), f1 _ _ _ (by omega)]) (by rw [f2 _ _ _ (by omega), jw_t (by omega), jw_t (by omega), f1 _ _ _ (by omega)]) (by rw [f2 _ _ _ (by omega), jw_t (by omega), jw_t (by omega), f1 _ _ _ (by omega)])
  have F2 : jfr PGa ν0 M2 := jfr_trans (jfr_mono f1 (fun t y i h => by omega)) (jfr_trans (jfr_jw (jfr_jw (jfr_refl _ _) (by omega)) (by omega)) (jfr_mono f2 (fun t y i h => by omega)))
  have z4 : M2 22 0 4 = 0 := by rw [f2 _ _ _ (by omega), jw_i (by omega), jw_eq]
  have z12 : M2 22 0 12 = 0 := by rw [f2 _ _ _ (by omega), jw_eq]
  clear f1 C1 f2
  have bN := hN0.2.1
  have init : ∀ (q : Nat) (i : Int) (ξ : JM), i + q = 32 → 0 ≤ i → jfr (fun t y _ => (t = 34 ∨ t = 35 ∨ t = 37) ∧ y = 0) M2 ξ → (∀ t, 0 ≤ t → t < i → ξ 34 0 t = 0 ∧ ξ 35 0 t = 0 ∧ ξ 37 0 t = M2 16 2 t) → wp true (d + 12) 93 27 [(22, 0), (12, 0), (0, i)] [] ξ Q := by
    intro q
    induction q with
    | zero =>
      intro i ξ h1 h2 h3 h4
      have Cx : isC ξ 2 b := isC_fr C2 (fun t _ _ i => h3 _ _ _ (by omega))
      have Nx : JN cp0 ca0 ξ := JN_fr N2 (fun i _ => h3 _ _ _ (by omega)) (fun i _ _ => h3 _ _ _ (by omega)) (fun y => h3 _ _ _ (by omega)) (h3 _ _ _ (by omega)) (h3 _ _ _ (by omega))
      refine s_X8_gather_27 (d + 11) _ _ _ _ ⟨⟨⟨by omega, by omega⟩, ⟨by omega, by omega⟩⟩, fun _ => ?_, fun h => absurd h (by omega)⟩
      refine c_hunt (x := 0) (b := b) (win := fun _ => b 4 0) (F := pro b (fun _ => b 4 0)) (I := IR b ξ) (Or.inl rfl) hv Cx (IR_HI hv) IR_HF (IR_HM hv hF) List.prefix_rfl (fun ν g1 g2 g3 g4 => ?_) (fun ζ hz => ?_)
      · refine ⟨jfr_mono g1 (fun t y i h => by omega), g4, g3, g2, ?_, fun r hr => (by cases hr), cp0, ca0, JN_fr Nx (fun i _ => g1 _ _ _ (by omega)) (fun i _ _ => g1 _ _ _ (by omega)) (fun y => g1 _ _ _ (by omega)) (g1 _ _ _ (by omega)) (g1 _ _ _ (by omega)), by show ((0 : Nat) : Int) ≤ _; omega⟩
        rw [g1 _ _ _ (by omega), h3 _ _ _ (by omega), z4]
        rfl
      · obtain ⟨y1, y2, y3, y4, y5, y6, cp, ca, yN, yc⟩ := hz
        have q0 := yN.1.2.2.1 0 (by omega)
        have e0 : qp ζ 0 = ζ 22 0 5 - 1 := rfl
        rw [e0] at q0
        have l0 : ζ 51 (ζ 22 0 5 - 1) 0 = cp := q0.2.2.1
        have b4 := yN.2.2.1
        refine mid ζ ⟨jfr_trans F2 (jfr_trans (jfr_mono h3 (fun t y i h => by omega)) (jfr_mono y1 (fun t y i h => by omega))), y2, ⟨y5, hF, by omega, by rw [l0]; exact yc, fun r hr => y6 r hr⟩, ⟨cp, ca, yN, yc, by show ((0 : Nat) : Int) ≤ _; omega⟩, ⟨?_, fun h h0' h1' => ?_, fun a ha => by cases ha⟩, fun r hr => by omega, fun t t0 t1 => ?_, fun t t0 t1 => ?_, ?_⟩
        · rw [y1 _ _ _ (by omega), h3 _ _ _ (by omega), c0]
          rfl
        · rw [y1 _ _ _ (by omega), h3 _ _ _ (by omega), h0 h h0' h1']
          rfl
        · rw [y1 _ _ _ (by omega), y1 _ _ _ (by omega), (h4 t t0 (by omega)).1, (h4 t t0 (by omega)).2.1]
          exact ⟨rfl, rfl⟩
        · rw [y1 _ _ _ (by omega), (h4 t t0 (by omega)).2.2]
          exact (isC_t C2 t0 t1).2.2.2
        · rw [y1 _ _ _ (by omega), h3 _ _ _ (by omega), z12]
          rfl
    | succ q ih =>
      intro i ξ h1 h2 h3 h4
      refine s_X8_gather_27 (d + 11) _ _ _ _ ⟨⟨⟨by omega, by omega⟩, ⟨by omega, by omega⟩⟩, fun h => absurd h (by omega), fun _ => ⟨by omega, by omega, by omega, by omega, by omega, by omega, by omega, by omega, ?_⟩⟩
      have ev : (jw (jw ξ 34 0 i 0) 35 0 i 0) 16 2 i = M2 16 2 i := by rw [jw_t (by omega), jw_t (by omega), h3 _ _ _ (by omega)]
      rw [ev]
      refine ih (i + 1) _ (by omega) (by omega) (jfr_jw (jfr_jw (jfr_jw h3 ⟨Or.inl rfl, rfl⟩) ⟨Or.inr (Or.inl rfl), rfl⟩) ⟨Or.inr (Or.inr rfl), rfl⟩) (fun t t0 t1 => ?_)
      by_cases e : t = i
      · subst e
        refine ⟨?_, ?_, ?_⟩
        · rw [jw_t (by omega), jw_t (by omega), jw_eq]
        · rw [jw_t (by omega), jw_eq]
        · rw [jw_eq]
      · have q4 := h4 t t0 (by omega)
        refine ⟨?_, ?_, ?_⟩
        · rw [jw_t (by omega), jw_t (by omega), jw_i e]; exact q4.1
        · rw [jw_t (by omega), jw_i e, jw_t (by omega)]; exact q4.2.1
        · rw [jw_i e, jw_t (by omega), jw_t (by omega)]; exact q4.2.2
  exact init 32 0 M2 (by omega) (by omega) (jfr_refl _ _) (fun t t0 t1 => by omega)
