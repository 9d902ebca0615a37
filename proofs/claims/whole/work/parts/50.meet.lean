/-! the class's rounds as they are met -/
abbrev PHu : Nat → Int → Int → Prop := fun t y i => (t = 22 ∧ y = 0 ∧ (i = 2 ∨ i = 4 ∨ i = 5 ∨ i = 6)) ∨ (t = 27 ∧ y = 0 ∧ 2 ≤ i ∧ i ≤ 9) ∨ ((t = 32 ∨ t = 33) ∧ y = 0) ∨ (t = 50 ∨ t = 51 ∨ t = 53 ∨ t = 54)
def IR (b : BK) (ν1 : JM) (L : LL) (ν : JM) : Prop := jfr PHu ν1 ν ∧ isC ν 2 b ∧ nextC b ν 0 ∧ ν 22 0 2 = b 4 0 ∧ ν 22 0 4 = (L.length : Int) ∧ (∀ r : Nat, r < L.length → arr ν 0 (r : Int) = ppk (L.getD r [])) ∧ ∃ cp ca, JN cp ca ν ∧ (L.length : Int) ≤ cp
theorem nextC_fr {b : BK} {μ ν : JM} {x : Int} (h : nextC b μ x) (e : ∀ i, ν 33 x i = μ 33 x i) : nextC b ν x := by
  intro t h0 h1
  rw [e t]
  exact h t h0 h1
theorem qp_fr {μ ν : JM} {k : Nat} (hk : k < 10) (e1 : ∀ i, i = 5 ∨ i = 6 → ν 22 0 i = μ 22 0 i) (e2 : ∀ i, 2 ≤ i → i ≤ 9 → ν 27 0 i = μ 27 0 i) : qp ν k = qp μ k := by
  unfold qp
  split
  · rw [e1 5 (by omega)]
  · split
    · rw [e1 6 (by omega)]
    · rw [e2 _ (by omega) (by omega)]
theorem JA_fr {μ ν : JM} {cap : Nat → Int} (h : JA μ cap) (e1 : ∀ i, i = 5 ∨ i = 6 → ν 22 0 i = μ 22 0 i) (e2 : ∀ i, 2 ≤ i → i ≤ 9 → ν 27 0 i = μ 27 0 i) (e3 : ∀ y, ν 51 y 0 = μ 51 y 0) (e4 : ν 53 0 0 = μ 53 0 0) (e5 : ν 54 0 0 = μ 54 0 0) : JA ν cap := by
  refine ⟨by rw [e4]; exact h.1, by rw [e5]; exact h.2.1, fun k hk => ?_, fun j k hj hk hjk => ?_⟩
  · rw [qp_fr hk e1 e2, e3, e4]
    exact h.2.2.1 k hk
  · rw [qp_fr hj e1 e2, qp_fr hk e1 e2]
    exact h.2.2.2 j k hj hk hjk
theorem JN_fr {μ ν : JM} {cp ca : Int} (h : JN cp ca μ) (e1 : ∀ i, i = 5 ∨ i = 6 → ν 22 0 i = μ 22 0 i) (e2 : ∀ i, 2 ≤ i → i ≤ 9 → ν 27 0 i = μ 27 0 i) (e3 : ∀ y, ν 51 y 0 = μ 51 y 0) (e4 : ν 53 0 0 = μ 53 0 0) (e5 : ν 54 0 0 = μ 54 0 0) : JN cp ca ν :=
  ⟨JA_fr h.1 e1 e2 e3 e4 e5, h.2.1, h.2.2.1, by rw [e4]; exact h.2.2.2.1, by rw [e5]; exact h.2.2.2.2⟩
theorem IR_HI {b : BK} (hv : vb b) {ν1 : JM} : HI 0 b (fun _ => b 4 0) (IR b ν1) := by
  intro L ν h
  have := vb_w hv
  exact ⟨h.2.2.2.1, (show inR (b 4 0) from ⟨by omega, by omega⟩), h.2.1, h.2.2.1⟩
theorem IR_HF {b : BK} {ν1 : JM} : HF 0 (IR b ν1) := by
  intro L ν ξ h hf
  obtain ⟨h1, h2, h3, h4, h5, h6, cp, ca, h7, h8⟩ := h
  refine ⟨jfr_trans h1 (jfr_mono hf (fun t y i h => Or.inr (Or.inr (Or.inl ⟨Or.inl h.1, h.2⟩)))), isC_fr h2 (fun t _ _ i => hf _ _ _ (by omega)), nextC_fr h3 (fun i => hf _ _ _ (by omega)), ?_, ?_, fun r hr => ?_, cp, ca, ?_, h8⟩
  · rw [hf _ _ _ (by omega)]; exact h4
  · rw [hf _ _ _ (by omega)]; exact h5
  · unfold arr
    rw [qp_fr (by omega) (fun i _ => hf _ _ _ (by omega)) (fun i _ _ => hf _ _ _ (by omega)), hf _ _ _ (by omega)]
    exact h6 r hr
  · exact JN_fr h7 (fun i _ => hf _ _ _ (by omega)) (fun i _ _ => hf _ _ _ (by omega)) (fun y => hf _ _ _ (by omega)) (hf _ _ _ (by omega)) (hf _ _ _ (by omega))
theorem pkd_take {r : List Int} (h : sm32 r) {n : Nat} (hn : n < r.length) : pk (r.take (n + 1)) = pk (r.take n) + r.getD n 0 * 32 ^ n := by
  have e : r.take (n + 1) = r.take n ++ [r.getD n 0] := by
    rw [List.take_add_one, List.getD_eq_getElem?_getD, List.getElem?_eq_getElem hn]
    rfl
  rw [e, pkd_app, List.length_take, Nat.min_eq_left (by omega)]
theorem sm_take {r : List Int} (h : sm32 r) (n : Nat) : sm32 (r.take n) := fun a ha => h a (List.mem_of_mem_take ha)
theorem IR_HM {b : BK} (hv : vb b) {F : LL} (hF : F.length ≤ 12000) {ν1 : JM} : HMt 0 b F (IR b ν1) := by
  intro d L p ν R h hpa hp hp2 hcl hpre k
  refine ⟨fun _ => ?_, fun h => absurd h (by decide), fun h => absurd h (by decide)⟩
  have hm := vb_m hv
  have hll : (L.length : Int) + 1 ≤ 12000 := by
    have := List.IsPrefix.length_le hpre
    simp at this
    omega
  have hl5 := hp.2.1
  have sm : sm32 p.reverse := fun t ht => by
    have := hp.2.2 t (List.mem_reverse.mp ht)
    omega
  have rl : p.reverse.length = p.length := List.length_reverse
  have fin : ∀ ν' cp ca, JN cp ca ν' → (L.length : Int) < cp → IR b ν1 L ν' → (∀ i, ν' 32 0 i = ν 32 0 i) → wp true (d + 4) 94 24 [(22, 0), (0, (p.length : Int)), (0, 0), (0, 0)] [] ν' (fun _ ξ => R ξ) := by
    intro ν' cp ca hN hlt h' hfp
    obtain ⟨h1, h2, h3, h4, h5, h6, _⟩ := h'
    have q0 := hN.1.2.2.1 0 (by omega)
    have e0 : qp ν' 0 = ν' 22 0 5 - 1 := rfl
    rw [e0] at q0
    have l0 : ν' 51 (ν' 22 0 5 - 1) 0 = cp := q0.2.2.1
    have key : ∀ (n i : Nat), i + n = p.length → wp true (d + 4) 94 24 [(22, 0), (0, (p.length : Int)), (0, pk (p.reverse.take i)), (0, (i : Int))] [] ν' (fun _ ξ => R ξ) := by
      intro n
      induction n with
      | zero =>
        intro i hi
        have ei : i = p.length := by omega
        subst ei
        have et : p.reverse.take p.length = p.reverse := List.take_of_length_le (by omega)
        rw [et]
        have hpk := ppk_in sm (by omega)
        refine s_X8_meet_24 _ _ _ _ _ _ ⟨⟨⟨by omega, by omega⟩, ⟨by omega, by omega⟩⟩, fun _ => ?_, fun h => absurd (Int.le_refl _) h⟩
        refine s_X8_meet_53 _ _ _ _ _ _ ?_
        rw [l0, h5, pack_top hpk.1 ⟨by omega, by omega⟩]
        have ev : pk p.reverse + (p.length : Int) * 33554432 = ppk p.reverse := by
          unfold ppk
          rw [rl]
        rw [ev]
        refine ⟨by omega, by omega, by omega, k _ ⟨?_, ?_, ?_, ?_, ?_, fun r hr => ?_, cp, ca, ?_, ?_⟩ (fun i => ?_)⟩
        · exact jfr_jw (jfr_jw h1 (Or.inr (Or.inr (Or.inr (Or.inl rfl))))) (Or.inl ⟨rfl, rfl, Or.inr (Or.inl rfl)⟩)
        · exact isC_fr h2 (fun t _ _ i => by rw [jw_t (by omega), jw_t (by omega)])
        · exact nextC_fr h3 (fun i => by rw [jw_t (by omega), jw_t (by omega)])
        · rw [jw_i (by omega), jw_t (by omega)]; exact h4
        · rw [jw_eq, jw_t (by omega), h5]; simp
        · have hq : qp (jw (jw ν' 50 (ν' 22 0 5 - 1) (L.length : Int) (ppk p.reverse)) 22 0 4 (jw ν' 50 (ν' 22 0 5 - 1) (L.length : Int) (ppk p.reverse) 22 0 4 + 1)) 0 = ν' 22 0 5 - 1 := by
            show (jw (jw ν' 50 (ν' 22 0 5 - 1) (L.length : Int) (ppk p.reverse)) 22 0 4 _) 22 0 5 - 1 = _
            rw [jw_i (by omega), jw_t (by omega)]
          show (jw (jw ν' 50 (ν' 22 0 5 - 1) (L.length : Int) (ppk p.reverse)) 22 0 4 _) 50 (qp _ 0) (r : Int) = _
          rw [hq, jw_t (by omega)]
          have hr' : r < L.length + 1 := by simpa using hr
          by_cases hc : r < L.length
          · rw [jw_i (by omega), gda_l hc]
            exact h6 r hc
          · have : r = L.length := by omega
            subst this
            rw [jw_eq, gda_r (Nat.le_refl _)]
            simp
        · exact JN_fr hN (fun i hi => by rw [jw_i (by omega), jw_t (by omega)]) (fun i _ _ => by rw [jw_t (by omega), jw_t (by omega)]) (fun y => by rw [jw_t (by omega), jw_t (by omega)]) (by rw [jw_t (by omega), jw_t (by omega)]) (by rw [jw_t (by omega), jw_t (by omega)])
        · simp; omega
        · rw [jw_t (by omega), jw_t (by omega)]; exact hfp i
      | succ n ih =>
        intro i hi
        have hti := pkd_lt (sm_take sm i)
        have hlen : (p.reverse.take i).length = i := by rw [List.length_take, rl]; omega
        rw [hlen] at hti
        have hg := sm _ (getD_mem (l := p.reverse) (i := i) (by omega))
        refine s_X8_meet_24 _ _ _ _ _ _ ⟨⟨⟨by omega, by omega⟩, ⟨by omega, by omega⟩⟩, fun h => absurd h (by omega), fun _ => ⟨⟨⟨by omega, by omega⟩, ⟨by omega, by omega⟩⟩, fun h => absurd h (by omega), fun _ => ⟨by omega, by omega, ?_⟩⟩⟩
        rw [hfp, hpa i (by omega), pack_step (by omega) hti hg, ← pkd_take sm (by omega)]
        exact ih (i + 1) (by omega)
    have := key p.length 0 (by omega)
    exact this
  obtain ⟨h1, h2, h3, h4, h5, h6, cp, ca, hN, hcap⟩ := h
  have q0 := hN.1.2.2.1 0 (by omega)
  have e0 : qp ν 0 = ν 22 0 5 - 1 := rfl
  rw [e0] at q0
  have l0 : ν 51 (ν 22 0 5 - 1) 0 = cp := q0.2.2.1
  have bc := hN.2.1
  refine s_X8_meet_0 (d + 3) _ _ _ ?_
  rw [l0, h5]
  refine ⟨by omega, ⟨⟨by omega, by omega⟩, ⟨by omega, by omega⟩⟩, fun hc => fin ν cp ca hN hc ⟨h1, h2, h3, h4, h5, h6, cp, ca, hN, hcap⟩ (fun _ => rfl), fun hc => ?_⟩
  refine c_widenR hN (by omega) (fun ξ hN' hf hcon => ⟨by decide, fun _ => ?_, fun h => (h (by decide)).elim⟩)
  have h53 := hN.1.1
  refine fin ξ (2 * cp) ca hN' (by omega) ⟨jfr_trans h1 (jfr_mono hf (fun t y i h => ?_)), isC_fr h2 (fun t _ _ i => hf _ _ _ (by omega)), nextC_fr h3 (fun i => hf _ _ _ (by omega)), ?_, ?_, fun r hr => ?_, 2 * cp, ca, hN', by omega⟩ (fun i => hf _ _ _ (by omega))
  · rcases h with h | h | h | h | h
    · exact Or.inr (Or.inr (Or.inr (by omega)))
    · exact Or.inr (Or.inr (Or.inr (by omega)))
    · exact Or.inr (Or.inr (Or.inr (by omega)))
    · exact Or.inl ⟨h.1, h.2.1, by omega⟩
    · exact Or.inr (Or.inl h)
  · rw [hf _ _ _ (by omega)]; exact h4
  · rw [hf _ _ _ (by omega)]; exact h5
  · rw [hcon 0 (by omega) (r : Int) (by omega) (by show (r : Int) < cp; omega)]
    exact h6 r hr
