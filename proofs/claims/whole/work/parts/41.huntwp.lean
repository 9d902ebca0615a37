/-! the class's hunt walks the pure one -/
section
variable {x : Int} {b : BK} {win : LL → Int} {F : LL} {I : LL → JM → Prop}
abbrev meetH (d : Nat) (x n : Int) (ν : JM) (R : JM → Prop) : Prop := (x = 0 → wp true d 94 0 [(22, x), (0, n), (9, 0), (9, 0)] [] ν (fun _ ξ => R ξ)) ∧ (x = 1 → wp true d 48 0 [(22, x), (0, n)] [] ν (fun _ ξ => R ξ)) ∧ (x = 2 → wp true d 59 0 [(22, x), (0, n)] [] ν (fun _ ξ => R ξ))
abbrev HI (x : Int) (b : BK) (win : LL → Int) (I : LL → JM → Prop) : Prop := ∀ L ν, I L ν → ν 22 x 2 = win L ∧ inR (win L) ∧ isC ν (2 + x) b ∧ nextC b ν x
abbrev HF (x : Int) (I : LL → JM → Prop) : Prop := ∀ L ν ξ, I L ν → jfr (fun t y _ => t = 32 ∧ y = x) ν ξ → I L ξ
abbrev HMt (x : Int) (b : BK) (F : LL) (I : LL → JM → Prop) : Prop := ∀ (d : Nat) (L : LL) (p : List Int) (ν : JM) (R : JM → Prop), I L ν → pathC ν x p → pin b p → 2 ≤ p.length → b 1 (hd p) = b 0 (lst p) → (L ++ [p.reverse]) <+: F → (∀ ξ, I (L ++ [p.reverse]) ξ → (∀ i, ξ 32 x i = ν 32 x i) → R ξ) → meetH (d + 4) x (p.length : Int) ν R
theorem c_extend (hx : x = 0 ∨ x = 1 ∨ x = 2) (hv : vb b) (hI : HI x b win I) (hF : HF x I) (hM : HMt x b F I) : ∀ (k d : Nat) (p : List Int) (s : Int) (L : LL) (ν : JM) (Q : JQ), pin b p → (p.length : Int) + k = b 4 1 → I L ν → pathC ν x p → beenC b s p → pex b win k p L <+: F → (∀ ξ, I (pex b win k p L) ξ → (∀ i, 0 ≤ i → i < (p.length : Int) → ξ 32 x i = ν 32 x i) → Q 0 ξ) → wp true (d + k + 5) 56 0 [(22, x), (0, (p.length : Int)), (0, s), (9, 0), (9, 0), (9, 0), (9, 0), (9, 0)] [] ν Q := by
  have hlo := vb_lo hv
  have hm := vb_m hv
  have hn := vb_n hv
  intro k
  induction k with
  | zero =>
    intro d p s L ν Q hp hk hL hpa hb hpre hQ
    have hl := lpos hp.1
    have hl5 := hp.2.1
    have q : Q 0 ν := hQ ν hL (fun _ _ _ => rfl)
    have i1 := hI _ _ hL
    refine s_X4_extend_0 _ _ _ _ _ _ ?_
    rw [isC_b i1.2.2.1 (by omega) (by omega)]
    exact ⟨⟨⟨by omega, by omega⟩, ⟨by omega, by omega⟩⟩, fun _ => q, fun _ => ⟨⟨⟨by omega, by omega⟩, ⟨by omega, by omega⟩⟩, fun _ => q, fun _ => ⟨by omega, by omega, ⟨⟨by omega, by omega⟩, ⟨by omega, by omega⟩⟩, fun h => absurd h (by omega), fun _ => q⟩⟩⟩
  | succ k ih =>
    intro d p s L ν Q hp hk hL hpa hb hpre hQ
    have hl := lpos hp.1
    have hl5 := hp.2.1
    have i1 := hI _ _ hL
    have hh := pin_hd hp
    have hls := pin_lst hp
    have hnm : (nm b : Int) = b 5 1 := by have := nm_eq hv; omega
    have tl := vb_t hv hls.1 hls.2
    have loop : ∀ (M n i : Nat) (rest turn : Int) (u : JV) (L' : LL) (ν' : JM), n ≤ M → i + n = nm b → 0 ≤ turn → turn ≤ i → inR rest → (∀ j : Nat, j < 32 → bt rest j = decide (i ≤ j ∧ (j : Int) < b 5 1 ∧ pstep b (hd p) j)) → I L' ν' → pathC ν' x p → fup (pexg b win k p) n i L' <+: F → (∀ ξ, I (fup (pexg b win k p) n i L') ξ → (∀ i, 0 ≤ i → i < (p.length : Int) → ξ 32 x i = ν' 32 x i) → Q 0 ξ) → wp true (d + k + 6) 56 52 [(22, x), (0, (p.length : Int)), (0, s), (12, (2 + x)), (0, lst p), (0, rest), (0, turn), u] [] ν' Q := by
      intro M
      induction M with
      | zero =>
        intro n i rest turn u L' ν' hM0 hin ht0 ht1 hr hbits hL' hpa' hpre' hQ'
        have e : n = 0 := by omega
        subst e
        have q : Q 0 ν' := hQ' ν' hL' (fun _ _ _ => rfl)
        have r0 : rest = 0 := eq0_of_bt hr (fun j hj => by
          rw [hbits j hj]
          simp
          intro h1 h2
          omega)
        refine s_X4_extend_52 _ _ _ _ _ _ _ _ _ _ ⟨⟨⟨by omega, by omega⟩, ⟨by omega, by omega⟩⟩, fun _ => q, fun _ => ⟨Or.inl r0, fun _ => q, fun h => absurd r0 h⟩⟩
      | succ M ihM =>
        intro n i rest turn u L' ν' hM0 hin ht0 ht1 hr hbits hL' hpa' hpre' hQ'
        have j1 := hI _ _ hL'
        by_cases r0 : rest = 0
        · have e : fup (pexg b win k p) n i L' = L' := by
            refine fup_skip n i (fun y h1 h2 => ?_)
            have := hbits y.toNat (by omega)
            rw [r0, bt_zero] at this
            have hh := of_decide_eq_false this.symm
            unfold pexg
            rw [if_neg]
            intro hc
            apply hh
            refine ⟨by omega, by omega, ?_⟩
            rw [show ((y.toNat : Nat) : Int) = y by omega]
            exact hc.1
          have q : Q 0 ν' := hQ' ν' (by rw [e]; exact hL') (fun _ _ _ => rfl)
          exact s_X4_extend_52 _ _ _ _ _ _ _ _ _ _ ⟨⟨⟨by omega, by omega⟩, ⟨by omega, by omega⟩⟩, fun _ => q, fun _ => ⟨Or.inl r0, fun _ => q, fun h => absurd r0 h⟩⟩
        · obtain ⟨t, ht⟩ := lowb_ex hr r0
          have hbt := hbits t ht.1
          rw [ht.2.1] at hbt
          have hst := of_decide_eq_true hbt.symm
          have tt := isC_t j1.2.2.1 (t := (t : Int)) (by omega) hst.2.1
          have bt1 := vb_t hv (t := (t : Int)) (by omega) hst.2.1
          have t0 := isC_t j1.2.2.1 hls.1 hls.2
          have skip : ∀ y : Int, (i : Int) ≤ y → y < t → ∀ L'', pexg b win k p L'' y = L'' := by
            intro y h1 h2 L''
            have := ht.2.2 y.toNat (by omega)
            rw [hbits y.toNat (by omega)] at this
            have hh := of_decide_eq_false this
            unfold pexg
            rw [if_neg]
            intro hc
            apply hh
            refine ⟨by omega, by omega, ?_⟩
            rw [show ((y.toNat : Nat) : Int) = y by omega]
            exact hc.1
          have e1 : fup (pexg b win k p) n i L' = fup (pexg b win k p) (n - (t - i) - 1) ((t + 1 : Nat) : Int) (pexg b win k p L' t) := by
            rw [show n = (t - i) + ((n - (t - i) - 1) + 1) by omega, fup_add, fup_skip (t - i) i (fun y h1 h2 => skip y h1 (by omega) L')]
            rw [show (i : Int) + ((t - i : Nat) : Int) = (t : Int) by omega]
            rw [show t - i + (n - (t - i) - 1 + 1) - (t - i) - 1 = n - (t - i) - 1 by omega]
            rfl
          have bits' : ∀ j : Nat, j < 32 → bt (jand rest (rest - 1)) j = decide (t + 1 ≤ j ∧ (j : Int) < b 5 1 ∧ pstep b (hd p) j) := by
            intro j hj
            rw [bt_clear ht, hbits j hj]
            by_cases hjt : j = t
            · subst hjt
              simp
              omega
            · by_cases hlt : j < t
              · have hz := ht.2.2 j hlt
                rw [hbits j hj] at hz
                rw [hz]
                symm
                simp
                omega
              · have a1 : i ≤ j := by omega
                have a2 : t + 1 ≤ j := by omega
                simp [a1, a2, hjt]
          refine s_X4_extend_52 _ _ _ _ _ _ _ _ _ _ ⟨⟨⟨by omega, by omega⟩, ⟨by omega, by omega⟩⟩, fun h => absurd h (by omega), fun _ => ⟨Or.inr ⟨hr, ⟨by omega, by omega⟩⟩, fun h => absurd h r0, fun _ => ?_⟩⟩
          refine w_lowestBit ht ?_
          rw [tt.2.2.1, t0.2.2.1, j1.1]
          refine ⟨by omega, by omega, by omega, by omega, ⟨⟨by omega, by omega⟩, j1.2.1⟩, fun hw => ?_, fun hw => ?_⟩
          · rw [jw_t (by omega), jw_t (by omega), jw_t (by omega), tt.2.1, t0.1, isC_tr j1.2.2.1]
            have hcan : pcan b (win L') p t := ⟨hst.2.2, hw⟩
            have hfr : jfr (fun t y _ => t = 32 ∧ y = x) ν' (jw ν' 32 x (p.length : Int) t) := jfr_jw (jfr_refl _ _) ⟨rfl, rfl⟩
            have hL2 := hF _ _ _ hL' hfr
            have hpa2 : pathC (jw ν' 32 x (p.length : Int) t) x ((t : Int) :: p) := pathC_cons hpa' (jw_eq _ _ _ _ _) (fun i _ _ => jw_i (by omega))
            have hpa3 : pathC (jw ν' 32 x (p.length : Int) t) x p := pathC_fr hpa' (fun i _ _ => jw_i (by omega))
            have hp2 : pin b ((t : Int) :: p) := pin_cons hp (by omega) ⟨by omega, hst.2.1⟩
            have el : (((t : Int) :: p).length : Int) = (p.length : Int) + 1 := by simp
            have next : ∀ (L'' : LL) (ξ : JM), pexg b win k p L' t = L'' → I L'' ξ → (∀ i, 0 ≤ i → i < (p.length : Int) → ξ 32 x i = ν' 32 x i) → wp true (d + k + 6) 56 52 [(22, x), (0, (p.length : Int)), (0, s), (12, (2 + x)), (0, lst p), (0, jand rest (rest - 1)), (0, turn + 1), (0, (t : Int))] [] ξ Q := by
              intro L'' ξ eL hLx hfx
              rw [eL] at e1
              refine ihM (n - (t - i) - 1) (t + 1) _ _ _ L'' ξ (by omega) (by omega) (by omega) (by omega) (inR_and _ _) bits' hLx (pathC_fr hpa' hfx) (by rw [← e1]; exact hpre') (fun ζ h1 h2 => hQ' ζ (by rw [e1]; exact h1) (fun i a1 a2 => (h2 i a1 a2).trans (hfx i a1 a2)))
            have hpre2 : pexg b win k p L' t <+: F := List.IsPrefix.trans (fup_pre (pexg_pre b win k p) _ _ _) (e1 ▸ hpre')
            refine ⟨by omega, by omega, by omega, by omega, by omega, by omega, by omega, fun hc => ⟨by omega, by omega, ?_⟩, fun hc => ⟨hx, ?_⟩⟩
            · rw [has_u _ (by omega) (by omega)]
              have hbl : bt (jor s (b 5 2)) (b 1 t).toNat = true ↔ (ptst b (b 1 t) ∨ ∃ u ∈ (t : Int) :: p, b 0 u = b 1 t) := by
                rw [bt_or, Bool.or_eq_true, hb _ (by omega), show (((b 1 t).toNat : Nat) : Int) = b 1 t by omega]
                have e0 : b 0 t = b 1 (hd p) := hst.2.2.1
                constructor
                · rintro ((h1 | ⟨u, h1, h2⟩) | h1)
                  · exact Or.inr ⟨t, List.mem_cons_self .., by omega⟩
                  · exact Or.inr ⟨u, List.mem_cons_of_mem _ h1, h2⟩
                  · exact Or.inl h1
                · rintro (h1 | ⟨u, h1, h2⟩)
                  · exact Or.inr h1
                  · rcases List.mem_cons.mp h1 with rfl | h1
                    · exact Or.inl (Or.inl (by omega))
                    · exact Or.inl (Or.inr ⟨u, h1, h2⟩)
              by_cases hbk : bt (jor s (b 5 2)) (b 1 t).toNat = true
              · rw [if_pos hbk]
                refine ⟨by decide, fun _ => ?_, fun h => absurd (by decide) h⟩
                refine next L' _ ?_ hL2 (fun i _ _ => jw_i (by omega))
                unfold pexg
                rw [if_pos hcan, if_neg hc, if_pos (hbl.mp hbk)]
              · rw [if_neg hbk]
                refine ⟨by decide, fun h => absurd rfl h, fun _ => ⟨by omega, by omega, ?_⟩⟩
                have eg : pexg b win k p L' t = pex b win k ((t : Int) :: p) L' := by
                  unfold pexg
                  rw [if_pos hcan, if_neg hc, if_neg (fun h => hbk (hbl.mpr h))]
                rw [← el]
                refine ih d ((t : Int) :: p) _ L' _ _ hp2 (by rw [el]; omega) hL2 hpa2 ?_ (by rw [← eg]; exact hpre2) (fun ξ h1 h2 => ?_)
                · intro j hj
                  rw [bt_or, Bool.or_eq_true, hb j hj, bt_bitz (by omega) (by omega)]
                  have e0 : b 0 t = b 1 (hd p) := hst.2.2.1
                  constructor
                  · rintro ((h1 | ⟨u, h1, h2⟩) | h1)
                    · exact Or.inr ⟨t, List.mem_cons_self .., by omega⟩
                    · exact Or.inr ⟨u, List.mem_cons_of_mem _ h1, h2⟩
                    · have := of_decide_eq_true h1
                      exact Or.inl (by show (j : Int) = b 1 t; omega)
                  · rintro (h1 | ⟨u, h1, h2⟩)
                    · have h1' : (j : Int) = b 1 t := h1
                      exact Or.inr (decide_eq_true (by omega))
                    · rcases List.mem_cons.mp h1 with rfl | h1
                      · exact Or.inl (Or.inl (by omega))
                      · exact Or.inl (Or.inr ⟨u, h1, h2⟩)
                · exact next _ ξ eg h1 (fun i a1 a2 => by rw [h2 i a1 (by rw [el]; omega), jw_i (by omega)])
            · have hc' : b 1 t = b 0 (lst p) := by omega
              have eg : pexg b win k p L' t = L' ++ [((t : Int) :: p).reverse] := by
                unfold pexg
                rw [if_pos hcan, if_pos hc']
              have hmt := hM (d + k + 1) L' ((t : Int) :: p) (jw ν' 32 x (p.length : Int) t) (fun ξ => wp true (d + k + 6) 56 52 [(22, x), (0, (p.length : Int)), (0, s), (12, (2 + x)), (0, lst p), (0, jand rest (rest - 1)), (0, turn + 1), (0, (t : Int))] [] ξ Q) hL2 hpa2 hp2 (by simp; omega) (by rw [lst_cons hp.1]; exact hc') (by rw [← eg]; exact hpre2) (fun ξ h1 h2 => next _ ξ eg h1 (fun i a1 a2 => by rw [h2 i, jw_i (by omega)]))
              rw [el] at hmt
              exact hmt
          · have e : fup (pexg b win k p) n i L' = L' := by
              refine fup_skip n i (fun y h1 h2 => ?_)
              by_cases hyt : y < t
              · exact skip y h1 hyt L'
              · unfold pexg
                rw [if_neg]
                intro hc
                have := vb_so hv (s := (t : Int)) (t := y) (by omega) (by omega) (by omega)
                have := hc.2
                omega
            exact hQ' ν' (by rw [e]; exact hL') (fun _ _ _ => rfl)
    refine s_X4_extend_0 _ _ _ _ _ _ ?_
    rw [isC_b i1.2.2.1 (by omega) (by omega), pathC_0 hpa hp.1, pathC_l hpa hp.1]
    refine ⟨⟨⟨by omega, by omega⟩, ⟨by omega, by omega⟩⟩, fun h => absurd h (by omega), fun _ => ⟨⟨⟨by omega, by omega⟩, ⟨by omega, by omega⟩⟩, fun h => absurd h (by omega), fun _ => ⟨by omega, by omega, ⟨⟨by omega, by omega⟩, ⟨by omega, by omega⟩⟩, fun _ => ⟨by omega, by omega, by omega, by omega, by omega, by omega, ?_⟩, fun h => absurd h (by omega)⟩⟩⟩
    have nx := i1.2.2.2 (hd p) hh.1 hh.2
    refine loop (nm b) (nm b) 0 _ 0 _ L ν (Nat.le_refl _) (by omega) (by omega) (by omega) nx.1 (fun j hj => ?_) hL hpa ?_ ?_
    · rw [nx.2 j hj]
      simp
    · exact hpre
    · exact hQ
theorem c_hunt {d : Nat} {μ : JM} {Q : JQ} (hx : x = 0 ∨ x = 1 ∨ x = 2) (hv : vb b) (hC : isC μ (2 + x) b) (hI : HI x b win I) (hF : HF x I) (hM : HMt x b F I) (hpre : pro b win <+: F) (h0 : ∀ ν, jfr (fun t y i => (t = 22 ∧ y = x ∧ i = 2) ∨ (t = 33 ∧ y = x)) μ ν → ν 22 x 2 = b 4 0 → nextC b ν x → isC ν (2 + x) b → I [] ν) (hQ : ∀ ξ, I (pro b win) ξ → Q 0 ξ) : wp true (d + 11) 55 0 [(22, x), (9, 0)] [] μ Q := by
  have hlo := vb_lo hv
  have hm := vb_m hv
  have hn := vb_n hv
  have hnm : (nm b : Int) = b 5 1 := by have := nm_eq hv; omega
  have second : ∀ ν, I [] ν → wp true (d + 11) 55 48 [(22, x), (0, 0)] [] ν Q := by
    intro ν hν
    refine fup_loop (W := fun i (L : LL) => ∀ ν, I L ν → wp true (d + 11) 55 48 [(22, x), (0, i)] [] ν Q) (g := prog b win) (fun i L => fup (prog b win) (b 5 1 - i).toNat i L <+: F) (lo := 0) (n := b 5 1) (fun i L a0 a1 hi => ?_) (fun i L a0 a1 hi hW ν hν => ?_) (nm b) 0 [] (by omega) (nm_eq hv) ?_ (fun _ ν hν => ?_) ν hν
    · rw [show (b 5 1 - i).toNat = (b 5 1 - (i + 1)).toNat + 1 by omega] at hi
      exact hi
    · have j1 := hI _ _ hν
      have tt := isC_t j1.2.2.1 a0 a1
      have bt0 := vb_t hv a0 a1
      refine s_X4_hunt_48 _ _ _ _ _ ?_
      rw [isC_m j1.2.2.1, tt.1]
      refine ⟨⟨⟨by omega, by omega⟩, ⟨by omega, by omega⟩⟩, fun h => absurd h (by omega), fun _ => ⟨by omega, by omega, ?_⟩⟩
      refine w_isTrusted j1.2.2.1 ⟨by omega, by omega⟩ (fun hc => ⟨by decide, fun _ => ?_, fun h => absurd (by decide) h⟩) (fun hc => ⟨by decide, fun h => absurd rfl h, fun _ => ⟨by omega, by omega, ?_⟩⟩)
      · unfold prog at hW
        rw [if_pos (Or.inl hc)] at hW
        exact hW ν hν
      · rw [tt.2.1]
        refine w_isTrusted j1.2.2.1 ⟨by omega, by omega⟩ (fun hc2 => ⟨by decide, fun _ => ?_, fun h => absurd (by decide) h⟩) (fun hc2 => ⟨by decide, fun h => absurd rfl h, fun _ => ⟨by omega, by omega, by omega, by omega, by omega, by omega, ?_⟩⟩)
        · unfold prog at hW
          rw [if_pos (Or.inr hc2)] at hW
          exact hW ν hν
        · unfold prog at hW
          have hnt : ¬ (ptst b (b 0 i) ∨ ptst b (b 1 i)) := by
            rintro (h | h)
            · rw [ptst, hc] at h; cases h
            · rw [ptst, hc2] at h; cases h
          rw [if_neg hnt] at hW
          rw [jw_t (by omega), jw_t (by omega), tt.1, tt.2.1]
          have hL2 := hF _ _ (jw ν 32 x 0 i) hν (jfr_jw (jfr_refl _ _) ⟨rfl, rfl⟩)
          have hp : pin b [i] := ⟨by simp, by simp, fun t ht => by
            have : t = i := by simpa using ht
            subst this
            exact ⟨a0, a1⟩⟩
          have e5 : d + 10 = (d + 10 - 5 - ((b 4 1).toNat - 1)) + ((b 4 1).toNat - 1) + 5 := by omega
          have ce : wp true (d + 10 - 5 - ((b 4 1).toNat - 1) + ((b 4 1).toNat - 1) + 5) 56 0 [(22, x), (0, (([i] : List Int).length : Int)), (0, (jor (jshl 1 (b 0 i)) (jshl 1 (b 1 i)))), (9, 0), (9, 0), (9, 0), (9, 0), (9, 0)] [] (jw ν 32 x 0 i) (fun _ μ3 => wp true (d + 11) 55 48 [(22, x), (0, (i + 1))] [] μ3 Q) := by
            refine c_extend hx hv hI hF hM ((b 4 1).toNat - 1) _ [i] _ L _ _ hp (by simp; omega) hL2 ?_ ?_ ?_ (fun ξ h1 h2 => hW ξ h1)
            · intro j hj
              have : j = 0 := by simpa using hj
              subst this
              exact jw_eq _ _ _ _ _
            · intro j hj
              rw [bt_or, Bool.or_eq_true, bt_bitz (by omega) (by omega), bt_bitz (by omega) (by omega)]
              constructor
              · rintro (h | h)
                · exact Or.inr ⟨i, by simp, by have := of_decide_eq_true h; omega⟩
                · exact Or.inl (by have := of_decide_eq_true h; show (j : Int) = b 1 i; omega)
              · rintro (h | ⟨u, h1, h2⟩)
                · have h' : (j : Int) = b 1 i := h
                  exact Or.inr (decide_eq_true (by omega))
                · have : u = i := by simpa using h1
                  subst this
                  exact Or.inl (decide_eq_true (by omega))
            · have hi2 := hi
              rw [show (b 5 1 - i).toNat = (b 5 1 - (i + 1)).toNat + 1 by omega] at hi2
              refine List.IsPrefix.trans ?_ hi2
              show _ <+: fup (prog b win) (b 5 1 - (i + 1)).toNat (i + 1) (prog b win L i)
              have : prog b win L i = pex b win ((b 4 1).toNat - 1) [i] L := by
                unfold prog
                rw [if_neg hnt]
              rw [this]
              exact fup_pre (prog_pre b win) _ _ _
          rw [← e5] at ce
          exact ce
    · rw [show (b 5 1 - 0).toNat = nm b by omega]
      exact hpre
    · have j1 := hI _ _ hν
      refine s_X4_hunt_48 _ _ _ _ _ ?_
      rw [isC_m j1.2.2.1]
      exact ⟨⟨⟨by omega, by omega⟩, ⟨by omega, by omega⟩⟩, fun _ => hQ ν hν, fun h => absurd h (by omega)⟩
  have first : ∀ (n : Nat) (i : Int) (ν : JM), i + n = b 5 1 → 0 ≤ i → jfr (fun t y i => (t = 22 ∧ y = x ∧ i = 2) ∨ (t = 33 ∧ y = x)) μ ν → ν 22 x 2 = b 4 0 → (∀ t, 0 ≤ t → t < i → inR (ν 33 x t) ∧ ∀ j : Nat, j < 32 → bt (ν 33 x t) j = decide ((j : Int) < b 5 1 ∧ pstep b t j)) → wp true (d + 11) 55 15 [(22, x), (0, i)] [] ν Q := by
    intro n
    induction n with
    | zero =>
      intro i ν h1 h2 h3 h4 h5
      have hC' : isC ν (2 + x) b := isC_fr hC (fun t _ _ i => h3 _ _ _ (fun h => by omega))
      refine s_X4_hunt_15 _ _ _ _ _ ?_
      rw [isC_m hC']
      exact ⟨⟨⟨by omega, by omega⟩, ⟨by omega, by omega⟩⟩, fun _ => second ν (h0 ν h3 h4 (fun t a0 a1 => h5 t a0 (by omega)) hC'), fun h => absurd h (by omega)⟩
    | succ n ih =>
      intro i ν h1 h2 h3 h4 h5
      have hC' : isC ν (2 + x) b := isC_fr hC (fun t _ _ i => h3 _ _ _ (fun h => by omega))
      refine s_X4_hunt_15 _ _ _ _ _ ?_
      rw [isC_m hC']
      refine ⟨⟨⟨by omega, by omega⟩, ⟨by omega, by omega⟩⟩, fun h => absurd h (by omega), fun _ => ?_⟩
      refine c_stepsFrom hC' hv h2 (by omega) (fun r hr hb => ⟨by omega, by omega, ?_⟩)
      refine ih (i + 1) _ (by omega) (by omega) (jfr_jw h3 (Or.inr ⟨rfl, rfl⟩)) (by rw [jw_t (by omega)]; exact h4) (fun t a0 a1 => ?_)
      by_cases ht : t = i
      · subst ht
        rw [jw_eq]
        exact ⟨hr, hb⟩
      · rw [jw_i ht]
        exact h5 t a0 (by omega)
  refine s_X4_hunt_0 _ _ _ _ ⟨by omega, by omega, ?_⟩
  rw [isC_b hC (by omega) (by omega)]
  exact first (nm b) 0 _ (nm_eq hv) (by omega) (jfr_jw (jfr_refl _ _) (Or.inl ⟨rfl, rfl, rfl⟩)) (jw_eq _ _ _ _ _) (fun t a0 a1 => absurd a1 (by omega))
end
