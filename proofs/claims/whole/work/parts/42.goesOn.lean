/-! the reference's rounds are the pure ones -/
def LM (b : BK) (L : LL) (ν : JM) : Prop := ν 40 0 10 = (L.length : Int) ∧ ∀ r : Nat, r < L.length → (L.getD r []).length ≤ 5 ∧ ν 61 0 (r : Int) = ((L.getD r []).length : Int) ∧ inR (ν 62 0 (r : Int)) ∧ (∀ j : Nat, j < 32 → (bt (ν 62 0 (r : Int)) j = true ↔ ∃ t ∈ L.getD r [], b 0 t = (j : Int))) ∧ ∀ k : Nat, k < (L.getD r []).length → ν 60 0 (5 * (r : Int) + (k : Int)) = (L.getD r []).getD k 0
def pathM (ν : JM) (p : List Int) : Prop := ∀ i : Nat, i < p.length → ν 65 0 (i : Int) = p.reverse.getD i 0
theorem pathM_0 {ν : JM} {p : List Int} (h : pathM ν p) (hp : p ≠ []) : ν 65 0 0 = lst p := by
  have := h 0 (lpos hp)
  rw [show ((0 : Nat) : Int) = 0 from rfl] at this
  rw [this]
  unfold lst
  rw [List.getLastD_eq_getLast?, List.getD_eq_getElem?_getD, ← List.head?_eq_getElem?, List.head?_reverse]
theorem pathM_l {ν : JM} {p : List Int} (h : pathM ν p) (hp : p ≠ []) : ν 65 0 ((p.length : Int) - 1) = hd p := by
  have hl := lpos hp
  have := h (p.length - 1) (by omega)
  rw [show ((p.length - 1 : Nat) : Int) = (p.length : Int) - 1 by omega] at this
  rw [this]
  cases p with
  | nil => exact absurd rfl hp
  | cons a l =>
    simp only [List.reverse_cons, List.length_cons, List.headD_cons]
    rw [gda_r (by simp)]
    simp
theorem pathM_cons {μ ν : JM} {p : List Int} {y : Int} (h : pathM μ p) (hy : ν 65 0 (p.length : Int) = y) (hf : ∀ i : Int, 0 ≤ i → i < (p.length : Int) → ν 65 0 i = μ 65 0 i) : pathM ν (y :: p) := by
  intro i hi
  simp only [List.length_cons] at hi
  rw [List.reverse_cons]
  by_cases hc : i < p.length
  · rw [hf i (by omega) (by omega), h i hc, gda_l (by simpa using hc)]
  · have : i = p.length := by omega
    subst this
    rw [hy, gda_r (by simp)]
    simp
theorem pathM_fr {μ ν : JM} {p : List Int} (h : pathM μ p) (hf : ∀ i : Int, 0 ≤ i → i < (p.length : Int) → ν 65 0 i = μ 65 0 i) : pathM ν p := fun i hi => by
  rw [hf i (by omega) (by omega)]
  exact h i hi
/-- the accounts that the transfers of the path start from -/
def setM (b : BK) (s : Int) (p : List Int) : Prop := inR s ∧ ∀ j : Nat, j < 32 → (bt s j = true ↔ ∃ t ∈ p, b 0 t = (j : Int))
abbrev PG (n : Int) : Nat → Int → Int → Prop := fun t x i => x = 0 ∧ ((t = 60 ∨ t = 61 ∨ t = 62) ∨ (t = 40 ∧ i = 10) ∨ (t = 65 ∧ n ≤ i))
theorem LM_fr {b : BK} {L : LL} {μ ν : JM} (h : LM b L μ) (e : ∀ t i, (t = 60 ∨ t = 61 ∨ t = 62) ∨ (t = 40 ∧ i = 10) → ν t 0 i = μ t 0 i) : LM b L ν := by
  unfold LM
  rw [e 40 10 (by omega)]
  refine ⟨h.1, fun r hr => ?_⟩
  have q := h.2 r hr
  rw [e 61 _ (by omega), e 62 _ (by omega)]
  exact ⟨q.1, q.2.1, q.2.2.1, q.2.2.2.1, fun k hk => by rw [e 60 _ (by omega)]; exact q.2.2.2.2 k hk⟩
theorem m_isRound {d : Nat} {b : BK} {p : List Int} {s : Int} {L : LL} {ν : JM} {Q : JQ} (hp : p.length ≤ 5) (hpa : pathM ν p) (hs : setM b s p) (hL : LM b L ν) (hlen : L.length < 12000) (k : ∀ ξ, jfr (PG 12) ν ξ → LM b (L ++ [p.reverse]) ξ → Q 0 ξ) : wp true d 225 0 [(40, 0), (0, (p.length : Int)), (0, s), (9, 0)] [] ν Q := by
  have e10 := hL.1
  have key : ∀ (n : Nat) (i : Nat) (ξ : JM), i + n = p.length → jfr (fun t x j => t = 60 ∧ x = 0 ∧ 5 * (L.length : Int) ≤ j) ν ξ → (∀ j : Nat, j < i → ξ 60 0 (5 * (L.length : Int) + (j : Int)) = p.reverse.getD j 0) → wp true d 225 2 [(40, 0), (0, (p.length : Int)), (0, s), (0, (i : Int))] [] ξ Q := by
    intro n
    induction n with
    | zero =>
      intro i ξ h1 h2 h3
      have x10 : ξ 40 0 10 = (L.length : Int) := by rw [h2 _ _ _ (fun h => by omega), e10]
      refine s_X11_isRound_2 _ _ _ _ _ _ ?_
      rw [jw_t (by omega), jw_t (by omega), jw_t (by omega), x10]
      refine ⟨⟨⟨by omega, by omega⟩, ⟨by omega, by omega⟩⟩, fun _ => ⟨by omega, by omega, by omega, by omega, k _ ?_ ?_⟩, fun h => absurd h (by omega)⟩
      · refine jfr_jw (jfr_jw (jfr_jw (jfr_mono h2 (fun t x j h => ⟨h.2.1, Or.inl (Or.inl h.1)⟩)) ?_) ?_) ?_
        · exact ⟨rfl, Or.inl (Or.inr (Or.inl rfl))⟩
        · exact ⟨rfl, Or.inl (Or.inr (Or.inr rfl))⟩
        · exact ⟨rfl, Or.inr (Or.inl ⟨rfl, rfl⟩)⟩
      · refine ⟨by rw [jw_eq]; simp, fun r hr => ?_⟩
        have hr' : r < L.length + 1 := by simpa using hr
        by_cases hc : r < L.length
        · rw [gda_l hc]
          have q := hL.2 r hc
          refine ⟨q.1, ?_, ?_, ?_, fun j hj => ?_⟩
          · rw [jw_t (by omega), jw_t (by omega), jw_i (by omega), h2 _ _ _ (fun h => by omega)]
            exact q.2.1
          · rw [jw_t (by omega), jw_i (by omega), jw_t (by omega), h2 _ _ _ (fun h => by omega)]
            exact q.2.2.1
          · rw [jw_t (by omega), jw_i (by omega), jw_t (by omega), h2 _ _ _ (fun h => by omega)]
            exact q.2.2.2.1
          · rw [jw_t (by omega), jw_t (by omega), jw_t (by omega), h2 _ _ _ (fun h => by omega)]
            exact q.2.2.2.2 j hj
        · have : r = L.length := by omega
          subst this
          rw [gda_r (by simp)]
          simp only [Nat.sub_self, List.getD_cons_zero, List.length_reverse, List.mem_reverse]
          refine ⟨hp, ?_, ?_, ?_, fun j hj => ?_⟩
          · rw [jw_t (by omega), jw_t (by omega), jw_eq]
          · rw [jw_t (by omega), jw_eq]
            exact hs.1
          · rw [jw_t (by omega), jw_eq]
            exact hs.2
          · rw [jw_t (by omega), jw_t (by omega), jw_t (by omega)]
            exact h3 j (by omega)
    | succ n ih =>
      intro i ξ h1 h2 h3
      have x10 : ξ 40 0 10 = (L.length : Int) := by rw [h2 _ _ _ (fun h => by omega), e10]
      refine s_X11_isRound_2 _ _ _ _ _ _ ?_
      rw [x10]
      refine ⟨⟨⟨by omega, by omega⟩, ⟨by omega, by omega⟩⟩, fun h => absurd h (by omega), fun _ => ⟨by omega, by omega, by omega, by omega, ?_⟩⟩
      rw [show (i : Int) + 1 = ((i + 1 : Nat) : Int) by omega]
      refine ih (i + 1) _ (by omega) (jfr_jw h2 ⟨rfl, rfl, by omega⟩) (fun j hj => ?_)
      by_cases hji : j = i
      · subst hji
        rw [jw_eq, h2 _ _ _ (fun h => by omega)]
        exact hpa j (by omega)
      · rw [jw_i (by omega)]
        exact h3 j (by omega)
  exact s_X11_isRound_0 _ _ _ _ _ (key p.length 0 ν (by omega) (jfr_refl _ _) (fun j hj => absurd hj (by omega)))
/-- what the reference does at the end of a path -/
abbrev pgo (b : BK) (win : LL → Int) (k : Nat) (p : List Int) (L : LL) : LL := if b 1 (hd p) = b 0 (lst p) then L ++ [p.reverse] else if ptst b (b 1 (hd p)) ∨ (∃ t ∈ p, b 0 t = b 1 (hd p)) then L else pex b win k p L
theorem pexg_pgo {b : BK} {win : LL → Int} {k : Nat} {p : List Int} (hp : p ≠ []) (L : LL) (y : Int) : pexg b win k p L y = if pcan b (win L) p y then pgo b win k (y :: p) L else L := by
  unfold pexg pgo
  rw [lst_cons hp]
  rfl
theorem pgo_pre (b : BK) (win : LL → Int) (k : Nat) (p : List Int) (L : LL) : L <+: pgo b win k p L := by
  unfold pgo
  split
  · exact List.prefix_append _ _
  · split
    · exact List.prefix_rfl
    · exact pex_pre _ _ _ _ _
theorem m_goesOn {b : BK} {F : LL} (hv : vb b) (hF : F.length ≤ 12000) : ∀ (k d : Nat) (p : List Int) (s : Int) (L : LL) (ν : JM) (Q : JQ), pin b p → (p.length : Int) + k = b 4 1 → isM ν b → LM b L ν → pathM ν p → setM b s p → pgo b (fun _ => b 4 0) k p L <+: F → (∀ ξ, jfr (PG (p.length : Int)) ν ξ → LM b (pgo b (fun _ => b 4 0) k p L) ξ → Q 0 ξ) → wp true (d + k + 5) 226 0 [(40, 0), (0, (p.length : Int)), (0, s), (9, 0), (9, 0)] [] ν Q := by
  have hlo := vb_lo hv
  have hm := vb_m hv
  have hn := vb_n hv
  have hw := vb_w hv
  have hnm : (nm b : Int) = b 5 1 := by have := nm_eq hv; omega
  intro k
  induction k with
  | zero =>
    intro d p s L ν Q hp hk hM hL hpa hs hpre hQ
    have hl := lpos hp.1
    have hl5 := hp.2.1
    have hh := pin_hd hp
    have hls := pin_lst hp
    have th := isM_t hM hh.1 hh.2
    have tl := isM_t hM hls.1 hls.2
    have bh := vb_t hv hh.1 hh.2
    have bl := vb_t hv hls.1 hls.2
    refine s_X11_goesOn_0 (d + 3) _ _ _ _ ?_
    rw [pathM_0 hpa hp.1, pathM_l hpa hp.1, th.2.1, tl.1, isM_b hM (by omega) (by omega)]
    refine ⟨by omega, by omega, by omega, by omega, by omega, by omega, by omega, by omega, by omega, fun hc => ?_, fun hc => ?_⟩
    · refine ⟨by omega, by omega, by omega, fun _ => hQ ν (jfr_refl _ _) ?_, fun h => absurd (by omega) h⟩
      have : pgo b (fun _ => b 4 0) 0 p L = L := by
        unfold pgo
        rw [if_neg hc]
        split <;> rfl
      rw [this]
      exact hL
    · have hc' : b 1 (hd p) = b 0 (lst p) := by omega
      have e : pgo b (fun _ => b 4 0) 0 p L = L ++ [p.reverse] := by
        unfold pgo
        rw [if_pos hc']
      rw [e] at hpre hQ
      have := List.IsPrefix.length_le hpre
      simp at this
      exact m_isRound (by omega) hpa hs hL (by omega) (fun ξ h1 h2 => hQ ξ (jfr_mono h1 (fun t x i h => ⟨h.1, by omega⟩)) h2)
  | succ k ih =>
    intro d p s L ν Q hp hk hM hL hpa hs hpre hQ
    have hl := lpos hp.1
    have hl5 := hp.2.1
    have hh := pin_hd hp
    have hls := pin_lst hp
    have th := isM_t hM hh.1 hh.2
    have tl := isM_t hM hls.1 hls.2
    have bh := vb_t hv hh.1 hh.2
    have bl := vb_t hv hls.1 hls.2
    refine s_X11_goesOn_0 (d + k + 4) _ _ _ _ ?_
    rw [pathM_0 hpa hp.1, pathM_l hpa hp.1, th.2.1, tl.1, isM_b hM (by omega) (by omega)]
    refine ⟨by omega, by omega, by omega, by omega, by omega, by omega, by omega, by omega, by omega, fun hc => ?_, fun hc => ?_⟩
    · refine ⟨by omega, by omega, by omega, fun h => absurd h (by omega), fun _ => ⟨by omega, by omega, ?_⟩⟩
      refine w_has ⟨by omega, by omega⟩ (fun h1 => ⟨by decide, fun _ => hQ ν (jfr_refl _ _) ?_, fun h => absurd (by decide) h⟩) (fun h1 => ⟨by decide, fun h => absurd rfl h, fun _ => ⟨by omega, by omega, by omega, by omega, ?_⟩⟩)
      · have hb : ∃ t ∈ p, b 0 t = b 1 (hd p) := by
          obtain ⟨t, ht, h2⟩ := (hs.2 _ (by omega)).mp h1
          exact ⟨t, ht, by omega⟩
        have : pgo b (fun _ => b 4 0) (k + 1) p L = L := by
          unfold pgo
          rw [if_neg hc, if_pos (Or.inr hb)]
        rw [this]
        exact hL
      · rw [isM_tr hM, th.2.1]
        have hnb : ¬ ∃ t ∈ p, b 0 t = b 1 (hd p) := by
          rintro ⟨t, ht, h2⟩
          have := (hs.2 (b 1 (hd p)).toNat (by omega)).mpr ⟨t, ht, by omega⟩
          rw [h1] at this
          cases this
        refine w_has ⟨by omega, by omega⟩ (fun h2 => ⟨by decide, fun h => absurd h (by decide), fun _ => hQ ν (jfr_refl _ _) ?_⟩) (fun h2 => ⟨by decide, fun _ => ?_, fun h => absurd rfl h⟩)
        · have : pgo b (fun _ => b 4 0) (k + 1) p L = L := by
            unfold pgo
            rw [if_neg hc, if_pos (Or.inl h2)]
          rw [this]
          exact hL
        · have eg : pgo b (fun _ => b 4 0) (k + 1) p L = pex b (fun _ => b 4 0) (k + 1) p L := by
            unfold pgo
            rw [if_neg hc, if_neg]
            rintro (h | h)
            · rw [ptst, h2] at h
              cases h
            · exact hnb h
          rw [eg, pex_succ] at hpre hQ
          have es : fup (pexg b (fun _ => b 4 0) k p) (nm b) 0 L = fup (pexg b (fun _ => b 4 0) k p) (b 5 1 - (hd p + 1)).toNat (hd p + 1) L := by
            have hs0 : fup (pexg b (fun _ => b 4 0) k p) (hd p + 1).toNat 0 L = L := by
              refine fup_skip _ _ (fun y h1 h2 => ?_)
              unfold pexg
              rw [if_neg]
              intro hcan
              have := vb_so hv (s := y) (t := hd p) h1 (by omega) hh.2
              have := hcan.1.2.1
              omega
            rw [show nm b = (hd p + 1).toNat + (b 5 1 - (hd p + 1)).toNat by omega, fup_add, hs0]
            congr 1
            omega
          rw [es] at hpre hQ
          refine fup_loop (W := fun i (L' : LL) => ∀ ξ, jfr (PG (p.length : Int)) ν ξ → LM b L' ξ → wp true (d + k + 6) 226 77 [(40, 0), (0, (p.length : Int)), (0, s), (0, hd p), (0, i)] [] ξ Q) (g := pexg b (fun _ => b 4 0) k p) (fun i L' => fup (pexg b (fun _ => b 4 0) k p) (b 5 1 - i).toNat i L' <+: F) (lo := hd p + 1) (n := b 5 1) (fun i L' a0 a1 hi => ?_) (fun i L' a0 a1 hi hW ξ hf hLx => ?_) (b 5 1 - (hd p + 1)).toNat (hd p + 1) L (by omega) (by omega) hpre (fun _ ξ hf hLx => ?_) ν (jfr_refl _ _) hL
          · rw [show (b 5 1 - i).toNat = (b 5 1 - (i + 1)).toNat + 1 by omega] at hi
            exact hi
          · have hM' : isM ξ b := isM_fr hM (fun j => hf _ _ _ (fun h => by omega))
            have hpa' : pathM ξ p := pathM_fr hpa (fun j _ _ => hf _ _ _ (fun h => by omega))
            have ti := isM_t hM' (t := i) (by omega) a1
            have tl' := isM_t hM' hls.1 hls.2
            have bi := vb_t hv (t := i) (by omega) a1
            rw [pexg_pgo hp.1] at hW
            refine s_X11_goesOn_77 (d + k + 4) _ _ _ _ _ _ ?_
            rw [isM_m hM']
            refine ⟨by omega, by omega, ⟨⟨by omega, by omega⟩, ⟨by omega, by omega⟩⟩, fun h => absurd h (by omega), fun _ => ?_⟩
            refine w_isStep hM' hv hh ⟨by omega, a1⟩ (fun hst => ⟨by decide, fun h => absurd h (by decide), fun _ => ?_⟩) (fun hst => ⟨by decide, fun _ => ?_, fun h => absurd rfl h⟩)
            · rw [pathM_0 hpa' hp.1, ti.2.2.1, tl'.2.2.1, isM_b hM' (by omega) (by omega)]
              refine ⟨by omega, by omega, by omega, by omega, by omega, by omega, by omega, by omega, ⟨⟨by omega, by omega⟩, ⟨by omega, by omega⟩⟩, fun hwi => ⟨by omega, by omega, by omega, by omega, ?_⟩, fun hwi => ?_⟩
              · rw [if_pos (⟨hst, hwi⟩ : pcan b (b 4 0) p i)] at hW
                rw [jw_t (by omega), ti.1]
                have hp2 : pin b (i :: p) := pin_cons hp (by omega) ⟨by omega, a1⟩
                have el : ((i :: p).length : Int) = (p.length : Int) + 1 := by simp
                have hfw : jfr (PG (p.length : Int)) ξ (jw ξ 65 0 (p.length : Int) i) := jfr_jw (jfr_refl _ _) ⟨rfl, Or.inr (Or.inr ⟨rfl, by omega⟩)⟩
                rw [← el]
                refine ih d (i :: p) _ L' _ _ hp2 (by rw [el]; omega) (isM_fr hM' (fun j => jw_t (by omega))) (LM_fr hLx (fun t j h => jw_t (by omega))) (pathM_cons hpa' (jw_eq _ _ _ _ _) (fun j _ _ => jw_i (by omega))) ⟨inR_or _ _, fun j hj => ?_⟩ ?_ (fun ζ h1 h2 => hW ζ (jfr_trans hf (jfr_trans hfw (jfr_mono h1 (fun t x i h => ⟨h.1, by omega⟩)))) h2)
                · rw [bt_or, Bool.or_eq_true, hs.2 j hj, bt_bitz (by omega) (by omega)]
                  constructor
                  · rintro (⟨u, h1, h2⟩ | h)
                    · exact ⟨u, List.mem_cons_of_mem _ h1, h2⟩
                    · exact ⟨i, List.mem_cons_self .., by have := of_decide_eq_true h; omega⟩
                  · rintro ⟨u, h1, h2⟩
                    rcases List.mem_cons.mp h1 with rfl | h1
                    · exact Or.inr (decide_eq_true (by omega))
                    · exact Or.inl ⟨u, h1, h2⟩
                · have hi2 := hi
                  rw [show (b 5 1 - i).toNat = (b 5 1 - (i + 1)).toNat + 1 by omega] at hi2
                  refine List.IsPrefix.trans ?_ hi2
                  show _ <+: fup (pexg b (fun _ => b 4 0) k p) (b 5 1 - (i + 1)).toNat (i + 1) (pexg b (fun _ => b 4 0) k p L' i)
                  rw [pexg_pgo hp.1, if_pos (⟨hst, hwi⟩ : pcan b (b 4 0) p i)]
                  exact fup_pre (pexg_pre _ _ _ _) _ _ _
              · rw [if_neg (fun h => hwi h.2)] at hW
                exact hW ξ hf hLx
            · rw [if_neg (fun h => hst h.1)] at hW
              exact hW ξ hf hLx
          · have hM' : isM ξ b := isM_fr hM (fun j => hf _ _ _ (fun h => by omega))
            refine s_X11_goesOn_77 (d + k + 4) _ _ _ _ _ _ ?_
            rw [isM_m hM']
            exact ⟨by omega, by omega, ⟨⟨by omega, by omega⟩, ⟨by omega, by omega⟩⟩, fun _ => hQ ξ hf hLx, fun h => absurd h (by omega)⟩
    · have hc' : b 1 (hd p) = b 0 (lst p) := by omega
      have e : pgo b (fun _ => b 4 0) (k + 1) p L = L ++ [p.reverse] := by
        unfold pgo
        rw [if_pos hc']
      rw [e] at hpre hQ
      have := List.IsPrefix.length_le hpre
      simp at this
      exact m_isRound (by omega) hpa hs hL (by omega) (fun ξ h1 h2 => hQ ξ (jfr_mono h1 (fun t x i h => ⟨h.1, by omega⟩)) h2)
