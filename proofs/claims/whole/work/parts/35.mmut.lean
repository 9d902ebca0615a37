/-! the reference's row as it changes -/
theorem isF_fr {f g : Int → Int} {b : BK} (h : isF f b) (hm : b 5 1 ≤ 32) (e : ∀ i, 0 ≤ i → i < 136 → g i = f i) : isF g b := by
  refine ⟨?_, ?_, ?_, ?_, ?_⟩
  · rw [e 0 (by omega) (by omega)]; exact h.1
  · rw [e 1 (by omega) (by omega)]; exact h.2.1
  · rw [e 2 (by omega) (by omega)]; exact h.2.2.1
  · intro k h0 h1
    rw [e _ (by omega) (by omega)]; exact h.2.2.2.1 k h0 h1
  · intro t h0 h1
    rw [e _ (by omega) (by omega), e _ (by omega) (by omega), e _ (by omega) (by omega), e _ (by omega) (by omega)]
    exact h.2.2.2.2 t h0 h1
theorem m_copies {d : Nat} {a c : Int} {μ : JM} {Q : JQ} (ha : 0 ≤ a ∧ a + 136 ≤ 2040) (hc : 0 ≤ c ∧ c + 136 ≤ 2040) (hac : a + 136 ≤ c ∨ c + 136 ≤ a) (k : Q 0 (jcp μ 41 0 a 41 0 c 136)) : wp true d 197 0 [(40, 0), (0, a), (0, c), (9, 0)] [] μ Q := by
  have key : ∀ (n : Nat) (i : Int), i + n = 136 → 0 ≤ i → wp true d 197 2 [(40, 0), (0, a), (0, c), (0, i)] [] (jcp μ 41 0 a 41 0 c i) Q := by
    intro n
    induction n with
    | zero =>
      intro i h1 h2
      have e : i = 136 := by omega
      subst e
      exact s_X11_copies_2 _ _ _ _ _ _ ⟨⟨⟨by omega, by omega⟩, ⟨by omega, by omega⟩⟩, fun _ => k, fun h => absurd h (by omega)⟩
    | succ n ih =>
      intro i h1 h2
      refine s_X11_copies_2 _ _ _ _ _ _ ⟨⟨⟨by omega, by omega⟩, ⟨by omega, by omega⟩⟩, fun h => absurd h (by omega), fun _ => ⟨by omega, by omega, by omega, by omega, ?_⟩⟩
      have e : jw (jcp μ 41 0 a 41 0 c i) 41 0 (c + i) ((jcp μ 41 0 a 41 0 c i) 41 0 (a + i)) = jcp μ 41 0 a 41 0 c (i + 1) := by
        funext t x j
        unfold jw
        split
        · rename_i h
          obtain ⟨rfl, rfl, rfl⟩ := h
          unfold jcp
          rw [if_neg (by omega), if_pos ⟨rfl, rfl, by omega, by omega⟩]
          congr 1
          omega
        · rename_i h
          unfold jcp
          by_cases h3 : t = 41 ∧ x = 0 ∧ c ≤ j ∧ j < c + i
          · rw [if_pos h3, if_pos ⟨h3.1, h3.2.1, h3.2.2.1, by omega⟩]
          · rw [if_neg h3, if_neg (fun h4 => h3 ⟨h4.1, h4.2.1, h4.2.2.1, by
              have : j ≠ c + i := fun h5 => h ⟨h4.1, h4.2.1, h5⟩
              omega⟩)]
      rw [e]
      exact ih (i + 1) (by omega) (by omega)
  refine s_X11_copies_0 _ _ _ _ _ ?_
  have e : jcp μ 41 0 a 41 0 c 0 = μ := by
    funext t x j
    unfold jcp
    rw [if_neg (by omega)]
  have := key 136 0 (by omega) (by omega)
  rw [e] at this
  exact this
theorem jcp_in {μ : JM} {a c n i : Int} (h0 : c ≤ i) (h1 : i < c + n) : jcp μ 41 0 a 41 0 c n 41 0 i = μ 41 0 (a + (i - c)) := by
  unfold jcp
  rw [if_pos ⟨rfl, rfl, h0, h1⟩]
theorem jcp_out {μ : JM} {a c n i : Int} {t : Nat} {x : Int} (h : ¬ (t = 41 ∧ x = 0 ∧ c ≤ i ∧ i < c + n)) : jcp μ 41 0 a 41 0 c n t x i = μ t x i := by
  unfold jcp
  rw [if_neg h]
abbrev PMb : Nat → Int → Int → Prop := fun t x i => (t = 41 ∧ x = 0 ∧ 0 ≤ i ∧ i < 136) ∨ (t = 40 ∧ x = 0 ∧ i = 12)
theorem m_begins {d : Nat} {μ : JM} {Q : JQ} (k : ∀ ν, jfr PMb μ ν → isM ν bk0 → ν 40 0 12 = 0 → Q 0 ν) : wp true d 198 0 [(40, 0), (9, 0)] [] μ Q := by
  have key : ∀ (n : Nat) (i : Int) (ν : JM), i + n = 136 → 0 ≤ i → jfr PMb μ ν → (∀ j, 0 ≤ j → j < i → ν 41 0 j = 0) → wp true d 198 2 [(40, 0), (0, i)] [] ν Q := by
    intro n
    induction n with
    | zero =>
      intro i ν h1 h2 h3 h4
      refine s_X11_begins_2 _ _ _ _ ⟨⟨⟨by omega, by omega⟩, ⟨by omega, by omega⟩⟩, fun _ => ⟨by omega, by omega, by omega, by omega, by omega, by omega, by omega, by omega, k _ ?_ ?_ ?_⟩, fun h => absurd h (by omega)⟩
      · refine jfr_jw (jfr_jw (jfr_jw (jfr_jw h3 ?_) ?_) ?_) ?_ <;> first | exact Or.inl ⟨rfl, rfl, by omega, by omega⟩ | exact Or.inr ⟨rfl, rfl, rfl⟩
      · refine ⟨?_, ?_, ?_, ?_, ?_⟩
        · simp [jw, bk0, h4 0 (by omega) (by omega)]
        · simp [jw, bk0, h4 1 (by omega) (by omega)]
        · simp [jw, bk0, h4 2 (by omega) (by omega)]
        · intro j h0 h1
          have h : j = 0 ∨ j = 1 ∨ j = 2 ∨ j = 3 := by omega
          rcases h with rfl | rfl | rfl | rfl <;> simp [jw, bk0, h4 6 (by omega) (by omega)]
        · intro t h0 h1
          have : bk0 5 1 = 0 := rfl
          omega
      · rw [jw_eq]
    | succ n ih =>
      intro i ν h1 h2 h3 h4
      refine s_X11_begins_2 _ _ _ _ ⟨⟨⟨by omega, by omega⟩, ⟨by omega, by omega⟩⟩, fun h => absurd h (by omega), fun _ => ⟨by omega, by omega, ih (i + 1) _ (by omega) (by omega) (jfr_jw h3 (Or.inl ⟨rfl, rfl, by omega, by omega⟩)) ?_⟩⟩
      intro j h5 h6
      by_cases hj : j = i
      · subst hj
        rw [jw_eq]
      · rw [jw_i hj]
        exact h4 j h5 (by omega)
  exact s_X11_begins_0 _ _ _ (key 136 0 μ (by omega) (by omega) (jfr_refl _ _) (fun j h5 h6 => absurd h6 (by omega)))
abbrev rowM (μ : JM) (t : Int) (b : BK) (s : Int) : Prop := μ 41 0 (8 + 4 * t + 0) = b 0 s ∧ μ 41 0 (8 + 4 * t + 1) = b 1 s ∧ μ 41 0 (8 + 4 * t + 2) = b 2 s ∧ μ 41 0 (8 + 4 * t + 3) = b 3 s
/-- the head of the row: all but the transfers -/
abbrev hdM (μ : JM) (b : BK) : Prop := μ 41 0 0 = b 5 0 ∧ μ 41 0 1 = b 5 1 ∧ μ 41 0 2 = b 5 2 ∧ (∀ k, 0 ≤ k → k < 4 → μ 41 0 (3 + k) = b 4 k)
abbrev PRo : Nat → Int → Int → Prop := fun t x i => t = 41 ∧ x = 0 ∧ 8 ≤ i ∧ i < 136
theorem hdM_fr {μ ν : JM} {b : BK} (h : hdM μ b) (hf : jfr PRo μ ν) : hdM ν b := by
  refine ⟨?_, ?_, ?_, ?_⟩
  · rw [hf _ _ _ (by simp)]; exact h.1
  · rw [hf _ _ _ (by simp)]; exact h.2.1
  · rw [hf _ _ _ (by simp)]; exact h.2.2.1
  · intro k h0 h1
    rw [hf _ _ _ (fun h => by omega)]; exact h.2.2.2 k h0 h1
theorem rowM_fr {μ ν : JM} {b : BK} {t s : Int} (h : rowM μ t b s) (e : ∀ j, 0 ≤ j → j < 4 → ν 41 0 (8 + 4 * t + j) = μ 41 0 (8 + 4 * t + j)) : rowM ν t b s := by
  refine ⟨?_, ?_, ?_, ?_⟩
  · rw [e 0 (by omega) (by omega)]; exact h.1
  · rw [e 1 (by omega) (by omega)]; exact h.2.1
  · rw [e 2 (by omega) (by omega)]; exact h.2.2.1
  · rw [e 3 (by omega) (by omega)]; exact h.2.2.2
theorem pins_lt {b : BK} {p f t a w s : Int} (h : s < p) {j : Nat} (hj : j < 4) : pins b p f t a w j s = b j s := by
  unfold pins
  rw [if_neg (by omega), if_neg (by omega), if_pos h]
theorem pins_gt {b : BK} {p f t a w s : Int} (h : p < s) {j : Nat} (hj : j < 4) : pins b p f t a w j s = b j (s - 1) := by
  unfold pins
  rw [if_neg (by omega), if_neg (by omega), if_neg (by omega), if_neg (by omega)]
theorem prem_lt {b : BK} {x s : Int} (h : s < x) {j : Nat} (hj : j < 4) : prem b x j s = b j s := by
  unfold prem
  rw [if_neg (by omega), if_neg (by omega), if_pos h]
theorem prem_ge {b : BK} {x s : Int} (h : ¬ s < x) {j : Nat} (hj : j < 4) : prem b x j s = b j (s + 1) := by
  unfold prem
  rw [if_neg (by omega), if_neg (by omega), if_neg h]
theorem m_comes {d : Nat} {f t a w : Int} {b : BK} {μ : JM} {Q : JQ} (hM : isM μ b) (hv : vb b) (hm32 : b 5 1 < 32) (hw : inR w) (k : ∀ ν, jfr PMb μ ν → isM ν (pins b (pdn b w (nm b)) f t a w) → ν 40 0 12 = 0 → Q (pdn b w (nm b)) ν) : wp true (d + 3) 208 0 [(40, 0), (0, f), (0, t), (0, a), (0, w), (9, 0), (9, 0)] [] μ Q := by
  have hm := vb_m hv
  have hnm : (nm b : Int) = b 5 1 := by have := nm_eq hv; omega
  have done : ∀ (n : Nat) (u6 : JV) (ν : JM), (n : Int) ≤ b 5 1 → pdn b w (nm b) = n → jfr PRo μ ν → (∀ s : Int, 0 ≤ s → s < n → rowM ν s b s) → (∀ s : Int, (n : Int) < s → s ≤ b 5 1 → rowM ν s b (s - 1)) → wp true (d + 3) 208 74 [(40, 0), (0, f), (0, t), (0, a), (0, w), (0, (n : Int)), u6] [] ν Q := by
    intro n u6 ν h1 h2 h3 h5 h6
    have h4 := hdM_fr ⟨isM_n hM, isM_m hM, isM_tr hM, fun k h0 h1 => isM_b hM h0 h1⟩ h3
    rw [h2] at k
    refine s_X11_comes_74 (d + 2) _ _ _ _ _ _ _ _ ⟨by omega, by omega, by omega, by omega, by omega, by omega, by omega, by omega, by omega, by omega, by omega, by omega, by omega, by omega, k _ ?_ ?_ ?_⟩
    · refine jfr_jw (jfr_jw (jfr_jw (jfr_jw (jfr_jw (jfr_jw (jfr_mono h3 ?_) ?_) ?_) ?_) ?_) ?_) ?_ <;> first | exact fun t x i h => Or.inl ⟨h.1, h.2.1, by omega, by omega⟩ | exact Or.inl ⟨rfl, rfl, by omega, by omega⟩ | exact Or.inr ⟨rfl, rfl, rfl⟩
    · have ne : ∀ j k : Int, 0 ≤ j → j < 8 → 0 ≤ k → j ≠ 8 + 4 * (n : Int) + k := fun j k h1 h2 h3 => by omega
      refine ⟨?_, ?_, ?_, ?_, ?_⟩
      · rw [jw_t (by omega), jw_i (by omega), jw_i (by omega), jw_i (by omega), jw_i (by omega), jw_i (by omega)]
        exact h4.1
      · rw [jw_t (by omega), jw_eq, jw_i (by omega), jw_i (by omega), jw_i (by omega), jw_i (by omega), h4.2.1]
        rfl
      · rw [jw_t (by omega), jw_i (by omega), jw_i (by omega), jw_i (by omega), jw_i (by omega), jw_i (by omega)]
        exact h4.2.2.1
      · intro j h0 h1
        rw [jw_t (by omega), jw_i (by omega), jw_i (by omega), jw_i (by omega), jw_i (by omega), jw_i (by omega)]
        exact h4.2.2.2 j h0 h1
      · intro s h0 hs
        have hs' : s < b 5 1 + 1 := hs
        by_cases hc : s = n
        · subst hc
          refine ⟨?_, ?_, ?_, ?_⟩
          · rw [jw_t (by omega), jw_i (by omega), jw_i (by omega), jw_i (by omega), jw_i (by omega), jw_eq]
            simp [pins]
          · rw [jw_t (by omega), jw_i (by omega), jw_i (by omega), jw_i (by omega), jw_eq]
            simp [pins]
          · rw [jw_t (by omega), jw_i (by omega), jw_i (by omega), jw_eq]
            simp [pins]
          · rw [jw_t (by omega), jw_i (by omega), jw_eq]
            simp [pins]
        · have fr : ∀ j, 0 ≤ j → j < 4 → (jw (jw (jw (jw (jw (jw ν 41 0 (8 + 4 * (n : Int) + 0) f) 41 0 (8 + 4 * (n : Int) + 1) t) 41 0 (8 + 4 * (n : Int) + 2) w) 41 0 (8 + 4 * (n : Int) + 3) a) 41 0 1 ((jw (jw (jw (jw ν 41 0 (8 + 4 * (n : Int) + 0) f) 41 0 (8 + 4 * (n : Int) + 1) t) 41 0 (8 + 4 * (n : Int) + 2) w) 41 0 (8 + 4 * (n : Int) + 3) a) 41 0 1 + 1)) 40 0 12 0) 41 0 (8 + 4 * s + j) = ν 41 0 (8 + 4 * s + j) := by
            intro j h7 h8
            rw [jw_t (by omega), jw_i (by omega), jw_i (by omega), jw_i (by omega), jw_i (by omega), jw_i (by omega)]
          by_cases hlt : s < n
          · have q := rowM_fr (h5 s h0 hlt) fr
            exact ⟨q.1.trans (pins_lt hlt (by omega)).symm, q.2.1.trans (pins_lt hlt (by omega)).symm, q.2.2.1.trans (pins_lt hlt (by omega)).symm, q.2.2.2.trans (pins_lt hlt (by omega)).symm⟩
          · have q := rowM_fr (h6 s (by omega) (by omega)) fr
            have hgt : (n : Int) < s := by omega
            exact ⟨q.1.trans (pins_gt hgt (by omega)).symm, q.2.1.trans (pins_gt hgt (by omega)).symm, q.2.2.1.trans (pins_gt hgt (by omega)).symm, q.2.2.2.trans (pins_gt hgt (by omega)).symm⟩
    · rw [jw_eq]
  have key : ∀ (n : Nat) (u6 : JV) (ν : JM), (n : Int) ≤ b 5 1 → pdn b w (nm b) = pdn b w n → jfr PRo μ ν → (∀ s : Int, 0 ≤ s → s < n → rowM ν s b s) → (∀ s : Int, (n : Int) < s → s ≤ b 5 1 → rowM ν s b (s - 1)) → wp true (d + 3) 208 7 [(40, 0), (0, f), (0, t), (0, a), (0, w), (0, (n : Int)), u6] [] ν Q := by
    intro n
    induction n with
    | zero =>
      intro u6 ν h1 h2 h3 h5 h6
      exact s_X11_comes_7 (d + 1) _ _ _ _ _ _ _ _ ⟨⟨⟨by omega, by omega⟩, ⟨by omega, by omega⟩⟩, fun _ => done 0 _ ν h1 h2 h3 h5 h6, fun h => absurd h (by omega)⟩
    | succ n ih =>
      intro u6 ν h1 h2 h3 h5 h6
      have hn1 : ((n + 1 : Nat) : Int) - 1 = (n : Int) := by omega
      have r := h5 n (by omega) (by omega)
      have hb := vb_t hv (t := (n : Int)) (by omega) (by omega)
      refine s_X11_comes_7 (d + 1) _ _ _ _ _ _ _ _ ?_
      rw [hn1, r.2.2.1]
      refine ⟨⟨⟨by omega, by omega⟩, ⟨by omega, by omega⟩⟩, fun h => absurd h (by omega), fun _ => ⟨by omega, by omega, ⟨⟨by omega, by omega⟩, hw⟩, fun hc => ?_, fun hc => ?_⟩⟩
      · refine done (n + 1) _ ν h1 ?_ h3 h5 h6
        rw [h2]
        unfold pdn
        rw [if_neg (by omega)]
        omega
      · have inner : ∀ (q : Nat) (j : Int) (ξ : JM), j + q = 4 → 0 ≤ j → jfr (fun t x i => t = 41 ∧ x = 0 ∧ 8 + 4 * ((n + 1 : Nat) : Int) ≤ i ∧ i < 8 + 4 * ((n + 1 : Nat) : Int) + 4) ν ξ → (∀ i, 0 ≤ i → i < j → ξ 41 0 (8 + 4 * ((n + 1 : Nat) : Int) + i) = ν 41 0 (8 + 4 * (n : Int) + i)) → wp true (d + 3) 208 28 [(40, 0), (0, f), (0, t), (0, a), (0, w), (0, ((n + 1 : Nat) : Int)), (0, j)] [] ξ Q := by
          intro q
          induction q with
          | zero =>
            intro j ξ g1 g2 g3 g4
            refine s_X11_comes_28 (d + 2) _ _ _ _ _ _ _ _ ⟨⟨⟨by omega, by omega⟩, ⟨by omega, by omega⟩⟩, fun _ => ?_, fun h => absurd h (by omega)⟩
            rw [show ((n + 1 : Nat) : Int) + -1 = (n : Int) by omega]
            refine ih _ ξ (by omega) ?_ (jfr_trans h3 (jfr_mono g3 (fun t x i h => ⟨h.1, h.2.1, by omega, by omega⟩))) ?_ ?_
            · rw [h2]
              conv => lhs; unfold pdn
              rw [if_pos (by omega)]
            · exact fun s h0 hs => rowM_fr (h5 s h0 (by omega)) (fun j _ _ => g3 _ _ _ (fun h => by omega))
            · intro s h0 hs
              by_cases he : s = ((n + 1 : Nat) : Int)
              · subst he
                rw [hn1]
                refine ⟨?_, ?_, ?_, ?_⟩
                · rw [g4 0 (by omega) (by omega)]; exact r.1
                · rw [g4 1 (by omega) (by omega)]; exact r.2.1
                · rw [g4 2 (by omega) (by omega)]; exact r.2.2.1
                · rw [g4 3 (by omega) (by omega)]; exact r.2.2.2
              · exact rowM_fr (h6 s (by omega) hs) (fun j _ _ => g3 _ _ _ (fun h => by omega))
          | succ q ihq =>
            intro j ξ g1 g2 g3 g4
            refine s_X11_comes_28 (d + 2) _ _ _ _ _ _ _ _ ?_
            rw [hn1]
            refine ⟨⟨⟨by omega, by omega⟩, ⟨by omega, by omega⟩⟩, fun h => absurd h (by omega), fun _ => ⟨by omega, by omega, by omega, by omega, ?_⟩⟩
            refine ihq (j + 1) _ (by omega) (by omega) (jfr_jw g3 ⟨rfl, rfl, by omega, by omega⟩) ?_
            intro i h7 h8
            by_cases hi : i = j
            · subst hi
              rw [jw_eq]
              exact g3 _ _ _ (fun h => by omega)
            · rw [jw_i (by omega)]
              exact g4 i h7 (by omega)
        exact inner 4 0 ν (by omega) (by omega) (jfr_refl _ _) (fun i h7 h8 => absurd h8 (by omega))
  refine s_X11_comes_0 (d + 2) _ _ _ _ _ _ ⟨by omega, by omega, ?_⟩
  rw [isM_m hM, ← hnm]
  exact key (nm b) _ μ (by omega) rfl (jfr_refl _ _) (fun s h0 h1 => isM_t hM h0 (by omega)) (fun s h0 h1 => absurd h1 (by omega))
theorem m_goes {d : Nat} {s : Int} {b : BK} {μ : JM} {Q : JQ} (hM : isM μ b) (hm : b 5 1 ≤ 32) (h0 : 0 ≤ s) (h1 : s < b 5 1) (k : ∀ ν, jfr PMb μ ν → isM ν (prem b s) → ν 40 0 12 = 0 → Q 0 ν) : wp true (d + 2) 209 0 [(40, 0), (0, s), (9, 0)] [] μ Q := by
  have key : ∀ (n : Nat) (i : Int) (ν : JM), i + n = 8 + 4 * (b 5 1 - 1) → 8 + 4 * s ≤ i → jfr (fun t x i => t = 41 ∧ x = 0 ∧ 8 ≤ i ∧ i < 8 + 4 * (b 5 1 - 1)) (jw μ 41 0 1 (b 5 1 - 1)) ν → (∀ j, 8 + 4 * s ≤ j → j < i → ν 41 0 j = μ 41 0 (j + 4)) → (∀ j, 8 ≤ j → (j < 8 + 4 * s ∨ i ≤ j) → ν 41 0 j = μ 41 0 j) → wp true (d + 2) 209 15 [(40, 0), (0, s), (0, i)] [] ν Q := by
    intro n
    induction n with
    | zero =>
      intro i ν g1 g2 g3 g4 g5
      have e1 : ν 41 0 1 = b 5 1 - 1 := by rw [g3 _ _ _ (fun h => by omega), jw_eq]
      refine s_X11_goes_15 (d + 1) _ _ _ _ ?_
      rw [e1]
      refine ⟨by omega, by omega, ⟨⟨by omega, by omega⟩, ⟨by omega, by omega⟩⟩, fun _ => ⟨by omega, by omega, k _ ?_ ?_ (by rw [jw_eq])⟩, fun h => absurd h (by omega)⟩
      · refine jfr_jw (jfr_trans (jfr_jw (jfr_refl _ _) (Or.inl ⟨rfl, rfl, by omega, by omega⟩)) (jfr_mono g3 (fun t x i h => Or.inl ⟨h.1, h.2.1, by omega, by omega⟩))) (Or.inr ⟨rfl, rfl, rfl⟩)
      · have hd : ∀ j, 0 ≤ j → j < 8 → j ≠ 1 → jw ν 40 0 12 0 41 0 j = μ 41 0 j := by
          intro j a1 a2 a3
          rw [jw_t (by omega), g3 _ _ _ (fun h => by omega), jw_i a3]
        refine ⟨?_, ?_, ?_, ?_, ?_⟩
        · rw [hd 0 (by omega) (by omega) (by omega)]; exact (isM_n hM).trans (by simp [prem])
        · rw [jw_t (by omega), e1]; rfl
        · rw [hd 2 (by omega) (by omega) (by omega)]; exact (isM_tr hM).trans (by simp [prem])
        · intro j a1 a2
          rw [hd _ (by omega) (by omega) (by omega)]; exact isM_b hM a1 a2
        · intro t a1 a2
          have a2' : t < b 5 1 - 1 := a2
          by_cases hc : t < s
          · have q : rowM (jw ν 40 0 12 0) t b t := rowM_fr (isM_t hM a1 (by omega)) (fun j _ _ => by rw [jw_t (by omega), g5 _ (by omega) (by omega)])
            exact ⟨q.1.trans (prem_lt hc (by omega)).symm, q.2.1.trans (prem_lt hc (by omega)).symm, q.2.2.1.trans (prem_lt hc (by omega)).symm, q.2.2.2.trans (prem_lt hc (by omega)).symm⟩
          · have q0 := isM_t hM (t := t + 1) (by omega) (by omega)
            have q : rowM (jw ν 40 0 12 0) t b (t + 1) := by
              refine ⟨?_, ?_, ?_, ?_⟩ <;> rw [jw_t (by omega), g4 _ (by omega) (by omega)]
              · rw [← q0.1]; congr 1; omega
              · rw [← q0.2.1]; congr 1; omega
              · rw [← q0.2.2.1]; congr 1; omega
              · rw [← q0.2.2.2]; congr 1; omega
            exact ⟨q.1.trans (prem_ge hc (by omega)).symm, q.2.1.trans (prem_ge hc (by omega)).symm, q.2.2.1.trans (prem_ge hc (by omega)).symm, q.2.2.2.trans (prem_ge hc (by omega)).symm⟩
    | succ n ih =>
      intro i ν g1 g2 g3 g4 g5
      have e1 : ν 41 0 1 = b 5 1 - 1 := by rw [g3 _ _ _ (fun h => by omega), jw_eq]
      refine s_X11_goes_15 (d + 1) _ _ _ _ ?_
      rw [e1]
      refine ⟨by omega, by omega, ⟨⟨by omega, by omega⟩, ⟨by omega, by omega⟩⟩, fun h => absurd h (by omega), fun _ => ⟨by omega, by omega, by omega, by omega, ?_⟩⟩
      refine ih (i + 1) _ (by omega) (by omega) (jfr_jw g3 ⟨rfl, rfl, by omega, by omega⟩) ?_ ?_
      · intro j a1 a2
        by_cases hj : j = i
        · subst hj
          rw [jw_eq, g5 _ (by omega) (by omega)]
        · rw [jw_i hj]
          exact g4 j a1 (by omega)
      · intro j a1 a2
        rw [jw_i (by omega)]
        exact g5 j a1 (by omega)
  refine s_X11_goes_0 (d + 1) _ _ _ ⟨by omega, by omega, by omega, by omega, ?_⟩
  rw [isM_m hM]
  exact key (4 * (b 5 1 - 1 - s)).toNat _ _ (by omega) (by omega) (jfr_refl _ _) (fun j a1 a2 => absurd a2 (by omega)) (fun j a1 a2 => by rw [jw_i (by omega)])
