/-! ways: the reference looks everywhere -/
def cnd (b : BK) (f T t : Int) (p : List Int) : Prop := (0 ≤ t ∧ t < b 5 1) ∧ ((p = [] ∧ b 0 t = f ∧ T ≤ b 2 t) ∨ (p ≠ [] ∧ pstep b (hd p) t ∧ wy b f T p))
theorem cnd_len {b : BK} (hv : vb b) {f T t : Int} (hf : 0 ≤ f ∧ f < b 5 0) {p : List Int} (h : cnd b f T t p) : p.length ≤ 11 := by
  rcases h.2 with h | h
  · rw [h.1]
    exact Nat.zero_le _
  · exact wy_len hv hf h.2.2
theorem MW_w {b : BK} {R : WR} {ν ξ : JM} (h : MW b R ν) (e : ∀ t i, (t = 41 ∨ (t = 40 ∧ 31 ≤ i ∧ i ≤ 34) ∨ t = 72) → ξ t 0 i = ν t 0 i) : MW b R ξ := ⟨isM_fr h.1 (fun i => e _ _ (by omega)), (e _ _ (by omega)).trans h.2.1, (e _ _ (by omega)).trans h.2.2.1, (e _ _ (by omega)).trans h.2.2.2.1, (e _ _ (by omega)).trans h.2.2.2.2.1, pw_fr h.2.2.2.2.2 (fun i _ _ => e _ _ (by omega))⟩
theorem m_seeks103 {d : Nat} {a1 a2 g l4 l5 : Int} {ξ0 : JM} {Q : JQ} (ha : 0 ≤ a1 ∧ a1 ≤ 12) (K : ∀ ξ, (∀ i, 0 ≤ i → i < a1 → ξ 72 0 i = ξ0 65 0 i) → (∀ t y i, ¬ (t = 72 ∧ y = 0) → ξ t y i = ξ0 t y i) → Q 0 (jw ξ 40 0 31 a1)) : ∀ (n : Nat) (i : Int) (ξ : JM), i + (n : Int) = a1 → 0 ≤ i → (∀ j, 0 ≤ j → j < i → ξ 72 0 j = ξ0 65 0 j) → (∀ t y i, ¬ (t = 72 ∧ y = 0) → ξ t y i = ξ0 t y i) → wp true d 297 103 [(40, 0), (0, a1), (0, a2), (0, g), (0, l4), (0, l5), (0, i)] [] ξ Q
  | 0, i, ξ, hn, hi, h1, h2 => s_X11_seeks_103 _ _ _ _ _ _ _ _ _ ⟨⟨⟨by omega, by omega⟩, ⟨by omega, by omega⟩⟩, fun _ => K ξ (fun j j0 j1 => h1 j j0 (by omega)) h2, fun h => absurd (by omega) h⟩
  | n + 1, i, ξ, hn, hi, h1, h2 => by
    refine s_X11_seeks_103 _ _ _ _ _ _ _ _ _ ⟨⟨⟨by omega, by omega⟩, ⟨by omega, by omega⟩⟩, fun h => absurd h (by omega), fun _ => ⟨by omega, by omega, by omega, by omega, m_seeks103 ha K n (i + 1) _ (by omega) (by omega) (fun j j0 j1 => ?_) (fun t y i h => ?_)⟩⟩
    · by_cases e : j = i
      · subst e
        rw [jw_eq]
        exact h2 _ _ _ (by omega)
      · rw [jw_i e]
        exact h1 j j0 (by omega)
    · unfold jw
      rw [if_neg (by omega)]
      exact h2 _ _ _ h
theorem m_seeks {b : BK} {f T g : Int} (hv : vb b) (hf : 0 ≤ f ∧ f < b 5 0) (hg : inR g) : ∀ (k d : Nat) (p : List Int) (t : Int) (R : WR) (ν : JM) (Q : JQ), p.length + k = 12 → cnd b f T t p → wsd b f T g R → MW b R ν → pw (ν 65 0) (t :: p) → (∀ ξ R', MW b R' ξ → (∀ i, 0 ≤ i → i ≤ (p.length : Int) → ξ 65 0 i = ν 65 0 i) → jfr PWm ν ξ → wsd b f T g R' → wmo b g R R' → (∀ e, wy b f T (e ++ t :: p) → (g = -1 ∨ b 1 (hd (e ++ t :: p)) = g) → cov b g (e ++ t :: p) R') → Q 0 ξ) → wp true (d + k + 5) 297 0 [(40, 0), (0, (p.length : Int) + 1), (0, so b f p), (0, g), (9, 0), (9, 0), (9, 0)] [] ν Q := by
  have hm := vb_m hv
  have hn := vb_n hv
  have hnm : (nm b : Int) = b 5 1 := by have := nm_eq hv; omega
  intro k
  induction k with
  | zero =>
    intro d p t R ν Q hk hc
    have := cnd_len hv hf hc
    omega
  | succ k ih =>
    intro d p t R ν Q hk hc hR hW hp K
    have pl := cnd_len hv hf hc
    have ht := hc.1
    have tm := isM_t hW.1 ht.1 ht.2
    have tt := vb_t hv ht.1 ht.2
    have wi := wsd_in hv hf hR
    refine s_X11_seeks_0 (d + k + 4) _ _ _ _ _ ?_
    rw [Int.add_sub_cancel, hp.1, tm.2.1]
    refine ⟨by omega, by omega, by omega, by omega, w_has ⟨tt.2.1.1, by omega⟩ (fun hb => ?_) (fun hb => ?_)⟩
    · refine ⟨by decide, fun h => absurd h (by decide), fun _ => K ν R hW (fun _ _ _ => rfl) (jfr_refl _ _) hR (wmo_refl _ _ _) (fun e he _ => ?_)⟩
      have q : wy b f T (t :: p) := wy_suf (fun h => by cases h) e he
      have q2 := q.2.1
      rw [hb] at q2
      cases q2
    · have hw : wy b f T (t :: p) := ⟨ht, hb, hc.2⟩
      have ok := cM_ok hv hR hw
      have el : ((t :: p).length : Int) = (p.length : Int) + 1 := by simp
      have wl := wy_len hv hf hw
      rw [tm.2.1]
      generalize e1 : jw ν 40 0 33 (jor (ν 40 0 33) (jshl 1 (b 1 t))) = M1
      have f1 : M1 40 0 33 = jor R.2.2.1 (jshl 1 (b 1 t)) := by rw [← e1, jw_eq, hW.2.2.2.1]
      have g1 : ∀ t y i, ¬ (t = 40 ∧ y = 0 ∧ i = 33) → M1 t y i = ν t y i := fun t y i h => by
        rw [← e1]
        unfold jw
        rw [if_neg h]
      have f1b : M1 40 0 34 = R.2.2.2 := (g1 _ _ _ (by omega)).trans hW.2.2.2.2.1
      rw [f1b]
      generalize e2 : jw M1 40 0 34 (jmax R.2.2.2 ((p.length : Int) + 1)) = M2
      have f2 : M2 40 0 34 = jmax R.2.2.2 ((p.length : Int) + 1) := by rw [← e2, jw_eq]
      have g2 : ∀ t y i, ¬ (t = 40 ∧ y = 0 ∧ (i = 33 ∨ i = 34)) → M2 t y i = ν t y i := fun t y i h => by
        rw [← e2]
        unfold jw
        rw [if_neg (by omega)]
        exact g1 _ _ _ (by omega)
      have f2b : M2 40 0 33 = jor R.2.2.1 (jshl 1 (b 1 t)) := by rw [← e2, jw_i (by omega), f1]
      have m2 := isM_t (isM_fr hW.1 (fun i => g2 _ _ _ (by omega))) ht.1 ht.2
      have f2c : M2 40 0 32 = R.2.1 := (g2 _ _ _ (by omega)).trans hW.2.2.1
      rw [m2.2.1, m2.2.2.2, f2c]
      refine ⟨by decide, fun _ => ⟨by omega, by omega, by omega, by omega, ⟨by omega, by omega⟩, ⟨by omega, by omega⟩, by omega, by omega, Or.inr ⟨⟨by omega, by omega⟩, hg⟩, fun hne => ?_, fun hnn => ?_⟩, fun h => absurd rfl h⟩
      · have eR : ar b g (cM b (t :: p) R) (t :: p) R = (R.1, R.2.1, jor R.2.2.1 (jshl 1 (b 1 t)), jmax R.2.2.2 ((p.length : Int) + 1)) := by
          have hne' : ¬ b 1 (hd (t :: p)) = g := hne
          unfold ar
          rw [if_neg (fun h => hne' h.1), if_neg hne', el]
          rfl
        rw [eR] at ok
        generalize hR1 : ((R.1, R.2.1, jor R.2.2.1 (jshl 1 (b 1 t)), jmax R.2.2.2 ((p.length : Int) + 1)) : WR) = R1 at ok
        have W1 : MW b R1 M2 := by
          rw [← hR1]
          exact ⟨isM_fr hW.1 (fun i => g2 _ _ _ (by omega)), (g2 _ _ _ (by omega)).trans hW.2.1, f2c, f2b, f2, pw_fr hW.2.2.2.2.2 (fun i _ _ => g2 _ _ _ (by omega))⟩
        have loop : ∀ (n : Nat) (y : Int) (R' : WR) (ν' : JM), y + (n : Int) = b 5 1 → 0 ≤ y → MW b R' ν' → (∀ i, 0 ≤ i → i ≤ (p.length : Int) → ν' 65 0 i = ν 65 0 i) → jfr PWm ν ν' → wsd b f T g R' → wmo b g R1 R' → (∀ (r : Int) (e : List Int), r < y → wy b f T (e ++ r :: t :: p) → (g = -1 ∨ b 1 (hd (e ++ r :: t :: p)) = g) → cov b g (e ++ r :: t :: p) R') → wp true (d + k + 6) 297 141 [(40, 0), (0, (p.length : Int) + 1), (0, so b f p), (0, g), (0, t), (0, jor (so b f p) (jshl 1 (b 1 t))), (0, y)] [] ν' Q := by
          intro n
          induction n with
          | zero =>
            intro y R' ν' hyn hy0 a1 a2 a3 a4 a5 a6
            refine s_X11_seeks_141 (d + k + 5) _ _ _ _ _ _ _ _ ?_
            rw [isM_m a1.1]
            refine ⟨by omega, by omega, ⟨⟨by omega, by omega⟩, ⟨by omega, by omega⟩⟩, fun _ => K ν' R' a1 a2 a3 a4 (wmo_trans ok.2.2 a5) (fun e he hge => ?_), fun h => absurd (by omega) h⟩
            by_cases hne : e = []
            · subst hne
              exact a5 _ ok.2.1
            · obtain ⟨e', x, rfl⟩ : ∃ e' x, e = e' ++ [x] := ⟨e.dropLast, e.getLast hne, (List.dropLast_concat_getLast hne).symm⟩
              rw [List.append_assoc] at he hge ⊢
              exact a6 x e' (by have := (wy_one (fun h => by cases h) he).1; omega) he hge
          | succ n ihn =>
            intro y R' ν' hyn hy0 a1 a2 a3 a4 a5 a6
            refine s_X11_seeks_141 (d + k + 5) _ _ _ _ _ _ _ _ ?_
            rw [isM_m a1.1]
            refine ⟨by omega, by omega, ⟨⟨by omega, by omega⟩, ⟨by omega, by omega⟩⟩, fun h => absurd h (by omega), fun _ => w_isStep (d := d + k + 2) a1.1 hv ht ⟨hy0, by omega⟩ (fun hst => ⟨by decide, fun _ => ⟨by omega, by omega, ?_⟩, fun h => absurd (by decide) h⟩) (fun hst => ⟨by decide, fun h => absurd rfl h, fun _ => ?_⟩)⟩
            · have W2 : MW b R' (jw ν' 65 0 ((p.length : Int) + 1) y) := MW_w a1 (fun t i h => jw_t (by omega))
              have hp2 : pw (jw ν' 65 0 ((p.length : Int) + 1) y 65 0) (y :: t :: p) := by
                refine ⟨?_, pw_fr hp (fun i i0 i1 => ?_)⟩
                · rw [el, jw_eq]
                · rw [el] at i1
                  rw [jw_i (by omega)]
                  exact a2 i i0 (by omega)
              have cg := ih d (t :: p) y R' _ (fun _ μ2 => wp true (d + k + 6) 297 141 [(40, 0), (0, (p.length : Int) + 1), (0, so b f p), (0, g), (0, t), (0, jor (so b f p) (jshl 1 (b 1 t))), (0, y + 1)] [] μ2 Q) (by rw [List.length_cons]; omega) ⟨⟨hy0, by omega⟩, Or.inr ⟨(fun h => by cases h), hst, hw⟩⟩ a4 W2 hp2 (fun ζ R2 b1 b2 b3 b4 b5 b6 => ?_)
              · rw [el] at cg
                exact cg
              · rw [el] at b2
                refine ihn (y + 1) R2 ζ (by omega) (by omega) b1 (fun i i0 i1 => ?_) (jfr_trans (jfr_jw a3 (by omega)) b3) b4 (wmo_trans a5 b5) (fun r e hr he hge => ?_)
                · rw [b2 i i0 (by omega), jw_i (by omega)]
                  exact a2 i i0 i1
                · by_cases hry : r < y
                  · exact b5 _ (a6 r e hry he hge)
                  · have : r = y := by omega
                    subst this
                    exact b6 e he hge
            · refine ihn (y + 1) R' ν' (by omega) (by omega) a1 a2 a3 a4 a5 (fun r e hr he hge => ?_)
              by_cases hry : r < y
              · exact a6 r e hry he hge
              · have o := wy_one (fun h => by cases h) he
                rw [show r = y by omega] at o
                exact absurd o.2.2 hst
        refine loop (nm b - (t + 1).toNat) (t + 1) R1 M2 (by omega) (by omega) W1 (fun i _ _ => g2 _ _ _ (by omega)) (fun t y i h => g2 _ _ _ (by omega)) ok.1 (wmo_refl _ _ _) (fun r e hr he _ => ?_)
        have o := wy_one (fun h => by cases h) he
        have so := vb_so hv o.1.1 (show r ≤ t by omega) ht.2
        have o2 := o.2.2.2.1
        have o3 : b 2 t < b 2 r := o2
        omega
      · have he : b 1 t = g := Decidable.byContradiction hnn
        generalize e3 : jw M2 40 0 32 (jmax R.2.1 (b 3 t)) = M3
        have f3 : M3 40 0 32 = jmax R.2.1 (b 3 t) := by rw [← e3, jw_eq]
        have g3 : ∀ t y i, ¬ (t = 40 ∧ y = 0 ∧ (i = 32 ∨ i = 33 ∨ i = 34)) → M3 t y i = ν t y i := fun t y i h => by
          rw [← e3]
          unfold jw
          rw [if_neg (by omega)]
          exact g2 _ _ _ (by omega)
        have f3b : M3 40 0 33 = jor R.2.2.1 (jshl 1 (b 1 t)) := by rw [← e3, jw_i (by omega), f2b]
        have f3c : M3 40 0 34 = jmax R.2.2.2 ((p.length : Int) + 1) := by rw [← e3, jw_i (by omega), f2]
        have hM3 : isM M3 b := isM_fr hW.1 (fun i => g3 _ _ _ (by omega))
        have hp3 : pw (M3 65 0) (t :: p) := pw_fr hp (fun i _ _ => g3 _ _ _ (by omega))
        have done : ∀ (R' : WR), cov b g (t :: p) R' → ∀ e, wy b f T (e ++ t :: p) → (g = -1 ∨ b 1 (hd (e ++ t :: p)) = g) → cov b g (e ++ t :: p) R' := fun R' hcv e hew hge => by
          cases e with
          | nil => exact hcv
          | cons x e =>
            have hx : wy b f T (x :: (e ++ t :: p)) := hew
            have hbb := so_mono (b := b) (f := f) (w := t :: p) e (b 1 t).toNat (by
              show bt (jor (so b f p) (jshl 1 (b 1 t))) _ = true
              rw [bt_or, bt_bitz tt.2.1.1 (by omega), decide_eq_true rfl, Bool.or_true])
            have hg2 : b 1 x = g := by
              rcases hge with h | h
              · omega
              · exact h
            have hx2 := hx.2.1
            rw [hg2, ← he, hbb] at hx2
            cases hx2
        have bet := m_isBetter (d := d + k + 3) (Q := fun r2 μ2 => (r2 = 0 ∨ inR r2 ∧ inR 0) ∧ (r2 = 0 → Q 0 μ2) ∧ (¬ (r2 = 0) → wp true (d + k + 6) 297 103 [(40, 0), (0, (p.length : Int) + 1), (0, so b f p), (0, g), (0, t), (0, jor (so b f p) (jshl 1 (b 1 t))), (0, 0)] [] μ2 Q)) hv hf hR hM3 hw hp3 ((g3 _ _ _ (by omega)).trans hW.2.1) (pw_fr hW.2.2.2.2.2 (fun i _ _ => g3 _ _ _ (by omega))) (fun hcm => ⟨by decide, fun h => absurd h (by decide), fun _ => ?_⟩) (fun hcm => ⟨by decide, fun _ => ?_, fun h => absurd rfl h⟩)
        · rw [el] at bet
          exact ⟨by omega, by omega, ⟨by omega, by omega⟩, ⟨by omega, by omega⟩, bet⟩
        · rw [hcm, show ar b g true (t :: p) R = ((t :: p), jmax R.2.1 (b 3 t), jor R.2.2.1 (jshl 1 (b 1 t)), jmax R.2.2.2 ((p.length : Int) + 1)) by unfold ar; rw [if_pos ⟨he, rfl⟩, if_pos (show b 1 (hd (t :: p)) = g from he), el]; rfl] at ok
          refine m_seeks103 (ξ0 := M3) ⟨by omega, by omega⟩ (fun ξ x1 x2 => ?_) (p.length + 1) 0 M3 (by omega) (by omega) (fun j j0 j1 => by omega) (fun _ _ _ _ => rfl)
          have ee : ∀ t y i, ¬ (t = 72 ∧ y = 0) → ¬ (t = 40 ∧ y = 0 ∧ i = 31) → jw ξ 40 0 31 ((p.length : Int) + 1) t y i = M3 t y i := fun t y i h h2 => by
            unfold jw
            rw [if_neg h2]
            exact x2 _ _ _ h
          refine K _ _ ⟨isM_fr hM3 (fun i => ee _ _ _ (by omega) (by omega)), by rw [jw_eq]; exact el.symm, (ee _ _ _ (by omega) (by omega)).trans f3, (ee _ _ _ (by omega) (by omega)).trans f3b, (ee _ _ _ (by omega) (by omega)).trans f3c, pw_fr hp3 (fun i i0 i1 => ?_)⟩ (fun i _ _ => by rw [ee _ _ _ (by omega) (by omega), g3 _ _ _ (by omega)]) (fun t y i h => by rw [ee _ _ _ (by omega) (by omega), g3 _ _ _ (by omega)]) ok.1 ok.2.2 (done _ ok.2.1)
          rw [jw_t (by omega)]
          have i2 : i < ((t :: p).length : Int) := i1
          exact x1 i i0 (by omega)
        · rw [hcm, show ar b g false (t :: p) R = (R.1, jmax R.2.1 (b 3 t), jor R.2.2.1 (jshl 1 (b 1 t)), jmax R.2.2.2 ((p.length : Int) + 1)) by unfold ar; rw [if_neg (fun h => by cases h.2), if_pos (show b 1 (hd (t :: p)) = g from he), el]; rfl] at ok
          exact K _ (R.1, jmax R.2.1 (b 3 t), jor R.2.2.1 (jshl 1 (b 1 t)), jmax R.2.2.2 ((p.length : Int) + 1)) ⟨hM3, (g3 _ _ _ (by omega)).trans hW.2.1, f3, f3b, f3c, pw_fr hW.2.2.2.2.2 (fun i _ _ => g3 _ _ _ (by omega))⟩ (fun i _ _ => g3 _ _ _ (by omega)) (fun t y i h => g3 _ _ _ (by omega)) ok.1 ok.2.2 (done _ ok.2.1)
theorem m_seeksAll {d : Nat} {b : BK} {f T g : Int} {ν : JM} {Q : JQ} (hv : vb b) (hM : isM ν b) (hf : 0 ≤ f ∧ f < b 5 0) (hg : inR g) (hT : inR T) (K : ∀ ξ R, MW b R ξ → wfi b f T g R → jfr PWm ν ξ → Q 0 ξ) : wp true (d + 18) 298 0 [(40, 0), (0, f), (0, g), (0, T), (9, 0)] [] ν Q := by
  have hm := vb_m hv
  have hn := vb_n hv
  have hnm : (nm b : Int) = b 5 1 := by have := nm_eq hv; omega
  refine s_X11_seeksAll_0 _ _ _ _ _ _ ?_
  have e : ∀ t y i, ¬ (t = 40 ∧ y = 0 ∧ 31 ≤ i ∧ i ≤ 34) → jw (jw (jw (jw ν 40 0 31 0) 40 0 32 0) 40 0 33 0) 40 0 34 0 t y i = ν t y i := fun t y i h => by
    unfold jw
    rw [if_neg (by omega), if_neg (by omega), if_neg (by omega), if_neg (by omega)]
  have e5 : ∀ i, 31 ≤ i → i ≤ 34 → jw (jw (jw (jw ν 40 0 31 0) 40 0 32 0) 40 0 33 0) 40 0 34 0 40 0 i = 0 := fun i h1 h2 => by
    unfold jw
    repeat' split
    all_goals omega
  generalize jw (jw (jw (jw ν 40 0 31 0) 40 0 32 0) 40 0 33 0) 40 0 34 0 = M at e e5
  have loop : ∀ (n : Nat) (i : Int) (R : WR) (ξ : JM), i + (n : Int) = b 5 1 → 0 ≤ i → MW b R ξ → jfr PWm ν ξ → wsd b f T g R → (∀ (r : Int) (e : List Int), r < i → wy b f T (e ++ [r]) → (g = -1 ∨ b 1 (hd (e ++ [r])) = g) → cov b g (e ++ [r]) R) → wp true (d + 18) 298 23 [(40, 0), (0, f), (0, g), (0, T), (0, i)] [] ξ Q := by
    intro n
    induction n with
    | zero =>
      intro i R ξ hin hi a1 a2 a3 a4
      refine s_X11_seeksAll_23 (d + 16) _ _ _ _ _ _ ?_
      rw [isM_m a1.1]
      exact ⟨by omega, by omega, ⟨⟨by omega, by omega⟩, ⟨by omega, by omega⟩⟩, fun _ => K ξ R a1 (wfi_of a3 (fun r e he hge => a4 r e (by have := (wy_root he).1; omega) he hge)) a2, fun h => absurd (by omega) h⟩
    | succ n ih =>
      intro i R ξ hin hi a1 a2 a3 a4
      have t := isM_t a1.1 (t := i) hi (by omega)
      have tt := vb_t hv (t := i) hi (by omega)
      have no : ¬ (b 0 i = f ∧ T ≤ b 2 i) → wp true (d + 18) 298 23 [(40, 0), (0, f), (0, g), (0, T), (0, (i + 1))] [] ξ Q := fun hno => ih (i + 1) R ξ (by omega) (by omega) a1 a2 a3 (fun r e hr he hge => by
        by_cases hri : r < i
        · exact a4 r e hri he hge
        · have := wy_root he
          rw [show r = i by omega] at this
          exact absurd this.2 hno)
      refine s_X11_seeksAll_23 (d + 16) _ _ _ _ _ _ ?_
      rw [isM_m a1.1, t.1, t.2.2.1]
      refine ⟨by omega, by omega, ⟨⟨by omega, by omega⟩, ⟨by omega, by omega⟩⟩, fun h => absurd h (by omega), fun _ => ⟨by omega, by omega, Or.inr ⟨⟨by omega, by omega⟩, ⟨by omega, by omega⟩⟩, fun h => no (fun q => h q.1), fun h => ⟨by omega, by omega, ⟨⟨by omega, by omega⟩, hT⟩, fun hle => ⟨by omega, by omega, ?_⟩, fun h5 => no (fun q => h5 q.2)⟩⟩⟩
      have ef : b 0 i = f := Decidable.byContradiction h
      exact m_seeks hv hf hg 12 d [] i R (jw ξ 65 0 0 i) _ rfl ⟨⟨hi, by omega⟩, Or.inl ⟨rfl, ef, hle⟩⟩ a3 (MW_w a1 (fun t i h => jw_t (by omega))) ⟨jw_eq _ _ _ _ _, trivial⟩ (fun ζ R' b1 b2 b3 b4 b5 b6 => ih (i + 1) R' ζ (by omega) (by omega) b1 (jfr_trans (jfr_jw a2 (by omega)) b3) b4 (fun r e hr he hge => by
        by_cases hri : r < i
        · exact b5 _ (a4 r e hri he hge)
        · have : r = i := by omega
          subst this
          exact b6 e he hge))
  exact loop (nm b) 0 ([], 0, 0, 0) M (by omega) (Int.le_refl _) ⟨isM_fr hM (fun i => e _ _ _ (by omega)), e5 _ (by omega) (by omega), e5 _ (by omega) (by omega), e5 _ (by omega) (by omega), e5 _ (by omega) (by omega), trivial⟩ (fun t y i h => e _ _ _ (by omega)) (wsd0 b f T g) (fun r e hr he _ => by
    have := (wy_root he).1
    omega)
