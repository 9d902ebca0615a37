/-! ways: the reference -/
def MW (b : BK) (R : WR) (ξ : JM) : Prop := isM ξ b ∧ ξ 40 0 31 = (R.1.length : Int) ∧ ξ 40 0 32 = R.2.1 ∧ ξ 40 0 33 = R.2.2.1 ∧ ξ 40 0 34 = R.2.2.2 ∧ pw (ξ 72 0) R.1
abbrev PWm : Nat → Int → Int → Prop := fun t y i => y = 0 ∧ ((t = 40 ∧ 31 ≤ i ∧ i ≤ 34) ∨ t = 65 ∨ t = 72)
theorem lr_at {F G : Int → Int} : ∀ {w u : List Int} {i : Int}, pw F w → pw G u → w.length = u.length → 0 ≤ i → i < (w.length : Int) → (∀ j, 0 ≤ j → j < i → F j = G j) → F i < G i → lr w u
  | [], _, i, _, _, _, h0, h1, _, _ => by simp at h1; omega
  | _ :: _, [], _, _, _, h, _, _, _, _ => by cases h
  | x :: w, y :: u, i, hw, hu, hl, h0, h1, he, hlt => by
    have el : w.length = u.length := by simpa using hl
    rw [List.length_cons] at h1
    by_cases hi : i < (w.length : Int)
    · exact Or.inl (lr_at hw.2 hu.2 el h0 hi he hlt)
    · have ei : i = (w.length : Int) := by omega
      subst ei
      refine Or.inr ⟨pw_uniq hw.2 (pw_fr hu.2 (fun j j0 j1 => he j j0 (by omega))) el, ?_⟩
      rw [← hw.1, ← hu.1, ← el]
      exact hlt
noncomputable def cM (b : BK) (w : List Int) (R : WR) : Bool := @decide (R.1 = [] ∨ b 2 (hd w) < b 2 (hd R.1) ∨ (b 2 (hd w) = b 2 (hd R.1) ∧ (w.length < R.1.length ∨ (w.length = R.1.length ∧ lr w R.1)))) (Classical.propDecidable _)
theorem cM_t {b : BK} {w : List Int} {R : WR} (h : R.1 = [] ∨ b 2 (hd w) < b 2 (hd R.1) ∨ (b 2 (hd w) = b 2 (hd R.1) ∧ (w.length < R.1.length ∨ (w.length = R.1.length ∧ lr w R.1)))) : cM b w R = true := by
  unfold cM
  exact @decide_eq_true _ (Classical.propDecidable _) h
theorem cM_f {b : BK} {w : List Int} {R : WR} (h : ¬ (R.1 = [] ∨ b 2 (hd w) < b 2 (hd R.1) ∨ (b 2 (hd w) = b 2 (hd R.1) ∧ (w.length < R.1.length ∨ (w.length = R.1.length ∧ lr w R.1))))) : cM b w R = false := by
  unfold cM
  exact @decide_eq_false _ (Classical.propDecidable _) h
theorem cM_ok {b : BK} (hv : vb b) {f T g : Int} {R : WR} {w : List Int} (hR : wsd b f T g R) (hw : wy b f T w) : wsd b f T g (ar b g (cM b w R) w R) ∧ cov b g w (ar b g (cM b w R) w R) ∧ wmo b g R (ar b g (cM b w R) w R) := by
  refine ar_ok hv hR hw (fun _ hc => ?_) (fun _ hc => ?_)
  · by_cases h : R.1 = [] ∨ b 2 (hd w) < b 2 (hd R.1) ∨ (b 2 (hd w) = b 2 (hd R.1) ∧ (w.length < R.1.length ∨ (w.length = R.1.length ∧ lr w R.1)))
    · rcases h with h | h | ⟨h1, h | h⟩
      · exact Or.inl h
      · exact Or.inr (Or.inl h)
      · exact Or.inr (Or.inr ⟨h1, Or.inl h⟩)
      · exact Or.inr (Or.inr ⟨h1, Or.inr ⟨h.1, Or.inr h.2⟩⟩)
    · rw [cM_f h] at hc
      cases hc
  · have h : ¬ (R.1 = [] ∨ b 2 (hd w) < b 2 (hd R.1) ∨ (b 2 (hd w) = b 2 (hd R.1) ∧ (w.length < R.1.length ∨ (w.length = R.1.length ∧ lr w R.1)))) := fun h => by
      rw [cM_t h] at hc
      cases hc
    refine ⟨fun e => h (Or.inl e), ?_⟩
    by_cases h1 : b 2 (hd R.1) < b 2 (hd w)
    · exact Or.inl h1
    · have h2 : ¬ b 2 (hd w) < b 2 (hd R.1) := fun e => h (Or.inr (Or.inl e))
      have h3 : b 2 (hd R.1) = b 2 (hd w) := by omega
      have h4 : ¬ w.length < R.1.length := fun e => h (Or.inr (Or.inr ⟨h3.symm, Or.inl e⟩))
      refine Or.inr ⟨h3, ?_⟩
      by_cases h5 : R.1.length < w.length
      · exact Or.inl h5
      · have h6 : R.1.length = w.length := by omega
        refine Or.inr ⟨h6, ?_⟩
        rcases lr_tot h6 with q | q | q
        · exact Or.inr q
        · exact Or.inl q
        · exact absurd (Or.inr (Or.inr ⟨h3.symm, Or.inr ⟨h6.symm, q⟩⟩)) h
theorem m_isBetter {d : Nat} {b : BK} {f T g : Int} {R : WR} {w : List Int} {ν : JM} {Q : JQ} (hv : vb b) (hf : 0 ≤ f ∧ f < b 5 0) (hR : wsd b f T g R) (hM : isM ν b) (hw : wy b f T w) (hp : pw (ν 65 0) w) (h31 : ν 40 0 31 = (R.1.length : Int)) (hb : pw (ν 72 0) R.1) (k1 : cM b w R = true → Q 1 ν) (k0 : cM b w R = false → Q 0 ν) : wp true (d + 2) 296 0 [(40, 0), (0, (w.length : Int)), (9, 0), (9, 0), (9, 0)] [] ν Q := by
  have hm := vb_m hv
  have hh := wy_hd hw
  have wl := wy_len hv hf hw
  have wi := wsd_in hv hf hR
  have t := isM_t hM hh.1 hh.2
  have tt := vb_t hv hh.1 hh.2
  have ehd : ∀ {F : Int → Int} {p : List Int}, pw F p → p ≠ [] → F ((p.length : Int) - 1) = hd p := fun {F p} h hne => by
    cases p with
    | nil => exact absurd rfl hne
    | cons x p =>
      rw [show (((x :: p).length : Int) - 1) = (p.length : Int) by simp]
      exact h.1
  have hne := wy_ne hw
  have lw : 0 < w.length := lpos hne
  have e65 := ehd hp hne
  refine s_X11_isBetter_0 _ _ _ _ ?_
  rw [h31]
  refine ⟨Or.inr ⟨⟨by omega, by omega⟩, ⟨by omega, by omega⟩⟩, fun h => ?_, fun h => ⟨by omega, by omega, k1 (cM_t (Or.inl (List.length_eq_zero_iff.mp (by omega))))⟩⟩
  have une : R.1 ≠ [] := fun e => by
    rw [e] at h
    exact h rfl
  have lu : 0 < R.1.length := lpos une
  have rh := wi.2.2.2 une
  have u := isM_t hM rh.1 rh.2
  have ut := vb_t hv rh.1 rh.2
  have e72 := ehd hb une
  rw [e65, e72, t.2.2.1, u.2.2.1]
  refine ⟨by omega, by omega, by omega, by omega, by omega, by omega, by omega, by omega, Or.inr ⟨⟨by omega, by omega⟩, ⟨by omega, by omega⟩⟩, fun he => ⟨Or.inr ⟨⟨by omega, by omega⟩, ⟨by omega, by omega⟩⟩, fun hl => ?_, fun hl => ⟨⟨⟨by omega, by omega⟩, ⟨by omega, by omega⟩⟩, fun hge => ⟨by omega, by omega, k0 (cM_f (fun q => ?_))⟩, fun hlt => ⟨by omega, by omega, k1 (cM_t (Or.inr (Or.inr ⟨he, Or.inl (by omega)⟩)))⟩⟩⟩, fun hne2 => ⟨⟨⟨by omega, by omega⟩, ⟨by omega, by omega⟩⟩, fun hge => ⟨by omega, by omega, k0 (cM_f (fun q => ?_))⟩, fun hlt => ⟨by omega, by omega, k1 (cM_t (Or.inr (Or.inl (by omega))))⟩⟩⟩
  · have el : w.length = R.1.length := by omega
    have key : ∀ (n i : Nat), i + n = w.length → (∀ j : Int, 0 ≤ j → j < (i : Int) → ν 65 0 j = ν 72 0 j) → ∀ x y : Int, wp true (d + 2) 296 79 [(40, 0), (0, (w.length : Int)), (0, x), (0, y), (0, (i : Int))] [] ν Q := by
      have rng : ∀ (F : Int → Int) (p : List Int), pw F p → (∀ t ∈ p, inR t) → ∀ i : Int, 0 ≤ i → i < (p.length : Int) → inR (F i) := by
        intro F p
        induction p with
        | nil => intro _ _ i i0 i1; simp at i1; omega
        | cons x p ih =>
          intro h1 h2 i i0 i1
          by_cases e : i = (p.length : Int)
          · subst e
            rw [h1.1]
            exact h2 x (List.mem_cons_self ..)
          · exact ih h1.2 (fun t ht => h2 t (List.mem_cons_of_mem _ ht)) i i0 (by rw [List.length_cons] at i1; omega)
      have wm : ∀ v : List Int, wy b f T v → ∀ t ∈ v, inR t := by
        intro v
        induction v with
        | nil => intro h; exact absurd rfl (wy_ne h)
        | cons x v ih =>
          intro h t ht
          rcases List.mem_cons.mp ht with rfl | ht
          · have := h.1
            exact ⟨by omega, by omega⟩
          · rcases h.2.2 with h2 | h2
            · rw [h2.1] at ht
              cases ht
            · exact ih h2.2.2 t ht
      have wu : wy b f T R.1 := by
        rcases hR.1 with e | e
        · exact absurd e une
        · exact e.1
      intro n
      induction n with
      | zero =>
        intro i h1 h2 x y
        refine s_X11_isBetter_79 _ _ _ _ _ _ _ ⟨⟨⟨by omega, by omega⟩, ⟨by omega, by omega⟩⟩, fun _ => ⟨by omega, by omega, k0 (cM_f (fun q => ?_))⟩, fun h => absurd (by omega) h⟩
        have ew : w = R.1 := pw_uniq hp (pw_fr hb (fun j j0 j1 => h2 j j0 (by omega))) el
        rcases q with q | q | q
        · exact une q
        · omega
        · rcases q.2 with q | q
          · omega
          · rw [ew] at q
            exact lr_irr _ q.2
      | succ n ih =>
        intro i h1 h2 x y
        have r1 := rng _ _ hp (wm _ hw) (i : Int) (by omega) (by omega)
        have r2 := rng _ _ hb (wm _ wu) (i : Int) (by omega) (by omega)
        refine s_X11_isBetter_79 _ _ _ _ _ _ _ ⟨⟨⟨by omega, by omega⟩, ⟨by omega, by omega⟩⟩, fun h => absurd h (by omega), fun _ => ⟨by omega, by omega, by omega, by omega, Or.inr ⟨r1, r2⟩, fun e => ?_, fun hne3 => ⟨by omega, by omega, by omega, by omega, ⟨r1, r2⟩, fun hge => ⟨by omega, by omega, k0 (cM_f (fun q => ?_))⟩, fun hlt => ⟨by omega, by omega, k1 (cM_t (Or.inr (Or.inr ⟨he, Or.inr ⟨el, lr_at hp hb el (by omega) (by omega) h2 (by omega)⟩⟩)))⟩⟩⟩⟩
        · exact ih (i + 1) (by omega) (fun j j0 j1 => by
            by_cases ej : j = (i : Int)
            · subst ej; exact e
            · exact h2 j j0 (by omega)) x y
        · have l2 := lr_at (i := (i : Int)) hb hp el.symm (by omega) (by omega) (fun j j0 j1 => (h2 j j0 j1).symm) (by omega)
          rcases q with q | q | q
          · exact une q
          · omega
          · rcases q.2 with q | q
            · omega
            · exact lr_irr _ (lr_trans q.2 l2)
    exact key w.length 0 (by omega) (fun j j0 j1 => by omega) _ _
  · rcases q with q | q | q
    · exact une q
    · omega
    · rcases q.2 with q | q <;> omega
  · rcases q with q | q | q
    · exact une q
    · omega
    · omega
