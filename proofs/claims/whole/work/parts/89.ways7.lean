/-! ways: the calls -/
def pel : List Int → Int → Int
  | [], _ => 0
  | x :: p, i => if i = (p.length : Int) then x else pel p i
theorem pw_el {F : Int → Int} : ∀ {p : List Int}, pw F p → ∀ i, 0 ≤ i → i < (p.length : Int) → F i = pel p i
  | [], _, i, i0, i1 => by simp at i1; omega
  | x :: p, h, i, i0, i1 => by
    show F i = if i = (p.length : Int) then x else pel p i
    split
    · rename_i e
      rw [e]
      exact h.1
    · exact pw_el h.2 i i0 (by rw [List.length_cons] at i1; omega)
theorem pel_in {b : BK} {f T : Int} : ∀ {p : List Int}, wy b f T p → ∀ i, 0 ≤ i → i < (p.length : Int) → 0 ≤ pel p i ∧ pel p i < b 5 1
  | [], h, _, _, _ => absurd rfl (wy_ne h)
  | x :: p, h, i, i0, i1 => by
    show 0 ≤ (if i = (p.length : Int) then x else pel p i) ∧ (if i = (p.length : Int) then x else pel p i) < b 5 1
    split
    · exact h.1
    · rw [List.length_cons] at i1
      rcases h.2.2 with h2 | h2
      · have e0 : p.length = 0 := by rw [h2.1]; rfl
        omega
      · exact pel_in h2.2.2 i i0 (by omega)
noncomputable def wwy (b : BK) (f o T : Int) : Int := if ¬ (0 ≤ T ∧ T ≤ 9999) then 1 else if ¬ (0 ≤ f ∧ f < b 5 0) ∨ ¬ (0 ≤ o ∧ o < b 5 0) then 2 else if f = o then 6 else if (wrs b f T o).1 = [] then 5 else 0
theorem wwy_0 {b : BK} {f o T : Int} (h : wwy b f o T = 0) : (0 ≤ f ∧ f < b 5 0) ∧ (0 ≤ o ∧ o < b 5 0) ∧ (wrs b f T o).1 ≠ [] := by
  unfold wwy at h
  repeat' split at h
  all_goals first | omega | skip
  rename_i h1 h2 h3 h4
  exact ⟨by omega, by omega, h4⟩
/-- what the best way says -/
def WB (b : BK) (f o T : Int) (lt cn mo : Int) (F : Int → Int) : Prop := lt = b 2 (hd (wrs b f T o).1) ∧ cn = ((wrs b f T o).1.length : Int) ∧ mo = (wrs b f T o).2.1 ∧ pw F (wrs b f T o).1
/-- and that it can be -/
def WO (b : BK) (f o T : Int) : Prop := wy b f T (wrs b f T o).1 ∧ (1 ≤ (wrs b f T o).1.length ∧ (wrs b f T o).1.length ≤ 11) ∧ (0 ≤ hd (wrs b f T o).1 ∧ hd (wrs b f T o).1 < b 5 1) ∧ (0 ≤ (wrs b f T o).2.1 ∧ (wrs b f T o).2.1 ≤ 9999)
theorem WO_of {b : BK} (hv : vb b) {f o T : Int} (hf : 0 ≤ f ∧ f < b 5 0) {R : WR} (h : wfi b f T o R) (hne : (wrs b f T o).1 ≠ []) : WO b f o T := by
  have e := wrs_eq hv h
  have wi := wsd_in hv hf h.1
  rw [e.1, e.2.1] at wi
  have w : wy b f T (wrs b f T o).1 := by
    rcases h.1.1 with q | q
    · rw [e.1] at q
      exact absurd q hne
    · rw [e.1] at q
      exact q.1
  have := lpos hne
  exact ⟨w, ⟨by omega, wi.1⟩, wi.2.2.2 hne, wi.2.1⟩
theorem c_wwy {d : Nat} {b : BK} {ν : JM} {Q : JQ} {f o T : Int} (hv : vb b) (hC : isC ν 0 b) (hf : inR f) (ho : inR o) (hT : inR T) (k : ∀ ξ, jfr PWk ν ξ → (wwy b f o T = 0 → WB b f o T (ξ 25 0 6) (ξ 25 0 7) (ξ 25 0 8) (ξ 44 0) ∧ WO b f o T) → Q (wwy b f o T) ξ) : wp true (d + 15) 181 0 [(11, 0), (0, f), (0, o), (0, T)] [] ν Q := by
  have k0 := k ν (jfr_refl _ _)
  have nb := vb_n hv
  unfold wwy at k k0
  refine s_X10_walk_0 (d + 14) _ _ _ _ _ (w_notTime (d := d + 13) hT (fun t0 t1 => ⟨by decide, fun _ => ?_, fun h => absurd rfl h⟩) (fun t2 => ⟨by decide, fun h => absurd h (by decide), fun _ => ?_⟩))
  · rw [if_neg (by omega)] at k k0
    refine w_hasAccount hC hv hf (fun f0 f1 => ⟨by decide, fun h => absurd h (by decide), fun _ => ?_⟩) (fun f2 => ⟨by decide, fun _ => ?_, fun h => absurd rfl h⟩)
    · refine w_hasAccount hC hv ho (fun o0 o1 => ⟨by decide, fun _ => ?_, fun h => absurd (by decide) h⟩) (fun o2 => ⟨by decide, fun h => absurd rfl h, fun _ => ?_⟩)
      · rw [if_neg (by omega)] at k k0
        refine ⟨Or.inr ⟨hf, ho⟩, fun hne => ?_, fun he => ?_⟩
        · rw [if_neg hne] at k k0
          refine c_walk (d := d) hv hC ⟨f0, f1⟩ ho hT (fun ξ O R hW hR hfr => ?_)
          have e := wrs_eq hv hR
          have wi := wsd_in hv ⟨f0, f1⟩ hR.1
          rw [hW.2.2.2.2.1]
          refine ⟨Or.inr ⟨⟨by omega, by omega⟩, ⟨by omega, by omega⟩⟩, fun h => ?_, fun h => ?_⟩
          · have une : R.1 ≠ [] := fun q => by rw [q] at h; exact h rfl
            rw [e.1] at une
            rw [if_neg une] at k
            refine k ξ hfr (fun _ => ⟨⟨?_, ?_, ?_, ?_⟩, WO_of hv ⟨f0, f1⟩ hR une⟩)
            · rw [hW.2.2.2.1, e.1, if_neg une]
            · rw [hW.2.2.2.2.1, e.1]
            · rw [hW.2.2.2.2.2.1, e.2.1]
            · rw [← e.1]
              exact hW.2.2.2.2.2.2.2.2.1
          · have une : R.1 = [] := List.length_eq_zero_iff.mp (by omega)
            rw [e.1] at une
            rw [if_pos une] at k
            exact k ξ hfr (fun h => by omega)
        · rw [if_pos (Decidable.byContradiction he)] at k0
          exact k0 (fun h => by omega)
      · rw [if_pos (Or.inr o2)] at k0
        exact k0 (fun h => by omega)
    · rw [if_pos (Or.inl f2)] at k0
      exact k0 (fun h => by omega)
  · rw [if_pos t2] at k0
    exact k0 (fun h => by omega)
theorem wwy_in (b : BK) (f o T : Int) : 0 ≤ wwy b f o T ∧ wwy b f o T ≤ 6 := by
  unfold wwy
  repeat' split
  all_goals omega
noncomputable def oSoonest (b : BK) (f o T x : Int) : Int × Int := if ¬ (0 ≤ x ∧ x ≤ 1) then (-1, 1) else if wwy b f o T ≠ 0 then (-1, wwy b f o T) else (if x = 0 then b 2 (hd (wrs b f T o).1) else ((wrs b f T o).1.length : Int), 0)
noncomputable def oStep (b : BK) (f o T i : Int) : Int × Int := if i < 0 then (-1, 1) else if wwy b f o T ≠ 0 then (-1, wwy b f o T) else okn (if i < ((wrs b f T o).1.length : Int) then pel (wrs b f T o).1 i else -1)
noncomputable def oMost (b : BK) (f o T : Int) : Int × Int := if wwy b f o T ≠ 0 then (-1, wwy b f o T) else ((wrs b f T o).2.1, 0)
noncomputable def oReach (b : BK) (f T : Int) : Int × Int := if ¬ (0 ≤ T ∧ T ≤ 9999) then (-1, 1) else if ¬ (0 ≤ f ∧ f < b 5 0) then (-1, 2) else ((wrs b f T (-1)).2.2.1, 0)
noncomputable def oChain (b : BK) (f T : Int) : Int × Int := if ¬ (0 ≤ T ∧ T ≤ 9999) then (-1, 1) else if ¬ (0 ≤ f ∧ f < b 5 0) then (-1, 2) else ((wrs b f T (-1)).2.2.2, 0)
theorem CI_wk {b : BK} {A K : List BK} {c : Int} {ν ξ : JM} (h : CI b A K c ν) (hf : jfr PWk ν ξ) : CI b A K c ξ ∧ jfr PQc ν ξ := ⟨CI_fr h (Int.le_refl _) (fun t y i hp => hf _ _ _ (by omega)), jfr_mono hf (fun t y i h => by omega)⟩
theorem c_soonest {d : Nat} {b : BK} {A K : List BK} {c : Int} {ν : JM} {Q : JQ} (hV : VS b A K) (h : CI b A K c ν) {f o T x : Int} (hf : inR f) (ho : inR o) (hT : inR T) (hx : inR x) (k : KC b A K c ν Q (oSoonest b f o T x)) : wp true (d + 16) 158 0 [(11, 0), (0, f), (0, o), (0, T), (0, x), (9, 0)] [] ν Q := by
  unfold oSoonest at k
  refine s_X10_soonest_0 (d + 15) _ _ _ _ _ _ (w_outside hx ⟨by omega, by omega⟩ ⟨by omega, by omega⟩ (fun x0 x1 => ⟨by decide, fun _ => ?_, fun h => absurd rfl h⟩) (fun x2 => ⟨by decide, fun h => absurd h (by decide), fun _ => ?_⟩))
  · rw [if_neg (by omega)] at k
    refine c_wwy (d := d) hV.1 h.1 hf ho hT (fun ξ hfr hb => ?_)
    have q := CI_wk h hfr
    have wn := wwy_in b f o T
    by_cases h0 : wwy b f o T = 0
    · rw [if_neg (fun h => h h0)] at k
      have w := (hb h0).1
      rw [h0]
      refine s_X10_soonest_21 (d + 15) _ _ _ _ _ _ _ ⟨Or.inl rfl, fun _ => ⟨Or.inr ⟨hx, ⟨by omega, by omega⟩⟩, fun hne => ?_, fun he => ?_⟩, fun h => absurd rfl h⟩
      · rw [if_neg hne] at k
        rw [w.2.1]
        exact KC_fin k q.1 q.2
      · rw [if_pos (Decidable.byContradiction he)] at k
        rw [w.1]
        exact KC_fin k q.1 q.2
    · rw [if_pos h0] at k
      exact s_X10_soonest_21 (d + 15) _ _ _ _ _ _ _ ⟨Or.inr ⟨⟨by omega, by omega⟩, ⟨by omega, by omega⟩⟩, fun h => absurd h h0, fun _ => KC_fin k q.1 q.2⟩
  · rw [if_pos x2] at k
    exact s_X10_soonest_21 (d + 15) _ _ _ _ _ _ _ ⟨Or.inr ⟨⟨by omega, by omega⟩, ⟨by omega, by omega⟩⟩, fun h => absurd h (by omega), fun _ => KC_fin k h (jfr_refl _ _)⟩
theorem c_step {d : Nat} {b : BK} {A K : List BK} {c : Int} {ν : JM} {Q : JQ} (hV : VS b A K) (h : CI b A K c ν) {f o T i : Int} (hf : inR f) (ho : inR o) (hT : inR T) (hi : inR i) (k : KC b A K c ν Q (oStep b f o T i)) : wp true (d + 16) 159 0 [(11, 0), (0, f), (0, o), (0, T), (0, i), (9, 0)] [] ν Q := by
  unfold oStep at k
  refine s_X10_step_0 (d + 15) _ _ _ _ _ _ ⟨⟨hi, ⟨by omega, by omega⟩⟩, fun i0 => ?_, fun i1 => ?_⟩
  · rw [if_neg (by omega)] at k
    refine c_wwy (d := d) hV.1 h.1 hf ho hT (fun ξ hfr hb => ?_)
    have q := CI_wk h hfr
    have wn := wwy_in b f o T
    by_cases h0 : wwy b f o T = 0
    · rw [if_neg (fun h => h h0)] at k
      have w := (hb h0).1
      have wo := (hb h0).2
      have hm := vb_m hV.1
      have wl := wo.2.1
      rw [h0]
      refine s_X10_step_16 (d + 15) _ _ _ _ _ _ _ ⟨Or.inl rfl, fun _ => s_X9_transferAt_0 _ _ _ _ ?_, fun h => absurd rfl h⟩
      rw [w.2.1]
      refine ⟨⟨hi, ⟨by omega, by omega⟩⟩, fun h => absurd h (by omega), fun _ => ⟨⟨hi, ⟨by omega, by omega⟩⟩, fun hge => ?_, fun hlt => ⟨⟨hi, ⟨by omega, by omega⟩⟩, fun h => absurd h (by omega), fun _ => ⟨by omega, by omega, ?_⟩⟩⟩⟩
      · rw [if_neg (by omega)] at k
        exact w_knownK (d := d + 14) ⟨by omega, by omega⟩ q.1 q.2 k
      · have pi := pel_in wo.1 i i0 (by omega)
        rw [if_pos (by omega)] at k
        rw [pw_el w.2.2.2 i i0 (by omega)]
        exact w_knownK (d := d + 14) ⟨by omega, by omega⟩ q.1 q.2 k
    · rw [if_pos h0] at k
      exact s_X10_step_16 (d + 15) _ _ _ _ _ _ _ ⟨Or.inr ⟨⟨by omega, by omega⟩, ⟨by omega, by omega⟩⟩, fun h => absurd h h0, fun _ => KC_fin k q.1 q.2⟩
  · rw [if_pos (by omega)] at k
    exact s_X10_step_16 (d + 15) _ _ _ _ _ _ _ ⟨Or.inr ⟨⟨by omega, by omega⟩, ⟨by omega, by omega⟩⟩, fun h => absurd h (by omega), fun _ => KC_fin k h (jfr_refl _ _)⟩
theorem c_most {d : Nat} {b : BK} {A K : List BK} {c : Int} {ν : JM} {Q : JQ} (hV : VS b A K) (h : CI b A K c ν) {f o T : Int} (hf : inR f) (ho : inR o) (hT : inR T) (k : KC b A K c ν Q (oMost b f o T)) : wp true (d + 16) 160 0 [(11, 0), (0, f), (0, o), (0, T), (9, 0)] [] ν Q := by
  unfold oMost at k
  refine s_X10_most_0 (d + 15) _ _ _ _ _ (c_wwy (d := d) hV.1 h.1 hf ho hT (fun ξ hfr hb => ?_))
  have q := CI_wk h hfr
  have wn := wwy_in b f o T
  by_cases h0 : wwy b f o T = 0
  · rw [if_neg (fun h => h h0)] at k
    have w := (hb h0).1
    rw [h0]
    refine ⟨Or.inl rfl, fun h => absurd rfl h, fun _ => ?_⟩
    rw [w.2.2.1]
    exact KC_fin k q.1 q.2
  · rw [if_pos h0] at k
    exact ⟨Or.inr ⟨⟨by omega, by omega⟩, ⟨by omega, by omega⟩⟩, fun _ => KC_fin k q.1 q.2, fun h => absurd h0 h⟩
theorem c_any {d : Nat} {b : BK} {ν : JM} {Q : JQ} {f T : Int} (hv : vb b) (hC : isC ν 0 b) (hf : inR f) (hT : inR T) (k1 : ¬ (0 ≤ T ∧ T ≤ 9999) → Q 1 ν) (k2 : (0 ≤ T ∧ T ≤ 9999) → ¬ (0 ≤ f ∧ f < b 5 0) → Q 2 ν) (k0 : (0 ≤ T ∧ T ≤ 9999) → (0 ≤ f ∧ f < b 5 0) → ∀ ξ, jfr PWk ν ξ → ξ 25 0 9 = (wrs b f T (-1)).2.2.1 → ξ 25 0 10 = (wrs b f T (-1)).2.2.2 → Q 0 ξ) : wp true (d + 15) 182 0 [(11, 0), (0, f), (0, T)] [] ν Q := by
  refine s_X10_walkAnywhere_0 (d + 14) _ _ _ _ (w_notTime (d := d + 13) hT (fun t0 t1 => ⟨by decide, fun _ => ?_, fun h => absurd rfl h⟩) (fun t2 => ⟨by decide, fun h => absurd h (by decide), fun _ => ?_⟩))
  · refine w_hasAccount hC hv hf (fun f0 f1 => ⟨by decide, fun _ => ?_, fun h => absurd (by decide) h⟩) (fun f2 => ⟨by decide, fun h => absurd rfl h, fun _ => ?_⟩)
    · refine c_walk (d := d) hv hC ⟨f0, f1⟩ ⟨by omega, by omega⟩ hT (fun ξ O R hW hR hfr => ?_)
      have e := (wrs_eq hv hR).2.2 rfl
      exact k0 ⟨t0, t1⟩ ⟨f0, f1⟩ ξ hfr (hW.2.2.2.2.2.2.1.trans e.1) (hW.2.2.2.2.2.2.2.1.trans e.2)
    · exact k2 ⟨t0, t1⟩ f2
  · exact k1 t2
theorem c_reach {d : Nat} {b : BK} {A K : List BK} {c : Int} {ν : JM} {Q : JQ} (hV : VS b A K) (h : CI b A K c ν) {f T : Int} (hf : inR f) (hT : inR T) (k : KC b A K c ν Q (oReach b f T)) : wp true (d + 16) 161 0 [(11, 0), (0, f), (0, T), (9, 0)] [] ν Q := by
  unfold oReach at k
  refine s_X10_reach_0 (d + 15) _ _ _ _ (c_any (d := d) hV.1 h.1 hf hT (fun t2 => ⟨by decide, fun _ => ?_, fun h => absurd (by decide) h⟩) (fun t2 f2 => ⟨by decide, fun _ => ?_, fun h => absurd (by decide) h⟩) (fun t2 f2 ξ hfr e9 e10 => ⟨by decide, fun h => absurd rfl h, fun _ => ?_⟩))
  · rw [if_pos t2] at k
    exact KC_fin k h (jfr_refl _ _)
  · rw [if_neg (fun h => h t2), if_pos f2] at k
    exact KC_fin k h (jfr_refl _ _)
  · rw [if_neg (fun h => h t2), if_neg (fun h => h f2)] at k
    have q := CI_wk h hfr
    rw [e9]
    exact KC_fin k q.1 q.2
theorem c_chain {d : Nat} {b : BK} {A K : List BK} {c : Int} {ν : JM} {Q : JQ} (hV : VS b A K) (h : CI b A K c ν) {f T : Int} (hf : inR f) (hT : inR T) (k : KC b A K c ν Q (oChain b f T)) : wp true (d + 16) 162 0 [(11, 0), (0, f), (0, T), (9, 0)] [] ν Q := by
  unfold oChain at k
  refine s_X10_chain_0 (d + 15) _ _ _ _ (c_any (d := d) hV.1 h.1 hf hT (fun t2 => ⟨by decide, fun _ => ?_, fun h => absurd (by decide) h⟩) (fun t2 f2 => ⟨by decide, fun _ => ?_, fun h => absurd (by decide) h⟩) (fun t2 f2 ξ hfr e9 e10 => ⟨by decide, fun h => absurd rfl h, fun _ => ?_⟩))
  · rw [if_pos t2] at k
    exact KC_fin k h (jfr_refl _ _)
  · rw [if_neg (fun h => h t2), if_pos f2] at k
    exact KC_fin k h (jfr_refl _ _)
  · rw [if_neg (fun h => h t2), if_neg (fun h => h f2)] at k
    have q := CI_wk h hfr
    rw [e10]
    exact KC_fin k q.1 q.2
/-- the reference -/
theorem MI_wk {b : BK} {A K : List BK} {ν ξ : JM} (hV : VS b A K) (h : MI b A K ν) (hf : jfr PWm ν ξ) : MI b A K ξ ∧ jfr PQm ν ξ := ⟨MI_fr hV.2.1 hV.2.2 h (fun t i hp => hf _ _ _ (by omega)), jfr_mono hf (fun t y i h => by omega)⟩
theorem m_wwy {d : Nat} {b : BK} {ν : JM} {Q : JQ} {f o T : Int} (hv : vb b) (hM : isM ν b) (hf : inR f) (ho : inR o) (hT : inR T) (k : ∀ ξ, jfr PWm ν ξ → (wwy b f o T = 0 → WB b f o T (b 2 (hd (wrs b f T o).1)) (ξ 40 0 31) (ξ 40 0 32) (ξ 72 0) ∧ WO b f o T) → Q (wwy b f o T) ξ) : wp true (d + 19) 299 0 [(40, 0), (0, f), (0, o), (0, T)] [] ν Q := by
  have k0 := k ν (jfr_refl _ _)
  have nb := vb_n hv
  unfold wwy at k k0
  refine s_X11_wrongWay_0 (d + 18) _ _ _ _ _ (w_isFrom hT ⟨by omega, by omega⟩ ⟨by omega, by omega⟩ (fun t0 t1 => ⟨by decide, fun _ => ?_, fun h => absurd (by decide) h⟩) (fun t2 => ⟨by decide, fun h => absurd rfl h, fun _ => ?_⟩))
  · rw [if_neg (by omega)] at k k0
    refine w_isAccount hM hv hf (fun f0 f1 => ⟨by decide, fun h => absurd h (by decide), fun _ => ?_⟩) (fun f2 => ⟨by decide, fun _ => ?_, fun h => absurd rfl h⟩)
    · refine w_isAccount hM hv ho (fun o0 o1 => ⟨by decide, fun _ => ?_, fun h => absurd (by decide) h⟩) (fun o2 => ⟨by decide, fun h => absurd rfl h, fun _ => ?_⟩)
      · rw [if_neg (by omega)] at k k0
        refine ⟨Or.inr ⟨hf, ho⟩, fun hne => ?_, fun he => ?_⟩
        · rw [if_neg hne] at k k0
          refine m_seeksAll (d := d) hv hM ⟨f0, f1⟩ ho hT (fun ξ R hW hR hfr => ?_)
          have e := wrs_eq hv hR
          have wi := wsd_in hv ⟨f0, f1⟩ hR.1
          rw [hW.2.1]
          refine ⟨Or.inr ⟨⟨by omega, by omega⟩, ⟨by omega, by omega⟩⟩, fun h => ?_, fun h => ?_⟩
          · have une : R.1 ≠ [] := fun q => by rw [q] at h; exact h rfl
            rw [e.1] at une
            rw [if_neg une] at k
            refine k ξ hfr (fun _ => ⟨⟨rfl, ?_, ?_, ?_⟩, WO_of hv ⟨f0, f1⟩ hR une⟩)
            · rw [hW.2.1, e.1]
            · rw [hW.2.2.1, e.2.1]
            · rw [← e.1]
              exact hW.2.2.2.2.2
          · have une : R.1 = [] := List.length_eq_zero_iff.mp (by omega)
            rw [e.1] at une
            rw [if_pos une] at k
            exact k ξ hfr (fun h => by omega)
        · rw [if_pos (Decidable.byContradiction he)] at k0
          exact k0 (fun h => by omega)
      · rw [if_pos (Or.inr o2)] at k0
        exact k0 (fun h => by omega)
    · rw [if_pos (Or.inl f2)] at k0
      exact k0 (fun h => by omega)
  · rw [if_pos t2] at k0
    exact k0 (fun h => by omega)
theorem m_soonest {d : Nat} {b : BK} {A K : List BK} {ν : JM} {Q : JQ} (hV : VS b A K) (h : MI b A K ν) {f o T x : Int} (hf : inR f) (ho : inR o) (hT : inR T) (hx : inR x) (k : KM b A K ν Q (oSoonest b f o T x)) : wp true (d + 20) 300 0 [(40, 0), (0, f), (0, o), (0, T), (0, x), (9, 0)] [] ν Q := by
  unfold oSoonest at k
  refine s_X11_soonest_0 (d + 19) _ _ _ _ _ _ (w_isFrom hx ⟨by omega, by omega⟩ ⟨by omega, by omega⟩ (fun x0 x1 => ⟨by decide, fun h => absurd h (by decide), fun _ => ?_⟩) (fun x2 => ⟨by decide, fun _ => ?_, fun h => absurd rfl h⟩))
  · rw [if_neg (by omega)] at k
    refine m_wwy (d := d) hV.1 h.1 hf ho hT (fun ξ hfr hb => ?_)
    have q := MI_wk hV h hfr
    have wn := wwy_in b f o T
    by_cases h0 : wwy b f o T = 0
    · rw [if_neg (fun h => h h0)] at k
      have w := (hb h0).1
      have wo := (hb h0).2
      have hm := vb_m hV.1
      have t := isM_t q.1.1 wo.2.2.1.1 wo.2.2.1.2
      have ew := pw_el w.2.2.2 (((wrs b f T o).1.length : Int) - 1) (by have := wo.2.1.1; omega) (by omega)
      have eh : pel (wrs b f T o).1 (((wrs b f T o).1.length : Int) - 1) = hd (wrs b f T o).1 := by
        cases hu : (wrs b f T o).1 with
        | nil => exact absurd hu (wy_ne wo.1)
        | cons x p =>
          show (if (((x :: p).length : Int) - 1) = (p.length : Int) then x else _) = x
          rw [if_pos (by simp)]
      rw [h0]
      refine s_X11_soonest_21 (d + 18) _ _ _ _ _ _ _ ?_
      rw [w.2.1, ew, eh, t.2.2.1]
      refine ⟨⟨⟨by omega, by omega⟩, ⟨by omega, by omega⟩⟩, fun _ => ⟨Or.inr ⟨hx, ⟨by omega, by omega⟩⟩, fun hne => ?_, fun he => ⟨by have := wo.2.1; omega, by have := wo.2.1; omega, by have := wo.2.2.1; omega, by have := wo.2.2.1; omega, ?_⟩⟩, fun h => absurd (Int.le_refl _) h⟩
      · rw [if_neg hne] at k
        exact KM_fin hV k q.1 q.2
      · rw [if_pos (Decidable.byContradiction he)] at k
        exact KM_fin hV k q.1 q.2
    · rw [if_pos h0] at k
      exact s_X11_soonest_21 (d + 18) _ _ _ _ _ _ _ ⟨⟨⟨by omega, by omega⟩, ⟨by omega, by omega⟩⟩, fun h => absurd h (by omega), fun _ => KM_fin hV k q.1 q.2⟩
  · rw [if_pos x2] at k
    exact s_X11_soonest_21 (d + 18) _ _ _ _ _ _ _ ⟨⟨⟨by omega, by omega⟩, ⟨by omega, by omega⟩⟩, fun h => absurd h (by omega), fun _ => KM_fin hV k h (jfr_refl _ _)⟩
theorem m_step {d : Nat} {b : BK} {A K : List BK} {ν : JM} {Q : JQ} (hV : VS b A K) (h : MI b A K ν) {f o T i : Int} (hf : inR f) (ho : inR o) (hT : inR T) (hi : inR i) (k : KM b A K ν Q (oStep b f o T i)) : wp true (d + 20) 301 0 [(40, 0), (0, f), (0, o), (0, T), (0, i), (9, 0)] [] ν Q := by
  unfold oStep at k
  refine s_X11_step_0 (d + 19) _ _ _ _ _ _ ⟨⟨hi, ⟨by omega, by omega⟩⟩, fun i0 => ⟨Or.inr ⟨⟨by omega, by omega⟩, ⟨by omega, by omega⟩⟩, fun _ => ?_, fun h => absurd (by decide) h⟩, fun i1 => ?_⟩
  · rw [if_pos i0] at k
    exact s_X11_step_35 (d + 19) _ _ _ _ _ _ _ ⟨⟨⟨by omega, by omega⟩, ⟨by omega, by omega⟩⟩, fun h => absurd h (by omega), fun _ => KM_fin hV k h (jfr_refl _ _)⟩
  · rw [if_neg i1] at k
    refine m_wwy (d := d) hV.1 h.1 hf ho hT (fun ξ hfr hb => ?_)
    have q := MI_wk hV h hfr
    have wn := wwy_in b f o T
    by_cases h0 : wwy b f o T = 0
    · rw [if_neg (fun h => h h0)] at k
      have w := (hb h0).1
      have wo := (hb h0).2
      have hm := vb_m hV.1
      have wl := wo.2.1
      rw [h0]
      refine ⟨Or.inl rfl, fun h => absurd rfl h, fun _ => ?_⟩
      rw [w.2.1]
      refine ⟨⟨hi, ⟨by omega, by omega⟩⟩, fun hlt => ?_, fun hge => ?_⟩
      · have pi := pel_in wo.1 i (by omega) hlt
        rw [if_pos hlt, okn, if_neg (by omega)] at k
        refine s_X11_step_35 (d + 19) _ _ _ _ _ _ _ ⟨⟨⟨by omega, by omega⟩, ⟨by omega, by omega⟩⟩, fun _ => ⟨by omega, by omega, ?_⟩, fun h => absurd (Int.le_refl _) h⟩
        rw [pw_el w.2.2.2 i (by omega) hlt]
        exact KM_fin hV k q.1 q.2
      · rw [if_neg hge, okn, if_pos rfl] at k
        exact s_X11_step_35 (d + 19) _ _ _ _ _ _ _ ⟨⟨⟨by omega, by omega⟩, ⟨by omega, by omega⟩⟩, fun h => absurd h (by omega), fun _ => KM_fin hV k q.1 q.2⟩
    · rw [if_pos h0] at k
      exact ⟨Or.inr ⟨⟨by omega, by omega⟩, ⟨by omega, by omega⟩⟩, fun _ => s_X11_step_35 (d + 19) _ _ _ _ _ _ _ ⟨⟨⟨by omega, by omega⟩, ⟨by omega, by omega⟩⟩, fun h => absurd h (by omega), fun _ => KM_fin hV k q.1 q.2⟩, fun h => absurd h0 h⟩
theorem m_most {d : Nat} {b : BK} {A K : List BK} {ν : JM} {Q : JQ} (hV : VS b A K) (h : MI b A K ν) {f o T : Int} (hf : inR f) (ho : inR o) (hT : inR T) (k : KM b A K ν Q (oMost b f o T)) : wp true (d + 20) 302 0 [(40, 0), (0, f), (0, o), (0, T), (9, 0)] [] ν Q := by
  unfold oMost at k
  refine s_X11_most_0 (d + 19) _ _ _ _ _ (m_wwy (d := d) hV.1 h.1 hf ho hT (fun ξ hfr hb => ?_))
  have q := MI_wk hV h hfr
  have wn := wwy_in b f o T
  by_cases h0 : wwy b f o T = 0
  · rw [if_neg (fun h => h h0)] at k
    have w := (hb h0).1
    rw [h0]
    refine ⟨⟨⟨by omega, by omega⟩, ⟨by omega, by omega⟩⟩, fun _ => ?_, fun h => absurd (Int.le_refl _) h⟩
    rw [w.2.2.1]
    exact KM_fin hV k q.1 q.2
  · rw [if_pos h0] at k
    exact ⟨⟨⟨by omega, by omega⟩, ⟨by omega, by omega⟩⟩, fun h => absurd h (by omega), fun _ => KM_fin hV k q.1 q.2⟩
theorem m_reach {d : Nat} {b : BK} {A K : List BK} {ν : JM} {Q : JQ} (hV : VS b A K) (h : MI b A K ν) {f T : Int} (hf : inR f) (hT : inR T) (k : KM b A K ν Q (oReach b f T)) : wp true (d + 19) 303 0 [(40, 0), (0, f), (0, T)] [] ν Q := by
  unfold oReach at k
  refine s_X11_reach_0 (d + 18) _ _ _ _ (w_isFrom hT ⟨by omega, by omega⟩ ⟨by omega, by omega⟩ (fun t0 t1 => ⟨by decide, fun _ => ?_, fun h => absurd (by decide) h⟩) (fun t2 => ⟨by decide, fun h => absurd rfl h, fun _ => ?_⟩))
  · rw [if_neg (by omega)] at k
    refine w_isAccount h.1 hV.1 hf (fun f0 f1 => ⟨by decide, fun _ => ?_, fun h => absurd (by decide) h⟩) (fun f2 => ⟨by decide, fun h => absurd rfl h, fun _ => ?_⟩)
    · rw [if_neg (by omega)] at k
      refine m_seeksAll (d := d) hV.1 h.1 ⟨f0, f1⟩ ⟨by omega, by omega⟩ hT (fun ξ R hW hR hfr => ?_)
      have e := (wrs_eq hV.1 hR).2.2 rfl
      have q := MI_wk hV h hfr
      rw [hW.2.2.2.1, e.1]
      exact KM_fin hV k q.1 q.2
    · rw [if_pos f2] at k
      exact KM_fin hV k h (jfr_refl _ _)
  · rw [if_pos t2] at k
    exact KM_fin hV k h (jfr_refl _ _)
theorem m_chain {d : Nat} {b : BK} {A K : List BK} {ν : JM} {Q : JQ} (hV : VS b A K) (h : MI b A K ν) {f T : Int} (hf : inR f) (hT : inR T) (k : KM b A K ν Q (oChain b f T)) : wp true (d + 19) 304 0 [(40, 0), (0, f), (0, T)] [] ν Q := by
  unfold oChain at k
  refine s_X11_chain_0 (d + 18) _ _ _ _ (w_isFrom hT ⟨by omega, by omega⟩ ⟨by omega, by omega⟩ (fun t0 t1 => ⟨by decide, fun _ => ?_, fun h => absurd (by decide) h⟩) (fun t2 => ⟨by decide, fun h => absurd rfl h, fun _ => ?_⟩))
  · rw [if_neg (by omega)] at k
    refine w_isAccount h.1 hV.1 hf (fun f0 f1 => ⟨by decide, fun _ => ?_, fun h => absurd (by decide) h⟩) (fun f2 => ⟨by decide, fun h => absurd rfl h, fun _ => ?_⟩)
    · rw [if_neg (by omega)] at k
      refine m_seeksAll (d := d) hV.1 h.1 ⟨f0, f1⟩ ⟨by omega, by omega⟩ hT (fun ξ R hW hR hfr => ?_)
      have e := (wrs_eq hV.1 hR).2.2 rfl
      have q := MI_wk hV h hfr
      rw [hW.2.2.2.2.1, e.2]
      exact KM_fin hV k q.1 q.2
    · rw [if_pos f2] at k
      exact KM_fin hV k h (jfr_refl _ _)
  · rw [if_pos t2] at k
    exact KM_fin hV k h (jfr_refl _ _)
