/-! the reference: tallies, flows, nets; both: rounds apart, hinges -/
theorem aix_a (b : BK) (F : LL) {n : Nat} {a : Int} (hn : n < F.length) (ha : 0 ≤ a ∧ a < nal b F) : (aix b F n : Int) = a ↔ rgn b F n = ral b F a := by
  have e : nal b F = ((pal b F F.length).length : Int) := rfl
  have h := aix_iff b F hn (a := a.toNat) (by omega)
  constructor
  · intro h1
    exact h.mp (by omega)
  · intro h1
    have := h.mpr h1
    omega
abbrev P69 : Nat → Int → Int → Prop := fun t y _ => t = 69 ∧ y = 0
theorem m_usesOf {d : Nat} {b : BK} {F : LL} {ν : JM} {Q : JQ} {a : Int} (hv : vb b) (hg : gd b F) (hL : ML b F ν) (hF : F.length ≤ 12000) (hM : isM ν b) (ha : 0 ≤ a ∧ a < nal b F) (k : ∀ ξ, jfr P69 ν ξ → (∀ t, 0 ≤ t → t < 32 → ξ 69 0 t = ptl b F a t F.length) → Q (pcn b F (ral b F a) F.length) ξ) : wp true (d + 2) 272 0 [(40, 0), (0, a), (9, 0), (9, 0), (9, 0)] [] ν Q := by
  have hm := vb_m hv
  have na := nal_in b F hF
  have second : ∀ (q n : Nat) (ξ : JM) (u4 : JV), n + q = F.length → jfr P69 ν ξ → (∀ t, 0 ≤ t → t < 32 → ξ 69 0 t = ptl b F a t n) → wp true (d + 2) 272 25 [(40, 0), (0, a), (0, pcn b F (ral b F a) n), (0, (n : Int)), u4] [] ξ Q := by
    intro q
    induction q with
    | zero =>
      intro n ξ u4 h1 h2 h3
      have en : n = F.length := by omega
      subst en
      refine s_X11_usesOf_25 _ _ _ _ _ _ _ ?_
      rw [show ξ 40 0 10 = (F.length : Int) from (h2 _ _ _ (by omega)).trans hL.1.1]
      exact ⟨⟨⟨by omega, by omega⟩, ⟨by omega, by omega⟩⟩, fun _ => k ξ h2 h3, fun h => absurd (Int.le_refl _) h⟩
    | succ q ih =>
      intro n ξ u4 h1 h2 h3
      have hn : n < F.length := by omega
      have hLx : ML b F ξ := ML_fr hL (fun t i h => h2 _ _ _ (by omega))
      have hMx : isM ξ b := isM_fr hM (fun i => h2 _ _ _ (by omega))
      have row := ML_row hv hMx hg hLx (r := (n : Int)) ⟨by omega, by omega⟩
      rw [show ((n : Int)).toNat = n from rfl] at row
      have ai := aix_in b F hn
      have g := gd_get hg hn
      have asc := gr_asc hv g
      have en : pcn b F (ral b F a) (n + 1) = if rgn b F n = ral b F a then pcn b F (ral b F a) n + 1 else pcn b F (ral b F a) n := rfl
      refine s_X11_usesOf_25 _ _ _ _ _ _ _ ?_
      rw [hLx.1.1, row.2.2.2.2.2.2.2.2]
      refine ⟨⟨⟨by omega, by omega⟩, ⟨by omega, by omega⟩⟩, fun h => absurd h (by omega), fun _ => ⟨by omega, by omega, Or.inr ⟨⟨by omega, by omega⟩, ⟨by omega, by omega⟩⟩, fun he => ?_, fun hne => ?_⟩⟩
      · have er := (aix_a b F hn ha).mp he
        have inner : ∀ (p i : Nat) (ζ : JM), i + p = (F.getD n []).length → jfr P69 ν ζ → (∀ t, 0 ≤ t → t < 32 → ζ 69 0 t = ptl b F a t n + if t ∈ (F.getD n []).take i then 1 else 0) → wp true (d + 2) 272 52 [(40, 0), (0, a), (0, pcn b F (ral b F a) n + 1), (0, (n : Int)), (0, (i : Int))] [] ζ Q := by
          intro p
          induction p with
          | zero =>
            intro i ζ y1 y2 y3
            have ei : i = (F.getD n []).length := by omega
            subst ei
            rw [List.take_length] at y3
            have hLz : LM b F ζ := LM_fr hL.1 (fun t i h => y2 _ _ _ (by omega))
            have rz := LM_row hLz (r := (n : Int)) ⟨by omega, by omega⟩
            rw [show ((n : Int)).toNat = n from rfl] at rz
            refine s_X11_usesOf_52 (d + 1) _ _ _ _ _ _ ?_
            rw [rz.1]
            refine ⟨by omega, by omega, ⟨⟨by omega, by omega⟩, ⟨by omega, by omega⟩⟩, fun _ => ?_, fun h => absurd (Int.le_refl _) h⟩
            rw [show (n : Int) + 1 = ((n + 1 : Nat) : Int) by omega]
            have := ih (n + 1) ζ (0, ((F.getD n []).length : Int)) (by omega) y2 (fun t t0 t1 => by
              rw [y3 t t0 t1]
              show _ = if (aix b F n : Int) = a ∧ t ∈ F.getD n [] then ptl b F a t n + 1 else ptl b F a t n
              by_cases hm2 : t ∈ F.getD n []
              · rw [if_pos hm2, if_pos ⟨he, hm2⟩]
              · rw [if_neg hm2, if_neg (fun h => hm2 h.2)]
                omega)
            rw [en, if_pos er] at this
            exact this
          | succ p ihp =>
            intro i ζ y1 y2 y3
            have hLz : LM b F ζ := LM_fr hL.1 (fun t i h => y2 _ _ _ (by omega))
            have rz := LM_row hLz (r := (n : Int)) ⟨by omega, by omega⟩
            rw [show ((n : Int)).toNat = n from rfl] at rz
            have e60 := rz.2.2.2 (i : Int) (by omega) (by omega)
            rw [show ((i : Int)).toNat = i from rfl] at e60
            have ti := gr_get g (i := i) (by omega)
            have fresh := asc_fresh asc (n := i) (by omega)
            refine s_X11_usesOf_52 (d + 1) _ _ _ _ _ _ ?_
            rw [rz.1, e60]
            refine ⟨by omega, by omega, ⟨⟨by omega, by omega⟩, ⟨by omega, by omega⟩⟩, fun h => absurd h (by omega), fun _ => ⟨by omega, by omega, by omega, by omega, by omega, by omega, ?_⟩⟩
            rw [show (i : Int) + 1 = ((i + 1 : Nat) : Int) by omega]
            refine ihp (i + 1) _ (by omega) (jfr_jw y2 ⟨rfl, rfl⟩) (fun t t0 t1 => ?_)
            by_cases e : t = (F.getD n []).getD i 0
            · rw [e, jw_eq, y3 _ (by omega) (by omega), if_neg fresh, if_pos ((mem_take (by omega) _).mpr (Or.inr rfl))]
              omega
            · rw [jw_i e, y3 t t0 t1]
              congr 1
              by_cases hm2 : t ∈ (F.getD n []).take i
              · rw [if_pos hm2, if_pos ((mem_take (by omega) _).mpr (Or.inl hm2))]
              · rw [if_neg hm2, if_neg (fun h => by rcases (mem_take (by omega) _).mp h with h | h; exact hm2 h; exact e h)]
        exact inner (F.getD n []).length 0 ξ (by omega) h2 (fun t t0 t1 => by rw [h3 t t0 t1]; simp)
      · rw [show (n : Int) + 1 = ((n + 1 : Nat) : Int) by omega]
        have := ih (n + 1) ξ u4 (by omega) h2 (fun t t0 t1 => by
          rw [h3 t t0 t1]
          show _ = if (aix b F n : Int) = a ∧ t ∈ F.getD n [] then ptl b F a t n + 1 else ptl b F a t n
          rw [if_neg (fun h => hne h.1)])
        rw [en, if_neg (fun h => hne ((aix_a b F hn ha).mpr h))] at this
        exact this
  have first : ∀ (q : Nat) (i : Int) (ξ : JM), i + q = 32 → 0 ≤ i → jfr P69 ν ξ → (∀ t, 0 ≤ t → t < i → ξ 69 0 t = 0) → wp true (d + 2) 272 4 [(40, 0), (0, a), (0, 0), (0, i), (9, 0)] [] ξ Q := by
    intro q
    induction q with
    | zero =>
      intro i ξ h1 h2 h3 h4
      refine s_X11_usesOf_4 _ _ _ _ _ _ ⟨⟨⟨by omega, by omega⟩, ⟨by omega, by omega⟩⟩, fun _ => ?_, fun h => absurd h (by omega)⟩
      exact second F.length 0 ξ _ (by omega) h3 (fun t t0 t1 => by rw [h4 t t0 (by omega)]; rfl)
    | succ q ih =>
      intro i ξ h1 h2 h3 h4
      refine s_X11_usesOf_4 _ _ _ _ _ _ ⟨⟨⟨by omega, by omega⟩, ⟨by omega, by omega⟩⟩, fun h => absurd h (by omega), fun _ => ⟨by omega, by omega, ih (i + 1) _ (by omega) (by omega) (jfr_jw h3 ⟨rfl, rfl⟩) (fun t t0 t1 => ?_)⟩⟩
      by_cases e : t = i
      · subst e; rw [jw_eq]
      · rw [jw_i e]; exact h4 t t0 (by omega)
  exact s_X11_usesOf_0 _ _ _ _ (first 32 0 ν (by omega) (by omega) (jfr_refl _ _) (fun t t0 t1 => by omega))
/-- a round apart from all others of its alarm -/
abbrev apa (b : BK) (F : LL) (a : Int) (r : List Int) : Prop := ∀ t ∈ r, ptl b F a t F.length ≤ 1
theorem m_isApart {d : Nat} {b : BK} {F : LL} {ν : JM} {Q : JQ} {a r : Int} (hv : vb b) (hg : gd b F) (hL : LM b F ν) (hF : F.length ≤ 12000) (hu : ∀ t, 0 ≤ t → t < 32 → ν 69 0 t = ptl b F a t F.length) (hr : 0 ≤ r ∧ r < (F.length : Int)) (k1 : apa b F a (F.getD r.toNat []) → Q 1 ν) (k0 : ¬ apa b F a (F.getD r.toNat []) → Q 0 ν) : wp true (d + 1) 273 0 [(40, 0), (0, r), (9, 0)] [] ν Q := by
  have g := gd_get hg (r := r.toNat) (by omega)
  have gl := gr_len g
  have hm := vb_m hv
  have row := LM_row hL hr
  have key : ∀ (q i : Nat), i + q = (F.getD r.toNat []).length → (∀ j, j < i → ptl b F a ((F.getD r.toNat []).getD j 0) F.length ≤ 1) → wp true (d + 1) 273 2 [(40, 0), (0, r), (0, (i : Int))] [] ν Q := by
    intro q
    induction q with
    | zero =>
      intro i h1 h2
      refine s_X11_isApart_2 _ _ _ _ _ ?_
      rw [row.1]
      exact ⟨by omega, by omega, ⟨⟨by omega, by omega⟩, ⟨by omega, by omega⟩⟩, fun _ => ⟨by omega, by omega, k1 (fun t ht => by
        obtain ⟨j, hj, e⟩ := mem_get ht
        rw [← e]
        exact h2 j (by omega))⟩, fun h => absurd (by omega) h⟩
    | succ q ih =>
      intro i h1 h2
      have e := row.2.2.2 (i : Int) (by omega) (by omega)
      rw [show ((i : Int)).toNat = i from rfl] at e
      have ti := gr_get g (i := i) (by omega)
      have pt := ptl_in b F a ((F.getD r.toNat []).getD i 0) F.length
      refine s_X11_isApart_2 _ _ _ _ _ ?_
      rw [row.1, e, hu _ (by omega) (by omega), show (i : Int) + 1 = ((i + 1 : Nat) : Int) by omega]
      refine ⟨by omega, by omega, ⟨⟨by omega, by omega⟩, ⟨by omega, by omega⟩⟩, fun h => absurd h (by omega), fun _ => ⟨by omega, by omega, by omega, by omega, ⟨⟨by omega, by omega⟩, ⟨by omega, by omega⟩⟩, fun h => ih (i + 1) (by omega) (fun j hj => ?_), fun h => ⟨by omega, by omega, k0 (fun h2 => h (h2 _ (getD_mem (by omega))))⟩⟩⟩
      by_cases hji : j = i
      · subst hji; exact h
      · exact h2 j (by omega)
  exact s_X11_isApart_0 _ _ _ _ (key (F.getD r.toNat []).length 0 (by omega) (fun j hj => by omega))
theorem c_isApart {d : Nat} {b : BK} {F : LL} {ν : JM} {Q : JQ} {a r : Int} (hv : vb b) (hg : gd b F) (hR : RC F ν) (hu : ∀ t, 0 ≤ t → t < 32 → ν 38 0 t = ptl b F a t F.length) (hr : 0 ≤ r ∧ r < (F.length : Int)) (k1 : apa b F a (F.getD r.toNat []) → Q 1 ν) (k0 : ¬ apa b F a (F.getD r.toNat []) → Q 0 ν) : wp true (d + 1) 120 0 [(22, 0), (0, r), (9, 0), (9, 0)] [] ν Q := by
  have g := gd_get hg (r := r.toNat) (by omega)
  have gl := gr_len g
  have hm := vb_m hv
  have hF := hR.2.1
  have key : ∀ (q i : Nat), i + q = (F.getD r.toNat []).length → (∀ j, j < i → ptl b F a ((F.getD r.toNat []).getD j 0) F.length ≤ 1) → wp true (d + 1) 120 8 [(22, 0), (0, r), (0, ((F.getD r.toNat []).length : Int)), (0, (i : Int))] [] ν Q := by
    intro q
    induction q with
    | zero =>
      intro i h1 h2
      exact s_X8_isApart_8 _ _ _ _ _ _ ⟨⟨⟨by omega, by omega⟩, ⟨by omega, by omega⟩⟩, fun _ => ⟨by omega, by omega, k1 (fun t ht => by
        obtain ⟨j, hj, e⟩ := mem_get ht
        rw [← e]
        exact h2 j (by omega))⟩, fun h => absurd (by omega) h⟩
    | succ q ih =>
      intro i h1 h2
      have ti := gr_get g (i := i) (by omega)
      have pt := ptl_in b F a ((F.getD r.toNat []).getD i 0) F.length
      refine s_X8_isApart_8 _ _ _ _ _ _ ⟨⟨⟨by omega, by omega⟩, ⟨by omega, by omega⟩⟩, fun h => absurd h (by omega), fun _ => w_transferAt hv hR hg hr ⟨by omega, by omega⟩ ?_⟩
      rw [show ((i : Int)).toNat = i from rfl, hu _ (by omega) (by omega), show (i : Int) + 1 = ((i + 1 : Nat) : Int) by omega]
      refine ⟨by omega, by omega, ⟨⟨by omega, by omega⟩, ⟨by omega, by omega⟩⟩, fun h => ih (i + 1) (by omega) (fun j hj => ?_), fun h => ⟨by omega, by omega, k0 (fun h2 => h (h2 _ (getD_mem (by omega))))⟩⟩
      by_cases hji : j = i
      · subst hji; exact h
      · exact h2 j (by omega)
  exact s_X8_isApart_0 _ _ _ _ (w_lengthOf hv hR hg hr (key (F.getD r.toNat []).length 0 (by omega) (fun j hj => by omega)))
def pap (b : BK) (F : LL) (a : Int) : Nat → Int
  | 0 => 0
  | n + 1 => if (aix b F n : Int) = a ∧ (∀ t ∈ F.getD n [], ptl b F a t F.length ≤ 1) then pap b F a n + 1 else pap b F a n
theorem c_apartIn {d : Nat} {b : BK} {F : LL} {ν : JM} {Q : JQ} {a : Int} (hv : vb b) (hg : gd b F) (hR : RS b F ν) (ha : inR a) (k : ∀ ξ, jfr P38 ν ξ → Q (pap b F a F.length) ξ) : wp true (d + 3) 119 0 [(22, 0), (0, a), (9, 0), (9, 0)] [] ν Q := by
  have hF := hR.2.1.2.1
  have na := nal_in b F hF
  refine s_X8_apartIn_0 (d + 2) _ _ _ (c_tally hv hg hR ha (fun ξ hf hu => ?_))
  have hRx : RS b F ξ := RS_fr hR (fun t y i h => hf _ _ _ (by omega))
  refine nlp (W := fun i c => wp true (d + 3) 119 9 [(22, 0), (0, a), (0, c), (0, i)] [] ξ Q) (f := pap b F a) (N := F.length) (fun n hn hW => ?_) ?_
  · have ao := RS_of hRx hn
    have ai := aix_in b F hn
    refine s_X8_apartIn_9 (d + 2) _ _ _ _ _ ?_
    rw [hRx.2.1.1, ao.2.2]
    have e : pap b F a (n + 1) = if (aix b F n : Int) = a ∧ (∀ t ∈ F.getD n [], ptl b F a t F.length ≤ 1) then pap b F a n + 1 else pap b F a n := rfl
    rw [e] at hW
    refine ⟨⟨⟨by omega, by omega⟩, ⟨by omega, by omega⟩⟩, fun h => absurd h (by omega), fun _ => ⟨ao.1, by omega, ao.2.1, Or.inr ⟨⟨by omega, by omega⟩, ha⟩, fun hne => ?_, fun he => c_isApart hv hg hRx.2.1 hu ⟨by omega, by omega⟩ (fun h => ⟨by decide, fun h => absurd h (by decide), fun _ => ?_⟩) (fun h => ⟨by decide, fun _ => ?_, fun h => absurd rfl h⟩)⟩⟩
    · rw [if_neg (fun h => hne h.1)] at hW
      exact hW
    · rw [if_pos ⟨by omega, h⟩] at hW
      exact hW
    · rw [if_neg (fun h2 => h h2.2)] at hW
      exact hW
  · refine s_X8_apartIn_9 (d + 2) _ _ _ _ _ ?_
    rw [hRx.2.1.1]
    exact ⟨⟨⟨by omega, by omega⟩, ⟨by omega, by omega⟩⟩, fun _ => k ξ hf, fun h => absurd (Int.le_refl _) h⟩
theorem m_flow {d : Nat} {b : BK} {F : LL} {ν : JM} {Q : JQ} {r : Int} (hv : vb b) (hM : isM ν b) (hg : gd b F) (hL : LM b F ν) (hF : F.length ≤ 12000) (hr : 0 ≤ r ∧ r < (F.length : Int)) (k : Q (pflow b (F.getD r.toNat [])) ν) : wp true (d + 2) 231 0 [(40, 0), (0, r), (9, 0), (9, 0)] [] ν Q := by
  have g := gd_get hg (r := r.toNat) (by omega)
  have gl := gr_len g
  have hm := vb_m hv
  have row := LM_row hL hr
  refine s_X11_flow_0 _ _ _ _ (fup_loop (W := fun i (c : Int) => wp true (d + 2) 231 6 [(40, 0), (0, r), (0, c), (0, i)] [] ν Q) (fun (_ : Int) (c : Int) => 1 ≤ c ∧ c ≤ 9999) (lo := 0) (n := ((F.getD r.toNat []).length : Int)) (pflow_step hv g) (fun i c h0 h1 hI hW => ?_) (F.getD r.toNat []).length 0 9999 (by omega) (by omega) (by omega) (fun _ => ?_))
  · have t := gr_get g (i := i.toNat) (by omega)
    have tt := vb_t hv t.1 t.2
    have e := row.2.2.2 i h0 h1
    have hI' : 1 ≤ c ∧ c ≤ 9999 := hI
    refine s_X11_flow_6 _ _ _ _ _ _ ?_
    rw [row.1, e, (isM_t hM t.1 t.2).2.2.2]
    exact ⟨by omega, by omega, ⟨⟨by omega, by omega⟩, ⟨by omega, by omega⟩⟩, fun h => absurd h (by omega), fun _ => ⟨by omega, by omega, by omega, by omega, ⟨by omega, by omega⟩, ⟨by omega, by omega⟩, hW⟩⟩
  · refine s_X11_flow_6 _ _ _ _ _ _ ?_
    rw [row.1]
    exact ⟨by omega, by omega, ⟨⟨by omega, by omega⟩, ⟨by omega, by omega⟩⟩, fun _ => k, fun h => absurd (Int.le_refl _) h⟩
