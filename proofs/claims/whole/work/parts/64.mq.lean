/-! the reference's answers about rounds and alarms -/
theorem ML_row {b : BK} {F : LL} {ν : JM} (hv : vb b) (hM : isM ν b) (hg : gd b F) (h : ML b F ν) {r : Int} (hr : 0 ≤ r ∧ r < (F.length : Int)) : ν 61 0 r = ((F.getD r.toNat []).length : Int) ∧ (2 ≤ (F.getD r.toNat []).length ∧ (F.getD r.toNat []).length ≤ 5) ∧ ν 60 0 (5 * r + (((F.getD r.toNat []).length : Int) - 1)) = rls (F.getD r.toNat []) ∧ ν 60 0 (5 * r + 0) = rst (F.getD r.toNat []) ∧ (0 ≤ rls (F.getD r.toNat []) ∧ rls (F.getD r.toNat []) < b 5 1) ∧ (0 ≤ rst (F.getD r.toNat []) ∧ rst (F.getD r.toNat []) < b 5 1) ∧ ν 41 0 (8 + 4 * rls (F.getD r.toNat []) + 2) = b 2 (rls (F.getD r.toNat [])) ∧ ν 41 0 (8 + 4 * rst (F.getD r.toNat []) + 2) = b 2 (rst (F.getD r.toNat [])) ∧ ν 63 0 r = (aix b F r.toNat : Int) := by
  have g := gd_get hg (r := r.toNat) (by omega)
  have gl := gr_len g
  have row := LM_row h.1 hr
  have i1 := rls_in g
  have i2 := rst_in g
  have e1 := row.2.2.2 (((F.getD r.toNat []).length : Int) - 1) (by omega) (by omega)
  rw [show (((F.getD r.toNat []).length : Int) - 1).toNat = (F.getD r.toNat []).length - 1 by omega] at e1
  have e2 := row.2.2.2 0 (by omega) (by omega)
  have e3 := h.2.2.1 r.toNat (by omega)
  rw [show ((r.toNat : Nat) : Int) = r by omega] at e3
  exact ⟨row.1, gl, e1, e2, i1, i2, (isM_t hM i1.1 i1.2).2.2.1, (isM_t hM i2.1 i2.2).2.2.1, e3⟩
theorem m_isIn {d : Nat} {b : BK} {F : LL} {ν : JM} {Q : JQ} {r t : Int} (hv : vb b) (hg : gd b F) (hL : LM b F ν) (hF : F.length ≤ 12000) (hr : 0 ≤ r ∧ r < (F.length : Int)) (ht : inR t) (k1 : t ∈ F.getD r.toNat [] → Q 1 ν) (k0 : ¬ t ∈ F.getD r.toNat [] → Q 0 ν) : wp true (d + 1) 230 0 [(40, 0), (0, r), (0, t), (9, 0)] [] ν Q := by
  have g := gd_get hg (r := r.toNat) (by omega)
  have gl := gr_len g
  have hm := vb_m hv
  have row := LM_row hL hr
  have key : ∀ (q i : Nat), i + q = (F.getD r.toNat []).length → (∀ j, j < i → (F.getD r.toNat []).getD j 0 ≠ t) → wp true (d + 1) 230 2 [(40, 0), (0, r), (0, t), (0, (i : Int))] [] ν Q := by
    intro q
    induction q with
    | zero =>
      intro i h1 h2
      refine s_X11_isIn_2 _ _ _ _ _ _ ?_
      rw [row.1]
      exact ⟨by omega, by omega, ⟨⟨by omega, by omega⟩, ⟨by omega, by omega⟩⟩, fun _ => ⟨by omega, by omega, k0 (fun h => by
        obtain ⟨j, hj, e⟩ := mem_get h
        exact h2 j (by omega) e)⟩, fun h => absurd (by omega) h⟩
    | succ q ih =>
      intro i h1 h2
      have e := row.2.2.2 (i : Int) (by omega) (by omega)
      rw [show ((i : Int)).toNat = i by omega] at e
      have ti := gr_get g (i := i) (by omega)
      refine s_X11_isIn_2 _ _ _ _ _ _ ?_
      rw [row.1, e, show (i : Int) + 1 = ((i + 1 : Nat) : Int) by omega]
      refine ⟨by omega, by omega, ⟨⟨by omega, by omega⟩, ⟨by omega, by omega⟩⟩, fun h => absurd h (by omega), fun _ => ⟨by omega, by omega, Or.inr ⟨⟨by omega, by omega⟩, ht⟩, fun hne => ih (i + 1) (by omega) (fun j hj => ?_), fun he => ⟨by omega, by omega, k1 ?_⟩⟩⟩
      · by_cases hji : j = i
        · subst hji; exact hne
        · exact h2 j (by omega)
      · have : (F.getD r.toNat []).getD i 0 = t := by omega
        rw [← this]
        exact getD_mem (by omega)
  exact s_X11_isIn_0 _ _ _ _ _ (key (F.getD r.toNat []).length 0 (by omega) (fun j hj => by omega))
theorem pus_in (F : LL) (t : Int) : ∀ n, 0 ≤ pus F t n ∧ pus F t n ≤ n
  | 0 => by show (0 : Int) ≤ 0 ∧ (0 : Int) ≤ ((0 : Nat) : Int); omega
  | n + 1 => by
    have := pus_in F t n
    have e : pus F t (n + 1) = if t ∈ F.getD n [] then pus F t n + 1 else pus F t n := rfl
    rw [e]
    split <;> omega
theorem pcl_in (F : LL) (t : Int) : ∀ n, 0 ≤ pcl F t n ∧ pcl F t n ≤ n
  | 0 => by show (0 : Int) ≤ 0 ∧ (0 : Int) ≤ ((0 : Nat) : Int); omega
  | n + 1 => by
    have := pcl_in F t n
    have e : pcl F t (n + 1) = if rls (F.getD n []) = t then pcl F t n + 1 else pcl F t n := rfl
    rw [e]
    split <;> omega
theorem m_inRounds {d : Nat} {b : BK} {F : LL} {ν : JM} {Q : JQ} {t : Int} (hv : vb b) (hg : gd b F) (hL : LM b F ν) (hF : F.length ≤ 12000) (ht : inR t) (k : Q (pus F t F.length) ν) : wp true (d + 2) 261 0 [(40, 0), (0, t), (9, 0), (9, 0)] [] ν Q := by
  refine s_X11_inRounds_0 _ _ _ _ (nlp (W := fun i c => wp true (d + 2) 261 4 [(40, 0), (0, t), (0, c), (0, i)] [] ν Q) (f := pus F t) (N := F.length) (fun n hn hW => ?_) ?_)
  · refine s_X11_inRounds_4 _ _ _ _ _ _ ?_
    rw [hL.1]
    have e : pus F t (n + 1) = if t ∈ F.getD n [] then pus F t n + 1 else pus F t n := rfl
    rw [e] at hW
    refine ⟨⟨⟨by omega, by omega⟩, ⟨by omega, by omega⟩⟩, fun h => absurd h (by omega), fun _ => m_isIn hv hg hL hF ⟨by omega, by omega⟩ ht (fun h => ⟨by decide, fun h => absurd h (by decide), fun _ => ?_⟩) (fun h => ⟨by decide, fun _ => ?_, fun h => absurd rfl h⟩)⟩
    · rw [if_pos (by simpa using h)] at hW
      exact hW
    · rw [if_neg (by simpa using h)] at hW
      rw [Int.add_zero]
      exact hW
  · refine s_X11_inRounds_4 _ _ _ _ _ _ ?_
    rw [hL.1]
    exact ⟨⟨⟨by omega, by omega⟩, ⟨by omega, by omega⟩⟩, fun _ => k, fun h => absurd (Int.le_refl _) h⟩
theorem m_closes {d : Nat} {b : BK} {F : LL} {ν : JM} {Q : JQ} {t : Int} (hv : vb b) (hM : isM ν b) (hg : gd b F) (hL : ML b F ν) (hF : F.length ≤ 12000) (ht : inR t) (k : Q (pcl F t F.length) ν) : wp true (d + 2) 262 0 [(40, 0), (0, t), (9, 0), (9, 0)] [] ν Q := by
  have hm := vb_m hv
  refine s_X11_closes_0 _ _ _ _ (nlp (W := fun i c => wp true (d + 2) 262 4 [(40, 0), (0, t), (0, c), (0, i)] [] ν Q) (f := pcl F t) (N := F.length) (fun n hn hW => ?_) ?_)
  · have row := ML_row hv hM hg hL (r := (n : Int)) ⟨by omega, by omega⟩
    rw [show ((n : Int)).toNat = n by omega] at row
    refine s_X11_closes_4 _ _ _ _ _ _ ?_
    rw [hL.1.1, row.1, row.2.2.1]
    have e : pcl F t (n + 1) = if rls (F.getD n []) = t then pcl F t n + 1 else pcl F t n := rfl
    rw [e] at hW
    refine ⟨⟨⟨by omega, by omega⟩, ⟨by omega, by omega⟩⟩, fun h => absurd h (by omega), fun _ => ⟨by omega, by omega, by omega, by omega, Or.inr ⟨⟨by omega, by omega⟩, ht⟩, fun h => ?_, fun h => ?_⟩⟩
    · rw [if_neg h] at hW
      rw [Int.add_zero]
      exact hW
    · rw [if_pos (by omega)] at hW
      exact hW
  · refine s_X11_closes_4 _ _ _ _ _ _ ?_
    rw [hL.1.1]
    exact ⟨⟨⟨by omega, by omega⟩, ⟨by omega, by omega⟩⟩, fun _ => k, fun h => absurd (Int.le_refl _) h⟩
theorem m_roundsOf {d : Nat} {b : BK} {F : LL} {ν : JM} {Q : JQ} {a : Int} (hv : vb b) (hg : gd b F) (hL : ML b F ν) (hF : F.length ≤ 12000) (ha : 0 ≤ a ∧ a < 32) (k : Q (pct b F (mem12 a) F.length) ν) : wp true (d + 1) 264 0 [(40, 0), (0, a), (9, 0), (9, 0)] [] ν Q := by
  refine s_X11_roundsOf_0 _ _ _ _ (nlp (W := fun i c => wp true (d + 1) 264 4 [(40, 0), (0, a), (0, c), (0, i)] [] ν Q) (f := pct b F (mem12 a)) (N := F.length) (fun n hn hW => ?_) ?_)
  · have es := ML_set hv hg hL (r := (n : Int)) ⟨by omega, by omega⟩
    rw [show ((n : Int)).toNat = n by omega] at es
    have pb := (pmk_bt (pring_small hv (gd_get hg hn))).2 a.toNat (by omega)
    rw [show ((a.toNat : Nat) : Int) = a by omega] at pb
    refine s_X11_roundsOf_4 _ _ _ _ _ _ ?_
    rw [hL.1.1, es]
    have e : pct b F (mem12 a) (n + 1) = pct b F (mem12 a) n + if mem12 a (rgn b F n) = true then 1 else 0 := rfl
    rw [e] at hW
    refine ⟨⟨⟨by omega, by omega⟩, ⟨by omega, by omega⟩⟩, fun h => absurd h (by omega), fun _ => ⟨by omega, by omega, w_has ha (fun h => ⟨by decide, fun h => absurd h (by decide), fun _ => ?_⟩) (fun h => ⟨by decide, fun _ => ?_, fun h => absurd rfl h⟩)⟩⟩
    · rw [if_pos (decide_eq_true (pb.mp h))] at hW
      exact hW
    · rw [if_neg (fun h2 => by rw [pb.mpr (of_decide_eq_true h2)] at h; cases h)] at hW
      exact hW
  · refine s_X11_roundsOf_4 _ _ _ _ _ _ ?_
    rw [hL.1.1]
    exact ⟨⟨⟨by omega, by omega⟩, ⟨by omega, by omega⟩⟩, fun _ => k, fun h => absurd (Int.le_refl _) h⟩
/-- the rounds that stand at a time are those closed in the window up to it -/
theorem m_isStanding {d : Nat} {b : BK} {F : LL} {ν : JM} {Q : JQ} {r w : Int} (hv : vb b) (hM : isM ν b) (hg : gd b F) (hL : ML b F ν) (hF : F.length ≤ 12000) (hr : 0 ≤ r ∧ r < (F.length : Int)) (hw : 0 ≤ w ∧ w ≤ 9999) (k1 : w - b 4 0 ≤ b 2 (rls (F.getD r.toNat [])) → b 2 (rls (F.getD r.toNat [])) ≤ w → Q 1 ν) (k0 : ¬ (w - b 4 0 ≤ b 2 (rls (F.getD r.toNat [])) ∧ b 2 (rls (F.getD r.toNat [])) ≤ w) → Q 0 ν) : wp true (d + 2) 288 0 [(40, 0), (0, r), (0, w)] [] ν Q := by
  have hm := vb_m hv
  have hwi := vb_w hv
  have row := ML_row hv hM hg hL hr
  have tt := vb_t hv row.2.2.2.2.1.1 row.2.2.2.2.1.2
  refine s_X11_isStanding_0 _ _ _ _ _ ?_
  rw [row.1, row.2.2.1, row.2.2.2.2.2.2.1, isM_b hM (by omega) (by omega)]
  exact ⟨by omega, by omega, by omega, by omega, by omega, by omega, by omega, by omega, w_isFrom ⟨by omega, by omega⟩ ⟨by omega, by omega⟩ ⟨by omega, by omega⟩ (fun a1 a2 => ⟨by omega, by omega, k1 (by omega) (by omega)⟩) (fun a => ⟨by omega, by omega, k0 (by omega)⟩)⟩
theorem m_stand {d : Nat} {b : BK} {F : LL} {ν : JM} {Q : JQ} {w : Int} (hv : vb b) (hM : isM ν b) (hg : gd b F) (hL : ML b F ν) (hF : F.length ≤ 12000) (hw : 0 ≤ w ∧ w ≤ 9999) (k : Q (pst b F (w - b 4 0) w F.length) ν) : wp true (d + 3) 289 0 [(40, 0), (0, w), (9, 0), (9, 0)] [] ν Q := by
  refine s_X11_stand_0 _ _ _ _ (nlp (W := fun i c => wp true (d + 3) 289 4 [(40, 0), (0, w), (0, c), (0, i)] [] ν Q) (f := pst b F (w - b 4 0) w) (N := F.length) (fun n hn hW => ?_) ?_)
  · refine s_X11_stand_4 _ _ _ _ _ _ ?_
    rw [hL.1.1]
    have e : pst b F (w - b 4 0) w (n + 1) = pst b F (w - b 4 0) w n + if w - b 4 0 ≤ b 2 (rls (F.getD n [])) ∧ b 2 (rls (F.getD n [])) ≤ w then 1 else 0 := rfl
    rw [e] at hW
    refine ⟨⟨⟨by omega, by omega⟩, ⟨by omega, by omega⟩⟩, fun h => absurd h (by omega), fun _ => m_isStanding hv hM hg hL hF ⟨by omega, by omega⟩ hw (fun h1 h2 => ⟨by decide, fun h => absurd h (by decide), fun _ => ?_⟩) (fun h => ⟨by decide, fun _ => ?_, fun h => absurd rfl h⟩)⟩
    · rw [if_pos (show w - b 4 0 ≤ b 2 (rls (F.getD n [])) ∧ b 2 (rls (F.getD n [])) ≤ w from ⟨h1, h2⟩)] at hW
      exact hW
    · rw [if_neg (show ¬ (w - b 4 0 ≤ b 2 (rls (F.getD n [])) ∧ b 2 (rls (F.getD n [])) ≤ w) from h)] at hW
      exact hW
  · refine s_X11_stand_4 _ _ _ _ _ _ ?_
    rw [hL.1.1]
    exact ⟨⟨⟨by omega, by omega⟩, ⟨by omega, by omega⟩⟩, fun _ => k, fun h => absurd (Int.le_refl _) h⟩
