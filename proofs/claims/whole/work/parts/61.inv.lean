/-! what holds between calls: of the class, of the reference -/
abbrev FR (b : BK) : LL := pro b (fun _ => b 4 0)
def CI (b : BK) (A K : List BK) (c : Int) (ν : JM) : Prop := isC ν 0 b ∧ hC ν A ∧ kC ν K ∧ (∃ cp ca, JN cp ca ν) ∧ (0 ≤ ν 27 0 10 ∧ ν 27 0 10 ≤ c) ∧ (ν 11 0 9 = 0 ∨ ν 11 0 9 = 1) ∧ (ν 11 0 9 = 0 → RS b (FR b) ν)
def MI (b : BK) (A K : List BK) (ν : JM) : Prop := isM ν b ∧ hM ν A ∧ kM ν K ∧ (ν 40 0 12 = 0 ∨ inR (ν 40 0 12)) ∧ (ν 40 0 12 ≠ 0 → ML b (FR b) ν)
/-- books, all of them such as can be -/
def VS (b : BK) (A K : List BK) : Prop := vb b ∧ vbs A ∧ vbs K
/-- what a call that changes no book may change of the class -/
abbrev PQc : Nat → Int → Int → Prop := fun t y i => (t = 11 ∧ y = 0 ∧ (i = 8 ∨ i = 9)) ∨ ((12 ≤ t ∧ t ≤ 17) ∧ 2 ≤ y ∧ y ≤ 5) ∨ t = 22 ∨ t = 25 ∨ t = 27 ∨ (32 ≤ t ∧ t ≤ 39) ∨ (42 ≤ t ∧ t ≤ 46) ∨ (50 ≤ t ∧ t ≤ 54)
/-- what any call may change of the reference -/
abbrev PQm : Nat → Int → Int → Prop := fun t y i => y = 0 ∧ ((t = 40 ∧ (i = 1 ∨ (10 ≤ i ∧ i ≤ 12) ∨ (31 ≤ i ∧ i ≤ 36))) ∨ (60 ≤ t ∧ t ≤ 65) ∨ (69 ≤ t ∧ t ≤ 72))
theorem AQn_fr {b : BK} {F : LL} {μ ν : JM} (h : AQn b F μ) (e1 : ∀ i, i = 5 ∨ i = 6 → ν 22 0 i = μ 22 0 i) (e2 : ∀ i, ν 27 0 i = μ 27 0 i) (e3 : ∀ y i, ν 50 y i = μ 50 y i) : AQn b F ν := by
  refine ⟨(e2 0).trans h.1, fun a ha => ?_⟩
  have q := h.2 a ha
  rw [arr_fr (by omega) e1 (fun i _ _ => e2 i) e3, arr_fr (by omega) e1 (fun i _ _ => e2 i) e3, arr_fr (by omega) e1 (fun i _ _ => e2 i) e3, arr_fr (by omega) e1 (fun i _ _ => e2 i) e3, arr_fr (by omega) e1 (fun i _ _ => e2 i) e3, arr_fr (by omega) e1 (fun i _ _ => e2 i) e3, e2 10]
  exact q
theorem RS_fr {b : BK} {F : LL} {μ ν : JM} (h : RS b F μ) (e : ∀ t y i, ((12 ≤ t ∧ t ≤ 17) ∧ y = 2) ∨ (t = 22 ∧ y = 0 ∧ 3 ≤ i) ∨ t = 27 ∨ (34 ≤ t ∧ t ≤ 37) ∨ (50 ≤ t ∧ t ≤ 54) → ν t y i = μ t y i) : RS b F ν := by
  obtain ⟨g2, g3, ⟨cp, ca, gN, gc1, gc2⟩, g5, g6, g7, g8, g9, g10⟩ := h
  refine ⟨isC_fr g2 (fun t _ _ i => e _ _ _ (by omega)), RC_fr g3 (e _ _ _ (by omega)) (e _ _ _ (by omega)) (e _ _ _ (by omega)) (fun r _ => e _ _ _ (by omega)), ⟨cp, ca, JN_fr gN (fun i _ => e _ _ _ (by omega)) (fun i _ _ => e _ _ _ (by omega)) (fun y => e _ _ _ (by omega)) (e _ _ _ (by omega)) (e _ _ _ (by omega)), gc1, gc2⟩, AQn_fr g5 (fun i _ => e _ _ _ (by omega)) (fun i => e _ _ _ (by omega)) (fun y i => e _ _ _ (by omega)), fun r hr => ?_, fun t t0 t1 => ?_, fun t t0 t1 => ?_, ?_, fun a a0 a1 => ?_⟩
  · rw [arr_fr (by omega) (fun i _ => e _ _ _ (by omega)) (fun i _ _ => e _ _ _ (by omega)) (fun y i => e _ _ _ (by omega))]
    exact g6 r hr
  · rw [e _ _ _ (by omega), e _ _ _ (by omega)]
    exact g7 t t0 t1
  · rw [e _ _ _ (by omega)]
    exact g8 t t0 t1
  · rw [e _ _ _ (by omega)]
    exact g9
  · rw [e _ _ _ (by omega)]
    exact g10 a a0 a1
/-- the class's state is the same through a memory that differs elsewhere -/
theorem CI_fr {b : BK} {A K : List BK} {c c' : Int} {μ ν : JM} (h : CI b A K c μ) (hc : c ≤ c') (e : ∀ t y i, (t = 11 ∧ y = 0 ∧ i = 9) ∨ ((12 ≤ t ∧ t ≤ 17) ∧ (y ≤ 0 ∨ y = 2 ∨ 6 ≤ y)) ∨ t = 21 ∨ (t = 22 ∧ y = 0 ∧ 3 ≤ i) ∨ t = 27 ∨ (34 ≤ t ∧ t ≤ 37) ∨ (50 ≤ t ∧ t ≤ 54) → ν t y i = μ t y i) : CI b A K c' ν := by
  obtain ⟨h1, h2, h3, ⟨cp, ca, h4⟩, h5, h6, h7⟩ := h
  refine ⟨isC_fr h1 (fun t _ _ i => e _ _ _ (by omega)), hC_fr h2 (fun t x i h => e _ _ _ (by omega)), kC_fr h3 (fun t x i h => e _ _ _ (by omega)), ⟨cp, ca, JN_fr h4 (fun i _ => e _ _ _ (by omega)) (fun i _ _ => e _ _ _ (by omega)) (fun y => e _ _ _ (by omega)) (e _ _ _ (by omega)) (e _ _ _ (by omega))⟩, by rw [e _ _ _ (by omega)]; omega, by rw [e _ _ _ (by omega)]; exact h6, fun h => ?_⟩
  rw [e _ _ _ (by omega)] at h
  exact RS_fr (h7 h) (fun t y i h => e _ _ _ (by omega))
theorem CI_st {b : BK} {A K : List BK} {c : Int} {ν : JM} (h : CI b A K c ν) (v : Int) : CI b A K c (jw ν 11 0 8 v) := by
  refine CI_fr h (Int.le_refl _) (fun t y i hp => ?_)
  unfold jw
  rw [if_neg (by omega)]
theorem MI_st {b : BK} {A K : List BK} {ν : JM} (hA : vbs A) (hK : vbs K) (h : MI b A K ν) (v : Int) : MI b A K (jw ν 40 0 1 v) := by
  obtain ⟨h1, h2, h3, h4, h5⟩ := h
  have e : ∀ t y i, ¬ (t = 40 ∧ i = 1) → jw ν 40 0 1 v t y i = ν t y i := fun t y i h => by
    unfold jw
    rw [if_neg (by omega)]
  refine ⟨isM_fr h1 (fun i => e _ _ _ (by omega)), hM_fr hA h2 (fun t x i h => e _ _ _ (by omega)), kM_fr hK h3 (fun t x i h => e _ _ _ (by omega)), by rw [e _ _ _ (by omega)]; exact h4, fun h => ?_⟩
  rw [e _ _ _ (by omega)] at h
  have q := h5 h
  exact ⟨LM_fr q.1 (fun t i h => e _ _ _ (by omega)), by rw [e _ _ _ (by omega)]; exact q.2.1, fun r hr => by rw [e _ _ _ (by omega)]; exact q.2.2.1 r hr, fun a ha => by rw [e _ _ _ (by omega)]; exact q.2.2.2 a ha⟩
/-- the reference's state but for its status and scratch -/
theorem ML_fr {b : BK} {F : LL} {μ ν : JM} (q : ML b F μ) (e : ∀ t i, (60 ≤ t ∧ t ≤ 64) ∨ (t = 40 ∧ (i = 10 ∨ i = 11)) → ν t 0 i = μ t 0 i) : ML b F ν :=
  ⟨LM_fr q.1 (fun t i h => e _ _ (by omega)), by rw [e _ _ (by omega)]; exact q.2.1, fun r hr => by rw [e _ _ (by omega)]; exact q.2.2.1 r hr, fun a ha => by rw [e _ _ (by omega)]; exact q.2.2.2 a ha⟩
theorem MI_fr {b : BK} {A K : List BK} {μ ν : JM} (hA : vbs A) (hK : vbs K) (h : MI b A K μ) (e : ∀ t i, t = 41 ∨ (60 ≤ t ∧ t ≤ 64) ∨ (t = 40 ∧ (i = 2 ∨ i = 3 ∨ i = 10 ∨ i = 11 ∨ i = 12)) → ν t 0 i = μ t 0 i) : MI b A K ν := by
  obtain ⟨h1, h2, h3, h4, h5⟩ := h
  refine ⟨isM_fr h1 (fun i => e _ _ (by omega)), hM_fr hA h2 (fun t x i h => ?_), kM_fr hK h3 (fun t x i h => ?_), by rw [e _ _ (by omega)]; exact h4, fun h => ?_⟩
  · rcases h with ⟨rfl, rfl, h⟩ | ⟨rfl, rfl, h⟩ <;> exact e _ _ (by omega)
  · rcases h with ⟨rfl, rfl, h⟩ | ⟨rfl, rfl, h⟩ <;> exact e _ _ (by omega)
  · rw [e _ _ (by omega)] at h
    exact ML_fr (h5 h) (fun t i h => e _ _ (by omega))
theorem c_fresh {d : Nat} {b : BK} {A K : List BK} {c : Int} {ν : JM} {Q : JQ} (hV : VS b A K) (h : CI b A K c ν) (k : ∀ ξ, CI b A K c ξ → RS b (FR b) ξ → ξ 11 0 9 = 0 → jfr PQc ν ξ → Q 0 ξ) : wp true (d + 13) 179 0 [(11, 0)] [] ν Q := by
  have h' := h
  obtain ⟨h1, h2, h3, ⟨cp, ca, h4⟩, h5, h6, h7⟩ := h
  refine s_X10_freshRounds_0 (d + 12) _ _ ⟨?_, fun h0 => ⟨rfl, k ν h' (h7 h0) h0 (jfr_refl _ _)⟩, fun hne => ?_⟩
  · rcases h6 with h6 | h6
    · exact Or.inl h6
    · exact Or.inr ⟨⟨by omega, by omega⟩, ⟨by omega, by omega⟩⟩
  · refine c_gather hV.1 h1 h4 h5.1 (fun ξ hf hR => ⟨by omega, by omega, rfl, ?_⟩)
    have e : ∀ t y i, ¬ (t = 11 ∧ y = 0 ∧ i = 9) → jw ξ 11 0 9 0 t y i = ξ t y i := fun t y i h => by
      unfold jw
      rw [if_neg (by omega)]
    have hR' : RS b (FR b) (jw ξ 11 0 9 0) := RS_fr hR (fun t y i h => e _ _ _ (by omega))
    have hN := hR'.2.2.1
    obtain ⟨cp', ca', N', _, _⟩ := hN
    refine k _ ⟨isC_fr h1 (fun t _ _ i => by rw [e _ _ _ (by omega), hf _ _ _ (by omega)]), hC_fr h2 (fun t x i h => by rw [e _ _ _ (by omega), hf _ _ _ (by omega)]), kC_fr h3 (fun t x i h => by rw [e _ _ _ (by omega), hf _ _ _ (by omega)]), ⟨cp', ca', N'⟩, by rw [e _ _ _ (by omega), hf _ _ _ (by omega)]; exact h5, Or.inl (jw_eq _ _ _ _ _), fun _ => hR'⟩ hR' (jw_eq _ _ _ _ _) (jfr_jw (jfr_mono hf (fun t y i h => by omega)) (by omega))
theorem m_layI {d : Nat} {b : BK} {A K : List BK} {ν : JM} {Q : JQ} (hV : VS b A K) (h : MI b A K ν) (k : ∀ ξ, MI b A K ξ → ML b (FR b) ξ → jfr PQm ν ξ → ξ 40 0 1 = ν 40 0 1 → Q 0 ξ) : wp true (d + 12) 229 0 [(40, 0), (9, 0), (9, 0)] [] ν Q := by
  obtain ⟨h1, h2, h3, h4, h5⟩ := h
  refine m_lays hV.1 h1 h4 h5 (fun ξ hf hL h12 hin => k ξ ⟨isM_fr h1 (fun i => hf _ _ _ (by omega)), hM_fr hV.2.1 h2 (fun t x i h => hf _ _ _ (by omega)), kM_fr hV.2.2 h3 (fun t x i h => hf _ _ _ (by omega)), Or.inr hin, fun _ => hL⟩ hL (jfr_mono hf (fun t y i h => by omega)) (hf _ _ _ (by omega)))
