/-! the calls that change the book -/
abbrev ST : Type := BK × List BK × List BK
abbrev PAc : Nat → Int → Int → Prop := fun t _ _ => ¬ (t = 20 ∨ t = 29 ∨ t = 40 ∨ t = 41 ∨ 60 ≤ t)
abbrev PAm : Nat → Int → Int → Prop := fun t _ i => (t = 40 ∧ ¬ (i = 16 ∨ i = 23 ∨ i = 24)) ∨ t = 41 ∨ ((60 ≤ t ∧ t ≤ 72) ∧ t ≠ 66)
def KCS (c : Int) (ν : JM) (Q : JQ) (r : (Int × Int) × ST) : Prop := ∀ ξ, CI r.2.1 r.2.2.1 r.2.2.2 (c + 1) ξ → jfr PAc ν ξ → ξ 11 0 8 = r.1.2 → Q r.1.1 ξ
def KMS (ν : JM) (Q : JQ) (r : (Int × Int) × ST) : Prop := ∀ ξ, MI r.2.1 r.2.2.1 r.2.2.2 ξ → jfr PAm ν ξ → ξ 40 0 1 = r.1.2 → Q r.1.1 ξ
theorem KCS_fin {b : BK} {A K : List BK} {c : Int} {ν ξ : JM} {Q : JQ} {r s : Int} (k : KCS c ν Q ((r, s), b, A, K)) (h : CI b A K c ξ) (hf : jfr PAc ν ξ) : Q r (jw ξ 11 0 8 s) :=
  k _ (CI_fr (CI_st h s) (by omega) (fun _ _ _ _ => rfl)) (jfr_jw hf (by omega)) (jw_eq _ _ _ _ _)
theorem KMS_fin {b : BK} {A K : List BK} {ν ξ : JM} {Q : JQ} {r s : Int} (hA : vbs A) (hK : vbs K) (k : KMS ν Q ((r, s), b, A, K)) (h : MI b A K ξ) (hf : jfr PAm ν ξ) : Q r (jw ξ 40 0 1 s) :=
  k _ (MI_st hA hK h s) (jfr_jw hf (by omega)) (jw_eq _ _ _ _ _)
theorem CI_act {b b' : BK} {A A' K K' : List BK} {c : Int} {μ ν : JM} (h : CI b A K c μ) (h1 : isC ν 0 b') (h2 : hC ν A') (h3 : kC ν K') (h9 : ν 11 0 9 = 1) (e : ∀ t y i, t = 22 ∨ t = 27 ∨ (50 ≤ t ∧ t ≤ 54) → ν t y i = μ t y i) : CI b' A' K' c ν := by
  obtain ⟨_, _, _, ⟨cp, ca, h4⟩, h5, _, _⟩ := h
  exact ⟨h1, h2, h3, ⟨cp, ca, JN_fr h4 (fun i _ => e _ _ _ (by omega)) (fun i _ _ => e _ _ _ (by omega)) (fun y => e _ _ _ (by omega)) (e _ _ _ (by omega)) (e _ _ _ (by omega))⟩, by rw [e _ _ _ (by omega)]; exact h5, Or.inr h9, fun h => by omega⟩
theorem MI_act {b' : BK} {A' K' : List BK} {ν : JM} (h1 : isM ν b') (h2 : hM ν A') (h3 : kM ν K') (h12 : ν 40 0 12 = 0) : MI b' A' K' ν := ⟨h1, h2, h3, Or.inl h12, fun h => absurd h12 h⟩
abbrev PBa : Nat → Int → Int → Prop := fun t y i => (t = 11 ∧ y = 0 ∧ i = 9) ∨ (t = 21 ∧ (i = 2 ∨ i = 3)) ∨ ((12 ≤ t ∧ t ≤ 17) ∧ 6 ≤ y ∧ y < 16)
theorem c_beginAct {d : Nat} {b : BK} {A K : List BK} {c : Int} {ν : JM} {Q : JQ} (hV : VS b A K) (h : CI b A K c ν) (k : ∀ ξ, isC ξ 0 b → hC ξ (keep b A) → kC ξ K → ξ 11 0 9 = 1 → jfr PBa ν ξ → Q 0 ξ) : wp true (d + 2) 178 0 [(11, 0)] [] ν Q := by
  refine s_X10_beginAct_0 (d + 1) _ _ (c_keepAct h.1 hV.1 h.2.1 (fun ξ hf hh => ⟨by omega, by omega, ?_⟩))
  have e : ∀ t y i, ¬ (t = 11 ∧ y = 0 ∧ i = 9) → jw ξ 11 0 9 1 t y i = ξ t y i := fun t y i h => by
    unfold jw
    rw [if_neg (by omega)]
  exact k _ (isC_fr h.1 (fun t _ _ i => by rw [e _ _ _ (by omega), hf _ _ _ (by omega)])) (hC_fr hh (fun t x i h => e _ _ _ (by omega))) (kC_fr h.2.2.1 (fun t x i h => by rw [e _ _ _ (by omega), hf _ _ _ (by omega)])) (jw_eq _ _ _ _ _) (jfr_jw (jfr_mono hf (fun t y i h => by omega)) (by omega))
theorem m_actd {d : Nat} {b : BK} {A K : List BK} {ν : JM} {Q : JQ} (hV : VS b A K) (h : MI b A K ν) (k : ∀ ξ, isM ξ b → hM ξ (keep b A) → kM ξ K → ξ 40 0 12 = 0 → jfr PHm ν ξ → Q 0 ξ) : wp true (d + 1) 207 0 [(40, 0), (9, 0)] [] ν Q :=
  m_acted h.1 hV.1 h.2.1 hV.2.1 (fun ξ hf h2 h12 => k ξ (isF_fr h.1 (vb_m hV.1).2 (fun i _ _ => hf _ _ _ (by omega))) h2 (kM_fr hV.2.2 h.2.2.1 (fun t x i h => hf _ _ _ (by omega))) h12 hf)
theorem vbs_keep {b : BK} {A : List BK} (hv : vb b) (hA : vbs A) : vbs (keep b A) := fun x hx => by
  have := List.mem_of_mem_take hx
  rcases List.mem_cons.mp this with rfl | h
  · exact hv
  · exact hA x h
/-- a book in which one number is another -/
def pone (b : BK) (j0 : Nat) (i0 v : Int) : BK := fun j i => if j = j0 ∧ i = i0 then v else b j i
theorem pone_ne {b : BK} {j0 : Nat} {i0 v : Int} {j : Nat} {i : Int} (h : ¬ (j = j0 ∧ i = i0)) : pone b j0 i0 v j i = b j i := if_neg h
theorem pone_eq {b : BK} {j0 : Nat} {i0 v : Int} : pone b j0 i0 v j0 i0 = v := if_pos ⟨rfl, rfl⟩
theorem isC_one {μ ν : JM} {x : Int} {b : BK} {j0 t0 : Nat} {i0 x0 v : Int} (H : (j0 = 5 ∧ i0 = 0 ∧ t0 = 12 ∧ x0 = 0) ∨ (j0 = 5 ∧ i0 = 2 ∧ t0 = 12 ∧ x0 = 1) ∨ (j0 = 4 ∧ (0 ≤ i0 ∧ i0 < 4) ∧ t0 = 17 ∧ x0 = i0)) (h : isC μ x b) (h0 : ν t0 x x0 = v) (e : ∀ t, 12 ≤ t → t ≤ 17 → ∀ i, ¬ (t = t0 ∧ i = x0) → ν t x i = μ t x i) : isC ν x (pone b j0 i0 v) := by
  refine ⟨?_, ?_, ?_, fun k k0 k1 => ?_, fun t t0 t1 => ?_⟩
  · by_cases hc : j0 = 5 ∧ i0 = 0
    · obtain ⟨rfl, rfl⟩ := hc
      obtain ⟨rfl, rfl⟩ : t0 = 12 ∧ x0 = 0 := by omega
      rw [h0]
      exact pone_eq.symm
    · rw [e 12 (by omega) (by omega) _ (by omega), pone_ne (by omega)]
      exact isC_n h
  · rw [e 12 (by omega) (by omega) _ (by omega), pone_ne (by omega)]
    exact isC_m h
  · by_cases hc : j0 = 5 ∧ i0 = 2
    · obtain ⟨rfl, rfl⟩ := hc
      obtain ⟨rfl, rfl⟩ : t0 = 12 ∧ x0 = 1 := by omega
      rw [h0]
      exact pone_eq.symm
    · rw [e 12 (by omega) (by omega) _ (by omega), pone_ne (by omega)]
      exact isC_tr h
  · by_cases hc : j0 = 4 ∧ i0 = k
    · obtain ⟨rfl, rfl⟩ := hc
      obtain ⟨rfl, rfl⟩ : t0 = 17 ∧ x0 = i0 := by omega
      rw [h0]
      exact pone_eq.symm
    · rw [e 17 (by omega) (by omega) _ (by omega), pone_ne (by omega)]
      exact isC_b h k0 k1
  · rw [pone_ne (by omega)] at t1
    rw [e 13 (by omega) (by omega) _ (by omega), e 14 (by omega) (by omega) _ (by omega), e 15 (by omega) (by omega) _ (by omega), e 16 (by omega) (by omega) _ (by omega), pone_ne (by omega), pone_ne (by omega), pone_ne (by omega), pone_ne (by omega)]
    exact isC_t h t0 t1
theorem isM_one {μ ν : JM} {b : BK} {j0 : Nat} {i0 x0 v : Int} (H : (j0 = 5 ∧ i0 = 0 ∧ x0 = 0) ∨ (j0 = 5 ∧ i0 = 2 ∧ x0 = 2) ∨ (j0 = 4 ∧ (0 ≤ i0 ∧ i0 < 4) ∧ x0 = 3 + i0)) (h : isM μ b) (h0 : ν 41 0 x0 = v) (e : ∀ i, ¬ i = x0 → ν 41 0 i = μ 41 0 i) : isM ν (pone b j0 i0 v) := by
  refine ⟨?_, ?_, ?_, fun k k0 k1 => ?_, fun t t0 t1 => ?_⟩
  · by_cases hc : j0 = 5 ∧ i0 = 0
    · obtain ⟨rfl, rfl⟩ := hc
      obtain rfl : x0 = 0 := by omega
      rw [h0]
      exact pone_eq.symm
    · rw [e _ (by omega), pone_ne (by omega)]
      exact isM_n h
  · rw [e _ (by omega), pone_ne (by omega)]
    exact isM_m h
  · by_cases hc : j0 = 5 ∧ i0 = 2
    · obtain ⟨rfl, rfl⟩ := hc
      obtain rfl : x0 = 2 := by omega
      rw [h0]
      exact pone_eq.symm
    · rw [e _ (by omega), pone_ne (by omega)]
      exact isM_tr h
  · by_cases hc : j0 = 4 ∧ i0 = k
    · obtain ⟨rfl, rfl⟩ := hc
      obtain rfl : x0 = 3 + i0 := by omega
      rw [h0]
      exact pone_eq.symm
    · rw [e _ (by omega), pone_ne (by omega)]
      exact isM_b h k0 k1
  · rw [pone_ne (by omega)] at t1
    rw [e _ (by omega), e _ (by omega), e _ (by omega), e _ (by omega), pone_ne (by omega), pone_ne (by omega), pone_ne (by omega), pone_ne (by omega)]
    exact isM_t h t0 t1
/-- add -/
def aAdd (b : BK) (A K : List BK) : (Int × Int) × ST := if b 5 0 = 12 then ((-1, 3), b, A, K) else ((b 5 0, 0), pone b 5 0 (b 5 0 + 1), keep b A, K)
theorem vb_add {b : BK} (hv : vb b) (h : b 5 0 ≠ 12) : vb (pone b 5 0 (b 5 0 + 1)) := by
  have hn := vb_n hv
  unfold vb
  rw [pone_eq, pone_ne (j := 5) (i := 1) (by omega), pone_ne (j := 5) (i := 2) (by omega), pone_ne (j := 4) (i := 0) (by omega), pone_ne (j := 4) (i := 1) (by omega), pone_ne (j := 4) (i := 2) (by omega), pone_ne (j := 4) (i := 3) (by omega)]
  refine ⟨by omega, vb_m hv, vb_tr hv, vb_w hv, vb_lo hv, vb_ls hv, vb_ga hv, fun t t0 t1 => ?_, fun s t s0 st t1 => ?_⟩
  · have q := vb_t hv t0 t1
    rw [pone_ne (j := 0) (by omega), pone_ne (j := 1) (by omega), pone_ne (j := 2) (by omega), pone_ne (j := 3) (by omega)]
    omega
  · rw [pone_ne (j := 2) (by omega), pone_ne (j := 2) (by omega)]
    exact vb_so hv s0 st t1
abbrev VT (s : ST) : Prop := VS s.1 s.2.1 s.2.2
theorem v_add {b : BK} {A K : List BK} (hV : VS b A K) : VT (aAdd b A K).2 := by
  unfold aAdd
  split
  · exact hV
  · exact ⟨vb_add hV.1 (by assumption), vbs_keep hV.1 hV.2.1, hV.2.2⟩
theorem c_add {d : Nat} {b : BK} {A K : List BK} {c : Int} {ν : JM} {Q : JQ} (hV : VS b A K) (h : CI b A K c ν) (k : KCS c ν Q (aAdd b A K)) : wp true (d + 14) 136 0 [(11, 0)] [] ν Q := by
  have hn := vb_n hV.1
  unfold aAdd at k
  refine s_X10_add_0 (d + 13) _ _ ?_
  rw [isC_n h.1]
  refine ⟨⟨⟨by omega, by omega⟩, ⟨by omega, by omega⟩⟩, fun hlt => ?_, fun hge => ?_⟩
  · rw [if_neg (by omega)] at k
    refine c_beginAct (d := d + 11) hV h (fun ξ h1 h2 h3 h9 hf => ?_)
    rw [jw_eq, isC_n h1, Int.add_sub_cancel]
    have e : ∀ t y i, ¬ (t = 12 ∧ y = 0 ∧ i = 0) → jw ξ 12 0 0 (b 5 0 + 1) t y i = ξ t y i := fun t y i h => by
      unfold jw
      rw [if_neg (by omega)]
    exact KCS_fin k (CI_act h (isC_one (x0 := 0) (Or.inl ⟨rfl, rfl, rfl, rfl⟩) h1 (jw_eq _ _ _ _ _) (fun t _ _ i hh => e _ _ _ (by omega))) (hC_fr h2 (fun t x i h => e _ _ _ (by omega))) (kC_fr h3 (fun t x i h => e _ _ _ (by omega))) ((e _ _ _ (by omega)).trans h9) (fun t y i h => by rw [e _ _ _ (by omega), hf _ _ _ (by omega)])) (jfr_jw (jfr_mono hf (fun t y i h => by omega)) (by omega))
  · rw [if_pos (by omega)] at k
    exact KCS_fin k h (jfr_refl _ _)
theorem m_add {d : Nat} {b : BK} {A K : List BK} {ν : JM} {Q : JQ} (hV : VS b A K) (h : MI b A K ν) (k : KMS ν Q (aAdd b A K)) : wp true (d + 13) 210 0 [(40, 0)] [] ν Q := by
  have hn := vb_n hV.1
  unfold aAdd at k
  refine s_X11_add_0 (d + 12) _ _ ?_
  rw [isM_n h.1]
  refine ⟨by omega, by omega, Or.inr ⟨⟨by omega, by omega⟩, ⟨by omega, by omega⟩⟩, fun hlt => ?_, fun hge => ?_⟩
  · rw [if_neg hlt] at k
    refine m_actd (d := d + 11) hV h (fun ξ h1 h2 h3 h12 hf => ⟨by omega, by omega, by omega, by omega, by omega, by omega, ?_⟩)
    have hk := vbs_keep hV.1 hV.2.1
    rw [jw_eq, isM_n h1, Int.add_sub_cancel]
    have e : ∀ t y i, ¬ (t = 41 ∧ y = 0 ∧ i = 0) → jw ξ 41 0 0 (b 5 0 + 1) t y i = ξ t y i := fun t y i h => by
      unfold jw
      rw [if_neg (by omega)]
    exact KMS_fin hk hV.2.2 k (MI_act (isM_one (x0 := 0) (Or.inl ⟨rfl, rfl, rfl⟩) h1 (jw_eq _ _ _ _ _) (fun i hh => e _ _ _ (by omega))) (hM_fr hk h2 (fun t x i h => e _ _ _ (by omega))) (kM_fr hV.2.2 h3 (fun t x i h => e _ _ _ (by omega))) ((e _ _ _ (by omega)).trans h12)) (jfr_jw (jfr_mono hf (fun t y i h => by omega)) (by omega))
  · rw [if_pos (by omega)] at k
    exact KMS_fin hV.2.1 hV.2.2 k h (jfr_refl _ _)
/-- pay -/
def pwhy (b : BK) (f t a w : Int) : Int := if ¬ (1 ≤ a ∧ a ≤ 9999) ∨ ¬ (0 ≤ w ∧ w ≤ 9999) then 1 else if ¬ (0 ≤ f ∧ f < b 5 0) ∨ ¬ (0 ≤ t ∧ t < b 5 0) then 2 else if b 5 1 = 32 then 3 else if f = t then 6 else 0
theorem pwhy_in (b : BK) (f t a w : Int) : 0 ≤ pwhy b f t a w ∧ pwhy b f t a w ≤ 6 := by
  unfold pwhy
  repeat' split
  all_goals omega
theorem pwhy_0 {b : BK} (hv : vb b) {f t a w : Int} (h : pwhy b f t a w = 0) : (1 ≤ a ∧ a ≤ 9999) ∧ (0 ≤ w ∧ w ≤ 9999) ∧ (0 ≤ f ∧ f < b 5 0) ∧ (0 ≤ t ∧ t < b 5 0) ∧ b 5 1 < 32 ∧ f ≠ t := by
  have hm := vb_m hv
  unfold pwhy at h
  repeat' split at h
  all_goals omega
theorem c_why {d : Nat} {b : BK} {ν : JM} {Q : JQ} {f t a w : Int} (hC : isC ν 0 b) (hv : vb b) (hf : inR f) (ht : inR t) (ha : inR a) (hw : inR w) (k : Q (pwhy b f t a w) ν) : wp true (d + 2) 180 0 [(11, 0), (0, f), (0, t), (0, a), (0, w)] [] ν Q := by
  have hm := vb_m hv
  unfold pwhy at k
  refine s_X10_whyNoTransfer_0 (d + 1) _ _ _ _ _ _ (w_outside ha ⟨by omega, by omega⟩ ⟨by omega, by omega⟩ (fun a0 a1 => ⟨by decide, fun h => absurd rfl h, fun _ => ?_⟩) (fun a2 => ⟨by decide, fun _ => ?_, fun h => absurd (by decide) h⟩))
  · refine w_notTime hw (fun w0 w1 => ⟨by decide, fun _ => ?_, fun h => absurd rfl h⟩) (fun w2 => ⟨by decide, fun h => absurd h (by decide), fun _ => ?_⟩)
    · rw [if_neg (by omega)] at k
      refine w_hasAccount hC hv hf (fun f0 f1 => ⟨by decide, fun h => absurd h (by decide), fun _ => ?_⟩) (fun f2 => ⟨by decide, fun _ => ?_, fun h => absurd rfl h⟩)
      · refine w_hasAccount hC hv ht (fun t0 t1 => ⟨by decide, fun _ => ?_, fun h => absurd (by decide) h⟩) (fun t2 => ⟨by decide, fun h => absurd rfl h, fun _ => ?_⟩)
        · rw [if_neg (by omega)] at k
          rw [isC_m hC]
          refine ⟨⟨⟨by omega, by omega⟩, ⟨by omega, by omega⟩⟩, fun hlt => ⟨Or.inr ⟨hf, ht⟩, fun hne => ?_, fun he => ?_⟩, fun hge => ?_⟩
          · rw [if_neg (by omega), if_neg hne] at k
            exact k
          · rw [if_neg (by omega), if_pos (by omega)] at k
            exact k
          · rw [if_pos (by omega)] at k
            exact k
        · rw [if_pos (Or.inr t2)] at k
          exact k
      · rw [if_pos (Or.inl f2)] at k
        exact k
    · rw [if_pos (Or.inr w2)] at k
      exact k
  · rw [if_pos (Or.inl a2)] at k
    exact k
theorem m_why {d : Nat} {b : BK} {ν : JM} {Q : JQ} {f t a w : Int} (hM : isM ν b) (hv : vb b) (hf : inR f) (ht : inR t) (ha : inR a) (hw : inR w) (k : Q (pwhy b f t a w) ν) : wp true (d + 2) 211 0 [(40, 0), (0, f), (0, t), (0, a), (0, w)] [] ν Q := by
  have hm := vb_m hv
  unfold pwhy at k
  refine s_X11_wrongPay_0 (d + 1) _ _ _ _ _ _ (w_isFrom ha ⟨by omega, by omega⟩ ⟨by omega, by omega⟩ (fun a0 a1 => ⟨by decide, fun h => absurd h (by decide), fun _ => ?_⟩) (fun a2 => ⟨by decide, fun _ => ?_, fun h => absurd rfl h⟩))
  · refine w_isFrom hw ⟨by omega, by omega⟩ ⟨by omega, by omega⟩ (fun w0 w1 => ⟨by decide, fun _ => ?_, fun h => absurd (by decide) h⟩) (fun w2 => ⟨by decide, fun h => absurd rfl h, fun _ => ?_⟩)
    · rw [if_neg (by omega)] at k
      refine w_isAccount hM hv hf (fun f0 f1 => ⟨by decide, fun h => absurd h (by decide), fun _ => ?_⟩) (fun f2 => ⟨by decide, fun _ => ?_, fun h => absurd rfl h⟩)
      · refine w_isAccount hM hv ht (fun t0 t1 => ⟨by decide, fun _ => ?_, fun h => absurd (by decide) h⟩) (fun t2 => ⟨by decide, fun h => absurd rfl h, fun _ => ?_⟩)
        · rw [if_neg (by omega)] at k
          rw [isM_m hM]
          refine ⟨by omega, by omega, Or.inr ⟨⟨by omega, by omega⟩, ⟨by omega, by omega⟩⟩, fun hne => ⟨Or.inr ⟨hf, ht⟩, fun hne2 => ?_, fun he => ?_⟩, fun hge => ?_⟩
          · rw [if_neg hne, if_neg hne2] at k
            exact k
          · rw [if_neg hne, if_pos (by omega)] at k
            exact k
          · rw [if_pos (by omega)] at k
            exact k
        · rw [if_pos (Or.inr t2)] at k
          exact k
      · rw [if_pos (Or.inl f2)] at k
        exact k
    · rw [if_pos (Or.inr w2)] at k
      exact k
  · rw [if_pos (Or.inl a2)] at k
    exact k
def aPay (b : BK) (A K : List BK) (f t a w : Int) : (Int × Int) × ST := if pwhy b f t a w = 0 then ((pdn b w (nm b), 0), pins b (pdn b w (nm b)) f t a w, keep b A, K) else ((-1, pwhy b f t a w), b, A, K)
theorem v_pay {b : BK} {A K : List BK} {f t a w : Int} (hV : VS b A K) : VT (aPay b A K f t a w).2 := by
  unfold aPay
  split
  · rename_i h0
    obtain ⟨h1, h2, h3, h4, h5, h6⟩ := pwhy_0 hV.1 h0
    exact ⟨vb_pins hV.1 h5 h3 h4 h6 h1 h2, vbs_keep hV.1 hV.2.1, hV.2.2⟩
  · exact hV
theorem c_pay {d : Nat} {b : BK} {A K : List BK} {c : Int} {ν : JM} {Q : JQ} (hV : VS b A K) (h : CI b A K c ν) {f t a w : Int} (hf : inR f) (ht : inR t) (ha : inR a) (hw : inR w) (k : KCS c ν Q (aPay b A K f t a w)) : wp true (d + 14) 137 0 [(11, 0), (0, f), (0, t), (0, a), (0, w), (9, 0)] [] ν Q := by
  have p := pwhy_in b f t a w
  unfold aPay at k
  refine s_X10_pay_0 (d + 13) _ _ _ _ _ _ (c_why (d := d + 11) h.1 hV.1 hf ht ha hw ⟨Or.inr ⟨⟨by omega, by omega⟩, ⟨by omega, by omega⟩⟩, fun h0 => ?_, fun h0 => ?_⟩)
  · rw [if_pos h0] at k
    have q := pwhy_0 hV.1 h0
    refine c_beginAct (d := d + 11) hV h (fun ξ h1 h2 h3 h9 hf1 => c_insert (d := d + 12) h1 hV.1 q.2.2.2.2.1 hw (fun ζ hf2 h4 => ?_))
    exact KCS_fin k (CI_act h h4 (hC_fr h2 (fun t x i h => hf2 _ _ _ (by omega))) (kC_fr h3 (fun t x i h => hf2 _ _ _ (by omega))) ((hf2 _ _ _ (by omega)).trans h9) (fun t y i h => by rw [hf2 _ _ _ (by omega), hf1 _ _ _ (by omega)])) (jfr_trans (jfr_mono hf1 (fun t y i h => by omega)) (jfr_mono hf2 (fun t y i h => by omega)))
  · rw [if_neg h0] at k
    exact KCS_fin k h (jfr_refl _ _)
theorem m_pay {d : Nat} {b : BK} {A K : List BK} {ν : JM} {Q : JQ} (hV : VS b A K) (h : MI b A K ν) {f t a w : Int} (hf : inR f) (ht : inR t) (ha : inR a) (hw : inR w) (k : KMS ν Q (aPay b A K f t a w)) : wp true (d + 13) 212 0 [(40, 0), (0, f), (0, t), (0, a), (0, w), (9, 0)] [] ν Q := by
  have p := pwhy_in b f t a w
  have hk := vbs_keep hV.1 hV.2.1
  unfold aPay at k
  refine s_X11_pay_0 (d + 12) _ _ _ _ _ _ (m_why (d := d + 10) h.1 hV.1 hf ht ha hw ⟨⟨⟨by omega, by omega⟩, ⟨by omega, by omega⟩⟩, fun h0 => ?_, fun h0 => ?_⟩)
  · rw [if_pos (by omega)] at k
    have q := pwhy_0 hV.1 (f := f) (t := t) (a := a) (w := w) (by omega)
    refine m_actd (d := d + 11) hV h (fun ξ h1 h2 h3 h12 hf1 => m_comes (d := d + 9) h1 hV.1 q.2.2.2.2.1 hw (fun ζ hf2 h4 h5 => ?_))
    exact KMS_fin hk hV.2.2 k (MI_act h4 (hM_fr hk h2 (fun t x i h => hf2 _ _ _ (by omega))) (kM_fr hV.2.2 h3 (fun t x i h => hf2 _ _ _ (by omega))) h5) (jfr_trans (jfr_mono hf1 (fun t y i h => by omega)) (jfr_mono hf2 (fun t y i h => by omega)))
  · rw [if_neg (by omega)] at k
    exact KMS_fin hV.2.1 hV.2.2 k h (jfr_refl _ _)
/-- strike -/
def aStrike (b : BK) (A K : List BK) (t : Int) : (Int × Int) × ST := if t < 0 then ((-1, 1), b, A, K) else if ¬ t < b 5 1 then ((-1, 5), b, A, K) else ((b 5 1 - 1, 0), prem b t, keep b A, K)
theorem v_strike {b : BK} {A K : List BK} {t : Int} (hV : VS b A K) : VT (aStrike b A K t).2 := by
  unfold aStrike
  split
  · exact hV
  · split
    · exact hV
    · exact ⟨vb_prem hV.1 ⟨by omega, by omega⟩, vbs_keep hV.1 hV.2.1, hV.2.2⟩
theorem c_strike {d : Nat} {b : BK} {A K : List BK} {c : Int} {ν : JM} {Q : JQ} (hV : VS b A K) (h : CI b A K c ν) {t : Int} (ht : inR t) (k : KCS c ν Q (aStrike b A K t)) : wp true (d + 14) 138 0 [(11, 0), (0, t)] [] ν Q := by
  unfold aStrike at k
  refine s_X10_strike_0 (d + 13) _ _ _ ⟨⟨ht, ⟨by omega, by omega⟩⟩, fun h0 => w_hasTransfer h.1 hV.1 ht (fun t0 t1 => ⟨by decide, fun _ => ?_, fun h => absurd (by decide) h⟩) (fun t2 => ⟨by decide, fun h => absurd rfl h, fun _ => ?_⟩), fun h0 => ?_⟩
  · rw [if_neg (by omega), if_neg (by omega)] at k
    refine c_beginAct (d := d + 11) hV h (fun ξ h1 h2 h3 h9 hf1 => c_removeAt (d := d + 12) h1 hV.1 t0 t1 (fun ζ hf2 h4 => ?_))
    rw [isC_m h4, show prem b t 5 1 = b 5 1 - 1 from rfl]
    exact KCS_fin k (CI_act h h4 (hC_fr h2 (fun t x i h => hf2 _ _ _ (by omega))) (kC_fr h3 (fun t x i h => hf2 _ _ _ (by omega))) ((hf2 _ _ _ (by omega)).trans h9) (fun t y i h => by rw [hf2 _ _ _ (by omega), hf1 _ _ _ (by omega)])) (jfr_trans (jfr_mono hf1 (fun t y i h => by omega)) (jfr_mono hf2 (fun t y i h => by omega)))
  · rw [if_neg (by omega), if_pos (by omega)] at k
    exact KCS_fin k h (jfr_refl _ _)
  · rw [if_pos (by omega)] at k
    exact KCS_fin k h (jfr_refl _ _)
theorem m_strike {d : Nat} {b : BK} {A K : List BK} {ν : JM} {Q : JQ} (hV : VS b A K) (h : MI b A K ν) {t : Int} (ht : inR t) (k : KMS ν Q (aStrike b A K t)) : wp true (d + 13) 213 0 [(40, 0), (0, t)] [] ν Q := by
  unfold aStrike at k
  have hk := vbs_keep hV.1 hV.2.1
  refine s_X11_strike_0 (d + 12) _ _ _ ⟨⟨ht, ⟨by omega, by omega⟩⟩, fun h0 => w_isTransfer h.1 hV.1 ht (fun t0 t1 => ⟨by decide, fun _ => ?_, fun h => absurd (by decide) h⟩) (fun t2 => ⟨by decide, fun h => absurd rfl h, fun _ => ?_⟩), fun h0 => ?_⟩
  · rw [if_neg (by omega), if_neg (by omega)] at k
    refine m_actd (d := d + 11) hV h (fun ξ h1 h2 h3 h12 hf1 => m_goes (d := d + 10) h1 (vb_m hV.1).2 t0 t1 (fun ζ hf2 h4 h5 => ⟨by omega, by omega, ?_⟩))
    rw [isM_m h4, show prem b t 5 1 = b 5 1 - 1 from rfl]
    exact KMS_fin hk hV.2.2 k (MI_act h4 (hM_fr hk h2 (fun t x i h => hf2 _ _ _ (by omega))) (kM_fr hV.2.2 h3 (fun t x i h => hf2 _ _ _ (by omega))) h5) (jfr_trans (jfr_mono hf1 (fun t y i h => by omega)) (jfr_mono hf2 (fun t y i h => by omega)))
  · rw [if_neg (by omega), if_pos (by omega)] at k
    exact KMS_fin hV.2.1 hV.2.2 k h (jfr_refl _ _)
  · rw [if_pos (by omega)] at k
    exact KMS_fin hV.2.1 hV.2.2 k h (jfr_refl _ _)
