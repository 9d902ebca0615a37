/-! trust, bound, join, undo, mark, back -/
def aTrust (b : BK) (A K : List BK) (a r : Int) : (Int × Int) × ST := if ¬ (0 ≤ a ∧ a < b 5 0) then ((0, 2), b, A, K) else if (if bt (b 5 2) a.toNat = true then 1 else 0) = r then ((0, 4), b, A, K) else ((1, 0), pone b 5 2 (jxor (b 5 2) (jshl 1 a)), keep b A, K)
theorem vb_tog {b : BK} (hv : vb b) {a : Int} (ha : 0 ≤ a ∧ a < b 5 0) : vb (pone b 5 2 (jxor (b 5 2) (jshl 1 a))) := by
  have hn := vb_n hv
  have ht : 0 ≤ jxor (b 5 2) (jshl 1 a) ∧ jxor (b 5 2) (jshl 1 a) < 4096 := tr_of (inR_xor _ _) (fun k h1 h2 => by
    rw [bt_xor, tr_hi (vb_tr hv) h1, bt_bitz ha.1 (by omega), decide_eq_false (by omega)]
    rfl)
  unfold vb
  rw [pone_eq, pone_ne (j := 5) (i := 0) (by omega), pone_ne (j := 5) (i := 1) (by omega), pone_ne (j := 4) (i := 0) (by omega), pone_ne (j := 4) (i := 1) (by omega), pone_ne (j := 4) (i := 2) (by omega), pone_ne (j := 4) (i := 3) (by omega)]
  refine ⟨hn, vb_m hv, ht, vb_w hv, vb_lo hv, vb_ls hv, vb_ga hv, fun t t0 t1 => ?_, fun s t s0 st t1 => ?_⟩
  · rw [pone_ne (j := 0) (by omega), pone_ne (j := 1) (by omega), pone_ne (j := 2) (by omega), pone_ne (j := 3) (by omega)]
    exact vb_t hv t0 t1
  · rw [pone_ne (j := 2) (by omega), pone_ne (j := 2) (by omega)]
    exact vb_so hv s0 st t1
theorem v_trust {b : BK} {A K : List BK} {a r : Int} (hV : VS b A K) : VT (aTrust b A K a r).2 := by
  by_cases h1 : ¬ (0 ≤ a ∧ a < b 5 0)
  · rw [aTrust, if_pos h1]
    exact hV
  · by_cases h2 : (if bt (b 5 2) a.toNat = true then (1 : Int) else 0) = r
    · rw [aTrust, if_neg h1, if_pos h2]
      exact hV
    · rw [aTrust, if_neg h1, if_neg h2]
      exact ⟨vb_tog hV.1 (Decidable.byContradiction h1), vbs_keep hV.1 hV.2.1, hV.2.2⟩
theorem c_trust {d : Nat} {b : BK} {A K : List BK} {c : Int} {ν : JM} {Q : JQ} (hV : VS b A K) (h : CI b A K c ν) {a r : Int} (ha : inR a) (hr : r = 0 ∨ r = 1) (k : KCS c ν Q (aTrust b A K a r)) : wp true (d + 14) 139 0 [(11, 0), (0, a), (0, r)] [] ν Q := by
  have hn := vb_n hV.1
  have key : ∀ r2 : Int, r2 = (if bt (b 5 2) a.toNat = true then 1 else 0) → 0 ≤ a → a < b 5 0 → (r2 = r ∨ inR r2 ∧ inR r) ∧ (¬ r2 = r → wp true (d + 13) 178 0 [(11, 0)] [] ν (fun _ μ3 => (0 : Int) ≤ 1 ∧ (1 : Int) ≤ 1 ∧ Q 1 (jw (jw μ3 12 0 1 (jxor (μ3 12 0 1) (jshl 1 a))) 11 0 8 0))) ∧ (¬ (¬ r2 = r) → (0 : Int) ≤ 0 ∧ (0 : Int) ≤ 1 ∧ (0 : Int) ≤ 0 ∧ (0 : Int) ≤ 1 ∧ Q 0 (jw ν 11 0 8 4)) := by
    intro r2 e2 a0 a1
    unfold aTrust at k
    rw [if_neg (by omega), ← e2] at k
    have h01 : r2 = 0 ∨ r2 = 1 := by
      rw [e2]
      split <;> omega
    refine ⟨Or.inr ⟨⟨by omega, by omega⟩, ⟨by omega, by omega⟩⟩, fun hne => ?_, fun he => ⟨by omega, by omega, by omega, by omega, ?_⟩⟩
    · rw [if_neg hne] at k
      refine c_beginAct (d := d + 11) hV h (fun ξ h1 h2 h3 h9 hf => ⟨by omega, by omega, ?_⟩)
      rw [isC_tr h1]
      have e : ∀ t y i, ¬ (t = 12 ∧ y = 0 ∧ i = 1) → jw ξ 12 0 1 (jxor (b 5 2) (jshl 1 a)) t y i = ξ t y i := fun t y i h => by
        unfold jw
        rw [if_neg (by omega)]
      exact KCS_fin k (CI_act h (isC_one (x0 := 1) (Or.inr (Or.inl ⟨rfl, rfl, rfl, rfl⟩)) h1 (jw_eq _ _ _ _ _) (fun t _ _ i hh => e _ _ _ (by omega))) (hC_fr h2 (fun t x i h => e _ _ _ (by omega))) (kC_fr h3 (fun t x i h => e _ _ _ (by omega))) ((e _ _ _ (by omega)).trans h9) (fun t y i h => by rw [e _ _ _ (by omega), hf _ _ _ (by omega)])) (jfr_jw (jfr_mono hf (fun t y i h => by omega)) (by omega))
    · rw [if_pos (Decidable.byContradiction he)] at k
      exact KCS_fin k h (jfr_refl _ _)
  refine s_X10_trust_0 (d + 13) _ _ _ _ (w_hasAccount h.1 hV.1 ha (fun a0 a1 => ⟨by decide, fun _ => w_isTrusted h.1 ⟨a0, by omega⟩ (fun hb => key 1 (by rw [if_pos hb]) a0 a1) (fun hb => key 0 (by rw [if_neg (by rw [hb]; decide)]) a0 a1), fun h => absurd (by decide) h⟩) (fun a2 => ⟨by decide, fun h => absurd rfl h, fun _ => ⟨by omega, by omega, by omega, by omega, ?_⟩⟩))
  unfold aTrust at k
  rw [if_pos a2] at k
  exact KCS_fin k h (jfr_refl _ _)
theorem m_trust {d : Nat} {b : BK} {A K : List BK} {ν : JM} {Q : JQ} (hV : VS b A K) (h : MI b A K ν) {a r : Int} (ha : inR a) (hr : r = 0 ∨ r = 1) (k : KMS ν Q (aTrust b A K a r)) : wp true (d + 13) 214 0 [(40, 0), (0, a), (0, r)] [] ν Q := by
  have hn := vb_n hV.1
  have hk := vbs_keep hV.1 hV.2.1
  have key : ∀ r2 : Int, r2 = (if bt (b 5 2) a.toNat = true then 1 else 0) → 0 ≤ a → a < b 5 0 → (r2 = r ∨ inR r2 ∧ inR r) ∧ (¬ r2 = r → wp true (d + 12) 207 0 [(40, 0), (9, 0)] [] ν (fun _ μ3 => (0 : Int) ≤ 2 ∧ (2 : Int) < 2040 ∧ (0 : Int) ≤ 2 ∧ (2 : Int) < 2040 ∧ wp true (d + 12) 191 0 [(40, 0), (0, 0)] [] (jw μ3 41 0 2 (jxor (μ3 41 0 2) (jshl 1 a))) (fun r4 μ4 => 0 ≤ r4 ∧ r4 ≤ 1 ∧ Q r4 μ4))) ∧ (¬ (¬ r2 = r) → wp true (d + 12) 191 0 [(40, 0), (0, 4)] [] ν (fun r5 μ5 => 0 ≤ r5 ∧ r5 ≤ 1 ∧ Q r5 μ5)) := by
    intro r2 e2 a0 a1
    unfold aTrust at k
    rw [if_neg (by omega), ← e2] at k
    have h01 : r2 = 0 ∨ r2 = 1 := by
      rw [e2]
      split <;> omega
    refine ⟨Or.inr ⟨⟨by omega, by omega⟩, ⟨by omega, by omega⟩⟩, fun hne => ?_, fun he => w_isSo ⟨by omega, by omega⟩ (fun h => absurd h (by decide)) (fun _ => ⟨by omega, by omega, ?_⟩)⟩
    · rw [if_neg hne] at k
      refine m_actd (d := d + 11) hV h (fun ξ h1 h2 h3 h12 hf => ⟨by omega, by omega, by omega, by omega, ?_⟩)
      rw [isM_tr h1]
      have e : ∀ t y i, ¬ (t = 41 ∧ y = 0 ∧ i = 2) → jw ξ 41 0 2 (jxor (b 5 2) (jshl 1 a)) t y i = ξ t y i := fun t y i h => by
        unfold jw
        rw [if_neg (by omega)]
      refine w_isSo ⟨by omega, by omega⟩ (fun _ => ⟨by omega, by omega, ?_⟩) (fun h => absurd rfl h)
      exact KMS_fin hk hV.2.2 k (MI_act (isM_one (x0 := 2) (Or.inr (Or.inl ⟨rfl, rfl, rfl⟩)) h1 (jw_eq _ _ _ _ _) (fun i hh => e _ _ _ (by omega))) (hM_fr hk h2 (fun t x i h => e _ _ _ (by omega))) (kM_fr hV.2.2 h3 (fun t x i h => e _ _ _ (by omega))) ((e _ _ _ (by omega)).trans h12)) (jfr_jw (jfr_mono hf (fun t y i h => by omega)) (by omega))
    · rw [if_pos (Decidable.byContradiction he)] at k
      exact KMS_fin hV.2.1 hV.2.2 k h (jfr_refl _ _)
  refine s_X11_trust_0 (d + 12) _ _ _ _ (w_isAccount h.1 hV.1 ha (fun a0 a1 => ⟨by decide, fun _ => ⟨by omega, by omega, ?_⟩, fun h => absurd (by decide) h⟩) (fun a2 => ⟨by decide, fun h => absurd rfl h, fun _ => w_isSo ⟨by omega, by omega⟩ (fun h => absurd h (by decide)) (fun _ => ⟨by omega, by omega, ?_⟩)⟩))
  · rw [isM_tr h.1]
    exact w_has ⟨a0, by omega⟩ (fun hb => key 1 (by rw [if_pos hb]) a0 a1) (fun hb => key 0 (by rw [if_neg (by rw [hb]; decide)]) a0 a1)
  · unfold aTrust at k
    rw [if_pos a2] at k
    exact KMS_fin hV.2.1 hV.2.2 k h (jfr_refl _ _)
/-- bound -/
def aBound (b : BK) (A K : List BK) (w v : Int) : (Int × Int) × ST := if ¬ pbound w v then ((-1, 1), b, A, K) else if b 4 w = v then ((-1, 4), b, A, K) else ((b 4 w, 0), pone b 4 w v, keep b A, K)
theorem vb_bound {b : BK} (hv : vb b) {w v : Int} (h : pbound w v) : vb (pone b 4 w v) := by
  have h4 : w = 0 ∨ w = 1 ∨ w = 2 ∨ w = 3 := by omega
  have hw := vb_w hv
  have hl := vb_lo hv
  have hs := vb_ls hv
  have hg := vb_ga hv
  have rest : (∀ t, 0 ≤ t → t < pone b 4 w v 5 1 → (0 ≤ pone b 4 w v 0 t ∧ pone b 4 w v 0 t < pone b 4 w v 5 0) ∧ (0 ≤ pone b 4 w v 1 t ∧ pone b 4 w v 1 t < pone b 4 w v 5 0) ∧ pone b 4 w v 0 t ≠ pone b 4 w v 1 t ∧ (0 ≤ pone b 4 w v 2 t ∧ pone b 4 w v 2 t ≤ 9999) ∧ (1 ≤ pone b 4 w v 3 t ∧ pone b 4 w v 3 t ≤ 9999)) ∧ ∀ s t, 0 ≤ s → s ≤ t → t < pone b 4 w v 5 1 → pone b 4 w v 2 s ≤ pone b 4 w v 2 t := by
    rw [pone_ne (j := 5) (by omega)]
    refine ⟨fun t t0 t1 => ?_, fun s t s0 st t1 => ?_⟩
    · rw [pone_ne (j := 0) (by omega), pone_ne (j := 1) (by omega), pone_ne (j := 2) (by omega), pone_ne (j := 3) (by omega), pone_ne (j := 5) (by omega)]
      exact vb_t hv t0 t1
    · rw [pone_ne (j := 2) (by omega), pone_ne (j := 2) (by omega)]
      exact vb_so hv s0 st t1
  refine ⟨?_, ?_, ?_, ?_, ?_, ?_, ?_, rest⟩
  · rw [pone_ne (by omega)]
    exact vb_n hv
  · rw [pone_ne (by omega)]
    exact vb_m hv
  · rw [pone_ne (by omega)]
    exact vb_tr hv
  · unfold pone
    split <;> omega
  · unfold pone
    split <;> omega
  · unfold pone
    split <;> omega
  · unfold pone
    split <;> omega
theorem v_bound {b : BK} {A K : List BK} {w v : Int} (hV : VS b A K) : VT (aBound b A K w v).2 := by
  by_cases h1 : pbound w v
  · by_cases h2 : b 4 w = v
    · rw [aBound, if_neg (fun h => h h1), if_pos h2]
      exact hV
    · rw [aBound, if_neg (fun h => h h1), if_neg h2]
      exact ⟨vb_bound hV.1 h1, vbs_keep hV.1 hV.2.1, hV.2.2⟩
  · rw [aBound, if_pos h1]
    exact hV
theorem b4_in {b : BK} (hv : vb b) {w : Int} (h : 0 ≤ w ∧ w < 4) : 0 ≤ b 4 w ∧ b 4 w ≤ 9999 := by
  have h4 : w = 0 ∨ w = 1 ∨ w = 2 ∨ w = 3 := by omega
  have hw := vb_w hv
  have hl := vb_lo hv
  have hs := vb_ls hv
  have hg := vb_ga hv
  rcases h4 with rfl | rfl | rfl | rfl <;> omega
theorem c_bound {d : Nat} {b : BK} {A K : List BK} {c : Int} {ν : JM} {Q : JQ} (hV : VS b A K) (h : CI b A K c ν) {w v : Int} (hw : inR w) (hv2 : inR v) (k : KCS c ν Q (aBound b A K w v)) : wp true (d + 14) 140 0 [(11, 0), (0, w), (0, v), (9, 0)] [] ν Q := by
  unfold aBound at k
  refine s_X10_bound_0 (d + 13) _ _ _ _ (w_boundCanBe hw hv2 (fun hp => ⟨by decide, fun _ => ?_, fun h => absurd (by decide) h⟩) (fun hp => ⟨by decide, fun h => absurd rfl h, fun _ => ?_⟩))
  · rw [if_neg (fun h => h hp)] at k
    have h4 : 0 ≤ w ∧ w < 4 := by omega
    have b4 := b4_in hV.1 h4
    rw [isC_b h.1 h4.1 h4.2]
    refine ⟨h4.1, h4.2, Or.inr ⟨⟨by omega, by omega⟩, hv2⟩, fun hne => ?_, fun he => ?_⟩
    · rw [if_neg hne] at k
      refine c_beginAct (d := d + 11) hV h (fun ξ h1 h2 h3 h9 hf => ⟨h4.1, h4.2, ?_⟩)
      have e : ∀ t y i, ¬ (t = 17 ∧ y = 0 ∧ i = w) → jw ξ 17 0 w v t y i = ξ t y i := fun t y i h => by
        unfold jw
        rw [if_neg (by omega)]
      exact KCS_fin k (CI_act h (isC_one (x0 := w) (Or.inr (Or.inr ⟨rfl, h4, rfl, rfl⟩)) h1 (jw_eq _ _ _ _ _) (fun t _ _ i hh => e _ _ _ (by omega))) (hC_fr h2 (fun t x i h => e _ _ _ (by omega))) (kC_fr h3 (fun t x i h => e _ _ _ (by omega))) ((e _ _ _ (by omega)).trans h9) (fun t y i h => by rw [e _ _ _ (by omega), hf _ _ _ (by omega)])) (jfr_jw (jfr_mono hf (fun t y i h => by omega)) (by omega))
    · rw [if_pos (Decidable.byContradiction he)] at k
      exact KCS_fin k h (jfr_refl _ _)
  · rw [if_pos hp] at k
    exact KCS_fin k h (jfr_refl _ _)
theorem m_bound {d : Nat} {b : BK} {A K : List BK} {ν : JM} {Q : JQ} (hV : VS b A K) (h : MI b A K ν) {w v : Int} (hw : inR w) (hv2 : inR v) (k : KMS ν Q (aBound b A K w v)) : wp true (d + 14) 216 0 [(40, 0), (0, w), (0, v), (9, 0)] [] ν Q := by
  unfold aBound at k
  have hk := vbs_keep hV.1 hV.2.1
  refine s_X11_bound_0 (d + 12) _ _ _ _ (w_isBound (d := d + 12) hw hv2 (fun hp => ⟨by decide, fun _ => ?_, fun h => absurd (by decide) h⟩) (fun hp => ⟨by decide, fun h => absurd rfl h, fun _ => ?_⟩))
  · rw [if_neg (fun h => h hp)] at k
    have h4 : 0 ≤ w ∧ w < 4 := by omega
    have b4 := b4_in hV.1 h4
    rw [isM_b h.1 h4.1 h4.2]
    refine ⟨by omega, by omega, Or.inr ⟨⟨by omega, by omega⟩, hv2⟩, fun hne => ?_, fun he => ?_⟩
    · rw [if_neg hne] at k
      refine m_actd (d := d + 12) hV h (fun ξ h1 h2 h3 h12 hf => ⟨by omega, by omega, ?_⟩)
      have e : ∀ t y i, ¬ (t = 41 ∧ y = 0 ∧ i = 3 + w) → jw ξ 41 0 (3 + w) v t y i = ξ t y i := fun t y i h => by
        unfold jw
        rw [if_neg (by omega)]
      exact KMS_fin hk hV.2.2 k (MI_act (isM_one (x0 := 3 + w) (Or.inr (Or.inr ⟨rfl, h4, rfl⟩)) h1 (jw_eq _ _ _ _ _) (fun i hh => e _ _ _ (by omega))) (hM_fr hk h2 (fun t x i h => e _ _ _ (by omega))) (kM_fr hV.2.2 h3 (fun t x i h => e _ _ _ (by omega))) ((e _ _ _ (by omega)).trans h12)) (jfr_jw (jfr_mono hf (fun t y i h => by omega)) (by omega))
    · rw [if_pos (Decidable.byContradiction he)] at k
      exact KMS_fin hV.2.1 hV.2.2 k h (jfr_refl _ _)
  · rw [if_pos hp] at k
    exact KMS_fin hV.2.1 hV.2.2 k h (jfr_refl _ _)
/-- join -/
def aJoin (b : BK) (A K : List BK) (a o : Int) : (Int × Int) × ST := if ¬ (0 ≤ a ∧ a < b 5 0) ∨ ¬ (0 ≤ o ∧ o < b 5 0) then ((-1, 2), b, A, K) else if a = o then ((-1, 6), b, A, K) else ((b 5 1 - ((pkl b (jmin a o) (jmax a o)).length : Int), 0), pmrg b (jmin a o) (jmax a o), keep b A, K)
theorem jmm {a o n : Int} (ha : 0 ≤ a ∧ a < n) (ho : 0 ≤ o ∧ o < n) (h : a ≠ o) : 0 ≤ jmin a o ∧ jmin a o < jmax a o ∧ jmax a o < n := by
  unfold jmin jmax
  split <;> split <;> omega
theorem v_join {b : BK} {A K : List BK} {a o : Int} (hV : VS b A K) : VT (aJoin b A K a o).2 := by
  by_cases h1 : ¬ (0 ≤ a ∧ a < b 5 0) ∨ ¬ (0 ≤ o ∧ o < b 5 0)
  · rw [aJoin, if_pos h1]
    exact hV
  · by_cases h2 : a = o
    · rw [aJoin, if_neg h1, if_pos h2]
      exact hV
    · rw [aJoin, if_neg h1, if_neg h2]
      have j := jmm (a := a) (o := o) (n := b 5 0) (by omega) (by omega) h2
      exact ⟨vb_pmrg hV.1 j.1 j.2.1 j.2.2, vbs_keep hV.1 hV.2.1, hV.2.2⟩
theorem c_join {d : Nat} {b : BK} {A K : List BK} {c : Int} {ν : JM} {Q : JQ} (hV : VS b A K) (h : CI b A K c ν) {a o : Int} (ha : inR a) (ho : inR o) (k : KCS c ν Q (aJoin b A K a o)) : wp true (d + 14) 141 0 [(11, 0), (0, a), (0, o)] [] ν Q := by
  unfold aJoin at k
  refine s_X10_join_0 (d + 13) _ _ _ _ (w_hasAccount h.1 hV.1 ha (fun a0 a1 => ⟨by decide, fun h => absurd h (by decide), fun _ => ?_⟩) (fun a2 => ⟨by decide, fun _ => ?_, fun h => absurd rfl h⟩))
  · refine w_hasAccount h.1 hV.1 ho (fun o0 o1 => ⟨by decide, fun _ => ?_, fun h => absurd (by decide) h⟩) (fun o2 => ⟨by decide, fun h => absurd rfl h, fun _ => ?_⟩)
    · rw [if_neg (by omega)] at k
      refine ⟨Or.inr ⟨ha, ho⟩, fun hne => ?_, fun he => ?_⟩
      · rw [if_neg hne] at k
        have j := jmm ⟨a0, a1⟩ ⟨o0, o1⟩ hne
        refine c_beginAct (d := d + 11) hV h (fun ξ h1 h2 h3 h9 hf1 => ⟨ha, ho, ha, ho, c_merge (d := d + 12) h1 hV.1 j.1 j.2.1 j.2.2 (fun ζ hf2 h4 => ?_)⟩)
        exact KCS_fin k (CI_act h h4 (hC_fr h2 (fun t x i h => hf2 _ _ _ (by omega))) (kC_fr h3 (fun t x i h => hf2 _ _ _ (by omega))) ((hf2 _ _ _ (by omega)).trans h9) (fun t y i h => by rw [hf2 _ _ _ (by omega), hf1 _ _ _ (by omega)])) (jfr_trans (jfr_mono hf1 (fun t y i h => by omega)) (jfr_mono hf2 (fun t y i h => by omega)))
      · rw [if_pos (Decidable.byContradiction he)] at k
        exact KCS_fin k h (jfr_refl _ _)
    · rw [if_pos (Or.inr o2)] at k
      exact KCS_fin k h (jfr_refl _ _)
  · rw [if_pos (Or.inl a2)] at k
    exact KCS_fin k h (jfr_refl _ _)
theorem m_join {d : Nat} {b : BK} {A K : List BK} {ν : JM} {Q : JQ} (hV : VS b A K) (h : MI b A K ν) {a o : Int} (ha : inR a) (ho : inR o) (k : KMS ν Q (aJoin b A K a o)) : wp true (d + 13) 217 0 [(40, 0), (0, a), (0, o), (9, 0), (9, 0), (9, 0), (9, 0), (9, 0)] [] ν Q := by
  unfold aJoin at k
  have hk := vbs_keep hV.1 hV.2.1
  refine s_X11_join_0 (d + 12) _ _ _ _ (w_isAccount h.1 hV.1 ha (fun a0 a1 => ⟨by decide, fun h => absurd h (by decide), fun _ => ?_⟩) (fun a2 => ⟨by decide, fun _ => ?_, fun h => absurd rfl h⟩))
  · refine w_isAccount h.1 hV.1 ho (fun o0 o1 => ⟨by decide, fun _ => ?_, fun h => absurd (by decide) h⟩) (fun o2 => ⟨by decide, fun h => absurd rfl h, fun _ => ?_⟩)
    · rw [if_neg (by omega)] at k
      refine ⟨Or.inr ⟨ha, ho⟩, fun hne => ?_, fun he => ?_⟩
      · rw [if_neg hne] at k
        have j := jmm ⟨a0, a1⟩ ⟨o0, o1⟩ hne
        refine m_actd (d := d + 11) hV h (fun ξ h1 h2 h3 h12 hf1 => ⟨ha, ho, ha, ho, by omega, by omega, ?_⟩)
        rw [isM_m h1]
        refine m_joinloop (d := d + 10) h1 hV.1 j.1 j.2.1 j.2.2 (fun ζ hf2 h4 hs h5 => k ζ (MI_act h4 (hM_fr hk h2 (fun t x i h => hf2 _ _ _ (by omega))) (kM_fr hV.2.2 h3 (fun t x i h => hf2 _ _ _ (by omega))) (by omega)) (jfr_trans (jfr_mono hf1 (fun t y i h => by omega)) (jfr_mono hf2 (fun t y i h => by omega))) hs)
      · rw [if_pos (Decidable.byContradiction he)] at k
        exact KMS_fin hV.2.1 hV.2.2 k h (jfr_refl _ _)
    · rw [if_pos (Or.inr o2)] at k
      exact KMS_fin hV.2.1 hV.2.2 k h (jfr_refl _ _)
  · rw [if_pos (Or.inl a2)] at k
    exact KMS_fin hV.2.1 hV.2.2 k h (jfr_refl _ _)
/-- undo, mark, back -/
def aUndo (b : BK) : List BK → List BK → (Int × Int) × ST
  | [], K => ((-1, 5), b, [], K)
  | x :: A, K => (((A.length : Int), 0), x, A, K)
def aMark (b : BK) (A K : List BK) : (Int × Int) × ST := if K.length = 3 then ((-1, 3), b, A, K) else (((K.length : Int) + 1, 0), b, A, b :: K)
def aBack (b : BK) (A : List BK) : List BK → (Int × Int) × ST
  | [] => ((-1, 5), b, A, [])
  | x :: K => (((K.length : Int), 0), x, A, K)
theorem vbs_tl {x : BK} {A : List BK} (h : vbs (x :: A)) : vb x ∧ vbs A := ⟨h x (List.mem_cons_self ..), fun y hy => h y (List.mem_cons_of_mem _ hy)⟩
theorem v_undo {b : BK} {A K : List BK} (hV : VS b A K) : VT (aUndo b A K).2 := by
  cases A with
  | nil => exact hV
  | cons x A => exact ⟨(vbs_tl hV.2.1).1, (vbs_tl hV.2.1).2, hV.2.2⟩
theorem v_mark {b : BK} {A K : List BK} (hV : VS b A K) : VT (aMark b A K).2 := by
  unfold aMark
  split
  · exact hV
  · exact ⟨hV.1, hV.2.1, fun y hy => by
      rcases List.mem_cons.mp hy with rfl | hy
      · exact hV.1
      · exact hV.2.2 y hy⟩
theorem v_back {b : BK} {A K : List BK} (hV : VS b A K) : VT (aBack b A K).2 := by
  cases K with
  | nil => exact hV
  | cons x K => exact ⟨(vbs_tl hV.2.2).1, hV.2.1, (vbs_tl hV.2.2).2⟩
theorem c_undo {d : Nat} {b : BK} {A K : List BK} {c : Int} {ν : JM} {Q : JQ} (hV : VS b A K) (h : CI b A K c ν) (k : KCS c ν Q (aUndo b A K)) : wp true (d + 14) 142 0 [(11, 0)] [] ν Q := by
  have e3 := h.2.1.1
  have hl := h.2.1.2.1
  refine s_X10_undo_0 (d + 13) _ _ ?_
  rw [e3]
  refine ⟨Or.inr ⟨⟨by omega, by omega⟩, ⟨by omega, by omega⟩⟩, fun hne => ?_, fun he => ?_⟩
  · cases A with
    | nil => exact absurd rfl hne
    | cons x A =>
      have vx := vbs_tl hV.2.1
      refine c_undoLatest (d := d + 12) h.2.1 vx.1 (fun ξ hf h1 h2 => ⟨by omega, by omega, ?_⟩)
      have e : ∀ t y i, ¬ (t = 11 ∧ y = 0 ∧ i = 9) → jw ξ 11 0 9 1 t y i = ξ t y i := fun t y i h => by
        unfold jw
        rw [if_neg (by omega)]
      rw [e _ _ _ (by omega), h2.1]
      exact KCS_fin k (CI_act h (isC_fr h1 (fun t _ _ i => e _ _ _ (by omega))) (hC_fr h2 (fun t x i h => e _ _ _ (by omega))) (kC_fr h.2.2.1 (fun t x i h => by rw [e _ _ _ (by omega), hf _ _ _ (by omega)])) (jw_eq _ _ _ _ _) (fun t y i h => by rw [e _ _ _ (by omega), hf _ _ _ (by omega)])) (jfr_jw (jfr_mono hf (fun t y i h => by omega)) (by omega))
  · cases A with
    | nil => exact KCS_fin k h (jfr_refl _ _)
    | cons x A => exact absurd (fun h => by simp at h; omega) he
theorem c_mark {d : Nat} {b : BK} {A K : List BK} {c : Int} {ν : JM} {Q : JQ} (hV : VS b A K) (h : CI b A K c ν) (k : KCS c ν Q (aMark b A K)) : wp true (d + 14) 143 0 [(11, 0)] [] ν Q := by
  have e4 := h.2.2.1.1
  have hl := h.2.2.1.2.1
  unfold aMark at k
  refine s_X10_mark_0 (d + 13) _ _ ?_
  rw [e4]
  refine ⟨⟨⟨by omega, by omega⟩, ⟨by omega, by omega⟩⟩, fun hlt => ?_, fun hge => ?_⟩
  · rw [if_neg (by omega)] at k
    refine c_keepMark (d := d + 12) h.1 hV.1 h.2.2.1 (by omega) (fun ξ hf h3 => ?_)
    rw [h3.1, show (((b :: K).length : Nat) : Int) = (K.length : Int) + 1 by simp]
    obtain ⟨g1, g2, _, ⟨cp, ca, g4⟩, g5, g6, g7⟩ := h
    refine KCS_fin k ⟨isC_fr g1 (fun t _ _ i => hf _ _ _ (by omega)), hC_fr g2 (fun t x i h => hf _ _ _ (by omega)), h3, ⟨cp, ca, JN_fr g4 (fun i _ => hf _ _ _ (by omega)) (fun i _ _ => hf _ _ _ (by omega)) (fun y => hf _ _ _ (by omega)) (hf _ _ _ (by omega)) (hf _ _ _ (by omega))⟩, by rw [hf _ _ _ (by omega)]; exact g5, by rw [hf _ _ _ (by omega)]; exact g6, fun h => ?_⟩ (jfr_mono hf (fun t y i h => by omega))
    rw [hf _ _ _ (by omega)] at h
    exact RS_fr (g7 h) (fun t y i h => hf _ _ _ (by omega))
  · rw [if_pos (by omega)] at k
    exact KCS_fin k h (jfr_refl _ _)
theorem c_back {d : Nat} {b : BK} {A K : List BK} {c : Int} {ν : JM} {Q : JQ} (hV : VS b A K) (h : CI b A K c ν) (k : KCS c ν Q (aBack b A K)) : wp true (d + 14) 144 0 [(11, 0)] [] ν Q := by
  have e4 := h.2.2.1.1
  have hl := h.2.2.1.2.1
  refine s_X10_back_0 (d + 13) _ _ ?_
  rw [e4]
  refine ⟨Or.inr ⟨⟨by omega, by omega⟩, ⟨by omega, by omega⟩⟩, fun hne => ?_, fun he => ?_⟩
  · cases K with
    | nil => exact absurd rfl hne
    | cons x K =>
      have vx := vbs_tl hV.2.2
      refine c_takeMark (d := d + 12) h.2.2.1 vx.1 (fun ξ hf h1 h3 => ⟨by omega, by omega, ?_⟩)
      have e : ∀ t y i, ¬ (t = 11 ∧ y = 0 ∧ i = 9) → jw ξ 11 0 9 1 t y i = ξ t y i := fun t y i h => by
        unfold jw
        rw [if_neg (by omega)]
      rw [e _ _ _ (by omega), h3.1]
      exact KCS_fin k (CI_act h (isC_fr h1 (fun t _ _ i => e _ _ _ (by omega))) (hC_fr h.2.1 (fun t x i h => by rw [e _ _ _ (by omega), hf _ _ _ (by omega)])) (kC_fr h3 (fun t x i h => e _ _ _ (by omega))) (jw_eq _ _ _ _ _) (fun t y i h => by rw [e _ _ _ (by omega), hf _ _ _ (by omega)])) (jfr_jw (jfr_mono hf (fun t y i h => by omega)) (by omega))
  · cases K with
    | nil => exact KCS_fin k h (jfr_refl _ _)
    | cons x K => exact absurd (fun h => by simp at h; omega) he
theorem hM_tl {μ ν : JM} {x : BK} {A : List BK} (hv : vbs (x :: A)) (h : hM μ (x :: A)) (e2 : ν 40 0 2 = (A.length : Int)) (e : ∀ i, 272 ≤ i → i < 1632 → ν 41 0 i = μ 41 0 i) : hM ν A := by
  have hl := h.2.1
  rw [List.length_cons] at hl
  refine ⟨e2, by omega, fun j hj => ?_⟩
  have q := h.2.2 (j + 1) (by rw [List.length_cons]; omega)
  rw [List.getD_cons_succ, List.length_cons] at q
  refine isF_fr q (vb_m ((vbs_tl hv).2 _ (gd_mem hj))).2 (fun i i0 i1 => ?_)
  rw [e _ (by omega) (by omega)]
  congr 1
  omega
theorem kM_tl {μ ν : JM} {x : BK} {A : List BK} (hv : vbs (x :: A)) (h : kM μ (x :: A)) (e2 : ν 40 0 3 = (A.length : Int)) (e : ∀ i, 1632 ≤ i → ν 41 0 i = μ 41 0 i) : kM ν A := by
  have hl := h.2.1
  rw [List.length_cons] at hl
  refine ⟨e2, by omega, fun j hj => ?_⟩
  have q := h.2.2 (j + 1) (by rw [List.length_cons]; omega)
  rw [List.getD_cons_succ, List.length_cons] at q
  refine isF_fr q (vb_m ((vbs_tl hv).2 _ (gd_mem hj))).2 (fun i i0 i1 => ?_)
  rw [e _ (by omega)]
  congr 1
  omega
theorem m_undo {d : Nat} {b : BK} {A K : List BK} {ν : JM} {Q : JQ} (hV : VS b A K) (h : MI b A K ν) (k : KMS ν Q (aUndo b A K)) : wp true (d + 13) 218 0 [(40, 0)] [] ν Q := by
  have e3 := h.2.1.1
  have hl := h.2.1.2.1
  refine s_X11_undo_0 (d + 12) _ _ ?_
  rw [e3]
  refine ⟨Or.inr ⟨⟨by omega, by omega⟩, ⟨by omega, by omega⟩⟩, fun hne => ?_, fun he => ?_⟩
  · cases A with
    | nil => exact absurd rfl hne
    | cons x A =>
      have vx := vbs_tl hV.2.1
      rw [List.length_cons] at hl
      rw [jw_eq, show (((x :: A).length : Nat) : Int) - 1 = (A.length : Int) by simp]
      generalize hμ : jw ν 40 0 2 (A.length : Int) = μ
      have f0 : ∀ t y i, ¬ (t = 40 ∧ y = 0 ∧ i = 2) → μ t y i = ν t y i := fun t y i h => by
        rw [← hμ]
        unfold jw
        rw [if_neg (by omega)]
      have f2 : μ 40 0 2 = (A.length : Int) := by rw [← hμ, jw_eq]
      refine m_copies (by omega) (by omega) (by omega) ⟨by omega, by omega, ?_⟩
      generalize hξ : jcp μ 41 0 (272 + 136 * (A.length : Int)) 41 0 0 136 = ξ
      have o1 : ∀ t y i, ¬ (t = 41 ∧ y = 0 ∧ 0 ≤ i ∧ i < 0 + 136) → ξ t y i = μ t y i := fun t y i h => hξ ▸ jcp_out h
      have o2 : ∀ i, 0 ≤ i → i < 0 + 136 → ξ 41 0 i = μ 41 0 (272 + 136 * (A.length : Int) + (i - 0)) := fun i h1 h2 => hξ ▸ jcp_in h1 h2
      have e : ∀ t y i, ¬ (t = 40 ∧ y = 0 ∧ i = 12) → jw ξ 40 0 12 0 t y i = ξ t y i := fun t y i h => by
        unfold jw
        rw [if_neg (by omega)]
      have q0 := h.2.1.2.2 0 (by simp)
      rw [List.length_cons] at q0
      rw [e _ _ _ (by omega), o1 _ _ _ (by omega), f2]
      refine KMS_fin vx.2 hV.2.2 k (MI_act (isF_fr q0 (vb_m vx.1).2 (fun i i0 i1 => ?_)) (hM_tl hV.2.1 h.2.1 (by rw [e _ _ _ (by omega), o1 _ _ _ (by omega), f2]) (fun i i0 i1 => by rw [e _ _ _ (by omega), o1 _ _ _ (by omega), f0 _ _ _ (by omega)])) (kM_fr hV.2.2 h.2.2.1 (fun t x i h => by rw [e _ _ _ (by omega), o1 _ _ _ (by omega), f0 _ _ _ (by omega)])) (jw_eq _ _ _ _ _)) (fun t y i h => by rw [e _ _ _ (by omega), o1 _ _ _ (by omega), f0 _ _ _ (by omega)])
      show jw ξ 40 0 12 0 41 0 i = _
      rw [e _ _ _ (by omega), o2 i i0 (by omega), f0 _ _ _ (by omega)]
      congr 1
      omega
  · cases A with
    | nil => exact KMS_fin hV.2.1 hV.2.2 k h (jfr_refl _ _)
    | cons x A => exact absurd (fun h => by simp at h; omega) he
theorem m_back {d : Nat} {b : BK} {A K : List BK} {ν : JM} {Q : JQ} (hV : VS b A K) (h : MI b A K ν) (k : KMS ν Q (aBack b A K)) : wp true (d + 13) 220 0 [(40, 0)] [] ν Q := by
  have e3 := h.2.2.1.1
  have hl := h.2.2.1.2.1
  refine s_X11_back_0 (d + 12) _ _ ?_
  rw [e3]
  refine ⟨Or.inr ⟨⟨by omega, by omega⟩, ⟨by omega, by omega⟩⟩, fun hne => ?_, fun he => ?_⟩
  · cases K with
    | nil => exact absurd rfl hne
    | cons x K =>
      have vx := vbs_tl hV.2.2
      rw [List.length_cons] at hl
      rw [jw_eq, show (((x :: K).length : Nat) : Int) - 1 = (K.length : Int) by simp]
      generalize hμ : jw ν 40 0 3 (K.length : Int) = μ
      have f0 : ∀ t y i, ¬ (t = 40 ∧ y = 0 ∧ i = 3) → μ t y i = ν t y i := fun t y i h => by
        rw [← hμ]
        unfold jw
        rw [if_neg (by omega)]
      have f2 : μ 40 0 3 = (K.length : Int) := by rw [← hμ, jw_eq]
      refine m_copies (by omega) (by omega) (by omega) ⟨by omega, by omega, ?_⟩
      generalize hξ : jcp μ 41 0 (1632 + 136 * (K.length : Int)) 41 0 0 136 = ξ
      have o1 : ∀ t y i, ¬ (t = 41 ∧ y = 0 ∧ 0 ≤ i ∧ i < 0 + 136) → ξ t y i = μ t y i := fun t y i h => hξ ▸ jcp_out h
      have o2 : ∀ i, 0 ≤ i → i < 0 + 136 → ξ 41 0 i = μ 41 0 (1632 + 136 * (K.length : Int) + (i - 0)) := fun i h1 h2 => hξ ▸ jcp_in h1 h2
      have e : ∀ t y i, ¬ (t = 40 ∧ y = 0 ∧ i = 12) → jw ξ 40 0 12 0 t y i = ξ t y i := fun t y i h => by
        unfold jw
        rw [if_neg (by omega)]
      have q0 := h.2.2.1.2.2 0 (by simp)
      rw [List.length_cons] at q0
      rw [e _ _ _ (by omega), o1 _ _ _ (by omega), f2]
      refine KMS_fin hV.2.1 vx.2 k (MI_act (isF_fr q0 (vb_m vx.1).2 (fun i i0 i1 => ?_)) (hM_fr hV.2.1 h.2.1 (fun t x i h => by rw [e _ _ _ (by omega), o1 _ _ _ (by omega), f0 _ _ _ (by omega)])) (kM_tl hV.2.2 h.2.2.1 (by rw [e _ _ _ (by omega), o1 _ _ _ (by omega), f2]) (fun i i0 => by rw [e _ _ _ (by omega), o1 _ _ _ (by omega), f0 _ _ _ (by omega)])) (jw_eq _ _ _ _ _)) (fun t y i h => by rw [e _ _ _ (by omega), o1 _ _ _ (by omega), f0 _ _ _ (by omega)])
      show jw ξ 40 0 12 0 41 0 i = _
      rw [e _ _ _ (by omega), o2 i i0 (by omega), f0 _ _ _ (by omega)]
      congr 1
      omega
  · cases K with
    | nil => exact KMS_fin hV.2.1 hV.2.2 k h (jfr_refl _ _)
    | cons x K => exact absurd (fun h => by simp at h; omega) he
theorem m_mark {d : Nat} {b : BK} {A K : List BK} {ν : JM} {Q : JQ} (hV : VS b A K) (h : MI b A K ν) (k : KMS ν Q (aMark b A K)) : wp true (d + 13) 219 0 [(40, 0)] [] ν Q := by
  have e3 := h.2.2.1.1
  have hl := h.2.2.1.2.1
  unfold aMark at k
  refine s_X11_mark_0 (d + 12) _ _ ?_
  rw [e3]
  refine ⟨Or.inr ⟨⟨by omega, by omega⟩, ⟨by omega, by omega⟩⟩, fun hne => ?_, fun he => ?_⟩
  · rw [if_neg (by omega)] at k
    refine m_copies (by omega) (by omega) (by omega) ?_
    generalize hξ : jcp ν 41 0 0 41 0 (1632 + 136 * (K.length : Int)) 136 = ξ
    have o1 : ∀ t y i, ¬ (t = 41 ∧ y = 0 ∧ 1632 + 136 * (K.length : Int) ≤ i ∧ i < 1632 + 136 * (K.length : Int) + 136) → ξ t y i = ν t y i := fun t y i h => hξ ▸ jcp_out h
    have o2 : ∀ i, 1632 + 136 * (K.length : Int) ≤ i → i < 1632 + 136 * (K.length : Int) + 136 → ξ 41 0 i = ν 41 0 (0 + (i - (1632 + 136 * (K.length : Int)))) := fun i h1 h2 => hξ ▸ jcp_in h1 h2
    rw [jw_eq, o1 _ _ _ (by omega), e3]
    have e : ∀ t y i, ¬ (t = 40 ∧ y = 0 ∧ i = 3) → jw ξ 40 0 3 ((K.length : Int) + 1) t y i = ξ t y i := fun t y i h => by
      unfold jw
      rw [if_neg (by omega)]
    have hV' : vbs (b :: K) := fun y hy => by
      rcases List.mem_cons.mp hy with rfl | hy
      · exact hV.1
      · exact hV.2.2 y hy
    have hf : jfr PAm ν (jw ξ 40 0 3 ((K.length : Int) + 1)) := fun t y i h => by rw [e _ _ _ (by omega), o1 _ _ _ (by omega)]
    obtain ⟨g1, g2, g3, g4, g5⟩ := h
    refine KMS_fin hV.2.1 hV' k ⟨isF_fr g1 (vb_m hV.1).2 (fun i i0 i1 => by rw [e _ _ _ (by omega), o1 _ _ _ (by omega)]), hM_fr hV.2.1 g2 (fun t x i h => by rw [e _ _ _ (by omega), o1 _ _ _ (by omega)]), ⟨by rw [jw_eq]; simp, by rw [List.length_cons]; omega, fun j hj => ?_⟩, by rw [e _ _ _ (by omega), o1 _ _ _ (by omega)]; exact g4, fun h => ?_⟩ hf
    · rw [List.length_cons] at hj ⊢
      cases j with
      | zero =>
        refine isF_fr g1 (vb_m hV.1).2 (fun i i0 i1 => ?_)
        show jw ξ 40 0 3 ((K.length : Int) + 1) 41 0 (1632 + 136 * (((K.length + 1 : Nat) : Int) - 1 - ((0 : Nat) : Int)) + i) = _
        rw [e _ _ _ (by omega), o2 _ (by omega) (by omega)]
        congr 1
        omega
      | succ j =>
        rw [List.getD_cons_succ]
        refine isF_fr (g3.2.2 j (by omega)) (vb_m (hV.2.2 _ (gd_mem (by omega)))).2 (fun i i0 i1 => ?_)
        show jw ξ 40 0 3 ((K.length : Int) + 1) 41 0 (1632 + 136 * (((K.length + 1 : Nat) : Int) - 1 - ((j + 1 : Nat) : Int)) + i) = _
        rw [e _ _ _ (by omega), o1 _ _ _ (by omega)]
        congr 1
        omega
    · rw [e _ _ _ (by omega), o1 _ _ _ (by omega)] at h
      exact ML_fr (g5 h) (fun t i h => by rw [e _ _ _ (by omega), o1 _ _ _ (by omega)])
  · rw [if_pos (by omega)] at k
    exact KMS_fin hV.2.1 hV.2.2 k h (jfr_refl _ _)
