/-! standing, until, peak -/
def oStanding (b : BK) (w x : Int) : Int × Int := if ¬ (0 ≤ w ∧ w ≤ 9999) ∨ ¬ (0 ≤ x ∧ x ≤ 1) then (-1, 1) else (if x = 0 then pst b (FR b) (w - b 4 0) w (FR b).length else pul b (FR b) (w - b 4 0) w (FR b).length, 0)
theorem CI_call {b : BK} {A K : List BK} {c : Int} {μ ν : JM} (h : CI b A K c μ) (hR : RS b (FR b) ν) (h10 : ν 27 0 10 = μ 27 0 10 + 1) (hf : jfr Pcall μ ν) : CI b A K (c + 1) ν := by
  obtain ⟨h1, h2, h3, _, h5, h6, h7⟩ := h
  have hN := hR.2.2.1
  obtain ⟨cp, ca, N, _, _⟩ := hN
  exact ⟨isC_fr h1 (fun t _ _ i => hf _ _ _ (by omega)), hC_fr h2 (fun t x i h => hf _ _ _ (by omega)), kC_fr h3 (fun t x i h => hf _ _ _ (by omega)), ⟨cp, ca, N⟩, by omega, by rw [hf _ _ _ (by omega)]; exact h6, fun _ => hR⟩
theorem KC_call {b : BK} {A K : List BK} {c : Int} {ν μ ξ : JM} {Q : JQ} {r s : Int} (k : KC b A K c ν Q (r, s)) (h : CI b A K c μ) (hf0 : jfr PQc ν μ) (hR : RS b (FR b) ξ) (h10 : ξ 27 0 10 = μ 27 0 10 + 1) (hf : jfr Pcall μ ξ) : Q r (jw ξ 11 0 8 s) :=
  k _ (CI_st (CI_call h hR h10 hf) s) (jfr_jw (jfr_trans hf0 (jfr_mono hf (fun t y i h => by omega))) (by omega)) (jw_eq _ _ _ _ _)
theorem c_standing {d : Nat} {b : BK} {A K : List BK} {c : Int} {ν : JM} {Q : JQ} (hV : VS b A K) (h : CI b A K c ν) {w x : Int} (hc : c ≤ 900000) (hw : inR w) (hx : inR x) (k : KC b A K c ν Q (oStanding b w x)) : wp true (d + 14) 155 0 [(11, 0), (0, w), (0, x), (9, 0), (9, 0)] [] ν Q := by
  unfold oStanding at k
  have hb := vb_w hV.1
  refine s_X10_standing_0 (d + 13) _ _ _ _ (w_notTime (d := d + 12) hw (fun w0 w1 => ⟨by decide, fun h => absurd rfl h, fun _ => ?_⟩) (fun w2 => ⟨by decide, fun _ => ?_, fun h => absurd (by decide) h⟩))
  · refine w_outside hx ⟨by omega, by omega⟩ ⟨by omega, by omega⟩ (fun x0 x1 => ⟨by decide, fun _ => ?_, fun h => absurd rfl h⟩) (fun x2 => ⟨by decide, fun h => absurd h (by decide), fun _ => ?_⟩)
    · rw [if_neg (by omega)] at k
      refine c_fresh hV h (fun ξ h' hR _ hf => ?_)
      rw [isC_b h'.1 (by omega) (by omega)]
      have h5 := h'.2.2.2.2.1
      refine ⟨by omega, by omega, Or.inr ⟨hx, ⟨by omega, by omega⟩⟩, fun n0 => ?_, fun e0 => ?_⟩
      · rw [if_neg n0] at k
        exact c_alarmsBetween (d := d + 10) hV.1 (FR_gd hV.1) hR (by omega) ⟨by omega, by omega⟩ hw (fun ζ hR2 h10 hf2 => KC_call k h' hf hR2 h10 hf2)
      · rw [if_pos (by omega)] at k
        exact c_closedBetween hV.1 (FR_gd hV.1) hR ⟨by omega, by omega⟩ hw (KC_fin k h' hf)
    · rw [if_pos (Or.inr x2)] at k
      exact KC_fin k h (jfr_refl _ _)
  · rw [if_pos (Or.inl w2)] at k
    exact KC_fin k h (jfr_refl _ _)
theorem m_standing {d : Nat} {b : BK} {A K : List BK} {ν : JM} {Q : JQ} (hV : VS b A K) (h : MI b A K ν) {w x : Int} (hw : inR w) (hx : inR x) (k : KM b A K ν Q (oStanding b w x)) : wp true (d + 13) 290 0 [(40, 0), (0, w), (0, x)] [] ν Q := by
  unfold oStanding at k
  refine s_X11_standing_0 (d + 12) _ _ _ _ (w_isFrom hw ⟨by omega, by omega⟩ ⟨by omega, by omega⟩ (fun w0 w1 => ⟨by decide, fun h => absurd h (by decide), fun _ => ?_⟩) (fun w2 => ⟨by decide, fun _ => ?_, fun h => absurd rfl h⟩))
  · refine w_isFrom hx ⟨by omega, by omega⟩ ⟨by omega, by omega⟩ (fun x0 x1 => ⟨by decide, fun _ => ?_, fun h => absurd (by decide) h⟩) (fun x2 => ⟨by decide, fun h => absurd rfl h, fun _ => ?_⟩)
    · rw [if_neg (by omega)] at k
      refine m_layI hV h (fun ξ h' hL hf _ => ⟨Or.inr ⟨hx, ⟨by omega, by omega⟩⟩, fun n0 => ?_, fun e0 => ?_⟩)
      · rw [if_neg n0] at k
        exact m_unlikeOf (d := d + 8) hV.1 h'.1 (FR_gd hV.1) hL (FR_le hV.1) ⟨w0, w1⟩ (Or.inl ⟨rfl, rfl⟩) (fun ζ hf2 => KM_fin hV k (MI_fr hV.2.1 hV.2.2 h' (fun t i h => hf2 _ _ _ (by omega))) (jfr_trans hf (jfr_mono hf2 (fun t y i h => by omega))))
      · rw [if_pos (by omega)] at k
        exact m_stand (d := d + 9) hV.1 h'.1 (FR_gd hV.1) hL (FR_le hV.1) ⟨w0, w1⟩ (KM_fin hV k h' hf)
    · rw [if_pos (Or.inr x2)] at k
      exact KM_fin hV k h (jfr_refl _ _)
  · rw [if_pos (Or.inl w2)] at k
    exact KM_fin hV k h (jfr_refl _ _)
/-- until -/
def oUntil (b : BK) (w x : Int) : Int × Int := if ¬ (0 ≤ w ∧ w ≤ 9999) ∨ ¬ (0 ≤ x ∧ x ≤ 2) then (-1, 1) else (if x = 0 then pst b (FR b) 0 w (FR b).length else if x = 1 then pul b (FR b) 0 w (FR b).length else puntil b w, 0)
theorem c_until {d : Nat} {b : BK} {A K : List BK} {c : Int} {ν : JM} {Q : JQ} (hV : VS b A K) (h : CI b A K c ν) {w x : Int} (hc : c ≤ 900000) (hw : inR w) (hx : inR x) (k : KC b A K c ν Q (oUntil b w x)) : wp true (d + 14) 170 0 [(11, 0), (0, w), (0, x)] [] ν Q := by
  unfold oUntil at k
  refine s_X10_until_0 (d + 13) _ _ _ _ (w_notTime (d := d + 12) hw (fun w0 w1 => ⟨by decide, fun h => absurd rfl h, fun _ => ?_⟩) (fun w2 => ⟨by decide, fun _ => ?_, fun h => absurd (by decide) h⟩))
  · refine w_outside hx ⟨by omega, by omega⟩ ⟨by omega, by omega⟩ (fun x0 x1 => ⟨by decide, fun _ => ?_, fun h => absurd rfl h⟩) (fun x2 => ⟨by decide, fun h => absurd h (by decide), fun _ => ?_⟩)
    · rw [if_neg (by omega)] at k
      refine ⟨hx, fun e0 => ?_, fun n0 => ⟨fun e1 => ?_, fun n1 => ?_⟩⟩
      · rw [if_pos e0] at k
        exact c_fresh hV h (fun ξ h' hR _ hf => c_closedBetween hV.1 (FR_gd hV.1) hR ⟨by omega, by omega⟩ hw (KC_fin k h' hf))
      · rw [if_neg n0, if_pos e1] at k
        refine c_fresh hV h (fun ξ h' hR _ hf => ?_)
        have h5 := h'.2.2.2.2.1
        exact c_alarmsBetween (d := d + 10) hV.1 (FR_gd hV.1) hR (by omega) ⟨by omega, by omega⟩ hw (fun ζ hR2 h10 hf2 => KC_call k h' hf hR2 h10 hf2)
      · rw [if_neg n0, if_neg n1] at k
        exact c_countUntil h.1 hV.1 hw (KC_fin k h (jfr_refl _ _))
    · rw [if_pos (Or.inr x2)] at k
      exact KC_fin k h (jfr_refl _ _)
  · rw [if_pos (Or.inl w2)] at k
    exact KC_fin k h (jfr_refl _ _)
theorem m_until {d : Nat} {b : BK} {A K : List BK} {ν : JM} {Q : JQ} (hV : VS b A K) (h : MI b A K ν) {w x : Int} (hw : inR w) (hx : inR x) (k : KM b A K ν Q (oUntil b w x)) : wp true (d + 14) 295 0 [(40, 0), (0, w), (0, x), (9, 0), (9, 0)] [] ν Q := by
  unfold oUntil at k
  have hm := vb_m hV.1
  refine s_X11_until_0 (d + 13) _ _ _ _ (w_isFrom hw ⟨by omega, by omega⟩ ⟨by omega, by omega⟩ (fun w0 w1 => ⟨by decide, fun h => absurd h (by decide), fun _ => ?_⟩) (fun w2 => ⟨by decide, fun _ => ?_, fun h => absurd rfl h⟩))
  · refine w_isFrom hx ⟨by omega, by omega⟩ ⟨by omega, by omega⟩ (fun x0 x1 => ⟨by decide, fun _ => ?_, fun h => absurd (by decide) h⟩) (fun x2 => ⟨by decide, fun h => absurd rfl h, fun _ => ?_⟩)
    · rw [if_neg (by omega)] at k
      refine m_layI (d := d + 1) hV h (fun ξ h' hL hf _ => ⟨Or.inr ⟨hx, ⟨by omega, by omega⟩⟩, fun n1 => ⟨Or.inr ⟨hx, ⟨by omega, by omega⟩⟩, fun n0 => ?_, fun e0 => ?_⟩, fun e1 => ?_⟩)
      · rw [if_neg n0, if_neg n1] at k
        have hn := nm_eq hV.1
        refine fup_lp (W := fun i (c : Int) => wp true (d + 14) 295 98 [(40, 0), (0, w), (0, x), (0, c), (0, i)] [] ξ Q) (g := fun c t => c + if b 2 t ≤ w then 1 else 0) (lo := 0) (n := b 5 1) (fun i c i0 i1 hW => ?_) (nm b) 0 0 (by omega) hn ?_
        · have q := isM_t h'.1 i0 i1
          have tb := vb_t hV.1 i0 i1
          refine s_X11_until_98 (d + 12) _ _ _ _ _ _ ?_
          rw [isM_m h'.1, q.2.2.1]
          refine ⟨by omega, by omega, ⟨⟨by omega, by omega⟩, ⟨by omega, by omega⟩⟩, fun h => absurd h (by omega), fun _ => ⟨by omega, by omega, ⟨⟨by omega, by omega⟩, hw⟩, fun hlt => ?_, fun hge => ?_⟩⟩
          · rw [if_neg (by omega)] at hW
            exact hW
          · rw [if_pos (by omega)] at hW
            exact hW
        · refine s_X11_until_98 (d + 12) _ _ _ _ _ _ ?_
          rw [isM_m h'.1]
          exact ⟨by omega, by omega, ⟨⟨by omega, by omega⟩, ⟨by omega, by omega⟩⟩, fun _ => KM_fin hV k h' hf, fun h => absurd (Int.le_refl _) h⟩
      · rw [if_pos (by omega)] at k
        have hF := FR_le hV.1
        refine nlp (W := fun i c => wp true (d + 14) 295 55 [(40, 0), (0, w), (0, x), (0, c), (0, i)] [] ξ Q) (f := pst b (FR b) 0 w) (N := (FR b).length) (fun n hn hW => ?_) ?_
        · have row := ML_row hV.1 h'.1 (FR_gd hV.1) hL (r := (n : Int)) ⟨by omega, by omega⟩
          rw [show ((n : Int)).toNat = n from rfl] at row
          have tm := vb_t hV.1 row.2.2.2.2.1.1 row.2.2.2.2.1.2
          have ep : pst b (FR b) 0 w (n + 1) = pst b (FR b) 0 w n + if 0 ≤ b 2 (rls ((FR b).getD n [])) ∧ b 2 (rls ((FR b).getD n [])) ≤ w then 1 else 0 := rfl
          rw [ep] at hW
          refine s_X11_until_55 (d + 12) _ _ _ _ _ _ ?_
          rw [hL.1.1, row.1, row.2.2.1, row.2.2.2.2.2.2.1]
          refine ⟨⟨⟨by omega, by omega⟩, ⟨by omega, by omega⟩⟩, fun h => absurd h (by omega), fun _ => ⟨by omega, by omega, by omega, by omega, by omega, by omega, ⟨⟨by omega, by omega⟩, hw⟩, fun hlt => ?_, fun hge => ?_⟩⟩
          · rw [if_neg (by omega)] at hW
            exact hW
          · rw [if_pos (by omega)] at hW
            exact hW
        · refine s_X11_until_55 (d + 12) _ _ _ _ _ _ ?_
          rw [hL.1.1]
          exact ⟨⟨⟨by omega, by omega⟩, ⟨by omega, by omega⟩⟩, fun _ => KM_fin hV k h' hf, fun h => absurd (Int.le_refl _) h⟩
      · rw [if_neg (by omega), if_pos (by omega)] at k
        exact m_unlikeOf (d := d + 9) hV.1 h'.1 (FR_gd hV.1) hL (FR_le hV.1) ⟨w0, w1⟩ (Or.inr ⟨rfl, rfl⟩) (fun ζ hf2 => KM_fin hV k (MI_fr hV.2.1 hV.2.2 h' (fun t i h => hf2 _ _ _ (by omega))) (jfr_trans hf (jfr_mono hf2 (fun t y i h => by omega))))
    · rw [if_pos (Or.inr x2)] at k
      exact KM_fin hV k h (jfr_refl _ _)
  · rw [if_pos (Or.inl w2)] at k
    exact KM_fin hV k h (jfr_refl _ _)
/-- peak -/
abbrev psd (b : BK) (F : LL) (w : Int) : Int := pst b F (w - b 4 0) w F.length
abbrev pkg (b : BK) (F : LL) : Int × Int → Int → Int × Int := fun s t => if s.1 < psd b F (b 2 t) then (psd b F (b 2 t), b 2 t) else s
def pkf (b : BK) (F : LL) (k : Nat) (m : Int) : Int × Int := fup (pkg b F) k 0 (m, -1)
theorem pkf_s (b : BK) (F : LL) (k : Nat) (m : Int) : pkf b F (k + 1) m = pkg b F (pkf b F k m) (k : Int) := by
  unfold pkf
  rw [fup_succ, show (0 : Int) + (k : Int) = (k : Int) by omega]
theorem pk_rel (b : BK) (F : LL) : ∀ k : Nat, (pkf b F k (-1)).1 ≤ 0 ∧ (pkf b F k 0).1 = 0 ∧ (pkf b F k 0).2 = -1 ∧ -1 ≤ (pkf b F k (-1)).1 ∨ pkf b F k (-1) = pkf b F k 0 ∧ 1 ≤ (pkf b F k 0).1 ∧ (pkf b F k 0).1 = psd b F (pkf b F k 0).2 ∧ ∃ t : Nat, t < k ∧ (pkf b F k 0).2 = b 2 (t : Int)
  | 0 => Or.inl ⟨by show (-1 : Int) ≤ 0; omega, rfl, rfl, by show (-1 : Int) ≤ -1; omega⟩
  | k + 1 => by
    have p := pst_in b F (b 2 (k : Int) - b 4 0) (b 2 (k : Int)) F.length
    rw [pkf_s, pkf_s]
    rcases pk_rel b F k with ⟨h1, h2, h3, h4⟩ | ⟨h1, h2, h3, t, ht, h4⟩
    · by_cases hp : 1 ≤ psd b F (b 2 (k : Int))
      · right
        have e1 : pkg b F (pkf b F k (-1)) (k : Int) = (psd b F (b 2 (k : Int)), b 2 (k : Int)) := if_pos (by omega)
        have e2 : pkg b F (pkf b F k 0) (k : Int) = (psd b F (b 2 (k : Int)), b 2 (k : Int)) := if_pos (by omega)
        rw [e1, e2]
        exact ⟨rfl, hp, rfl, k, by omega, rfl⟩
      · left
        have e2 : pkg b F (pkf b F k 0) (k : Int) = pkf b F k 0 := if_neg (by omega)
        rw [e2]
        refine ⟨?_, h2, h3, ?_⟩
        · show (if (pkf b F k (-1)).1 < psd b F (b 2 (k : Int)) then (psd b F (b 2 (k : Int)), b 2 (k : Int)) else pkf b F k (-1)).1 ≤ 0
          split
          · show psd b F (b 2 (k : Int)) ≤ 0
            omega
          · exact h1
        · show -1 ≤ (if (pkf b F k (-1)).1 < psd b F (b 2 (k : Int)) then (psd b F (b 2 (k : Int)), b 2 (k : Int)) else pkf b F k (-1)).1
          split
          · show -1 ≤ psd b F (b 2 (k : Int))
            omega
          · exact h4
    · right
      rw [h1]
      refine ⟨rfl, ?_⟩
      by_cases hp : (pkf b F k 0).1 < psd b F (b 2 (k : Int))
      · have e2 : pkg b F (pkf b F k 0) (k : Int) = (psd b F (b 2 (k : Int)), b 2 (k : Int)) := if_pos hp
        rw [e2]
        exact ⟨by show 1 ≤ psd b F (b 2 (k : Int)); omega, rfl, k, by omega, rfl⟩
      · have e2 : pkg b F (pkf b F k 0) (k : Int) = pkf b F k 0 := if_neg hp
        rw [e2]
        exact ⟨h2, h3, t, by omega, h4⟩
theorem pk_ge (b : BK) (F : LL) : ∀ k : Nat, ∀ t : Nat, t < k → psd b F (b 2 (t : Int)) ≤ (pkf b F k 0).1
  | 0, t, h => by omega
  | k + 1, t, h => by
    rw [pkf_s]
    have ih := fun h' => pk_ge b F k t h'
    show psd b F (b 2 (t : Int)) ≤ (if (pkf b F k 0).1 < psd b F (b 2 (k : Int)) then (psd b F (b 2 (k : Int)), b 2 (k : Int)) else pkf b F k 0).1
    by_cases e : t = k
    · subst e
      split
      · exact Int.le_refl _
      · omega
    · have := ih (by omega)
      split
      · show psd b F (b 2 (t : Int)) ≤ psd b F (b 2 (k : Int))
        omega
      · exact this
theorem pst_pos {b : BK} {F : LL} (lo hi : Int) : ∀ n r, r < n → irg b F lo hi r → 1 ≤ pst b F lo hi n
  | 0, r, h, _ => by omega
  | n + 1, r, h, hi2 => by
    have e : pst b F lo hi (n + 1) = pst b F lo hi n + if lo ≤ b 2 (rls (F.getD n [])) ∧ b 2 (rls (F.getD n [])) ≤ hi then 1 else 0 := rfl
    rw [e]
    have p := pst_in b F lo hi n
    by_cases er : r = n
    · subst er
      rw [if_pos hi2]
      omega
    · have := pst_pos lo hi n r (by omega) hi2
      split <;> omega
theorem pk_end {b : BK} (hv : vb b) {F : LL} (hg : gd b F) (h0 : F.length ≠ 0) : pkf b F (nm b) (-1) = pkf b F (nm b) 0 ∧ 1 ≤ (pkf b F (nm b) 0).1 ∧ (pkf b F (nm b) 0).1 = psd b F (pkf b F (nm b) 0).2 ∧ ∃ t : Nat, t < nm b ∧ (pkf b F (nm b) 0).2 = b 2 (t : Int) := by
  have hn := nm_eq hv
  have r0 := rls_in (gd_get hg (r := 0) (by omega))
  have hw := vb_w hv
  have p1 : 1 ≤ psd b F (b 2 (rls (F.getD 0 []))) := pst_pos _ _ F.length 0 (by omega) ⟨by omega, Int.le_refl _⟩
  have g := pk_ge b F (nm b) (rls (F.getD 0 [])).toNat (by omega)
  rw [show (((rls (F.getD 0 [])).toNat : Nat) : Int) = rls (F.getD 0 []) by omega] at g
  rcases pk_rel b F (nm b) with h | h
  · omega
  · exact h
def oPeak (b : BK) (x : Int) : Int × Int := if ¬ (0 ≤ x ∧ x ≤ 1) then (-1, 1) else if (FR b).length = 0 then (-1, 5) else (if x = 0 then (pkf b (FR b) (nm b) 0).1 else (pkf b (FR b) (nm b) 0).2, 0)
theorem c_peak {d : Nat} {b : BK} {A K : List BK} {c : Int} {ν : JM} {Q : JQ} (hV : VS b A K) (h : CI b A K c ν) {x : Int} (hx : inR x) (k : KC b A K c ν Q (oPeak b x)) : wp true (d + 14) 156 0 [(11, 0), (0, x), (9, 0), (9, 0)] [] ν Q := by
  unfold oPeak at k
  have hb := vb_w hV.1
  have hm := vb_m hV.1
  have hn := nm_eq hV.1
  have hF := FR_n hV.1
  refine s_X10_peak_0 (d + 13) _ _ _ (w_outside hx ⟨by omega, by omega⟩ ⟨by omega, by omega⟩ (fun x0 x1 => ⟨by decide, fun _ => ?_, fun h => absurd rfl h⟩) (fun x2 => ⟨by decide, fun h => absurd h (by decide), fun _ => ?_⟩))
  · rw [if_neg (by omega)] at k
    refine c_fresh hV h (fun ξ h' hR _ hf => ?_)
    rw [hR.2.1.1]
    refine ⟨Or.inr ⟨⟨by omega, by omega⟩, ⟨by omega, by omega⟩⟩, fun n0 => s_X8_peakTime_0 _ _ _ ?_, fun e0 => ?_⟩
    · rw [if_neg (by omega)] at k
      obtain ⟨p1, p2, p3, t0, pt, p4⟩ := pk_end hV.1 (FR_gd hV.1) (by omega)
      rw [← p1] at k p2 p3 p4
      have tt := vb_t hV.1 (t := (t0 : Int)) (by omega) (by omega)
      refine fup_loop (W := fun i (s : Int × Int) => ∀ u : JV, wp true (d + 13) 117 6 [(22, 0), (0, s.1), (0, s.2), (0, i), u] [] ξ _) (g := pkg b (FR b)) (fun _ s => inR s.1) (lo := 0) (n := b 5 1) (fun i s i0 i1 hs => ?_) (fun i s i0 i1 hs hW u => ?_) (nm b) 0 (-1, -1) (by omega) hn ⟨by show -2147483648 ≤ (-1 : Int); omega, by show (-1 : Int) < 2147483648; omega⟩ (fun _ u => ?_) (9, 0)
      · have p : 0 ≤ psd b (FR b) (b 2 i) ∧ psd b (FR b) (b 2 i) ≤ ((FR b).length : Int) := pst_in b (FR b) (b 2 i - b 4 0) (b 2 i) (FR b).length
        show inR (if s.1 < psd b (FR b) (b 2 i) then (psd b (FR b) (b 2 i), b 2 i) else s).1
        split
        · exact ⟨by show -2147483648 ≤ psd b (FR b) (b 2 i); omega, by show psd b (FR b) (b 2 i) < 2147483648; omega⟩
        · exact hs
      · have q := isC_t hR.1 i0 i1
        have tb := vb_t hV.1 i0 i1
        have p := pst_in b (FR b) (b 2 i - b 4 0) (b 2 i) (FR b).length
        refine s_X8_peakTime_6 (d + 12) _ _ _ _ _ _ ?_
        rw [isC_m hR.1, q.2.2.1, isC_b hR.1 (by omega) (by omega)]
        refine ⟨⟨⟨by omega, by omega⟩, ⟨by omega, by omega⟩⟩, fun h => absurd h (by omega), fun _ => ⟨by omega, by omega, by omega, by omega, by omega, by omega, c_closedBetween hV.1 (FR_gd hV.1) hR ⟨by omega, by omega⟩ ⟨by omega, by omega⟩ ⟨⟨⟨by omega, by omega⟩, hs⟩, fun hle => ?_, fun hlt => ⟨i0, by omega, ?_⟩⟩⟩⟩
        · rw [show pkg b (FR b) s i = s from if_neg (show ¬ s.1 < psd b (FR b) (b 2 i) from Int.not_lt.mpr hle)] at hW
          exact hW _
        · rw [show pkg b (FR b) s i = (psd b (FR b) (b 2 i), b 2 i) from if_pos (show s.1 < psd b (FR b) (b 2 i) from Int.not_le.mp hlt)] at hW
          rw [q.2.2.1]
          exact hW _
      · refine s_X8_peakTime_6 (d + 12) _ _ _ _ _ _ ?_
        rw [isC_m hR.1]
        refine ⟨⟨⟨by omega, by omega⟩, ⟨by omega, by omega⟩⟩, fun _ => ⟨Or.inr ⟨hx, ⟨by omega, by omega⟩⟩, fun n1 => ⟨by omega, by omega, ?_⟩, fun e1 => ?_⟩, fun h => absurd (Int.le_refl _) h⟩
        · change KC b A K c ν Q (if x = 0 then (fup (pkg b (FR b)) (nm b) 0 (-1, -1)).1 else (fup (pkg b (FR b)) (nm b) 0 (-1, -1)).2, 0) at k
          change (fup (pkg b (FR b)) (nm b) 0 (-1, -1)).1 = psd b (FR b) (fup (pkg b (FR b)) (nm b) 0 (-1, -1)).2 at p3
          change (fup (pkg b (FR b)) (nm b) 0 (-1, -1)).2 = b 2 (t0 : Int) at p4
          rw [if_pos (by omega), p3] at k
          rw [isC_b h'.1 (by omega) (by omega)]
          refine c_closedBetween hV.1 (FR_gd hV.1) hR ?_ ?_ (KC_fin k h' hf)
          · rw [p4]
            exact ⟨by omega, by omega⟩
          · rw [p4]
            exact ⟨by omega, by omega⟩
        · rw [if_neg (by omega)] at k
          exact KC_fin k h' hf
    · rw [if_pos (by omega)] at k
      exact KC_fin k h' hf
  · rw [if_pos x2] at k
    exact KC_fin k h (jfr_refl _ _)
theorem m_peak {d : Nat} {b : BK} {A K : List BK} {ν : JM} {Q : JQ} (hV : VS b A K) (h : MI b A K ν) {x : Int} (hx : inR x) (k : KM b A K ν Q (oPeak b x)) : wp true (d + 14) 292 0 [(40, 0), (0, x), (9, 0), (9, 0), (9, 0), (9, 0)] [] ν Q := by
  unfold oPeak at k
  have hb := vb_w hV.1
  have hm := vb_m hV.1
  have hn := nm_eq hV.1
  have hF := FR_n hV.1
  refine s_X11_peak_0 (d + 13) _ _ _ (w_isFrom hx ⟨by omega, by omega⟩ ⟨by omega, by omega⟩ (fun x0 x1 => ⟨by decide, fun _ => ?_, fun h => absurd (by decide) h⟩) (fun x2 => ⟨by decide, fun h => absurd rfl h, fun _ => ?_⟩))
  · rw [if_neg (by omega)] at k
    refine m_layI (d := d + 1) hV h (fun ξ h' hL hf _ => ?_)
    rw [hL.1.1]
    refine ⟨Or.inr ⟨⟨by omega, by omega⟩, ⟨by omega, by omega⟩⟩, fun n0 => ?_, fun e0 => ?_⟩
    · rw [if_neg (by omega)] at k
      refine fup_loop (W := fun i (s : Int × Int) => ∀ u : JV, wp true (d + 14) 292 39 [(40, 0), (0, x), (0, s.2), (0, s.1), (0, i), u] [] ξ Q) (g := pkg b (FR b)) (fun _ s => inR s.1) (lo := 0) (n := b 5 1) (fun i s i0 i1 hs => ?_) (fun i s i0 i1 hs hW u => ?_) (nm b) 0 (0, -1) (by omega) hn ⟨by show -2147483648 ≤ (0 : Int); omega, by show (0 : Int) < 2147483648; omega⟩ (fun _ u => ?_) (9, 0)
      · have p : 0 ≤ psd b (FR b) (b 2 i) ∧ psd b (FR b) (b 2 i) ≤ ((FR b).length : Int) := pst_in b (FR b) (b 2 i - b 4 0) (b 2 i) (FR b).length
        show inR (if s.1 < psd b (FR b) (b 2 i) then (psd b (FR b) (b 2 i), b 2 i) else s).1
        split
        · exact ⟨by show -2147483648 ≤ psd b (FR b) (b 2 i); omega, by show psd b (FR b) (b 2 i) < 2147483648; omega⟩
        · exact hs
      · have q := isM_t h'.1 i0 i1
        have tb := vb_t hV.1 i0 i1
        have p := pst_in b (FR b) (b 2 i - b 4 0) (b 2 i) (FR b).length
        refine s_X11_peak_39 (d + 12) _ _ _ _ _ _ _ ?_
        rw [isM_m h'.1, q.2.2.1]
        refine ⟨by omega, by omega, ⟨⟨by omega, by omega⟩, ⟨by omega, by omega⟩⟩, fun h => absurd h (by omega), fun _ => ⟨by omega, by omega, m_stand (d := d + 10) hV.1 h'.1 (FR_gd hV.1) hL (FR_le hV.1) ⟨by omega, by omega⟩ ⟨⟨⟨by omega, by omega⟩, hs⟩, fun hlt => ⟨by omega, by omega, ?_⟩, fun hge => ?_⟩⟩⟩
        · rw [show pkg b (FR b) s i = (psd b (FR b) (b 2 i), b 2 i) from if_pos hlt] at hW
          rw [q.2.2.1]
          exact hW _
        · rw [show pkg b (FR b) s i = s from if_neg hge] at hW
          exact hW _
      · refine s_X11_peak_39 (d + 12) _ _ _ _ _ _ _ ?_
        rw [isM_m h'.1]
        refine ⟨by omega, by omega, ⟨⟨by omega, by omega⟩, ⟨by omega, by omega⟩⟩, fun _ => ⟨Or.inr ⟨hx, ⟨by omega, by omega⟩⟩, fun n1 => ?_, fun e1 => ?_⟩, fun h => absurd (Int.le_refl _) h⟩
        · rw [if_neg n1] at k
          exact KM_fin hV k h' hf
        · rw [if_pos (by omega)] at k
          exact KM_fin hV k h' hf
    · rw [if_pos (by omega)] at k
      exact KM_fin hV k h' hf
  · rw [if_pos x2] at k
    exact KM_fin hV k h (jfr_refl _ _)
