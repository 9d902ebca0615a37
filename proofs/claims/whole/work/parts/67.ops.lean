/-! the calls that ask: what each answers, and the class and the reference answer so -/
def KC (b : BK) (A K : List BK) (c : Int) (ν : JM) (Q : JQ) (o : Int × Int) : Prop := ∀ ξ, CI b A K (c + 1) ξ → jfr PQc ν ξ → ξ 11 0 8 = o.2 → Q o.1 ξ
def KM (b : BK) (A K : List BK) (ν : JM) (Q : JQ) (o : Int × Int) : Prop := ∀ ξ, MI b A K ξ → jfr PQm ν ξ → ξ 40 0 1 = o.2 → Q o.1 ξ
theorem KC_fin {b : BK} {A K : List BK} {c : Int} {ν ξ : JM} {Q : JQ} {r s : Int} (k : KC b A K c ν Q (r, s)) (h : CI b A K c ξ) (hf : jfr PQc ν ξ) : Q r (jw ξ 11 0 8 s) :=
  k _ (CI_fr (CI_st h s) (by omega) (fun _ _ _ _ => rfl)) (jfr_jw hf (by omega)) (jw_eq _ _ _ _ _)
theorem KM_fin {b : BK} {A K : List BK} {ν ξ : JM} {Q : JQ} {r s : Int} (hV : VS b A K) (k : KM b A K ν Q (r, s)) (h : MI b A K ξ) (hf : jfr PQm ν ξ) : Q r (jw ξ 40 0 1 s) :=
  k _ (MI_st hV.2.1 hV.2.2 h s) (jfr_jw hf (by omega)) (jw_eq _ _ _ _ _)
theorem CI_C {b : BK} {A K : List BK} {c : Int} {ν : JM} (h : CI b A K c ν) : isC ν 0 b := h.1
theorem FR_gd {b : BK} (hv : vb b) : gd b (FR b) := pro_good hv _
theorem FR_le {b : BK} (hv : vb b) : (FR b).length ≤ 12000 := rounds_le hv _
/-- bounds -/
def oBounds (b : BK) (w : Int) : Int × Int := if 0 ≤ w ∧ w ≤ 3 then (b 4 w, 0) else (-1, 1)
theorem c_bounds {d : Nat} {b : BK} {A K : List BK} {c w : Int} {ν : JM} {Q : JQ} (h : CI b A K c ν) (hw : inR w) (k : KC b A K c ν Q (oBounds b w)) : wp true (d + 1) 133 0 [(11, 0), (0, w)] [] ν Q := by
  refine s_X10_bounds_0 _ _ _ _ (w_outside hw ⟨by omega, by omega⟩ ⟨by omega, by omega⟩ (fun a1 a2 => ⟨by decide, fun _ => ⟨by omega, by omega, ?_⟩, fun h => absurd rfl h⟩) (fun a => ⟨by decide, fun h => absurd h (by decide), fun _ => ?_⟩))
  · rw [oBounds, if_pos ⟨a1, a2⟩] at k
    rw [isC_b h.1 a1 (by omega)]
    exact KC_fin k h (jfr_refl _ _)
  · rw [oBounds, if_neg a] at k
    exact KC_fin k h (jfr_refl _ _)
theorem m_bounds {d : Nat} {b : BK} {A K : List BK} {w : Int} {ν : JM} {Q : JQ} (hV : VS b A K) (h : MI b A K ν) (hw : inR w) (k : KM b A K ν Q (oBounds b w)) : wp true (d + 2) 260 0 [(40, 0), (0, w)] [] ν Q := by
  refine s_X11_bounds_0 _ _ _ _ (w_isFrom hw ⟨by omega, by omega⟩ ⟨by omega, by omega⟩ (fun a1 a2 => ⟨by decide, fun h => absurd h (by decide), fun _ => ⟨by omega, by omega, ?_⟩⟩) (fun a => ⟨by decide, fun _ => ?_, fun h => absurd rfl h⟩))
  · rw [oBounds, if_pos ⟨a1, a2⟩] at k
    rw [isM_b h.1 a1 (by omega)]
    exact KM_fin hV k h (jfr_refl _ _)
  · rw [oBounds, if_neg a] at k
    exact KM_fin hV k h (jfr_refl _ _)
/-- transfer -/
def oTransfer (b : BK) (t w : Int) : Int × Int := if t < 0 ∨ ¬ (0 ≤ w ∧ w ≤ 6) then (-1, 1) else if ¬ t < b 5 1 then (-1, 5) else (if w < 4 then b w.toNat t else if w = 4 then pus (FR b) t (FR b).length else if w = 5 then pcl (FR b) t (FR b).length else ((FR b).length : Int) - pus (FR b) t (FR b).length, 0)
theorem c_transfer {d : Nat} {b : BK} {A K : List BK} {c t w : Int} {ν : JM} {Q : JQ} (hV : VS b A K) (h : CI b A K c ν) (ht : inR t) (hw : inR w) (k : KC b A K c ν Q (oTransfer b t w)) : wp true (d + 14) 134 0 [(11, 0), (0, t), (0, w)] [] ν Q := by
  have hm := vb_m hV.1
  have hC := h.1
  unfold oTransfer at k
  refine s_X10_transfer_0 (d + 13) _ _ _ _ ⟨⟨ht, ⟨by omega, by omega⟩⟩, fun h0 => ?_, fun h0 => w_outside hw ⟨by omega, by omega⟩ ⟨by omega, by omega⟩ (fun a1 a2 => ⟨by decide, fun _ => ?_, fun h => absurd rfl h⟩) (fun a => ⟨by decide, fun h => absurd h (by decide), fun _ => ?_⟩)⟩
  · rw [if_pos (Or.inl h0)] at k
    exact KC_fin k h (jfr_refl _ _)
  · rw [if_neg (by omega)] at k
    refine w_hasTransfer hC hV.1 ht (fun t0 t1 => ⟨by decide, fun _ => ?_, fun h => absurd (by decide) h⟩) (fun a => ⟨by decide, fun h => absurd rfl h, fun _ => ?_⟩)
    · rw [if_neg (by omega)] at k
      have q := isC_t hC t0 t1
      refine ⟨hw, fun e => ⟨t0, by omega, ?_⟩, fun n0 => ⟨fun e => ⟨t0, by omega, ?_⟩, fun n1 => ⟨fun e => ⟨t0, by omega, ?_⟩, fun n2 => ⟨fun e => ⟨t0, by omega, ?_⟩, fun n3 => ⟨fun e => ?_, fun n4 => ⟨fun e => ?_, fun n5 => ?_⟩⟩⟩⟩⟩⟩
      · subst e
        rw [if_pos (by omega)] at k
        rw [q.1]
        exact KC_fin k h (jfr_refl _ _)
      · subst e
        rw [if_pos (by omega)] at k
        rw [q.2.1]
        exact KC_fin k h (jfr_refl _ _)
      · subst e
        rw [if_pos (by omega)] at k
        rw [q.2.2.1]
        exact KC_fin k h (jfr_refl _ _)
      · subst e
        rw [if_pos (by omega)] at k
        rw [q.2.2.2]
        exact KC_fin k h (jfr_refl _ _)
      · rw [if_neg (by omega), if_pos e] at k
        refine c_fresh hV h (fun ξ h' hR _ hf => ⟨t0, by omega, ?_⟩)
        rw [(hR.2.2.2.2.2.1 t t0 (by omega)).1]
        exact KC_fin k h' hf
      · rw [if_neg (by omega), if_neg n4, if_pos e] at k
        refine c_fresh hV h (fun ξ h' hR _ hf => ⟨t0, by omega, ?_⟩)
        rw [(hR.2.2.2.2.2.1 t t0 (by omega)).2]
        exact KC_fin k h' hf
      · rw [if_neg (by omega), if_neg n4, if_neg n5] at k
        refine c_fresh hV h (fun ξ h' hR _ hf => c_fresh hV h' (fun ζ h2 hR2 _ hf2 => ⟨t0, by omega, ?_⟩))
        rw [(hR2.2.2.2.2.2.1 t t0 (by omega)).1, hR.2.1.1]
        exact KC_fin k h2 (jfr_trans hf hf2)
    · rw [if_pos (by omega)] at k
      exact KC_fin k h (jfr_refl _ _)
  · rw [if_pos (Or.inr a)] at k
    exact KC_fin k h (jfr_refl _ _)
theorem m_transfer {d : Nat} {b : BK} {A K : List BK} {t w : Int} {ν : JM} {Q : JQ} (hV : VS b A K) (h : MI b A K ν) (ht : inR t) (hw : inR w) (k : KM b A K ν Q (oTransfer b t w)) : wp true (d + 13) 263 0 [(40, 0), (0, t), (0, w)] [] ν Q := by
  have hm := vb_m hV.1
  have hg := FR_gd hV.1
  have hF := FR_le hV.1
  unfold oTransfer at k
  refine s_X11_transfer_0 (d + 12) _ _ _ _ (w_isFrom hw ⟨by omega, by omega⟩ ⟨by omega, by omega⟩ (fun a1 a2 => ⟨by decide, fun h => absurd h (by decide), fun _ => ⟨⟨ht, ⟨by omega, by omega⟩⟩, fun h0 => ?_, fun h0 => ?_⟩⟩) (fun a => ⟨by decide, fun _ => ?_, fun h => absurd rfl h⟩))
  · rw [if_neg (by omega)] at k
    refine w_isTransfer h.1 hV.1 ht (fun t0 t1 => ⟨by decide, fun _ => ?_, fun h => absurd (by decide) h⟩) (fun a => ⟨by decide, fun h => absurd rfl h, fun _ => ?_⟩)
    · rw [if_neg (by omega)] at k
      refine m_layI hV h (fun ξ h' hL hf hs => ⟨⟨hw, ⟨by omega, by omega⟩⟩, fun w4 => ⟨Or.inr ⟨hw, ⟨by omega, by omega⟩⟩, fun n4 => ⟨Or.inr ⟨hw, ⟨by omega, by omega⟩⟩, fun n5 => ?_, fun e5 => ?_⟩, fun e4 => ?_⟩, fun w4 => ?_⟩)
      · rw [if_neg (by omega), if_neg n4, if_neg n5] at k
        refine m_inRounds hV.1 hg hL.1 hF ht ?_
        rw [hL.1.1]
        exact KM_fin hV k h' hf
      · rw [if_neg (by omega), if_neg n4, if_pos (by omega)] at k
        exact m_closes hV.1 h'.1 hg hL hF ht (KM_fin hV k h' hf)
      · rw [if_neg (by omega), if_pos (by omega)] at k
        exact m_inRounds hV.1 hg hL.1 hF ht (KM_fin hV k h' hf)
      · rw [if_pos (by omega)] at k
        have q := isM_t h'.1 t0 t1
        have e : ξ 41 0 (8 + 4 * t + w) = b w.toNat t := by
          have h4 : w = 0 ∨ w = 1 ∨ w = 2 ∨ w = 3 := by omega
          rcases h4 with rfl | rfl | rfl | rfl
          · exact q.1
          · exact q.2.1
          · exact q.2.2.1
          · exact q.2.2.2
        rw [e]
        exact ⟨by omega, by omega, KM_fin hV k h' hf⟩
    · rw [if_pos (by omega)] at k
      exact KM_fin hV k h (jfr_refl _ _)
  · rw [if_pos (by omega)] at k
    exact KM_fin hV k h (jfr_refl _ _)
  · rw [if_pos (Or.inr a)] at k
    exact KM_fin hV k h (jfr_refl _ _)
/-- account -/
def oAccount (b : BK) (a w : Int) : Int × Int := if ¬ (0 ≤ w ∧ w ≤ 7) then (-1, 1) else if ¬ (0 ≤ a ∧ a < b 5 0) then (-1, 2) else (if w = 0 then pcount b 0 a else if w = 1 then pcount b 1 a else if w = 2 then pamount b 0 a else if w = 3 then pamount b 1 a else if w = 4 then (if bt (b 5 2) a.toNat = true then 1 else 0) else if w = 5 then pct b (FR b) (mem12 a) (FR b).length else if w = 6 then pwc b (FR b) a.toNat else (pleast b a).2, 0)
theorem c_account {d : Nat} {b : BK} {A K : List BK} {c a w : Int} {ν : JM} {Q : JQ} (hV : VS b A K) (h : CI b A K c ν) (ha : inR a) (hw : inR w) (k : KC b A K c ν Q (oAccount b a w)) : wp true (d + 14) 135 0 [(11, 0), (0, a), (0, w)] [] ν Q := by
  have hn := vb_n hV.1
  have hC := h.1
  have hg := FR_gd hV.1
  unfold oAccount at k
  refine s_X10_account_0 (d + 13) _ _ _ _ (w_outside hw ⟨by omega, by omega⟩ ⟨by omega, by omega⟩ (fun a1 a2 => ⟨by decide, fun _ => ?_, fun h => absurd rfl h⟩) (fun x => ⟨by decide, fun h => absurd h (by decide), fun _ => ?_⟩))
  · rw [if_neg (by omega)] at k
    refine w_hasAccount hC hV.1 ha (fun t0 t1 => ⟨by decide, fun _ => ?_, fun h => absurd (by decide) h⟩) (fun x => ⟨by decide, fun h => absurd rfl h, fun _ => ?_⟩)
    · rw [if_neg (by omega)] at k
      refine ⟨hw, fun e => ?_, fun n0 => ⟨fun e => ?_, fun n1 => ⟨fun e => ?_, fun n2 => ⟨fun e => ?_, fun n3 => ⟨fun e => ?_, fun n4 => ⟨fun e => ?_, fun n5 => ⟨fun e => ?_, fun n6 => ?_⟩⟩⟩⟩⟩⟩⟩
      · rw [if_pos e] at k
        exact c_countAt hC hV.1 ha (Or.inr rfl) (KC_fin k h (jfr_refl _ _))
      · rw [if_neg n0, if_pos e] at k
        exact c_countAt hC hV.1 ha (Or.inl rfl) (KC_fin k h (jfr_refl _ _))
      · rw [if_neg n0, if_neg n1, if_pos e] at k
        exact c_amountAt hC hV.1 ha (Or.inr rfl) (KC_fin k h (jfr_refl _ _))
      · rw [if_neg n0, if_neg n1, if_neg n2, if_pos e] at k
        exact c_amountAt hC hV.1 ha (Or.inl rfl) (KC_fin k h (jfr_refl _ _))
      · rw [if_neg n0, if_neg n1, if_neg n2, if_neg n3, if_pos e] at k
        refine w_isTrusted hC ⟨t0, by omega⟩ (fun hb => ⟨by decide, fun h => absurd h (by decide), fun _ => ?_⟩) (fun hb => ⟨by decide, fun _ => ?_, fun h => absurd rfl h⟩)
        · rw [if_pos hb] at k
          exact KC_fin k h (jfr_refl _ _)
        · rw [if_neg (by rw [hb]; decide)] at k
          exact KC_fin k h (jfr_refl _ _)
      · rw [if_neg n0, if_neg n1, if_neg n2, if_neg n3, if_neg n4, if_pos e] at k
        refine c_fresh hV h (fun ξ h' hR _ hf => ⟨t0, by omega, ?_⟩)
        rw [hR.2.2.2.2.2.2.2.2 a t0 (by omega)]
        exact KC_fin k h' hf
      · rw [if_neg n0, if_neg n1, if_neg n2, if_neg n3, if_neg n4, if_neg n5, if_pos e] at k
        exact c_fresh hV h (fun ξ h' hR _ hf => c_countWith hV.1 hg hR ⟨t0, by omega⟩ (KC_fin k h' hf))
      · rw [if_neg n0, if_neg n1, if_neg n2, if_neg n3, if_neg n4, if_neg n5, if_neg n6] at k
        exact c_lowestHeld hC hV.1 ha (KC_fin k h (jfr_refl _ _))
    · rw [if_pos x] at k
      exact KC_fin k h (jfr_refl _ _)
  · rw [if_pos x] at k
    exact KC_fin k h (jfr_refl _ _)
theorem m_account {d : Nat} {b : BK} {A K : List BK} {a w : Int} {ν : JM} {Q : JQ} (hV : VS b A K) (h : MI b A K ν) (ha : inR a) (hw : inR w) (k : KM b A K ν Q (oAccount b a w)) : wp true (d + 13) 268 0 [(40, 0), (0, a), (0, w)] [] ν Q := by
  have hn := vb_n hV.1
  have hg := FR_gd hV.1
  have hF := FR_le hV.1
  unfold oAccount at k
  refine s_X11_account_0 (d + 12) _ _ _ _ (w_isFrom hw ⟨by omega, by omega⟩ ⟨by omega, by omega⟩ (fun a1 a2 => ⟨by decide, fun _ => ?_, fun h => absurd (by decide) h⟩) (fun x => ⟨by decide, fun h => absurd rfl h, fun _ => ?_⟩))
  · rw [if_neg (by omega)] at k
    refine w_isAccount h.1 hV.1 ha (fun t0 t1 => ⟨by decide, fun _ => ?_, fun h => absurd (by decide) h⟩) (fun x => ⟨by decide, fun h => absurd rfl h, fun _ => ?_⟩)
    · rw [if_neg (by omega)] at k
      refine m_layI hV h (fun ξ h' hL hf hs => ⟨hw, fun e => ⟨by omega, by omega, ?_⟩, fun n4 => ⟨fun e => ?_, fun n5 => ⟨fun e => ?_, fun n6 => ⟨fun e => ?_, fun n7 => ⟨by omega, by omega, by omega, by omega, ⟨hw, ⟨by omega, by omega⟩⟩, fun w1 => ?_, fun w1 => ?_⟩⟩⟩⟩⟩)
      · subst e
        rw [if_neg (by omega), if_neg (by omega), if_neg (by omega), if_neg (by omega), if_pos rfl] at k
        rw [isM_tr h'.1, has_s _ t0 (by omega)]
        exact KM_fin hV k h' hf
      · subst e
        rw [if_neg (by omega), if_neg (by omega), if_neg (by omega), if_neg (by omega), if_neg (by omega), if_pos rfl] at k
        exact m_roundsOf hV.1 hg hL hF ⟨t0, by omega⟩ (KM_fin hV k h' hf)
      · subst e
        rw [if_neg (by omega), if_neg (by omega), if_neg (by omega), if_neg (by omega), if_neg (by omega), if_neg (by omega), if_pos rfl] at k
        exact m_alarmsOf hV.1 hg hL hF ⟨t0, by omega⟩ (KM_fin hV k h' hf)
      · subst e
        rw [if_neg (by omega), if_neg (by omega), if_neg (by omega), if_neg (by omega), if_neg (by omega), if_neg (by omega), if_neg (by omega)] at k
        exact m_leastHad h'.1 hV.1 ha (KM_fin hV k h' hf)
      · have h2 : w = 0 ∨ w = 1 := by omega
        rcases h2 with rfl | rfl
        · exact m_sideOf h'.1 hV.1 ha (Or.inl rfl) (Or.inl rfl) (KM_fin hV k h' hf)
        · exact m_sideOf h'.1 hV.1 ha (Or.inr rfl) (Or.inl rfl) (KM_fin hV k h' hf)
      · have h2 : w = 2 ∨ w = 3 := by omega
        rcases h2 with rfl | rfl
        · exact m_sideOf h'.1 hV.1 ha (Or.inl rfl) (Or.inr rfl) (KM_fin hV k h' hf)
        · exact m_sideOf h'.1 hV.1 ha (Or.inr rfl) (Or.inr rfl) (KM_fin hV k h' hf)
    · rw [if_pos x] at k
      exact KM_fin hV k h (jfr_refl _ _)
  · rw [if_pos x] at k
    exact KM_fin hV k h (jfr_refl _ _)
