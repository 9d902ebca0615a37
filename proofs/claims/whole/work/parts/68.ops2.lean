/-! left, without, closed, hop, ring, hinge -/
theorem FR_n {b : BK} (hv : vb b) : 0 ≤ ((FR b).length : Int) ∧ ((FR b).length : Int) ≤ 12000 := ⟨by omega, by have := FR_le hv; omega⟩
def okn (v : Int) : Int × Int := if v = -1 then (-1, 5) else (v, 0)
theorem w_knownK {d : Nat} {b : BK} {A K : List BK} {c v : Int} {ν ξ : JM} {Q : JQ} (hv : inR v) (h : CI b A K c ξ) (hf : jfr PQc ν ξ) (k : KC b A K c ν Q (okn v)) : wp true (d + 1) 175 0 [(11, 0), (0, v)] [] ξ (fun r3 μ3 => Q r3 μ3) := by
  refine w_known hv (fun e => ?_) (fun e => ?_)
  · rw [okn, if_pos e] at k
    exact KC_fin k h hf
  · rw [okn, if_neg e] at k
    exact KC_fin k h hf
theorem KM_ok {b : BK} {A K : List BK} {v : Int} {ν : JM} {Q : JQ} (hv : ¬ v = -1) (k : KM b A K ν Q (okn v)) : KM b A K ν Q (v, 0) := by
  rw [okn, if_neg hv] at k
  exact k
theorem KM_no {b : BK} {A K : List BK} {v : Int} {ν : JM} {Q : JQ} (hv : v = -1) (k : KM b A K ν Q (okn v)) : KM b A K ν Q (-1, 5) := by
  rw [okn, if_pos hv] at k
  exact k
/-- left -/
def oLeft (b : BK) (t : Int) : Int × Int := if t < 0 then (-1, 1) else if ¬ t < b 5 1 then (-1, 5) else ((pun b (FR b) (FR b).length).1 t, 0)
theorem c_left {d : Nat} {b : BK} {A K : List BK} {c : Int} {ν : JM} {Q : JQ} (hV : VS b A K) (h : CI b A K c ν) {t : Int} (ht : inR t) (k : KC b A K c ν Q (oLeft b t)) : wp true (d + 14) 152 0 [(11, 0), (0, t)] [] ν Q := by
  have hm := vb_m hV.1
  unfold oLeft at k
  refine s_X10_left_0 (d + 13) _ _ _ ⟨⟨ht, ⟨by omega, by omega⟩⟩, fun h0 => ?_, fun h0 => ?_⟩
  · rw [if_neg (by omega)] at k
    refine w_hasTransfer h.1 hV.1 ht (fun t0 t1 => ⟨by decide, fun _ => ?_, fun h => absurd (by decide) h⟩) (fun a => ⟨by decide, fun h => absurd rfl h, fun _ => ?_⟩)
    · rw [if_neg (by omega)] at k
      refine c_fresh hV h (fun ξ h' hR _ hf => ⟨t0, by omega, ?_⟩)
      rw [hR.2.2.2.2.2.2.1 t t0 t1]
      exact KC_fin k h' hf
    · rw [if_pos (by omega)] at k
      exact KC_fin k h (jfr_refl _ _)
  · rw [if_pos (by omega)] at k
    exact KC_fin k h (jfr_refl _ _)
theorem m_left {d : Nat} {b : BK} {A K : List BK} {ν : JM} {Q : JQ} (hV : VS b A K) (h : MI b A K ν) {t : Int} (ht : inR t) (k : KM b A K ν Q (oLeft b t)) : wp true (d + 13) 282 0 [(40, 0), (0, t)] [] ν Q := by
  have hm := vb_m hV.1
  unfold oLeft at k
  refine s_X11_left_0 (d + 12) _ _ _ ⟨⟨ht, ⟨by omega, by omega⟩⟩, fun h0 => ?_, fun h0 => ?_⟩
  · rw [if_neg (by omega)] at k
    refine w_isTransfer h.1 hV.1 ht (fun t0 t1 => ⟨by decide, fun _ => ?_, fun h => absurd (by decide) h⟩) (fun a => ⟨by decide, fun h => absurd rfl h, fun _ => ?_⟩)
    · rw [if_neg (by omega)] at k
      refine m_layI hV h (fun ξ h' hL hf _ => m_nets hV.1 h'.1 (FR_gd hV.1) hL (FR_le hV.1) (fun ζ hf2 hz => ⟨t0, by omega, ?_⟩))
      rw [hz t t0 t1]
      exact KM_fin hV k (MI_fr hV.2.1 hV.2.2 h' (fun t i h => hf2 _ _ _ (by omega))) (jfr_trans hf (jfr_mono hf2 (fun t y i h => by omega)))
    · rw [if_pos (by omega)] at k
      exact KM_fin hV k h (jfr_refl _ _)
  · rw [if_pos (by omega)] at k
    exact KM_fin hV k h (jfr_refl _ _)
/-- without -/
def oWithout (b : BK) (s : Int) : Int × Int := if s < 0 then (-1, 1) else if ¬ jushr s (b 5 0) = 0 then (-1, 7) else (pct b (FR b) (out0 s) (FR b).length, 0)
theorem shr_nn {x k : Int} (hx : inR x) (h : 0 ≤ x) (h0 : 0 ≤ k) (h1 : k < 32) : jshr x k = jushr x k := by
  obtain ⟨n, rfl⟩ := Int.eq_ofNat_of_zero_le h0
  have hb : bt x 31 = false := bt_lt h (n := 31) (by have := hx.2; omega) (Nat.le_refl _)
  rw [jshr_bv x (by omega), jushr_bv x (by omega), BitVec.sshiftRight_eq_of_msb_false]
  rw [BitVec.msb_eq_getLsbD_last]
  exact hb
theorem c_without {d : Nat} {b : BK} {A K : List BK} {c : Int} {ν : JM} {Q : JQ} (hV : VS b A K) (h : CI b A K c ν) {s : Int} (hs : inR s) (k : KC b A K c ν Q (oWithout b s)) : wp true (d + 14) 166 0 [(11, 0), (0, s)] [] ν Q := by
  have hn := vb_n hV.1
  unfold oWithout at k
  refine s_X10_without_0 (d + 13) _ _ _ ⟨⟨hs, ⟨by omega, by omega⟩⟩, fun h0 => ?_, fun h0 => ?_⟩
  · rw [if_neg (by omega)] at k
    rw [isC_n h.1]
    refine ⟨Or.inr ⟨inR_ushr _ _, ⟨by omega, by omega⟩⟩, fun e => ?_, fun e => ?_⟩
    · rw [if_neg (fun h => h e)] at k
      exact c_fresh hV h (fun ξ h' hR _ hf => c_roundsWithout hV.1 (FR_gd hV.1) hR (KC_fin k h' hf))
    · rw [if_pos e] at k
      exact KC_fin k h (jfr_refl _ _)
  · rw [if_pos (by omega)] at k
    exact KC_fin k h (jfr_refl _ _)
theorem m_without {d : Nat} {b : BK} {A K : List BK} {ν : JM} {Q : JQ} (hV : VS b A K) (h : MI b A K ν) {s : Int} (hs : inR s) (k : KM b A K ν Q (oWithout b s)) : wp true (d + 13) 313 0 [(40, 0), (0, s)] [] ν Q := by
  have hn := vb_n hV.1
  unfold oWithout at k
  refine s_X11_without_0 (d + 12) _ _ _ ⟨⟨hs, ⟨by omega, by omega⟩⟩, fun h0 => ?_, fun h0 => ?_⟩
  · rw [if_neg (by omega)] at k
    rw [isM_n h.1, shr_nn hs h0 hn.1 (by omega)]
    refine ⟨by omega, by omega, Or.inr ⟨inR_ushr _ _, ⟨by omega, by omega⟩⟩, fun e => ?_, fun e => ?_⟩
    · rw [if_neg (fun h => h e)] at k
      exact m_layI hV h (fun ξ h' hL hf _ => m_leftBy hV.1 (FR_gd hV.1) hL (FR_le hV.1) (KM_fin hV k h' hf))
    · rw [if_pos e] at k
      exact KM_fin hV k h (jfr_refl _ _)
  · rw [if_pos (by omega)] at k
    exact KM_fin hV k h (jfr_refl _ _)
/-- closed -/
theorem pcb_in (F : LL) (t : Int) : ∀ q n i, -1 ≤ pcb F t q n i ∧ pcb F t q n i < (n : Int) + q
  | 0, n, i => by show (-1 : Int) ≤ -1 ∧ (-1 : Int) < _; omega
  | q + 1, n, i => by
    have e : pcb F t (q + 1) n i = if rls (F.getD n []) = t then (if i = 0 then (n : Int) else pcb F t q (n + 1) (i - 1)) else pcb F t q (n + 1) i := rfl
    have h1 := pcb_in F t q (n + 1) (i - 1)
    have h2 := pcb_in F t q (n + 1) i
    rw [e]
    split
    · split
      · omega
      · omega
    · omega
theorem pcb_no {b : BK} {F : LL} (hg : gd b F) {t : Int} (ht : ¬ (0 ≤ t ∧ t < b 5 1)) : ∀ q n i, n + q ≤ F.length → pcb F t q n i = -1
  | 0, n, i, _ => rfl
  | q + 1, n, i, h => by
    have e : pcb F t (q + 1) n i = if rls (F.getD n []) = t then (if i = 0 then (n : Int) else pcb F t q (n + 1) (i - 1)) else pcb F t q (n + 1) i := rfl
    have g := rls_in (gd_get hg (r := n) (by omega))
    rw [e, if_neg (fun he : rls (F.getD n []) = t => ht (he ▸ g))]
    exact pcb_no hg ht q (n + 1) i (by omega)
def oClosed (b : BK) (t i : Int) : Int × Int := if t < 0 ∨ i < 0 then (-1, 1) else okn (pcb (FR b) t (FR b).length 0 i)
theorem c_closed {d : Nat} {b : BK} {A K : List BK} {c : Int} {ν : JM} {Q : JQ} (hV : VS b A K) (h : CI b A K c ν) {t i : Int} (ht : inR t) (hi : inR i) (k : KC b A K c ν Q (oClosed b t i)) : wp true (d + 14) 149 0 [(11, 0), (0, t), (0, i)] [] ν Q := by
  unfold oClosed at k
  have hn := FR_n hV.1
  refine s_X10_closed_0 (d + 13) _ _ _ _ ⟨⟨ht, ⟨by omega, by omega⟩⟩, fun h0 => ?_, fun h0 => ⟨⟨hi, ⟨by omega, by omega⟩⟩, fun h1 => ?_, fun h1 => ?_⟩⟩
  · rw [if_pos (by omega)] at k
    exact KC_fin k h (jfr_refl _ _)
  · rw [if_neg (by omega)] at k
    have hp := pcb_in (FR b) t (FR b).length 0 i
    exact c_fresh hV h (fun ξ h' hR _ hf => c_closedBy hV.1 (FR_gd hV.1) hR ht ⟨h1, hi⟩ (w_knownK ⟨by omega, by omega⟩ h' hf k))
  · rw [if_pos (by omega)] at k
    exact KC_fin k h (jfr_refl _ _)
theorem m_closed23 {d : Nat} {b : BK} {A K : List BK} {ν ξ : JM} {Q : JQ} {t a2 : Int} (hV : VS b A K) (h : MI b A K ξ) (hL : ML b (FR b) ξ) (hf : jfr PQm ν ξ) (ht : inR t) : ∀ (q n : Nat) (i : Int), n + q = (FR b).length → 0 ≤ i ∧ inR i → KM b A K ν Q (okn (pcb (FR b) t q n i)) → wp true (d + 3) 276 23 [(40, 0), (0, t), (0, a2), (0, i), (0, (n : Int))] [] ξ Q
  | 0, n, i, hq, hi, k => by
    have hn := FR_n hV.1
    have k' := KM_no rfl k
    refine s_X11_closed_23 (d + 1) _ _ _ _ _ _ ?_
    rw [hL.1.1]
    exact ⟨⟨⟨by omega, by omega⟩, ⟨by omega, by omega⟩⟩, fun _ => KM_fin hV k' h hf, fun h => absurd (show ((FR b).length : Int) ≤ (n : Int) by omega) h⟩
  | q + 1, n, i, hq, hi, k => by
    have hn := FR_n hV.1
    have hi2 := hi.2.2
    have e : pcb (FR b) t (q + 1) n i = if rls ((FR b).getD n []) = t then (if i = 0 then (n : Int) else pcb (FR b) t q (n + 1) (i - 1)) else pcb (FR b) t q (n + 1) i := rfl
    have row := ML_row hV.1 h.1 (FR_gd hV.1) hL (r := (n : Int)) ⟨by omega, by omega⟩
    rw [show ((n : Int)).toNat = n from rfl] at row
    have hm := vb_m hV.1
    refine s_X11_closed_23 (d + 1) _ _ _ _ _ _ ?_
    rw [hL.1.1]
    refine ⟨⟨⟨by omega, by omega⟩, ⟨by omega, by omega⟩⟩, fun h => absurd h (by omega), fun _ => w_isTransfer h.1 hV.1 ht (fun t0 t1 => ⟨by decide, fun h => absurd h (by decide), fun _ => ?_⟩) (fun a => ⟨by decide, fun _ => ?_, fun h => absurd rfl h⟩)⟩
    · rw [row.1, row.2.2.1]
      refine ⟨by omega, by omega, by omega, by omega, Or.inr ⟨⟨by omega, by omega⟩, ht⟩, fun he => ⟨Or.inr ⟨hi.2, ⟨by omega, by omega⟩⟩, fun i0 => ?_, fun i0 => ?_⟩, fun he => ?_⟩
      · rw [e, if_pos he, if_neg i0] at k
        exact m_closed23 hV h hL hf ht q (n + 1) (i + -1) (by omega) ⟨by omega, ⟨by omega, by omega⟩⟩ k
      · rw [e, if_pos he, if_pos (by omega)] at k
        exact KM_fin hV (KM_ok (by omega) k) h hf
      · rw [e, if_neg he] at k
        exact m_closed23 hV h hL hf ht q (n + 1) i (by omega) hi k
    · exact KM_fin hV (KM_no (pcb_no (FR_gd hV.1) a (q + 1) n i (by omega)) k) h hf
theorem m_closed {d : Nat} {b : BK} {A K : List BK} {ν : JM} {Q : JQ} (hV : VS b A K) (h : MI b A K ν) {t i : Int} (ht : inR t) (hi : inR i) (k : KM b A K ν Q (oClosed b t i)) : wp true (d + 14) 276 0 [(40, 0), (0, t), (0, i), (9, 0), (9, 0)] [] ν Q := by
  unfold oClosed at k
  refine s_X11_closed_0 (d + 13) _ _ _ _ ⟨⟨ht, ⟨by omega, by omega⟩⟩, fun h0 => ?_, fun h0 => ⟨⟨hi, ⟨by omega, by omega⟩⟩, fun h1 => ?_, fun h1 => ?_⟩⟩
  · rw [if_pos (by omega)] at k
    exact KM_fin hV k h (jfr_refl _ _)
  · rw [if_neg (by omega)] at k
    exact m_layI (d := d + 1) hV h (fun ξ h' hL hf _ => m_closed23 hV h' hL hf ht (FR b).length 0 i (by omega) ⟨h1, hi⟩ k)
  · rw [if_pos (by omega)] at k
    exact KM_fin hV k h (jfr_refl _ _)
/-- hop -/
def hopv (F : LL) (r i : Int) : Int := if r < (F.length : Int) ∧ i < ((F.getD r.toNat []).length : Int) then (F.getD r.toNat []).getD i.toNat 0 else -1
def oHop (b : BK) (r i : Int) : Int × Int := if r < 0 ∨ i < 0 then (-1, 1) else okn (hopv (FR b) r i)
theorem c_hop {d : Nat} {b : BK} {A K : List BK} {c : Int} {ν : JM} {Q : JQ} (hV : VS b A K) (h : CI b A K c ν) {r i : Int} (hr : inR r) (hi : inR i) (k : KC b A K c ν Q (oHop b r i)) : wp true (d + 14) 146 0 [(11, 0), (0, r), (0, i)] [] ν Q := by
  unfold oHop at k
  have hn := FR_n hV.1
  have hm := vb_m hV.1
  refine s_X10_hop_0 (d + 13) _ _ _ _ ⟨⟨hr, ⟨by omega, by omega⟩⟩, fun h0 => ?_, fun h0 => ⟨⟨hi, ⟨by omega, by omega⟩⟩, fun h1 => ?_, fun h1 => ?_⟩⟩
  · rw [if_pos (by omega)] at k
    exact KC_fin k h (jfr_refl _ _)
  · rw [if_neg (by omega)] at k
    unfold hopv at k
    refine c_fresh hV h (fun ξ h' hR _ hf => s_X8_hopOf_0 _ _ _ _ _ ⟨⟨hi, ⟨by omega, by omega⟩⟩, fun h => absurd h (by omega), fun _ => ?_⟩)
    by_cases hlt : r < ((FR b).length : Int)
    · have g := gd_get (FR_gd hV.1) (r := r.toNat) (by omega)
      have gl := gr_len g
      refine w_lengthOf hV.1 hR.2.1 (FR_gd hV.1) ⟨by omega, hlt⟩ ⟨⟨hi, ⟨by omega, by omega⟩⟩, fun hle => ?_, fun hle => ?_⟩
      · rw [if_neg (by omega)] at k
        exact w_knownK ⟨by omega, by omega⟩ h' hf k
      · rw [if_pos (by omega)] at k
        have gg := gr_get g (i := i.toNat) (by omega)
        exact w_transferAt hV.1 hR.2.1 (FR_gd hV.1) ⟨by omega, hlt⟩ ⟨by omega, by omega⟩ (w_knownK ⟨by omega, by omega⟩ h' hf k)
    · rw [if_neg (by omega)] at k
      refine s_X8_lengthOf_0 _ _ _ _ ⟨⟨hr, ⟨by omega, by omega⟩⟩, fun h => absurd h (by omega), fun _ => ?_⟩
      rw [hR.2.1.1]
      exact ⟨⟨hr, ⟨by omega, by omega⟩⟩, fun _ => ⟨⟨hi, ⟨by omega, by omega⟩⟩, fun _ => w_knownK ⟨by omega, by omega⟩ h' hf k, fun h => absurd h1 h⟩, fun h => absurd (by omega) h⟩
  · rw [if_pos (by omega)] at k
    exact KC_fin k h (jfr_refl _ _)
theorem m_hop {d : Nat} {b : BK} {A K : List BK} {ν : JM} {Q : JQ} (hV : VS b A K) (h : MI b A K ν) {r i : Int} (hr : inR r) (hi : inR i) (k : KM b A K ν Q (oHop b r i)) : wp true (d + 13) 270 0 [(40, 0), (0, r), (0, i)] [] ν Q := by
  unfold oHop at k
  have hn := FR_n hV.1
  have hm := vb_m hV.1
  refine s_X11_hop_0 (d + 12) _ _ _ _ ⟨⟨hr, ⟨by omega, by omega⟩⟩, fun h0 => ?_, fun h0 => ⟨⟨hi, ⟨by omega, by omega⟩⟩, fun h1 => ?_, fun h1 => ?_⟩⟩
  · rw [if_pos (by omega)] at k
    exact KM_fin hV k h (jfr_refl _ _)
  · rw [if_neg (by omega)] at k
    unfold hopv at k
    refine m_layI hV h (fun ξ h' hL hf _ => ?_)
    rw [hL.1.1]
    refine ⟨⟨hr, ⟨by omega, by omega⟩⟩, fun h3 => ?_, fun h3 => ⟨by omega, by omega, ?_⟩⟩
    · rw [if_neg (by omega)] at k
      exact KM_fin hV (KM_no rfl k) h' hf
    · have row := LM_row hL.1 (r := r) ⟨by omega, by omega⟩
      have g := gd_get (FR_gd hV.1) (r := r.toNat) (by omega)
      have gl := gr_len g
      rw [row.1]
      refine ⟨⟨hi, ⟨by omega, by omega⟩⟩, fun h4 => ?_, fun h4 => ⟨by omega, by omega, ?_⟩⟩
      · rw [if_neg (by omega)] at k
        exact KM_fin hV (KM_no rfl k) h' hf
      · rw [if_pos (by omega)] at k
        have gg := gr_get g (i := i.toNat) (by omega)
        rw [row.2.2.2 i (by omega) (by omega)]
        exact KM_fin hV (KM_ok (by omega) k) h' hf
  · rw [if_pos (by omega)] at k
    exact KM_fin hV k h (jfr_refl _ _)
/-- ring -/
def ringv (b : BK) (F : LL) (a i : Int) : Int := if a < nal b F ∧ i < ((ral b F a).length : Int) then (ral b F a).getD i.toNat 0 else -1
def oRing (b : BK) (a i : Int) : Int × Int := if a < 0 ∨ i < 0 then (-1, 1) else okn (ringv b (FR b) a i)
theorem c_ring {d : Nat} {b : BK} {A K : List BK} {c : Int} {ν : JM} {Q : JQ} (hV : VS b A K) (h : CI b A K c ν) {a i : Int} (ha : inR a) (hi : inR i) (k : KC b A K c ν Q (oRing b a i)) : wp true (d + 14) 148 0 [(11, 0), (0, a), (0, i)] [] ν Q := by
  unfold oRing at k
  have na := nal_in b (FR b) (FR_le hV.1)
  have en : nal b (FR b) = ((pal b (FR b) (FR b).length).length : Int) := rfl
  refine s_X10_ring_0 (d + 13) _ _ _ _ ⟨⟨ha, ⟨by omega, by omega⟩⟩, fun h0 => ?_, fun h0 => ⟨⟨hi, ⟨by omega, by omega⟩⟩, fun h1 => ?_, fun h1 => ?_⟩⟩
  · rw [if_pos (by omega)] at k
    exact KC_fin k h (jfr_refl _ _)
  · rw [if_neg (by omega)] at k
    unfold ringv at k
    refine c_fresh hV h (fun ξ h' hR _ hf => s_X0_accountOf_0 _ _ _ _ _ (w_hasA hR.2.2.2.1.1 (by omega) ha (fun a0 a1 => ?_) (fun a2 => ?_)))
    · have q := (RS_al hV.1 (FR_gd hV.1) hR ⟨a0, a1⟩).1
      have sm := ral_sm hV.1 (FR_gd hV.1) ⟨a0, a1⟩
      rw [q.2.2]
      refine ⟨by decide, fun h => absurd h (by decide), fun _ => ⟨⟨hi, ⟨by omega, by omega⟩⟩, fun h => absurd h (by omega), fun _ => ⟨⟨hi, ⟨by omega, by omega⟩⟩, fun i5 => ⟨q.1, a0, q.2.1, ?_⟩, fun i5 => ?_⟩⟩⟩
      · rw [dig sm.1 sm.2 h1 i5]
        by_cases hlt : i < ((ral b (FR b) a).length : Int)
        · rw [if_pos ⟨a1, hlt⟩] at k
          have gm := sm.1 _ (getD_mem (l := ral b (FR b) a) (i := i.toNat) (by omega))
          rw [if_pos hlt, Int.add_sub_cancel]
          exact w_knownK ⟨by omega, by omega⟩ h' hf k
        · rw [if_neg (fun h => hlt h.2)] at k
          rw [if_neg hlt]
          exact w_knownK ⟨by omega, by omega⟩ h' hf k
      · rw [if_neg (by omega)] at k
        exact w_knownK ⟨by omega, by omega⟩ h' hf k
    · rw [if_neg (by omega)] at k
      exact ⟨by decide, fun _ => w_knownK ⟨by omega, by omega⟩ h' hf k, fun h => absurd rfl h⟩
  · rw [if_pos (by omega)] at k
    exact KC_fin k h (jfr_refl _ _)
theorem m_ring {d : Nat} {b : BK} {A K : List BK} {ν : JM} {Q : JQ} (hV : VS b A K) (h : MI b A K ν) {a i : Int} (ha : inR a) (hi : inR i) (k : KM b A K ν Q (oRing b a i)) : wp true (d + 13) 275 0 [(40, 0), (0, a), (0, i)] [] ν Q := by
  unfold oRing at k
  have na := nal_in b (FR b) (FR_le hV.1)
  have en : nal b (FR b) = ((pal b (FR b) (FR b).length).length : Int) := rfl
  refine s_X11_ring_0 (d + 12) _ _ _ _ ⟨⟨ha, ⟨by omega, by omega⟩⟩, fun h0 => ?_, fun h0 => ⟨⟨hi, ⟨by omega, by omega⟩⟩, fun h1 => ?_, fun h1 => ?_⟩⟩
  · rw [if_pos (by omega)] at k
    exact KM_fin hV k h (jfr_refl _ _)
  · rw [if_neg (by omega)] at k
    unfold ringv at k
    refine m_layI hV h (fun ξ h' hL hf _ => ?_)
    rw [show ξ 40 0 11 = nal b (FR b) from hL.2.1]
    refine ⟨⟨ha, ⟨by omega, by omega⟩⟩, fun h3 => ?_, fun h3 => ⟨by omega, by omega, ?_⟩⟩
    · rw [if_neg (by omega)] at k
      exact KM_fin hV (KM_no rfl k) h' hf
    · have q := ML_al hV.1 (FR_gd hV.1) hL (a := a) ⟨by omega, by omega⟩
      have sm := ral_sm hV.1 (FR_gd hV.1) (a := a) ⟨by omega, by omega⟩
      have hF := FR_le hV.1
      rw [q.2.2.2.1]
      refine ⟨by omega, by omega, ⟨hi, ⟨by omega, by omega⟩⟩, fun h4 => ?_, fun h4 => ⟨by omega, by omega, ?_⟩⟩
      · rw [if_neg (by omega)] at k
        exact KM_fin hV (KM_no rfl k) h' hf
      · rw [if_pos (by omega)] at k
        have gm := sm.1 _ (getD_mem (l := ral b (FR b) a) (i := i.toNat) (by omega))
        refine m_ringOf hV.1 h'.1 hL.1 hF (FR_gd hV.1) q.1 ⟨by omega, by omega⟩ ?_
        have e : pent b ((FR b).getD (ξ 64 0 a).toNat []) i = (ral b (FR b) a).getD i.toNat 0 := by
          have e1 : (ξ 64 0 a).toNat = pfst b (FR b) (ral b (FR b) a) (FR b).length := by omega
          have e2 := q.2.2.2.2
          have hl : i.toNat < ((FR b).getD (pfst b (FR b) (ral b (FR b) a) (FR b).length) []).length := by
            rw [← pring_len b, show pring b ((FR b).getD (pfst b (FR b) (ral b (FR b) a) (FR b).length) []) = ral b (FR b) a from e2]
            omega
          have e3 := pring_get b ((FR b).getD (pfst b (FR b) (ral b (FR b) a) (FR b).length) []) hl
          rw [show pring b ((FR b).getD (pfst b (FR b) (ral b (FR b) a) (FR b).length) []) = ral b (FR b) a from e2] at e3
          rw [e1, e3, show ((i.toNat : Nat) : Int) = i by omega]
        rw [e]
        exact KM_fin hV (KM_ok (by omega) k) h' hf
  · rw [if_pos (by omega)] at k
    exact KM_fin hV k h (jfr_refl _ _)
