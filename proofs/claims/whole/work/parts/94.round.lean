/-! round, heat, ranked -/
theorem w_alarmAt {d : Nat} {b : BK} {F : LL} {ν : JM} {Q : JQ} (hR : RS b F ν) (hF : F.length ≤ 12000) {r : Int} (hr : 0 ≤ r ∧ r < (F.length : Int)) (k : Q (aix b F r.toNat : Int) ν) : wp true d 103 0 [(22, 0), (0, r)] [] ν Q := by
  obtain ⟨_, hC, ⟨cp, ca, hN, hc, _⟩, _, h6, _⟩ := hR
  have q1 := hN.1.2.2.1 1 (by omega)
  have e1 : qp ν 1 = ν 22 0 6 - 1 := rfl
  rw [e1] at q1
  have l1 : ν 51 (ν 22 0 6 - 1) 0 = cp := q1.2.2.1
  have e := h6 r.toNat (by omega)
  rw [show ((r.toNat : Nat) : Int) = r by omega] at e
  have e2 : ν 50 (ν 22 0 6 - 1) r = (aix b F r.toNat : Int) := e
  refine s_X8_alarmAt_0 _ _ _ _ ?_
  rw [hC.1, e2, l1]
  exact ⟨⟨⟨by omega, by omega⟩, ⟨by omega, by omega⟩⟩, fun h => absurd h (by omega), fun _ => ⟨⟨⟨by omega, by omega⟩, ⟨by omega, by omega⟩⟩, fun h => absurd h (by omega), fun _ => ⟨by omega, hr.1, by omega, k⟩⟩⟩
def orv (b : BK) (r : Int) (x : Int) : Int := if x = 0 then (((FR b).getD r.toNat []).length : Int) else if x = 1 then b 2 (rst ((FR b).getD r.toNat [])) else if x = 2 then b 2 (rls ((FR b).getD r.toNat [])) else if x = 3 then pflow b ((FR b).getD r.toNat []) else if x = 4 then (aix b (FR b) r.toNat : Int) else if x = 5 then pkt b ((FR b).getD r.toNat []) else ppc b ((FR b).getD r.toNat [])
def oRound (b : BK) (r x : Int) : Int × Int := if r < 0 ∨ ¬ (0 ≤ x ∧ x ≤ 6) then (-1, 1) else if ¬ r < ((FR b).length : Int) then (-1, 5) else (orv b r x, 0)
theorem c_round {d : Nat} {b : BK} {A K : List BK} {c : Int} {ν : JM} {Q : JQ} (hV : VS b A K) (h : CI b A K c ν) {r x : Int} (hr : inR r) (hx : inR x) (k : KC b A K c ν Q (oRound b r x)) : wp true (d + 14) 145 0 [(11, 0), (0, r), (0, x), (9, 0)] [] ν Q := by
  unfold oRound at k
  have hF := FR_le hV.1
  have hg := FR_gd hV.1
  refine s_X10_round_0 (d + 13) _ _ _ _ ⟨⟨hr, ⟨by omega, by omega⟩⟩, fun h0 => ?_, fun h0 => w_outside hx ⟨by omega, by omega⟩ ⟨by omega, by omega⟩ (fun x0 x1 => ⟨by decide, fun _ => ?_, fun h => absurd rfl h⟩) (fun x2 => ⟨by decide, fun h => absurd h (by decide), fun _ => ?_⟩)⟩
  · rw [if_pos (Or.inl h0)] at k
    exact KC_fin k h (jfr_refl _ _)
  · rw [if_neg (by omega)] at k
    refine c_fresh hV h (fun ξ h' hR _ hf => ?_)
    rw [hR.2.1.1]
    refine ⟨⟨hr, ⟨by omega, by omega⟩⟩, fun hlt => ?_, fun hge => ?_⟩
    · rw [if_neg (by omega)] at k
      have hrr : 0 ≤ r ∧ r < ((FR b).length : Int) := ⟨by omega, hlt⟩
      have g := gd_get hg (r := r.toNat) (by omega)
      unfold orv at k
      refine ⟨hx, fun e => ?_, fun n0 => ⟨fun e => ?_, fun n1 => ⟨fun e => ?_, fun n2 => ⟨fun e => ?_, fun n3 => ⟨fun e => ?_, fun n4 => ⟨fun e => ?_, fun n5 => ?_⟩⟩⟩⟩⟩⟩
      · rw [if_pos e] at k
        exact w_lengthOf hV.1 hR.2.1 hg hrr (KC_fin k h' hf)
      · rw [if_neg n0, if_pos e] at k
        exact w_firstTime (d := d + 12) hV.1 hR.1 hR.2.1 hg hrr (KC_fin k h' hf)
      · rw [if_neg n0, if_neg n1, if_pos e] at k
        exact w_lastTime (d := d + 11) hV.1 hR.1 hR.2.1 hg hrr (KC_fin k h' hf)
      · rw [if_neg n0, if_neg n1, if_neg n2, if_pos e] at k
        exact w_flowOf (d := d + 12) hV.1 hR.1 hR.2.1 hg hrr (KC_fin k h' hf)
      · rw [if_neg n0, if_neg n1, if_neg n2, if_neg n3, if_pos e] at k
        exact w_alarmAt hR hF hrr (KC_fin k h' hf)
      · rw [if_neg n0, if_neg n1, if_neg n2, if_neg n3, if_neg n4, if_pos e] at k
        exact c_keptOf (d := d + 11) hV.1 hR.1 hR.2.1 hg hrr (c_bitsOf (pkt_ok hV.1 g).1 (KC_fin k h' hf))
      · rw [if_neg n0, if_neg n1, if_neg n2, if_neg n3, if_neg n4, if_neg n5] at k
        exact c_paceOf (d := d + 9) hV.1 hR.1 hR.2.1 hg hrr (c_bitsOf (ppc_ok hV.1 g).1 (KC_fin k h' hf))
    · rw [if_pos hge] at k
      exact KC_fin k h' hf
  · rw [if_pos (Or.inr x2)] at k
    exact KC_fin k h (jfr_refl _ _)
theorem m_round {d : Nat} {b : BK} {A K : List BK} {ν : JM} {Q : JQ} (hV : VS b A K) (h : MI b A K ν) {r x : Int} (hr : inR r) (hx : inR x) (k : KM b A K ν Q (oRound b r x)) : wp true (d + 13) 269 0 [(40, 0), (0, r), (0, x)] [] ν Q := by
  unfold oRound at k
  have hF := FR_le hV.1
  have hg := FR_gd hV.1
  have hm := vb_m hV.1
  refine s_X11_round_0 (d + 10) _ _ _ _ (w_isFrom hx ⟨by omega, by omega⟩ ⟨by omega, by omega⟩ (fun x0 x1 => ⟨by decide, fun h => absurd h (by decide), fun _ => ?_⟩) (fun x2 => ⟨by decide, fun _ => ?_, fun h => absurd rfl h⟩))
  · refine ⟨⟨hr, ⟨by omega, by omega⟩⟩, fun h0 => ?_, fun h0 => ?_⟩
    · rw [if_neg (by omega)] at k
      refine m_layI hV h (fun ξ h' hL hf _ => ?_)
      rw [hL.1.1]
      refine ⟨⟨hr, ⟨by omega, by omega⟩⟩, fun hlt => ?_, fun hge => ?_⟩
      · rw [if_neg (by omega)] at k
        have hrr : 0 ≤ r ∧ r < ((FR b).length : Int) := ⟨by omega, hlt⟩
        have g := gd_get hg (r := r.toNat) (by omega)
        have row := ML_row hV.1 h'.1 hg hL hrr
        have gl := row.2.1
        have j1 := row.2.2.2.2.1
        have j2 := row.2.2.2.2.2.1
        have t1 := isM_t h'.1 j1.1 j1.2
        have t2 := isM_t h'.1 j2.1 j2.2
        have ok := pkt_ok hV.1 g
        unfold orv at k
        rw [row.2.2.2.2.2.2.2.2, row.1, row.2.2.1, row.2.2.2.1, t1.2.2.1, t1.2.2.2, t2.2.2.1, t2.2.2.2]
        refine ⟨hx, fun e => ⟨by omega, by omega, ?_⟩, fun n0 => ⟨fun e => ⟨by omega, by omega, by omega, by omega, ?_⟩, fun n1 => ⟨fun e => ⟨by omega, by omega, by omega, by omega, by omega, by omega, ?_⟩, fun n2 => ⟨fun e => ?_, fun n3 => ⟨fun e => ⟨by omega, by omega, ?_⟩, fun n4 => ⟨fun e => ⟨by omega, by omega, by omega, by omega, by omega, by omega, by omega, by omega, by omega, by omega, ok.2, ?_⟩, fun n5 => ?_⟩⟩⟩⟩⟩⟩
        · rw [if_pos e] at k
          exact KM_fin hV k h' hf
        · rw [if_neg n0, if_pos e] at k
          exact KM_fin hV k h' hf
        · rw [if_neg n0, if_neg n1, if_pos e] at k
          exact KM_fin hV k h' hf
        · rw [if_neg n0, if_neg n1, if_neg n2, if_pos e] at k
          exact m_flow (d := d + 10) hV.1 h'.1 hg hL.1 hF hrr (KM_fin hV k h' hf)
        · rw [if_neg n0, if_neg n1, if_neg n2, if_neg n3, if_pos e] at k
          exact KM_fin hV k h' hf
        · rw [if_neg n0, if_neg n1, if_neg n2, if_neg n3, if_neg n4, if_pos e] at k
          exact m_bitsOf (d := d + 11) ok.1 (KM_fin hV k h' hf)
        · rw [if_neg n0, if_neg n1, if_neg n2, if_neg n3, if_neg n4, if_neg n5] at k
          exact m_pace (d := d + 9) hV.1 h'.1 hg hL hF hrr (m_bitsOf (d := d + 11) (ppc_ok hV.1 g).1 (KM_fin hV k h' hf))
      · rw [if_pos hge] at k
        exact KM_fin hV k h' hf
    · rw [if_pos (by omega)] at k
      exact KM_fin hV k h (jfr_refl _ _)
  · rw [if_pos (Or.inr x2)] at k
    exact KM_fin hV k h (jfr_refl _ _)
def oHeat (b : BK) (a : Int) : Int × Int := if ¬ (0 ≤ a ∧ a < b 5 0) then (-1, 2) else (pht2 b (FR b) a, 0)
theorem c_heat {d : Nat} {b : BK} {A K : List BK} {c : Int} {ν : JM} {Q : JQ} (hV : VS b A K) (h : CI b A K c ν) {a : Int} (ha : inR a) (k : KC b A K c ν Q (oHeat b a)) : wp true (d + 14) 167 0 [(11, 0), (0, a)] [] ν Q := by
  unfold oHeat at k
  have hF := FR_le hV.1
  have nb := vb_n hV.1
  refine s_X10_heat_0 (d + 13) _ _ _ (w_hasAccount h.1 hV.1 ha (fun a0 a1 => ⟨by decide, fun _ => ?_, fun h => absurd (by decide) h⟩) (fun a2 => ⟨by decide, fun h => absurd rfl h, fun _ => ?_⟩))
  · rw [if_neg (by omega)] at k
    exact c_fresh hV h (fun ξ h' hR _ hf => c_heatOf (d := d + 11) hV.1 h'.1 hR hF ⟨a0, by omega⟩ (c_bitsOf (pht2_ok hV.1 hF a).1 (KC_fin k h' hf)))
  · rw [if_pos a2] at k
    exact KC_fin k h (jfr_refl _ _)
theorem m_heat {d : Nat} {b : BK} {A K : List BK} {ν : JM} {Q : JQ} (hV : VS b A K) (h : MI b A K ν) {a : Int} (ha : inR a) (k : KM b A K ν Q (oHeat b a)) : wp true (d + 13) 294 0 [(40, 0), (0, a)] [] ν Q := by
  unfold oHeat at k
  have hF := FR_le hV.1
  have nb := vb_n hV.1
  refine s_X11_heat_0 (d + 12) _ _ _ (w_isAccount h.1 hV.1 ha (fun a0 a1 => ⟨by decide, fun _ => ?_, fun h => absurd (by decide) h⟩) (fun a2 => ⟨by decide, fun h => absurd rfl h, fun _ => ?_⟩))
  · rw [if_neg (by omega)] at k
    exact m_layI hV h (fun ξ h' hL hf _ => m_heatOf (d := d + 9) hV.1 h'.1 (FR_gd hV.1) hL hF ⟨a0, by omega⟩ (m_bitsOf (d := d + 11) (pht2_ok hV.1 hF a).1 (KM_fin hV k h' hf)))
  · rw [if_pos a2] at k
    exact KM_fin hV k h (jfr_refl _ _)
/-- how many are before an account by heat -/
abbrev pbf (b : BK) (F : LL) (a o : Int) : Prop := 0 < jfcmp .l (pht2 b F o) (pht2 b F a) ∨ (jfcmp .l (pht2 b F o) (pht2 b F a) = 0 ∧ o < a)
def plc (b : BK) (F : LL) (a : Int) : Nat → Int
  | 0 => 0
  | n + 1 => plc b F a n + if pbf b F a (n : Int) then 1 else 0
theorem plc_in (b : BK) (F : LL) (a : Int) : ∀ n : Nat, 0 ≤ plc b F a n ∧ plc b F a n ≤ n
  | 0 => ⟨Int.le_refl _, Int.le_refl _⟩
  | n + 1 => by
    have ih := plc_in b F a n
    have e : plc b F a (n + 1) = plc b F a n + if pbf b F a (n : Int) then 1 else 0 := rfl
    rw [e]
    split <;> omega
theorem c_place {d : Nat} {b : BK} {F : LL} {ν : JM} {Q : JQ} (hv : vb b) (hC : isC ν 0 b) (hR : RS b F ν) (hF : F.length ≤ 12000) {a : Int} (ha : 0 ≤ a ∧ a < 12) (k : Q (plc b F a (nn b)) ν) : wp true (d + 3) 184 0 [(11, 0), (22, 0), (0, a), (9, 0), (9, 0), (9, 0), (9, 0)] [] ν Q := by
  have nb := vb_n hv
  have hnn := nn_eq hv
  refine s_X10_placeByHeat_0 (d + 2) _ _ _ (c_heatOf (d := d) hv hC hR hF ha (nlp (W := fun i c => ∀ u, wp true (d + 3) 184 13 [(11, 0), (22, 0), (0, a), (2, pht2 b F a), (0, c), (0, i), u] [] ν Q) (f := plc b F a) (N := nn b) (fun n hn hW u => ?_) (fun u => ?_) _))
  · have e : plc b F a (n + 1) = plc b F a n + if pbf b F a (n : Int) then 1 else 0 := rfl
    have ci := fl_cmp_in .l (pht2 b F (n : Int)) (pht2 b F a)
    rw [e] at hW
    refine s_X10_placeByHeat_13 (d + 2) _ _ _ _ _ _ _ ?_
    rw [isC_n hC]
    refine ⟨⟨⟨by omega, by omega⟩, ⟨by omega, by omega⟩⟩, fun h => absurd h (by omega), fun _ => c_heatOf (d := d) hv hC hR hF ⟨by omega, by omega⟩ ⟨⟨ci, ⟨by omega, by omega⟩⟩, fun h1 => ?_, fun h1 => ⟨Or.inr ⟨ci, ⟨by omega, by omega⟩⟩, fun h2 => ?_, fun h2 => ⟨⟨⟨by omega, by omega⟩, ⟨by omega, by omega⟩⟩, fun h3 => ?_, fun h3 => ?_⟩⟩⟩⟩
    · rw [if_pos (Or.inl h1)] at hW
      exact hW _
    · rw [if_neg (fun h => by rcases h with h | h; exact h1 h; exact h2 h.1), Int.add_zero] at hW
      exact hW _
    · rw [if_neg (fun h => by rcases h with h | h; exact h1 h; omega), Int.add_zero] at hW
      exact hW _
    · rw [if_pos (Or.inr ⟨Decidable.byContradiction h2, by omega⟩)] at hW
      exact hW _
  · refine s_X10_placeByHeat_13 (d + 2) _ _ _ _ _ _ _ ?_
    rw [isC_n hC]
    exact ⟨⟨⟨by omega, by omega⟩, ⟨by omega, by omega⟩⟩, fun _ => k, fun h => absurd (by omega) h⟩
abbrev prk (b : BK) (i : Int) : Int → Bool := fun a => decide (plc b (FR b) a (nn b) = i)
def oRanked (b : BK) (i : Int) : Int × Int := if i < 0 then (-1, 1) else if ffst (prk b i) (nn b) 0 < b 5 0 then (ffst (prk b i) (nn b) 0, 0) else (-1, 5)
theorem c_ranked {d : Nat} {b : BK} {A K : List BK} {c : Int} {ν : JM} {Q : JQ} (hV : VS b A K) (h : CI b A K c ν) {i : Int} (hi : inR i) (k : KC b A K c ν Q (oRanked b i)) : wp true (d + 14) 157 0 [(11, 0), (0, i), (9, 0), (9, 0)] [] ν Q := by
  unfold oRanked at k
  have hF := FR_le hV.1
  have nb := vb_n hV.1
  have hnn := nn_eq hV.1
  refine s_X10_ranked_0 (d + 13) _ _ _ ⟨⟨hi, ⟨by omega, by omega⟩⟩, fun h0 => ?_, fun h0 => ?_⟩
  · rw [if_neg (by omega)] at k
    refine c_fresh hV h (fun ξ h' hR _ hf => ffst_lp (p := prk b i) (W := fun a => wp true (d + 14) 157 17 [(11, 0), (0, i), (22, 0), (0, a)] [] ξ Q) (lo := 0) (n := b 5 0) (fun a a0 a1 hp hb => ?_) (fun a a0 a1 hp hW => ?_) (fun hb => ?_) (nn b) 0 (Int.le_refl _) (by omega) (fun j h1 h2 => by omega))
    · have e := ffst_eq (k := nn b) a0 (by omega) hp hb
      rw [e, if_pos a1] at k
      have pi := plc_in b (FR b) a (nn b)
      refine s_X10_ranked_17 (d + 13) _ _ _ _ ?_
      rw [isC_n h'.1]
      exact ⟨⟨⟨by omega, by omega⟩, ⟨by omega, by omega⟩⟩, fun h => absurd h (by omega), fun _ => c_place (d := d + 10) hV.1 h'.1 hR hF ⟨a0, by omega⟩ ⟨Or.inr ⟨⟨by omega, by omega⟩, hi⟩, fun h => absurd (of_decide_eq_true hp) h, fun _ => KC_fin k h' hf⟩⟩
    · have pi := plc_in b (FR b) a (nn b)
      refine s_X10_ranked_17 (d + 13) _ _ _ _ ?_
      rw [isC_n h'.1]
      exact ⟨⟨⟨by omega, by omega⟩, ⟨by omega, by omega⟩⟩, fun h => absurd h (by omega), fun _ => c_place (d := d + 10) hV.1 h'.1 hR hF ⟨a0, by omega⟩ ⟨Or.inr ⟨⟨by omega, by omega⟩, hi⟩, fun _ => hW, fun h => absurd (of_decide_eq_false hp) h⟩⟩
    · have e := ffst_no (p := prk b i) (k := nn b) (lo := 0) (fun j j0 j1 => hb j j0 (by omega))
      rw [e, if_neg (by omega)] at k
      refine s_X10_ranked_17 (d + 13) _ _ _ _ ?_
      rw [isC_n h'.1]
      exact ⟨⟨⟨by omega, by omega⟩, ⟨by omega, by omega⟩⟩, fun _ => KC_fin k h' hf, fun h => absurd (Int.le_refl _) h⟩
  · rw [if_pos (by omega)] at k
    exact KC_fin k h (jfr_refl _ _)
theorem m_ranked {d : Nat} {b : BK} {A K : List BK} {ν : JM} {Q : JQ} (hV : VS b A K) (h : MI b A K ν) {i : Int} (hi : inR i) (k : KM b A K ν Q (oRanked b i)) : wp true (d + 13) 293 0 [(40, 0), (0, i), (9, 0), (9, 0), (9, 0)] [] ν Q := by
  unfold oRanked at k
  have hF := FR_le hV.1
  have nb := vb_n hV.1
  have hnn := nn_eq hV.1
  have hg := FR_gd hV.1
  refine s_X11_ranked_0 (d + 12) _ _ _ ⟨⟨hi, ⟨by omega, by omega⟩⟩, fun h0 => ?_, fun h0 => ?_⟩
  · rw [if_neg (by omega)] at k
    refine m_layI hV h (fun ξ h' hL hf _ => ?_)
    have place : ∀ a, 0 ≤ a → a < b 5 0 → ((prk b i a = true) → Q a (jw ξ 40 0 1 0)) → (prk b i a = false → ∀ u v, wp true (d + 13) 293 16 [(40, 0), (0, i), (0, (a + 1)), u, v] [] ξ Q) → wp true (d + 13) 293 30 [(40, 0), (0, i), (0, a), (0, 0), (0, 0)] [] ξ Q := by
      intro a a0 a1 k1 k0
      refine nlp (W := fun o c => wp true (d + 13) 293 30 [(40, 0), (0, i), (0, a), (0, c), (0, o)] [] ξ Q) (f := plc b (FR b) a) (N := nn b) (fun n hn hW => ?_) ?_
      · have e : plc b (FR b) a (n + 1) = plc b (FR b) a n + if pbf b (FR b) a (n : Int) then 1 else 0 := rfl
        have ci := fl_cmp_in .l (pht2 b (FR b) (n : Int)) (pht2 b (FR b) a)
        rw [e] at hW
        have ho : 0 ≤ (n : Int) ∧ (n : Int) < 12 := ⟨by omega, by omega⟩
        have haa : 0 ≤ a ∧ a < 12 := ⟨a0, by omega⟩
        refine s_X11_ranked_30 (d + 12) _ _ _ _ _ _ ?_
        rw [isM_n h'.1]
        refine ⟨by omega, by omega, ⟨⟨by omega, by omega⟩, ⟨by omega, by omega⟩⟩, fun h => absurd h (by omega), fun _ => m_heatOf (d := d + 9) hV.1 h'.1 hg hL hF ho (m_heatOf (d := d + 9) hV.1 h'.1 hg hL hF haa ⟨⟨ci, ⟨by omega, by omega⟩⟩, fun h1 => ?_, fun h1 => ⟨⟨⟨by omega, by omega⟩, ⟨by omega, by omega⟩⟩, fun h3 => ?_, fun h3 => m_heatOf (d := d + 9) hV.1 h'.1 hg hL hF ho (m_heatOf (d := d + 9) hV.1 h'.1 hg hL hF haa ⟨Or.inr ⟨ci, ⟨by omega, by omega⟩⟩, fun h2 => ?_, fun h2 => ?_⟩)⟩⟩)⟩
        · rw [if_pos (Or.inl h1)] at hW
          exact hW
        · rw [if_neg (fun h => by rcases h with h | h; exact h1 h; omega)] at hW
          exact hW
        · rw [if_neg (fun h => by rcases h with h | h; exact h1 h; exact h2 h.1)] at hW
          exact hW
        · rw [if_pos (Or.inr ⟨Decidable.byContradiction h2, by omega⟩)] at hW
          exact hW
      · have pi := plc_in b (FR b) a (nn b)
        refine s_X11_ranked_30 (d + 12) _ _ _ _ _ _ ?_
        rw [isM_n h'.1]
        exact ⟨by omega, by omega, ⟨⟨by omega, by omega⟩, ⟨by omega, by omega⟩⟩, fun _ => ⟨Or.inr ⟨⟨by omega, by omega⟩, hi⟩, fun hne => k0 (decide_eq_false hne) _ _, fun he => k1 (decide_eq_true (Decidable.byContradiction he))⟩, fun h => absurd (by omega) h⟩
    refine ffst_lp (p := prk b i) (W := fun a => ∀ u v, wp true (d + 13) 293 16 [(40, 0), (0, i), (0, a), u, v] [] ξ Q) (lo := 0) (n := b 5 0) (fun a a0 a1 hp hb u v => ?_) (fun a a0 a1 hp hW u v => ?_) (fun hb u v => ?_) (nn b) 0 (Int.le_refl _) (by omega) (fun j h1 h2 => by omega) _ _
    · have e := ffst_eq (k := nn b) a0 (by omega) hp hb
      rw [e, if_pos a1] at k
      refine s_X11_ranked_16 (d + 12) _ _ _ _ _ _ ?_
      rw [isM_n h'.1]
      exact ⟨by omega, by omega, ⟨⟨by omega, by omega⟩, ⟨by omega, by omega⟩⟩, fun h => absurd h (by omega), fun _ => place a a0 a1 (fun _ => KM_fin hV k h' hf) (fun h => by rw [hp] at h; cases h)⟩
    · refine s_X11_ranked_16 (d + 12) _ _ _ _ _ _ ?_
      rw [isM_n h'.1]
      exact ⟨by omega, by omega, ⟨⟨by omega, by omega⟩, ⟨by omega, by omega⟩⟩, fun h => absurd h (by omega), fun _ => place a a0 a1 (fun h => by rw [hp] at h; cases h) (fun _ => hW)⟩
    · have e := ffst_no (p := prk b i) (k := nn b) (lo := 0) (fun j j0 j1 => hb j j0 (by omega))
      rw [e, if_neg (by omega)] at k
      refine s_X11_ranked_16 (d + 12) _ _ _ _ _ _ ?_
      rw [isM_n h'.1]
      exact ⟨by omega, by omega, ⟨⟨by omega, by omega⟩, ⟨by omega, by omega⟩⟩, fun _ => KM_fin hV k h' hf, fun h => absurd (Int.le_refl _) h⟩
  · rw [if_pos (by omega)] at k
    exact KM_fin hV k h (jfr_refl _ _)
