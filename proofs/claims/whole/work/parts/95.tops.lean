/-! top -/
def abv (b : BK) (F : LL) (x : Int) (r o : Int) : Bool := if x = 1 then decide (pflow b (F.getD o.toNat []) < pflow b (F.getD r.toNat [])) else if x = 2 then decide (0 < jfcmp .l (ppc b (F.getD r.toNat [])) (ppc b (F.getD o.toNat []))) else decide (jfcmp .g (pkt b (F.getD r.toNat [])) (pkt b (F.getD o.toNat [])) < 0)
def tpn (b : BK) (F : LL) (x : Int) : Nat → Int
  | 0 => 0
  | n + 1 => if abv b F x (n : Int) (tpn b F x n) = true then (n : Int) else tpn b F x n
theorem tpn_in (b : BK) (F : LL) (x : Int) : ∀ n : Nat, 0 ≤ tpn b F x n ∧ (tpn b F x n < n ∨ n = 0)
  | 0 => ⟨Int.le_refl _, Or.inr rfl⟩
  | n + 1 => by
    have ih := tpn_in b F x n
    have e : tpn b F x (n + 1) = if abv b F x (n : Int) (tpn b F x n) = true then (n : Int) else tpn b F x n := rfl
    rw [e]
    by_cases hc : abv b F x (n : Int) (tpn b F x n) = true
    · rw [if_pos hc]
      omega
    · rw [if_neg hc]
      refine ⟨ih.1, Or.inl ?_⟩
      rcases ih.2 with h | h
      · omega
      · subst h
        show (0 : Int) < _
        omega
theorem tpn_1 (b : BK) (F : LL) (x : Int) : tpn b F x 1 = 0 := by
  show (if abv b F x ((0 : Nat) : Int) 0 = true then ((0 : Nat) : Int) else 0) = 0
  split <;> rfl
/-- the account in most rounds -/
def bsn (b : BK) (F : LL) : Nat → Int
  | 0 => 0
  | n + 1 => if pct b F (mem12 (bsn b F n)) F.length < pct b F (mem12 (n : Int)) F.length then (n : Int) else bsn b F n
theorem bsn_in (b : BK) (F : LL) : ∀ n : Nat, 0 ≤ bsn b F n ∧ (bsn b F n < n ∨ n = 0)
  | 0 => ⟨Int.le_refl _, Or.inr rfl⟩
  | n + 1 => by
    have ih := bsn_in b F n
    have e : bsn b F (n + 1) = if pct b F (mem12 (bsn b F n)) F.length < pct b F (mem12 (n : Int)) F.length then (n : Int) else bsn b F n := rfl
    rw [e]
    by_cases hc : pct b F (mem12 (bsn b F n)) F.length < pct b F (mem12 (n : Int)) F.length
    · rw [if_pos hc]
      omega
    · rw [if_neg hc]
      refine ⟨ih.1, Or.inl ?_⟩
      rcases ih.2 with h | h
      · omega
      · subst h
        show (0 : Int) < _
        omega
theorem bsn_1 (b : BK) (F : LL) : bsn b F 1 = 0 := by
  show (if _ then ((0 : Nat) : Int) else 0) = 0
  split <;> rfl
theorem pct_0 {b : BK} (hv : vb b) {F : LL} (hg : gd b F) {a : Int} (ha : b 5 0 ≤ a) : ∀ n : Nat, n ≤ F.length → pct b F (mem12 a) n = 0
  | 0, _ => rfl
  | n + 1, hn => by
    have g := gd_get hg (r := n) (by omega)
    have gl := gr_len g
    have e : pct b F (mem12 a) (n + 1) = pct b F (mem12 a) n + if mem12 a (rgn b F n) = true then 1 else 0 := rfl
    have hno : ¬ mem12 a (rgn b F n) = true := fun h => by
      have hm : a ∈ pring b (F.getD n []) := of_decide_eq_true h
      obtain ⟨t, ht, rfl⟩ := (mem_pring gl a).1 hm
      have gi := gr_in g ht
      have := (vb_t hv gi.1 gi.2).1
      omega
    rw [e, pct_0 hv hg ha n (by omega), if_neg hno]
    rfl
theorem bsn_eq {b : BK} (hv : vb b) {F : LL} (hg : gd b F) : ∀ n : Nat, nn b ≤ n → bsn b F n = bsn b F (nn b) := by
  intro n hn
  induction n with
  | zero => rw [show nn b = 0 by omega]
  | succ n ih =>
    by_cases e : nn b = n + 1
    · rw [e]
    · have hnn := nn_eq hv
      have p0 := pct_0 hv hg (a := (n : Int)) (by omega) F.length (Nat.le_refl _)
      have pi := pct_in b F (mem12 (bsn b F n)) F.length
      have e2 : bsn b F (n + 1) = if pct b F (mem12 (bsn b F n)) F.length < pct b F (mem12 (n : Int)) F.length then (n : Int) else bsn b F n := rfl
      rw [e2, if_neg (by omega)]
      exact ih (by omega)
def oTop (b : BK) (x : Int) : Int × Int := if ¬ (0 ≤ x ∧ x ≤ 3) then (-1, 1) else if (FR b).length = 0 then (-1, 5) else if x = 0 then (bsn b (FR b) (nn b), 0) else (tpn b (FR b) x (FR b).length, 0)
theorem c_busiest {d : Nat} {b : BK} {F : LL} {ν : JM} {Q : JQ} (hv : vb b) (hg : gd b F) (hR : RS b F ν) (hF : F.length ≤ 12000) (k : Q (bsn b F (nn b)) ν) : wp true d 110 0 [(22, 0), (9, 0), (9, 0)] [] ν Q := by
  have nb := vb_n hv
  have hnn := nn_eq hv
  have h36 := hR.2.2.2.2.2.2.2.2
  have key : ∀ (q n : Nat), n + q = 12 → 1 ≤ n → wp true d 110 4 [(22, 0), (0, bsn b F n), (0, (n : Int))] [] ν Q := by
    intro q
    induction q with
    | zero =>
      intro n h1 h2
      have : n = 12 := by omega
      subst this
      rw [bsn_eq hv hg 12 (by omega)]
      exact s_X8_busiest_4 _ _ _ _ _ ⟨⟨⟨by omega, by omega⟩, ⟨by omega, by omega⟩⟩, fun _ => k, fun h => absurd (by omega) h⟩
    | succ q ih =>
      intro n h1 h2
      have bi := bsn_in b F n
      have p1 := pct_in b F (mem12 (bsn b F n)) F.length
      have p2 := pct_in b F (mem12 (n : Int)) F.length
      have e : bsn b F (n + 1) = if pct b F (mem12 (bsn b F n)) F.length < pct b F (mem12 (n : Int)) F.length then (n : Int) else bsn b F n := rfl
      have ih' := ih (n + 1) (by omega) (by omega)
      rw [e] at ih'
      refine s_X8_busiest_4 _ _ _ _ _ ?_
      rw [h36 (n : Int) (by omega) (by omega), h36 (bsn b F n) bi.1 (by omega)]
      refine ⟨⟨⟨by omega, by omega⟩, ⟨by omega, by omega⟩⟩, fun h => absurd h (by omega), fun _ => ⟨by omega, by omega, by omega, by omega, ⟨⟨by omega, by omega⟩, ⟨by omega, by omega⟩⟩, fun hle => ?_, fun hgt => ?_⟩⟩
      · rw [if_neg (by omega)] at ih'
        exact ih'
      · rw [if_pos (by omega)] at ih'
        exact ih'
  have := key 11 1 (by omega) (by omega)
  rw [bsn_1] at this
  exact s_X8_busiest_0 _ _ _ this
theorem c_greatestFlow {d : Nat} {b : BK} {F : LL} {ν : JM} {Q : JQ} (hv : vb b) (hg : gd b F) (hR : RS b F ν) (hF : F.length ≤ 12000) (h0 : F.length ≠ 0) (k : Q (tpn b F 1 F.length) ν) : wp true (d + 2) 111 0 [(22, 0), (9, 0), (9, 0), (9, 0), (9, 0)] [] ν Q := by
  have key : ∀ (q n : Nat) (u : JV), n + q = F.length → 1 ≤ n → wp true (d + 2) 111 10 [(22, 0), (0, tpn b F 1 n), (0, pflow b (F.getD (tpn b F 1 n).toNat [])), (0, (n : Int)), u] [] ν Q := by
    intro q
    induction q with
    | zero =>
      intro n u h1 h2
      have : n = F.length := by omega
      subst this
      refine s_X8_greatestFlow_10 _ _ _ _ _ _ _ ?_
      rw [hR.2.1.1]
      exact ⟨⟨⟨by omega, by omega⟩, ⟨by omega, by omega⟩⟩, fun _ => k, fun h => absurd (by omega) h⟩
    | succ q ih =>
      intro n u h1 h2
      have ti := tpn_in b F 1 n
      have p1 := pflow_in hv (gd_get hg (r := n) (by omega))
      have p2 := pflow_in hv (gd_get hg (r := (tpn b F 1 n).toNat) (by omega))
      have e : tpn b F 1 (n + 1) = if abv b F 1 (n : Int) (tpn b F 1 n) = true then (n : Int) else tpn b F 1 n := rfl
      have ea : abv b F 1 (n : Int) (tpn b F 1 n) = decide (pflow b (F.getD (tpn b F 1 n).toNat []) < pflow b (F.getD n [])) := rfl
      have ih' := ih (n + 1)
      rw [e, ea] at ih'
      refine s_X8_greatestFlow_10 _ _ _ _ _ _ _ ?_
      rw [hR.2.1.1]
      refine ⟨⟨⟨by omega, by omega⟩, ⟨by omega, by omega⟩⟩, fun h => absurd h (by omega), fun _ => w_flowOf hv hR.1 hR.2.1 hg ⟨by omega, by omega⟩ ?_⟩
      rw [show ((n : Int)).toNat = n from rfl]
      refine ⟨⟨⟨by omega, by omega⟩, ⟨by omega, by omega⟩⟩, fun hle => ?_, fun hgt => ?_⟩
      · rw [if_neg (by rw [decide_eq_false (by omega)]; decide)] at ih'
        exact ih' _ (by omega) (by omega)
      · rw [if_pos (decide_eq_true (by omega)), show ((n : Int)).toNat = n from rfl] at ih'
        exact ih' _ (by omega) (by omega)
  have := fun u => key (F.length - 1) 1 u (by omega) (by omega)
  rw [tpn_1] at this
  exact s_X8_greatestFlow_0 (d + 1) _ _ (w_flowOf hv hR.1 hR.2.1 hg ⟨by omega, by omega⟩ (this _))
theorem c_greatestPace {d : Nat} {b : BK} {F : LL} {ν : JM} {Q : JQ} (hv : vb b) (hg : gd b F) (hR : RS b F ν) (hF : F.length ≤ 12000) (h0 : F.length ≠ 0) (k : Q (tpn b F 2 F.length) ν) : wp true (d + 5) 112 0 [(22, 0), (9, 0), (9, 0), (9, 0), (9, 0)] [] ν Q := by
  have key : ∀ (q n : Nat) (u : JV), n + q = F.length → 1 ≤ n → wp true (d + 5) 112 10 [(22, 0), (0, tpn b F 2 n), (2, ppc b (F.getD (tpn b F 2 n).toNat [])), (0, (n : Int)), u] [] ν Q := by
    intro q
    induction q with
    | zero =>
      intro n u h1 h2
      have : n = F.length := by omega
      subst this
      refine s_X8_greatestPace_10 (d + 4) _ _ _ _ _ _ ?_
      rw [hR.2.1.1]
      exact ⟨⟨⟨by omega, by omega⟩, ⟨by omega, by omega⟩⟩, fun _ => k, fun h => absurd (by omega) h⟩
    | succ q ih =>
      intro n u h1 h2
      have e : tpn b F 2 (n + 1) = if abv b F 2 (n : Int) (tpn b F 2 n) = true then (n : Int) else tpn b F 2 n := rfl
      have ea : abv b F 2 (n : Int) (tpn b F 2 n) = decide (0 < jfcmp .l (ppc b (F.getD n [])) (ppc b (F.getD (tpn b F 2 n).toNat []))) := rfl
      have ci := fl_cmp_in .l (ppc b (F.getD n [])) (ppc b (F.getD (tpn b F 2 n).toNat []))
      have ih' := ih (n + 1)
      rw [e, ea] at ih'
      refine s_X8_greatestPace_10 (d + 4) _ _ _ _ _ _ ?_
      rw [hR.2.1.1]
      refine ⟨⟨⟨by omega, by omega⟩, ⟨by omega, by omega⟩⟩, fun h => absurd h (by omega), fun _ => c_paceOf (d := d) hv hR.1 hR.2.1 hg ⟨by omega, by omega⟩ ?_⟩
      rw [show ((n : Int)).toNat = n from rfl]
      refine ⟨⟨ci, ⟨by omega, by omega⟩⟩, fun hle => ?_, fun hgt => ?_⟩
      · rw [if_neg (by rw [decide_eq_false (by omega)]; decide)] at ih'
        exact ih' _ (by omega) (by omega)
      · rw [if_pos (decide_eq_true (by omega)), show ((n : Int)).toNat = n from rfl] at ih'
        exact ih' _ (by omega) (by omega)
  have := fun u => key (F.length - 1) 1 u (by omega) (by omega)
  rw [tpn_1] at this
  exact s_X8_greatestPace_0 (d + 4) _ _ (c_paceOf (d := d) hv hR.1 hR.2.1 hg ⟨by omega, by omega⟩ (this _))
theorem c_leastKept {d : Nat} {b : BK} {F : LL} {ν : JM} {Q : JQ} (hv : vb b) (hg : gd b F) (hR : RS b F ν) (hF : F.length ≤ 12000) (h0 : F.length ≠ 0) (k : Q (tpn b F 3 F.length) ν) : wp true (d + 3) 113 0 [(22, 0), (9, 0), (9, 0), (9, 0), (9, 0)] [] ν Q := by
  have key : ∀ (q n : Nat) (u : JV), n + q = F.length → 1 ≤ n → wp true (d + 3) 113 10 [(22, 0), (0, tpn b F 3 n), (2, pkt b (F.getD (tpn b F 3 n).toNat [])), (0, (n : Int)), u] [] ν Q := by
    intro q
    induction q with
    | zero =>
      intro n u h1 h2
      have : n = F.length := by omega
      subst this
      refine s_X8_leastKept_10 (d + 2) _ _ _ _ _ _ ?_
      rw [hR.2.1.1]
      exact ⟨⟨⟨by omega, by omega⟩, ⟨by omega, by omega⟩⟩, fun _ => k, fun h => absurd (by omega) h⟩
    | succ q ih =>
      intro n u h1 h2
      have e : tpn b F 3 (n + 1) = if abv b F 3 (n : Int) (tpn b F 3 n) = true then (n : Int) else tpn b F 3 n := rfl
      have ea : abv b F 3 (n : Int) (tpn b F 3 n) = decide (jfcmp .g (pkt b (F.getD n [])) (pkt b (F.getD (tpn b F 3 n).toNat [])) < 0) := rfl
      have ci := fl_cmp_in .g (pkt b (F.getD n [])) (pkt b (F.getD (tpn b F 3 n).toNat []))
      have ih' := ih (n + 1)
      rw [e, ea] at ih'
      refine s_X8_leastKept_10 (d + 2) _ _ _ _ _ _ ?_
      rw [hR.2.1.1]
      refine ⟨⟨⟨by omega, by omega⟩, ⟨by omega, by omega⟩⟩, fun h => absurd h (by omega), fun _ => c_keptOf (d := d) hv hR.1 hR.2.1 hg ⟨by omega, by omega⟩ ?_⟩
      rw [show ((n : Int)).toNat = n from rfl]
      refine ⟨⟨ci, ⟨by omega, by omega⟩⟩, fun hle => ?_, fun hgt => ?_⟩
      · rw [if_neg (by rw [decide_eq_false (by omega)]; decide)] at ih'
        exact ih' _ (by omega) (by omega)
      · rw [if_pos (decide_eq_true (by omega)), show ((n : Int)).toNat = n from rfl] at ih'
        exact ih' _ (by omega) (by omega)
  have := fun u => key (F.length - 1) 1 u (by omega) (by omega)
  rw [tpn_1] at this
  exact s_X8_leastKept_0 (d + 2) _ _ (c_keptOf (d := d) hv hR.1 hR.2.1 hg ⟨by omega, by omega⟩ (this _))
theorem c_top {d : Nat} {b : BK} {A K : List BK} {c : Int} {ν : JM} {Q : JQ} (hV : VS b A K) (h : CI b A K c ν) {x : Int} (hx : inR x) (k : KC b A K c ν Q (oTop b x)) : wp true (d + 14) 151 0 [(11, 0), (0, x), (9, 0)] [] ν Q := by
  unfold oTop at k
  have hF := FR_le hV.1
  have hg := FR_gd hV.1
  refine s_X10_top_0 (d + 13) _ _ _ (w_outside hx ⟨by omega, by omega⟩ ⟨by omega, by omega⟩ (fun x0 x1 => ⟨by decide, fun _ => ?_, fun h => absurd rfl h⟩) (fun x2 => ⟨by decide, fun h => absurd h (by decide), fun _ => ?_⟩))
  · rw [if_neg (by omega)] at k
    refine c_fresh hV h (fun ξ h' hR _ hf => ?_)
    rw [hR.2.1.1]
    refine ⟨Or.inr ⟨⟨by omega, by omega⟩, ⟨by omega, by omega⟩⟩, fun hne => ?_, fun he => ?_⟩
    · have h0 : (FR b).length ≠ 0 := by omega
      rw [if_neg h0] at k
      refine ⟨hx, fun e => ?_, fun n0 => ⟨fun e => ?_, fun n1 => ⟨fun e => ?_, fun n2 => ?_⟩⟩⟩
      · rw [if_pos e] at k
        exact c_busiest hV.1 hg hR hF (KC_fin k h' hf)
      · rw [if_neg n0, e] at k
        exact c_greatestFlow (d := d + 11) hV.1 hg hR hF h0 (KC_fin k h' hf)
      · rw [if_neg n0, e] at k
        exact c_greatestPace (d := d + 8) hV.1 hg hR hF h0 (KC_fin k h' hf)
      · rw [if_neg n0, show x = 3 by omega] at k
        exact c_leastKept (d := d + 10) hV.1 hg hR hF h0 (KC_fin k h' hf)
    · rw [if_pos (by omega)] at k
      exact KC_fin k h' hf
  · rw [if_pos x2] at k
    exact KC_fin k h (jfr_refl _ _)
/-- the reference -/
theorem m_isAbove {d : Nat} {b : BK} {F : LL} {ν : JM} {Q : JQ} (hv : vb b) (hM : isM ν b) (hg : gd b F) (hL : ML b F ν) (hF : F.length ≤ 12000) {x r o : Int} (hx : 1 ≤ x ∧ x ≤ 3) (hr : 0 ≤ r ∧ r < (F.length : Int)) (ho : 0 ≤ o ∧ o < (F.length : Int)) (k1 : abv b F x r o = true → Q 1 ν) (k0 : abv b F x r o = false → Q 0 ν) : wp true (d + 5) 279 0 [(40, 0), (0, x), (0, r), (0, o)] [] ν Q := by
  have hm := vb_m hv
  have g1 := gd_get hg (r := r.toNat) (by omega)
  have g2 := gd_get hg (r := o.toNat) (by omega)
  have row1 := ML_row hv hM hg hL hr
  have row2 := ML_row hv hM hg hL ho
  have gl1 := row1.2.1
  have gl2 := row2.2.1
  have i1 := row1.2.2.2.2.1
  have j1 := row1.2.2.2.2.2.1
  have i2 := row2.2.2.2.2.1
  have j2 := row2.2.2.2.2.2.1
  have ti1 := isM_t hM i1.1 i1.2
  have tj1 := isM_t hM j1.1 j1.2
  have ti2 := isM_t hM i2.1 i2.2
  have tj2 := isM_t hM j2.1 j2.2
  unfold abv at k1 k0
  refine s_X11_isAbove_0 (d + 2) _ _ _ _ _ ?_
  rw [row1.1, row2.1, row1.2.2.1, row1.2.2.2.1, row2.2.2.1, row2.2.2.2.1, ti1.2.2.2, tj1.2.2.2, ti2.2.2.2, tj2.2.2.2]
  refine ⟨Or.inr ⟨⟨by omega, by omega⟩, ⟨by omega, by omega⟩⟩, fun n1 => ⟨Or.inr ⟨⟨by omega, by omega⟩, ⟨by omega, by omega⟩⟩, fun n2 => ?_, fun e2 => ?_⟩, fun e1 => ?_⟩
  · rw [if_neg n1, if_neg n2] at k1 k0
    exact ⟨by omega, by omega, by omega, by omega, by omega, by omega, by omega, by omega, by omega, by omega, (pkt_ok hv g1).2, by omega, by omega, by omega, by omega, by omega, by omega, by omega, by omega, by omega, by omega, (pkt_ok hv g2).2, ⟨fl_cmp_in _ _ _, ⟨by omega, by omega⟩⟩, fun h => ⟨by omega, by omega, k0 (decide_eq_false (Int.not_lt.mpr h))⟩, fun h => ⟨by omega, by omega, k1 (decide_eq_true (Int.not_le.mp h))⟩⟩
  · have e2' : x = 2 := Decidable.byContradiction e2
    rw [if_neg n1, if_pos e2'] at k1 k0
    exact m_pace (d := d + 1) hv hM hg hL hF hr (m_pace (d := d + 1) hv hM hg hL hF ho ⟨⟨fl_cmp_in _ _ _, ⟨by omega, by omega⟩⟩, fun h => ⟨by omega, by omega, k0 (decide_eq_false (by omega))⟩, fun h => ⟨by omega, by omega, k1 (decide_eq_true (by omega))⟩⟩)
  · have e1' : x = 1 := Decidable.byContradiction e1
    have p1 := pflow_in hv g1
    have p2 := pflow_in hv g2
    rw [if_pos e1'] at k1 k0
    exact m_flow (d := d + 2) hv hM hg hL.1 hF hr (m_flow (d := d + 2) hv hM hg hL.1 hF ho ⟨⟨⟨by omega, by omega⟩, ⟨by omega, by omega⟩⟩, fun h => ⟨by omega, by omega, k0 (decide_eq_false (by omega))⟩, fun h => ⟨by omega, by omega, k1 (decide_eq_true (by omega))⟩⟩)
theorem m_top {d : Nat} {b : BK} {A K : List BK} {ν : JM} {Q : JQ} (hV : VS b A K) (h : MI b A K ν) {x : Int} (hx : inR x) (k : KM b A K ν Q (oTop b x)) : wp true (d + 13) 280 0 [(40, 0), (0, x), (9, 0), (9, 0)] [] ν Q := by
  unfold oTop at k
  have hF := FR_le hV.1
  have hg := FR_gd hV.1
  have nb := vb_n hV.1
  have hnn := nn_eq hV.1
  refine s_X11_top_0 (d + 12) _ _ _ (w_isFrom hx ⟨by omega, by omega⟩ ⟨by omega, by omega⟩ (fun x0 x1 => ⟨by decide, fun _ => ?_, fun h => absurd (by decide) h⟩) (fun x2 => ⟨by decide, fun h => absurd rfl h, fun _ => ?_⟩))
  · rw [if_neg (by omega)] at k
    refine m_layI hV h (fun ξ h' hL hf _ => ?_)
    rw [hL.1.1]
    refine ⟨Or.inr ⟨⟨by omega, by omega⟩, ⟨by omega, by omega⟩⟩, fun hne => ?_, fun he => ?_⟩
    · have h0 : (FR b).length ≠ 0 := by omega
      rw [if_neg h0] at k
      refine ⟨Or.inr ⟨hx, ⟨by omega, by omega⟩⟩, fun n0 => ?_, fun e0 => ?_⟩
      · rw [if_neg n0] at k
        have key : ∀ (q n : Nat), n + q = (FR b).length → 1 ≤ n → wp true (d + 13) 280 75 [(40, 0), (0, x), (0, tpn b (FR b) x n), (0, (n : Int))] [] ξ Q := by
          intro q
          induction q with
          | zero =>
            intro n h1 h2
            have : n = (FR b).length := by omega
            subst this
            refine s_X11_top_75 (d + 12) _ _ _ _ _ ?_
            rw [hL.1.1]
            exact ⟨⟨⟨by omega, by omega⟩, ⟨by omega, by omega⟩⟩, fun _ => KM_fin hV k h' hf, fun h => absurd (by omega) h⟩
          | succ q ih =>
            intro n h1 h2
            have ti := tpn_in b (FR b) x n
            have e : tpn b (FR b) x (n + 1) = if abv b (FR b) x (n : Int) (tpn b (FR b) x n) = true then (n : Int) else tpn b (FR b) x n := rfl
            have ih' := ih (n + 1) (by omega) (by omega)
            rw [e] at ih'
            refine s_X11_top_75 (d + 12) _ _ _ _ _ ?_
            rw [hL.1.1]
            refine ⟨⟨⟨by omega, by omega⟩, ⟨by omega, by omega⟩⟩, fun h => absurd h (by omega), fun _ => m_isAbove (d := d + 7) hV.1 h'.1 hg hL hF ⟨by omega, by omega⟩ ⟨by omega, by omega⟩ ⟨ti.1, by omega⟩ (fun ha => ⟨by decide, fun h => absurd h (by decide), fun _ => ?_⟩) (fun ha => ⟨by decide, fun _ => ?_, fun h => absurd rfl h⟩)⟩
            · rw [if_pos ha] at ih'
              exact ih'
            · rw [if_neg (by rw [ha]; decide)] at ih'
              exact ih'
        have := key ((FR b).length - 1) 1 (by omega) (by omega)
        rw [tpn_1] at this
        exact this
      · rw [if_pos (Decidable.byContradiction e0)] at k
        have g := gd_get hg (r := 0) (by omega)
        have i := rst_in g
        have t := vb_t hV.1 i.1 i.2
        have key : ∀ (q n : Nat), n + q = nn b → 1 ≤ n → wp true (d + 13) 280 40 [(40, 0), (0, x), (0, bsn b (FR b) n), (0, (n : Int))] [] ξ Q := by
          intro q
          induction q with
          | zero =>
            intro n h1 h2
            have : n = nn b := by omega
            subst this
            refine s_X11_top_40 (d + 12) _ _ _ _ _ ?_
            rw [isM_n h'.1]
            exact ⟨by omega, by omega, ⟨⟨by omega, by omega⟩, ⟨by omega, by omega⟩⟩, fun _ => KM_fin hV k h' hf, fun h => absurd (by omega) h⟩
          | succ q ih =>
            intro n h1 h2
            have bi := bsn_in b (FR b) n
            have p1 := pct_in b (FR b) (mem12 (bsn b (FR b) n)) (FR b).length
            have p2 := pct_in b (FR b) (mem12 (n : Int)) (FR b).length
            have e : bsn b (FR b) (n + 1) = if pct b (FR b) (mem12 (bsn b (FR b) n)) (FR b).length < pct b (FR b) (mem12 (n : Int)) (FR b).length then (n : Int) else bsn b (FR b) n := rfl
            have ih' := ih (n + 1) (by omega) (by omega)
            rw [e] at ih'
            refine s_X11_top_40 (d + 12) _ _ _ _ _ ?_
            rw [isM_n h'.1]
            refine ⟨by omega, by omega, ⟨⟨by omega, by omega⟩, ⟨by omega, by omega⟩⟩, fun h => absurd h (by omega), fun _ => m_roundsOf (d := d + 11) hV.1 hg hL hF ⟨by omega, by omega⟩ (m_roundsOf (d := d + 11) hV.1 hg hL hF ⟨bi.1, by omega⟩ ⟨⟨⟨by omega, by omega⟩, ⟨by omega, by omega⟩⟩, fun hle => ?_, fun hgt => ?_⟩)⟩
            · rw [if_neg (by omega)] at ih'
              exact ih'
            · rw [if_pos (by omega)] at ih'
              exact ih'
        have := key (nn b - 1) 1 (by omega) (by omega)
        rw [bsn_1] at this
        exact this
    · rw [if_pos (by omega)] at k
      exact KM_fin hV k h' hf
  · rw [if_pos x2] at k
    exact KM_fin hV k h (jfr_refl _ _)
