/-! hinge, alarm -/
theorem ffst_eq {p : Int → Bool} {k : Nat} {lo i : Int} (h0 : lo ≤ i) (h1 : i < lo + (k : Int)) (hp : p i = true) (hb : ∀ j, lo ≤ j → j < i → p j = false) : ffst p k lo = i := by
  have s := ffst_spec p k lo
  by_cases hlt : ffst p k lo < i
  · have e := hb _ s.2.1 hlt
    rw [s.2.2.2 (by omega)] at e
    cases e
  · by_cases hgt : i < ffst p k lo
    · have e := s.1 i h0 hgt
      rw [hp] at e
      cases e
    · omega
theorem ffst_no {p : Int → Bool} {k : Nat} {lo : Int} (hb : ∀ j, lo ≤ j → j < lo + (k : Int) → p j = false) : ffst p k lo = lo + (k : Int) := by
  have s := ffst_spec p k lo
  by_cases hlt : ffst p k lo < lo + (k : Int)
  · have e := hb _ s.2.1 hlt
    rw [s.2.2.2 hlt] at e
    cases e
  · omega
theorem ptl_no {b : BK} {F : LL} (hg : gd b F) {a t : Int} (ht : ¬ (0 ≤ t ∧ t < b 5 1)) : ∀ n, n ≤ F.length → ptl b F a t n = 0
  | 0, _ => rfl
  | n + 1, h => by
    have e : ptl b F a t (n + 1) = if (aix b F n : Int) = a ∧ t ∈ F.getD n [] then ptl b F a t n + 1 else ptl b F a t n := rfl
    rw [e, if_neg (fun hh => ht (gr_in (gd_get hg (r := n) (by omega)) hh.2))]
    exact ptl_no hg ht n (by omega)
theorem pcn_ral {b : BK} {F : LL} {a : Int} (ha : 0 ≤ a ∧ a < nal b F) : 1 ≤ pcn b F (ral b F a) F.length ∧ pcn b F (ral b F a) F.length ≤ (F.length : Int) := by
  have en : nal b F = ((pal b F F.length).length : Int) := rfl
  have q := pcn_le b F (ral b F a) F.length
  exact ⟨q.2.2.1 (gdl_mem (by omega)), q.2.1⟩
abbrev phg (b : BK) (F : LL) (a : Int) : Int → Bool := fun t => decide (ptl b F a t F.length = pcn b F (ral b F a) F.length)
def hgv (b : BK) (F : LL) (a : Int) : Int := if ffst (phg b F a) (nm b) 0 < b 5 1 then ffst (phg b F a) (nm b) 0 else -1
theorem hgv_hit {b : BK} (hv : vb b) {F : LL} (hg : gd b F) {a i : Int} (ha : 0 ≤ a ∧ a < nal b F) (h0 : 0 ≤ i) (hp : phg b F a i = true) (hb : ∀ j, 0 ≤ j → j < i → phg b F a j = false) : hgv b F a = i := by
  have hn := nm_eq hv
  have hi : i < b 5 1 := by
    refine Decidable.byContradiction (fun hc => ?_)
    have e := ptl_no hg (a := a) (t := i) (fun hh => hc hh.2) F.length (Nat.le_refl _)
    have e2 : ptl b F a i F.length = pcn b F (ral b F a) F.length := of_decide_eq_true hp
    have e3 := (pcn_ral ha).1
    omega
  have e := ffst_eq (k := nm b) h0 (by omega) hp hb
  unfold hgv
  rw [e, if_pos hi]
theorem hgv_no {b : BK} (hv : vb b) {F : LL} {a : Int} (hb : ∀ j, 0 ≤ j → j < b 5 1 → phg b F a j = false) : hgv b F a = -1 := by
  have hn := nm_eq hv
  have e := ffst_no (p := phg b F a) (k := nm b) (lo := 0) (fun j h0 h1 => hb j h0 (by omega))
  unfold hgv
  rw [e, if_neg (by omega)]
def oHinge (b : BK) (a : Int) : Int × Int := if a < 0 then (-1, 1) else okn (if a < nal b (FR b) then hgv b (FR b) a else -1)
theorem c_hinge {d : Nat} {b : BK} {A K : List BK} {c : Int} {ν : JM} {Q : JQ} (hV : VS b A K) (h : CI b A K c ν) {a : Int} (ha : inR a) (k : KC b A K c ν Q (oHinge b a)) : wp true (d + 14) 154 0 [(11, 0), (0, a)] [] ν Q := by
  unfold oHinge at k
  have hg := FR_gd hV.1
  have en : nal b (FR b) = ((pal b (FR b) (FR b).length).length : Int) := rfl
  have na := nal_in b (FR b) (FR_le hV.1)
  refine s_X10_hinge_0 (d + 13) _ _ _ ⟨⟨ha, ⟨by omega, by omega⟩⟩, fun h0 => ?_, fun h0 => ?_⟩
  · rw [if_neg (by omega)] at k
    refine c_fresh hV h (fun ξ h' hR _ hf => s_X8_hingeOf_0 (d + 12) _ _ _ (w_hasA hR.2.2.2.1.1 (by have en : nal b (FR b) = ((pal b (FR b) (FR b).length).length : Int) := rfl; omega) ha (fun a0 a1 => ?_) (fun a2 => ?_)))
    · refine ⟨by decide, fun _ => c_tally hV.1 hg hR ha (fun ζ hf2 hz => ?_), fun h => absurd (by decide) h⟩
      have hR2 : RS b (FR b) ζ := RS_fr hR (fun t y i h => hf2 _ _ _ (by omega))
      have h2 : CI b A K c ζ := CI_fr h' (Int.le_refl _) (fun t y i h => hf2 _ _ _ (by omega))
      have hff : jfr PQc ν ζ := jfr_trans hf (jfr_mono hf2 (fun t y i h => by omega))
      have q := (RS_al hV.1 hg hR2 ⟨a0, a1⟩).2.2.1
      have pc := pcn_ral ⟨a0, a1⟩
      have hF := FR_n hV.1
      rw [if_pos (show a < nal b (FR b) from a1)] at k
      refine ffst_lp (p := phg b (FR b) a) (W := fun i => wp true (d + 13) 121 20 [(22, 0), (0, a), (0, i)] [] ζ _) (lo := 0) (n := 32) (fun i i0 i1 hp hb => ?_) (fun i i0 i1 hp hW => ?_) (fun hb => ?_) 32 0 (by omega) (by omega) (fun j h1 h2 => by omega)
      · have e := hgv_hit hV.1 hg ⟨a0, a1⟩ i0 hp hb
        rw [e] at k
        have e2 : ptl b (FR b) a i (FR b).length = pcn b (FR b) (ral b (FR b) a) (FR b).length := of_decide_eq_true hp
        refine s_X8_hingeOf_20 _ _ _ _ _ ?_
        rw [hz i i0 i1, q.2.2, e2]
        exact ⟨⟨⟨by omega, by omega⟩, ⟨by omega, by omega⟩⟩, fun h => absurd h (by omega), fun _ => ⟨i0, i1, q.1, a0, q.2.1, Or.inl rfl, fun h => absurd rfl h, fun _ => w_knownK ⟨by omega, by omega⟩ h2 hff k⟩⟩
      · have e2 : ¬ ptl b (FR b) a i (FR b).length = pcn b (FR b) (ral b (FR b) a) (FR b).length := of_decide_eq_false hp
        have pt := ptl_in b (FR b) a i (FR b).length
        refine s_X8_hingeOf_20 _ _ _ _ _ ?_
        rw [hz i i0 i1, q.2.2]
        exact ⟨⟨⟨by omega, by omega⟩, ⟨by omega, by omega⟩⟩, fun h => absurd h (by omega), fun _ => ⟨i0, i1, q.1, a0, q.2.1, Or.inr ⟨⟨by omega, by omega⟩, ⟨by omega, by omega⟩⟩, fun _ => hW, fun h => absurd e2 h⟩⟩
      · have e := hgv_no hV.1 (F := FR b) (a := a) (fun j j0 j1 => hb j j0 (by have := vb_m hV.1; omega))
        rw [e] at k
        refine s_X8_hingeOf_20 _ _ _ _ _ ⟨⟨⟨by omega, by omega⟩, ⟨by omega, by omega⟩⟩, fun _ => w_knownK ⟨by omega, by omega⟩ h2 hff k, fun h => absurd (by omega) h⟩
    · rw [if_neg (by omega)] at k
      exact ⟨by decide, fun h => absurd rfl h, fun _ => w_knownK ⟨by omega, by omega⟩ h' hf k⟩
  · rw [if_pos (by omega)] at k
    exact KC_fin k h (jfr_refl _ _)
theorem m_hinge {d : Nat} {b : BK} {A K : List BK} {ν : JM} {Q : JQ} (hV : VS b A K) (h : MI b A K ν) {a : Int} (ha : inR a) (k : KM b A K ν Q (oHinge b a)) : wp true (d + 13) 287 0 [(40, 0), (0, a), (9, 0), (9, 0)] [] ν Q := by
  unfold oHinge at k
  have hg := FR_gd hV.1
  have en : nal b (FR b) = ((pal b (FR b) (FR b).length).length : Int) := rfl
  have na := nal_in b (FR b) (FR_le hV.1)
  refine s_X11_hinge_0 (d + 12) _ _ _ ⟨⟨ha, ⟨by omega, by omega⟩⟩, fun h0 => ?_, fun h0 => ?_⟩
  · rw [if_neg (by omega)] at k
    refine m_layI hV h (fun ξ h' hL hf _ => ?_)
    rw [show ξ 40 0 11 = nal b (FR b) from hL.2.1]
    refine ⟨⟨ha, ⟨by omega, by omega⟩⟩, fun h3 => ?_, fun h3 => ?_⟩
    · rw [if_pos h3] at k
      refine m_usesOf hV.1 hg hL (FR_le hV.1) h'.1 ⟨h0, h3⟩ (fun ζ hf2 hz => ?_)
      have h2 : MI b A K ζ := MI_fr hV.2.1 hV.2.2 h' (fun t i h => hf2 _ _ _ (by omega))
      have hff : jfr PQm ν ζ := jfr_trans hf (jfr_mono hf2 (fun t y i h => by omega))
      have pc := pcn_ral (b := b) (F := FR b) (a := a) ⟨h0, h3⟩
      have hF := FR_n hV.1
      have hm := vb_m hV.1
      have hn := nm_eq hV.1
      refine ffst_lp (p := phg b (FR b) a) (W := fun i => wp true (d + 13) 287 36 [(40, 0), (0, a), (0, pcn b (FR b) (ral b (FR b) a) (FR b).length), (0, i)] [] ζ _) (lo := 0) (n := b 5 1) (fun i i0 i1 hp hb => ?_) (fun i i0 i1 hp hW => ?_) (fun hb => ?_) (nm b) 0 (by omega) (by omega) (fun j h1 h2 => by omega)
      · have e := hgv_hit hV.1 hg ⟨h0, h3⟩ i0 hp hb
        rw [e] at k
        have e2 : ptl b (FR b) a i (FR b).length = pcn b (FR b) (ral b (FR b) a) (FR b).length := of_decide_eq_true hp
        refine s_X11_hinge_36 (d + 12) _ _ _ _ _ ?_
        rw [isM_m h2.1, hz i i0 (by omega), e2]
        exact ⟨by omega, by omega, ⟨⟨by omega, by omega⟩, ⟨by omega, by omega⟩⟩, fun h => absurd h (by omega), fun _ => ⟨i0, by omega, Or.inl rfl, fun h => absurd rfl h, fun _ => KM_fin hV (KM_ok (by omega) k) h2 hff⟩⟩
      · have e2 : ¬ ptl b (FR b) a i (FR b).length = pcn b (FR b) (ral b (FR b) a) (FR b).length := of_decide_eq_false hp
        have pt := ptl_in b (FR b) a i (FR b).length
        refine s_X11_hinge_36 (d + 12) _ _ _ _ _ ?_
        rw [isM_m h2.1, hz i i0 (by omega)]
        exact ⟨by omega, by omega, ⟨⟨by omega, by omega⟩, ⟨by omega, by omega⟩⟩, fun h => absurd h (by omega), fun _ => ⟨i0, by omega, Or.inr ⟨⟨by omega, by omega⟩, ⟨by omega, by omega⟩⟩, fun _ => hW, fun h => absurd e2 h⟩⟩
      · have e := hgv_no hV.1 (F := FR b) (a := a) hb
        rw [e] at k
        refine s_X11_hinge_36 (d + 12) _ _ _ _ _ ?_
        rw [isM_m h2.1]
        exact ⟨by omega, by omega, ⟨⟨by omega, by omega⟩, ⟨by omega, by omega⟩⟩, fun _ => KM_fin hV (KM_no rfl k) h2 hff, fun h => absurd (Int.le_refl _) h⟩
    · rw [if_neg h3] at k
      exact KM_fin hV (KM_no rfl k) h' hf
  · rw [if_pos (by omega)] at k
    exact KM_fin hV k h (jfr_refl _ _)
/-- alarm -/
def oAlarm (b : BK) (a w : Int) : Int × Int := if a < 0 ∨ ¬ (0 ≤ w ∧ w ≤ 4) then (-1, 1) else if ¬ a < nal b (FR b) then (-1, 5) else (if w = 0 then pcn b (FR b) (ral b (FR b) a) (FR b).length else if w = 1 then ((ral b (FR b) a).length : Int) else if w = 2 then pwi b (FR b) (ral b (FR b) a) (FR b).length else if w = 3 then pfl b (FR b) (ral b (FR b) a) (FR b).length else pap b (FR b) a (FR b).length, 0)
theorem c_alarm {d : Nat} {b : BK} {A K : List BK} {c : Int} {ν : JM} {Q : JQ} (hV : VS b A K) (h : CI b A K c ν) {a w : Int} (ha : inR a) (hw : inR w) (k : KC b A K c ν Q (oAlarm b a w)) : wp true (d + 14) 147 0 [(11, 0), (0, a), (0, w), (9, 0), (9, 0)] [] ν Q := by
  unfold oAlarm at k
  have hg := FR_gd hV.1
  have na := nal_in b (FR b) (FR_le hV.1)
  have en : nal b (FR b) = ((pal b (FR b) (FR b).length).length : Int) := rfl
  refine s_X10_alarm_0 (d + 13) _ _ _ _ ⟨⟨ha, ⟨by omega, by omega⟩⟩, fun h0 => ?_, fun h0 => w_outside hw ⟨by omega, by omega⟩ ⟨by omega, by omega⟩ (fun w0 w1 => ⟨by decide, fun _ => ?_, fun h => absurd rfl h⟩) (fun w2 => ⟨by decide, fun h => absurd h (by decide), fun _ => ?_⟩)⟩
  · rw [if_pos (by omega)] at k
    exact KC_fin k h (jfr_refl _ _)
  · rw [if_neg (by omega)] at k
    refine c_fresh hV h (fun ξ h' hR _ hf => w_hasA hR.2.2.2.1.1 (by omega) ha (fun a0 a1 => ?_) (fun a2 => ?_))
    · rw [if_neg (by omega)] at k
      have q := RS_al hV.1 hg hR ⟨a0, a1⟩
      refine ⟨by decide, fun _ => ⟨hw, fun e => ⟨q.2.2.1.1, a0, q.2.2.1.2.1, ?_⟩, fun n0 => ⟨fun e => ?_, fun n1 => ⟨fun e => ⟨q.2.2.2.1.1, a0, q.2.2.2.1.2.1, ?_⟩, fun n2 => ⟨fun e => ⟨q.2.2.2.2.1.1, a0, q.2.2.2.2.1.2.1, ?_⟩, fun n3 => ?_⟩⟩⟩⟩, fun h => absurd (by decide) h⟩
      · rw [if_pos e] at k
        rw [q.2.2.1.2.2]
        exact KC_fin k h' hf
      · rw [if_neg n0, if_pos e] at k
        exact w_sizeOf hV.1 hg hR ⟨a0, a1⟩ (KC_fin k h' hf)
      · rw [if_neg n0, if_neg n1, if_pos e] at k
        rw [q.2.2.2.1.2.2]
        exact KC_fin k h' hf
      · rw [if_neg n0, if_neg n1, if_neg n2, if_pos e] at k
        rw [q.2.2.2.2.1.2.2]
        exact KC_fin k h' hf
      · rw [if_neg n0, if_neg n1, if_neg n2, if_neg n3] at k
        exact c_apartIn hV.1 hg hR ha (fun ζ hf2 => KC_fin k (CI_fr h' (Int.le_refl _) (fun t y i h => hf2 _ _ _ (by omega))) (jfr_trans hf (jfr_mono hf2 (fun t y i h => by omega))))
    · rw [if_pos (by omega)] at k
      exact ⟨by decide, fun h => absurd rfl h, fun _ => KC_fin k h' hf⟩
  · rw [if_pos (Or.inr w2)] at k
    exact KC_fin k h (jfr_refl _ _)
theorem pwi_no (b : BK) (F : LL) (g : List Int) (n : Nat) (h : ∀ r, r < n → rgn b F r ≠ g) : pwi b F g n = -1 := by
  have q := pwi_le b F g n
  have p := pcn_le b F g n
  refine q.2.2.2 ?_
  by_cases hm : g ∈ pal b F n
  · obtain ⟨r, h1, h2⟩ := pal_of b F n g hm
    exact absurd h2 (h r h1)
  · have : ¬ 1 ≤ pcn b F g n := fun h => hm (p.2.2.2 h)
    omega
theorem m_witness {d : Nat} {b : BK} {F : LL} {ν : JM} {Q : JQ} {a : Int} (hv : vb b) (hM : isM ν b) (hg : gd b F) (hL : ML b F ν) (hF : F.length ≤ 12000) (ha : 0 ≤ a ∧ a < nal b F) (k : Q (pwi b F (ral b F a) F.length) ν) : wp true (d + 3) 271 0 [(40, 0), (0, a), (9, 0), (9, 0)] [] ν Q := by
  have na := nal_in b F hF
  have hm := vb_m hv
  have q := ML_al hv hg hL ha
  have en : nal b F = ((pal b F F.length).length : Int) := rfl
  have sp := pfst_spec b F (ral b F a) F.length (gdl_mem (by omega))
  generalize ek : pfst b F (ral b F a) F.length = f at q sp
  have e1 : pwi b F (ral b F a) (f + 1) = (f : Int) := by
    rw [pwi_s, if_pos ⟨sp.2.1, Or.inl (pwi_no b F _ f sp.2.2)⟩]
  have key : ∀ j n : Nat, f < n → n + j = F.length → wp true (d + 3) 271 11 [(40, 0), (0, a), (0, pwi b F (ral b F a) n), (0, (n : Int))] [] ν Q := by
    intro j
    induction j with
    | zero =>
      intro n hn hj
      have e : n = F.length := by omega
      subst e
      refine s_X11_witness_11 d _ _ _ _ _ ?_
      rw [hL.1.1]
      exact ⟨⟨⟨by omega, by omega⟩, ⟨by omega, by omega⟩⟩, fun _ => k, fun h => absurd (Int.le_refl _) h⟩
    | succ j ih =>
      intro n hn hj
      have hW := ih (n + 1) (by omega) (by omega)
      have pr : 0 ≤ pwi b F (ral b F a) n ∧ pwi b F (ral b F a) n < n := by
        refine pwi_rg b F _ n ?_
        have p := (pcn_le b F (ral b F a) n).2.2.1 (sp.2.1 ▸ pal_mem b F hn)
        omega
      have rn := ML_row hv hM hg hL (r := (n : Int)) ⟨by omega, by omega⟩
      have rb := ML_row hv hM hg hL (r := pwi b F (ral b F a) n) ⟨by omega, by omega⟩
      have tn := vb_t hv rn.2.2.2.2.1.1 rn.2.2.2.2.1.2
      have tn2 := vb_t hv rn.2.2.2.2.2.1.1 rn.2.2.2.2.2.1.2
      have tb := vb_t hv rb.2.2.2.2.1.1 rb.2.2.2.2.1.2
      have tb2 := vb_t hv rb.2.2.2.2.2.1.1 rb.2.2.2.2.2.1.2
      have ai := aix_in b F (n := n) (by omega)
      have ax := aix_a b F (n := n) (by omega) ha
      rw [pwi_s] at hW
      refine s_X11_witness_11 d _ _ _ _ _ ?_
      rw [hL.1.1, rn.2.2.2.2.2.2.2.2, show ((n : Int)).toNat = n from rfl]
      refine ⟨⟨⟨by omega, by omega⟩, ⟨by omega, by omega⟩⟩, fun h => absurd h (by omega), fun _ => ⟨by omega, by omega, Or.inr ⟨⟨by omega, by omega⟩, ⟨by omega, by omega⟩⟩, fun hne => ?_, fun he => ?_⟩⟩
      · rw [if_neg (fun h => hne (ax.2 h.1))] at hW
        exact hW
      · have he' : rgn b F n = ral b F a := ax.1 (Decidable.byContradiction he)
        rw [rn.1, rn.2.2.1, rn.2.2.2.1, rb.1, rb.2.2.1, rb.2.2.2.1, rn.2.2.2.2.2.2.1, rn.2.2.2.2.2.2.2.1, rb.2.2.2.2.2.2.1, rb.2.2.2.2.2.2.2.1]
        refine ⟨by omega, by omega, by omega, by omega, by omega, by omega, by omega, by omega, by omega, by omega, by omega, by omega, by omega, by omega, by omega, by omega, by omega, by omega, by omega, by omega, ⟨⟨by omega, by omega⟩, ⟨by omega, by omega⟩⟩, fun hle => ?_, fun hlt => ?_⟩
        · rw [if_neg (fun h => by
            rcases h.2 with h | h
            · omega
            · unfold spn at h
              rw [show ((n : Int)).toNat = n from rfl] at h hle
              omega)] at hW
          exact hW
        · rw [if_pos ⟨he', Or.inr (by
            unfold spn
            rw [show ((n : Int)).toNat = n from rfl] at hlt ⊢
            omega)⟩] at hW
          exact hW
  refine s_X11_witness_0 _ _ _ _ ⟨by omega, by omega, ?_⟩
  rw [q.2.1]
  have := key (F.length - (f + 1)) (f + 1) (by omega) (by omega)
  rw [e1] at this
  exact this
theorem m_alarm {d : Nat} {b : BK} {A K : List BK} {ν : JM} {Q : JQ} (hV : VS b A K) (h : MI b A K ν) {a w : Int} (ha : inR a) (hw : inR w) (k : KM b A K ν Q (oAlarm b a w)) : wp true (d + 13) 274 0 [(40, 0), (0, a), (0, w), (9, 0), (9, 0), (9, 0)] [] ν Q := by
  unfold oAlarm at k
  have hg := FR_gd hV.1
  have na := nal_in b (FR b) (FR_le hV.1)
  have hF := FR_le hV.1
  refine s_X11_alarm_0 (d + 12) _ _ _ _ (w_isFrom hw ⟨by omega, by omega⟩ ⟨by omega, by omega⟩ (fun w0 w1 => ⟨by decide, fun h => absurd h (by decide), fun _ => ?_⟩) (fun w2 => ⟨by decide, fun _ => ?_, fun h => absurd rfl h⟩))
  · refine ⟨⟨ha, ⟨by omega, by omega⟩⟩, fun h0 => ?_, fun h0 => ?_⟩
    · rw [if_neg (by omega)] at k
      refine m_layI hV h (fun ξ h' hL hf _ => ?_)
      rw [show ξ 40 0 11 = nal b (FR b) from hL.2.1]
      refine ⟨⟨ha, ⟨by omega, by omega⟩⟩, fun h3 => ?_, fun h3 => ?_⟩
      · rw [if_neg (by omega)] at k
        refine m_usesOf hV.1 hg hL hF h'.1 ⟨h0, h3⟩ (fun ζ hf2 hz => ?_)
        have h2 : MI b A K ζ := MI_fr hV.2.1 hV.2.2 h' (fun t i h => hf2 _ _ _ (by omega))
        have hff : jfr PQm ν ζ := jfr_trans hf (jfr_mono hf2 (fun t y i h => by omega))
        have hL2 : ML b (FR b) ζ := ML_fr hL (fun t i h => hf2 _ _ _ (by omega))
        have q := ML_al hV.1 hg hL2 (a := a) ⟨h0, h3⟩
        refine ⟨Or.inr ⟨hw, ⟨by omega, by omega⟩⟩, fun n0 => ⟨Or.inr ⟨hw, ⟨by omega, by omega⟩⟩, fun n1 => ⟨Or.inr ⟨hw, ⟨by omega, by omega⟩⟩, fun n2 => ?_, fun e2 => ?_⟩, fun e1 => ⟨by omega, by omega, by omega, by omega, ?_⟩⟩, fun e0 => ?_⟩
        · by_cases e3 : w = 3
          · subst e3
            rw [if_neg (by omega), if_neg (by omega), if_neg (by omega), if_pos rfl] at k
            refine nlp (W := fun i c => wp true (d + 13) 274 95 [(40, 0), (0, a), (0, 3), (0, pcn b (FR b) (ral b (FR b) a) (FR b).length), (0, c), (0, i)] [] ζ Q) (f := pfl b (FR b) (ral b (FR b) a)) (N := (FR b).length) (fun n hn hW => ?_) ?_
            · have row := (ML_row hV.1 h2.1 hg hL2 (r := (n : Int)) ⟨by omega, by omega⟩).2.2.2.2.2.2.2.2
              have ai := aix_in b (FR b) hn
              have ax := aix_a b (FR b) hn (a := a) ⟨h0, h3⟩
              rw [pfl_s] at hW
              refine s_X11_alarm_95 (d + 12) _ _ _ _ _ _ _ ?_
              rw [hL2.1.1, row, show ((n : Int)).toNat = n from rfl]
              refine ⟨⟨⟨by omega, by omega⟩, ⟨by omega, by omega⟩⟩, fun h => absurd h (by omega), fun _ => ⟨by omega, by omega, Or.inr ⟨⟨by omega, by omega⟩, ha⟩, fun hne => ?_, fun he => ⟨Or.inl rfl, fun h => absurd rfl h, fun _ => ?_⟩⟩⟩
              · rw [if_neg (fun h => hne (ax.2 h))] at hW
                exact hW
              · rw [if_pos (ax.1 (Decidable.byContradiction he))] at hW
                exact m_flow hV.1 h2.1 hg hL2.1 hF ⟨by omega, by omega⟩ hW
            · refine s_X11_alarm_95 (d + 12) _ _ _ _ _ _ _ ?_
              rw [hL2.1.1]
              exact ⟨⟨⟨by omega, by omega⟩, ⟨by omega, by omega⟩⟩, fun _ => KM_fin hV k h2 hff, fun h => absurd (Int.le_refl _) h⟩
          · rw [if_neg (by omega), if_neg (by omega), if_neg (by omega), if_neg e3] at k
            refine nlp (W := fun i c => wp true (d + 13) 274 95 [(40, 0), (0, a), (0, w), (0, pcn b (FR b) (ral b (FR b) a) (FR b).length), (0, c), (0, i)] [] ζ Q) (f := pap b (FR b) a) (N := (FR b).length) (fun n hn hW => ?_) ?_
            · have row := (ML_row hV.1 h2.1 hg hL2 (r := (n : Int)) ⟨by omega, by omega⟩).2.2.2.2.2.2.2.2
              have ai := aix_in b (FR b) hn
              have e : pap b (FR b) a (n + 1) = if (aix b (FR b) n : Int) = a ∧ (∀ t ∈ (FR b).getD n [], ptl b (FR b) a t (FR b).length ≤ 1) then pap b (FR b) a n + 1 else pap b (FR b) a n := rfl
              rw [e] at hW
              refine s_X11_alarm_95 (d + 12) _ _ _ _ _ _ _ ?_
              rw [hL2.1.1, row, show ((n : Int)).toNat = n from rfl]
              refine ⟨⟨⟨by omega, by omega⟩, ⟨by omega, by omega⟩⟩, fun h => absurd h (by omega), fun _ => ⟨by omega, by omega, Or.inr ⟨⟨by omega, by omega⟩, ha⟩, fun hne => ?_, fun he => ⟨Or.inr ⟨hw, ⟨by omega, by omega⟩⟩, fun _ => m_isApart hV.1 hg hL2.1 hF hz ⟨by omega, by omega⟩ (fun hp => ⟨by decide, fun h => absurd h (by decide), fun _ => ?_⟩) (fun hp => ⟨by decide, fun _ => ?_, fun h => absurd rfl h⟩), fun h => absurd e3 h⟩⟩⟩
              · rw [if_neg (fun h => hne h.1)] at hW
                exact hW
              · rw [if_pos ⟨Decidable.byContradiction he, hp⟩] at hW
                exact hW
              · rw [if_neg (fun h => hp h.2)] at hW
                rw [Int.add_zero]
                exact hW
            · refine s_X11_alarm_95 (d + 12) _ _ _ _ _ _ _ ?_
              rw [hL2.1.1]
              exact ⟨⟨⟨by omega, by omega⟩, ⟨by omega, by omega⟩⟩, fun _ => KM_fin hV k h2 hff, fun h => absurd (Int.le_refl _) h⟩
        · rw [if_neg (by omega), if_neg (by omega), if_pos (by omega)] at k
          exact m_witness hV.1 h2.1 hg hL2 hF ⟨h0, h3⟩ (KM_fin hV k h2 hff)
        · rw [if_neg (by omega), if_pos (by omega)] at k
          rw [q.2.2.2.1]
          exact KM_fin hV k h2 hff
        · rw [if_pos (by omega)] at k
          exact KM_fin hV k h2 hff
      · rw [if_pos (by omega)] at k
        exact KM_fin hV k h' hf
    · rw [if_pos (by omega)] at k
      exact KM_fin hV k h (jfr_refl _ _)
  · rw [if_pos (Or.inr w2)] at k
    exact KM_fin hV k h (jfr_refl _ _)
