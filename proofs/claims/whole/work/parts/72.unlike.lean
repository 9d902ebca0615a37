/-! alarms with a round in a span of time -/
abbrev irg (b : BK) (F : LL) (lo hi : Int) (n : Nat) : Prop := lo ≤ b 2 (rls (F.getD n [])) ∧ b 2 (rls (F.getD n [])) ≤ hi
def psn (b : BK) (F : LL) (lo hi a : Int) : Nat → Bool
  | 0 => false
  | n + 1 => psn b F lo hi a n || (decide (irg b F lo hi n) && decide ((aix b F n : Int) = a))
def pul (b : BK) (F : LL) (lo hi : Int) : Nat → Int
  | 0 => 0
  | n + 1 => pul b F lo hi n + if irg b F lo hi n ∧ psn b F lo hi (aix b F n : Int) n = false then 1 else 0
theorem pul_in (b : BK) (F : LL) (lo hi : Int) : ∀ n, 0 ≤ pul b F lo hi n ∧ pul b F lo hi n ≤ n
  | 0 => by show (0 : Int) ≤ 0 ∧ (0 : Int) ≤ ((0 : Nat) : Int); omega
  | n + 1 => by
    have h := pul_in b F lo hi n
    have e : pul b F lo hi (n + 1) = pul b F lo hi n + if irg b F lo hi n ∧ psn b F lo hi (aix b F n : Int) n = false then 1 else 0 := rfl
    rw [e]
    split <;> omega
theorem psn_s (b : BK) (F : LL) (lo hi a : Int) (n : Nat) : psn b F lo hi a (n + 1) = true ↔ psn b F lo hi a n = true ∨ (irg b F lo hi n ∧ (aix b F n : Int) = a) := by
  have e : psn b F lo hi a (n + 1) = (psn b F lo hi a n || (decide (irg b F lo hi n) && decide ((aix b F n : Int) = a))) := rfl
  rw [e, Bool.or_eq_true, Bool.and_eq_true, decide_eq_true_iff, decide_eq_true_iff]
/-- of all that is kept of rounds, only the calls of alarms change -/
theorem RS_call {b : BK} {F : LL} {μ ν : JM} (h : RS b F μ) (e : ∀ t y i, ¬ ((t = 27 ∧ y = 0 ∧ i = 10) ∨ (t = 50 ∧ y = μ 27 0 9 - 1)) → ν t y i = μ t y i) (h9 : ∀ a : Nat, (a : Int) < nal b F → 0 ≤ ν 50 (μ 27 0 9 - 1) (a : Int) ∧ ν 50 (μ 27 0 9 - 1) (a : Int) ≤ ν 27 0 10) : RS b F ν := by
  obtain ⟨g2, g3, ⟨cp, ca, gN, gc1, gc2⟩, g5, g6, g7, g8, g9, g10⟩ := h
  have en : nal b F = ((pal b F F.length).length : Int) := rfl
  have q9 : qp μ 9 = μ 27 0 9 - 1 := rfl
  have qe : ∀ k, k < 10 → qp ν k = qp μ k := fun k hk => qp_fr hk (fun i _ => e _ _ _ (by omega)) (fun i _ _ => e _ _ _ (by omega))
  have ar : ∀ k, k < 9 → ∀ i, arr ν k i = arr μ k i := fun k hk i => by
    show ν 50 (qp ν k) i = μ 50 (qp μ k) i
    rw [qe k (by omega)]
    exact e _ _ _ (by have := gN.1.2.2.2 k 9 (by omega) (by omega) (by omega); omega)
  have a0 : qp μ 0 = μ 22 0 5 - 1 := rfl
  have d0 := gN.1.2.2.2 0 9 (by omega) (by omega) (by omega)
  refine ⟨isC_fr g2 (fun t _ _ i => e _ _ _ (by omega)), RC_fr g3 (e _ _ _ (by omega)) (e _ _ _ (by omega)) (e _ _ _ (by omega)) (fun r _ => e _ _ _ (by omega)), ⟨cp, ca, JN_fr gN (fun i _ => e _ _ _ (by omega)) (fun i _ _ => e _ _ _ (by omega)) (fun y => e _ _ _ (by omega)) (e _ _ _ (by omega)) (e _ _ _ (by omega)), gc1, gc2⟩, ⟨(e _ _ _ (by omega)).trans g5.1, fun a ha => ?_⟩, fun r hr => ?_, fun t t0 t1 => ?_, fun t t0 t1 => ?_, ?_, fun a a0 a1 => ?_⟩
  · have q := g5.2 a ha
    have hh := h9 a (by omega)
    rw [ar 3 (by omega), ar 4 (by omega), ar 5 (by omega), ar 6 (by omega), ar 8 (by omega)]
    refine ⟨q.1, q.2.1, q.2.2.1, q.2.2.2.1, q.2.2.2.2.1, ?_⟩
    have e9 : arr ν 9 (a : Int) = ν 50 (μ 27 0 9 - 1) (a : Int) := by
      show ν 50 (qp ν 9) (a : Int) = _
      rw [qe 9 (by omega)]
      rfl
    rw [e9]
    exact hh
  · rw [ar 1 (by omega)]
    exact g6 r hr
  · rw [e _ _ _ (by omega), e _ _ _ (by omega)]
    exact g7 t t0 t1
  · rw [e _ _ _ (by omega)]
    exact g8 t t0 t1
  · rw [e _ _ _ (by omega)]
    exact g9
  · rw [e _ _ _ (by omega)]
    exact g10 a a0 a1
abbrev Pcall : Nat → Int → Int → Prop := fun t y i => (t = 27 ∧ y = 0 ∧ i = 10) ∨ t = 50
theorem w_callOnce {d : Nat} {b : BK} {F : LL} {ν : JM} {Q : JQ} {a : Int} (hv : vb b) (hg : gd b F) (hR : RS b F ν) (hF : F.length ≤ 12000) (ha : 0 ≤ a ∧ a < nal b F) (hc : ν 27 0 10 ≤ 1000000) (k0 : ν 50 (ν 27 0 9 - 1) a = ν 27 0 10 → Q 0 ν) (k1 : ν 50 (ν 27 0 9 - 1) a ≠ ν 27 0 10 → Q 1 (jw ν 50 (ν 27 0 9 - 1) a (ν 27 0 10))) : wp true (d + 1) 10 0 [(27, 0), (0, a)] [] ν Q := by
  have na := nal_in b F hF
  have en : nal b F = ((pal b F F.length).length : Int) := rfl
  have q := (RS_al hv hg hR ha).2.2.2.2.2
  refine s_X0_callOnce_0 _ _ _ _ (w_hasA hR.2.2.2.1.1 (by omega) ⟨by omega, by omega⟩ (fun _ _ => ⟨by decide, fun h => absurd h (by decide), fun _ => ⟨q.1, ha.1, q.2.1, Or.inr ⟨⟨by omega, by omega⟩, ⟨by omega, by omega⟩⟩, fun hne => ⟨q.1, ha.1, q.2.1, by omega, by omega, k1 hne⟩, fun he => ⟨by omega, by omega, k0 (Decidable.byContradiction he)⟩⟩⟩) (fun h => absurd ha h))
theorem c_alarmsBetween {d : Nat} {b : BK} {F : LL} {ν : JM} {Q : JQ} {lo hi : Int} (hv : vb b) (hg : gd b F) (hR : RS b F ν) (hc : 0 ≤ ν 27 0 10 ∧ ν 27 0 10 ≤ 900000) (hlo : inR lo) (hhi : inR hi) (k : ∀ ξ, RS b F ξ → ξ 27 0 10 = ν 27 0 10 + 1 → jfr Pcall ν ξ → Q (pul b F lo hi F.length) ξ) : wp true (d + 3) 116 0 [(22, 0), (0, lo), (0, hi), (9, 0), (9, 0), (9, 0)] [] ν Q := by
  have hF := hR.2.1.2.1
  have en : nal b F = ((pal b F F.length).length : Int) := rfl
  have e9 : jw ν 27 0 10 (ν 27 0 10 + 1) 27 0 9 = ν 27 0 9 := jw_i (by omega)
  have e10 : jw ν 27 0 10 (ν 27 0 10 + 1) 27 0 10 = ν 27 0 10 + 1 := jw_eq _ _ _ _ _
  have hR1 : RS b F (jw ν 27 0 10 (ν 27 0 10 + 1)) := RS_call hR (fun t y i h => by unfold jw; rw [if_neg (by omega)]) (fun a ha => by
    have q := (RS_al hv hg hR (a := (a : Int)) ⟨by omega, ha⟩).2.2.2.2.2
    rw [jw_t (by omega), e10]
    omega)
  have q0 : ∀ a, 0 ≤ a → a < nal b F → jw ν 27 0 10 (ν 27 0 10 + 1) 50 (ν 27 0 9 - 1) a ≠ ν 27 0 10 + 1 := fun a h0 h1 => by
    have q := (RS_al hv hg hR ⟨h0, h1⟩).2.2.2.2.2
    rw [jw_t (by omega)]
    omega
  refine s_X8_alarmsBetween_0 (d + 2) _ _ _ _ ?_
  generalize hμ : jw ν 27 0 10 (ν 27 0 10 + 1) = ν1 at hR1 q0 e9 e10 ⊢
  have f1 : jfr Pcall ν ν1 := hμ ▸ jfr_jw (jfr_refl _ _) (Or.inl ⟨rfl, rfl, rfl⟩)
  refine nlp (W := fun i c => ∀ (u : JV) ζ, RS b F ζ → ζ 27 0 10 = ν 27 0 10 + 1 → jfr Pcall ν ζ → (∀ a, 0 ≤ a → a < nal b F → (ζ 50 (ν 27 0 9 - 1) a = ν 27 0 10 + 1 ↔ psn b F lo hi a i.toNat = true)) → ζ 27 0 9 = ν 27 0 9 → wp true (d + 3) 116 12 [(22, 0), (0, lo), (0, hi), (0, c), (0, i), u] [] ζ Q) (f := pul b F lo hi) (N := F.length) (fun n hn hW u ζ hz hz10 hzf hzs hz9 => ?_) (fun u ζ hz hz10 hzf hzs hz9 => ?_) (9, 0) ν1 hR1 e10 f1 (fun a h0 h1 => ⟨fun h => absurd h (q0 a h0 h1), fun h => by cases h⟩) e9
  · have tm := vb_t hv (rls_in (gd_get hg hn)).1 (rls_in (gd_get hg hn)).2
    have tm2 : 0 ≤ b 2 (rls (F.getD ((n : Int)).toNat [])) ∧ b 2 (rls (F.getD ((n : Int)).toNat [])) ≤ 9999 := tm.2.2.2.1
    have ao := RS_of hz hn
    have ai := aix_in b F hn
    have ep : pul b F lo hi (n + 1) = pul b F lo hi n + if irg b F lo hi n ∧ psn b F lo hi (aix b F n : Int) n = false then 1 else 0 := rfl
    rw [ep] at hW
    have ht : ((n : Int) + 1).toNat = n + 1 := by omega
    rw [ht] at hW
    rw [show ((n : Int)).toNat = n from rfl] at hzs
    refine s_X8_alarmsBetween_12 (d + 2) _ _ _ _ _ _ _ ?_
    rw [hz.2.1.1]
    refine ⟨⟨⟨by omega, by omega⟩, ⟨by omega, by omega⟩⟩, fun h => absurd h (by omega), fun _ => w_lastTime hv hz.1 hz.2.1 hg ⟨by omega, by omega⟩ ⟨⟨⟨by omega, by omega⟩, hlo⟩, fun h1 => ?_, fun h1 => ⟨⟨⟨by omega, by omega⟩, hhi⟩, fun h2 => ?_, fun h2 => ⟨ao.1, by omega, ao.2.1, ?_⟩⟩⟩⟩
    · rw [show ((n : Int)).toNat = n from rfl] at h1
      rw [if_neg (fun h => by have := h.1.1; omega), Int.add_zero] at hW
      refine hW _ ζ hz hz10 hzf (fun a h0 h3 => ?_) hz9
      rw [hzs a h0 h3, psn_s]
      exact ⟨fun h => Or.inl h, fun h => h.resolve_right (fun h => by have := h.1.1; omega)⟩
    · rw [show ((n : Int)).toNat = n from rfl] at h2
      rw [if_neg (fun h => by have := h.1.2; omega), Int.add_zero] at hW
      refine hW _ ζ hz hz10 hzf (fun a h0 h3 => ?_) hz9
      rw [hzs a h0 h3, psn_s]
      exact ⟨fun h => Or.inl h, fun h => h.resolve_right (fun h => by have := h.1.2; omega)⟩
    · rw [show ((n : Int)).toNat = n from rfl] at h1 h2
      have hir : irg b F lo hi n := ⟨by omega, by omega⟩
      rw [ao.2.2]
      refine w_callOnce hv hg hz hF ai (by omega) (fun he => ?_) (fun hne => ?_)
      · rw [hz9, hz10] at he
        have hp := (hzs _ ai.1 ai.2).1 he
        rw [if_neg (fun h => by rw [hp] at h; cases h.2), Int.add_zero] at hW
        refine ⟨Or.inl rfl, fun _ => hW _ ζ hz hz10 hzf (fun a h0 h3 => ?_) hz9, fun h => absurd rfl h⟩
        rw [hzs a h0 h3, psn_s]
        refine ⟨fun h => Or.inl h, fun h => ?_⟩
        rcases h with h | h
        · exact h
        · rw [← h.2]
          exact hp
      · rw [hz9, hz10] at hne ⊢
        have hp : psn b F lo hi (aix b F n : Int) n = false := by
          cases hpp : psn b F lo hi (aix b F n : Int) n with
          | false => rfl
          | true => exact absurd ((hzs _ ai.1 ai.2).2 hpp) hne
        rw [if_pos ⟨hir, hp⟩] at hW
        refine ⟨by decide, fun h => absurd h (by decide), fun _ => hW _ _ (RS_call hz (fun t y i h => ?_) (fun a ha => ?_)) ?_ (jfr_jw hzf (Or.inr rfl)) (fun a h0 h3 => ?_) ?_⟩
        · unfold jw
          rw [if_neg (by omega)]
        · have q := (RS_al hv hg hz (a := (a : Int)) ⟨by omega, ha⟩).2.2.2.2.2
          rw [jw_t (t' := 27) (by omega), hz9]
          rw [hz9] at q
          unfold jw
          split <;> omega
        · rw [jw_t (by omega)]
          exact hz10
        · by_cases ea : a = (aix b F n : Int)
          · rw [ea, jw_eq, psn_s]
            exact ⟨fun _ => Or.inr ⟨hir, rfl⟩, fun _ => rfl⟩
          · rw [jw_i ea, hzs a h0 h3, psn_s]
            exact ⟨fun h => Or.inl h, fun h => h.resolve_right (fun h => ea h.2.symm)⟩
        · rw [jw_t (by omega)]
          exact hz9
  · refine s_X8_alarmsBetween_12 (d + 2) _ _ _ _ _ _ _ ?_
    rw [hz.2.1.1]
    exact ⟨⟨⟨by omega, by omega⟩, ⟨by omega, by omega⟩⟩, fun _ => k ζ hz hz10 hzf, fun h => absurd (Int.le_refl _) h⟩
abbrev P71 : Nat → Int → Int → Prop := fun t y _ => t = 71 ∧ y = 0
theorem m_unlikeOf {d : Nat} {b : BK} {F : LL} {ν : JM} {Q : JQ} {w s lo : Int} (hv : vb b) (hM : isM ν b) (hg : gd b F) (hL : ML b F ν) (hF : F.length ≤ 12000) (hw : 0 ≤ w ∧ w ≤ 9999) (hs : (s = 1 ∧ lo = w - b 4 0) ∨ (s = 0 ∧ lo = 0)) (k : ∀ ξ, jfr P71 ν ξ → Q (pul b F lo w F.length) ξ) : wp true (d + 4) 291 0 [(40, 0), (0, w), (0, s), (9, 0), (9, 0), (9, 0)] [] ν Q := by
  have na := nal_in b F hF
  have en : nal b F = ((pal b F F.length).length : Int) := rfl
  refine s_X11_unlikeOf_0 _ _ _ _ _ ?_
  refine nlp (W := fun i (_ : Unit) => ∀ ζ, jfr P71 ν ζ → (∀ a, 0 ≤ a → a < i → ζ 71 0 a = 0) → wp true (d + 4) 291 5 [(40, 0), (0, w), (0, s), (0, 0), (0, i), (9, 0)] [] ζ Q) (f := fun _ => ()) (N := (pal b F F.length).length) (fun n hn hW ζ hf hz => ?_) (fun ζ hf hz => ?_) ν (jfr_refl _ _) (fun a h0 h1 => by omega)
  · have hL2 : ML b F ζ := ML_fr hL (fun t i h => hf _ _ _ (by omega))
    refine s_X11_unlikeOf_5 _ _ _ _ _ _ _ ?_
    rw [show ζ 40 0 11 = nal b F from hL2.2.1]
    refine ⟨⟨⟨by omega, by omega⟩, ⟨by omega, by omega⟩⟩, fun h => absurd h (by omega), fun _ => ⟨by omega, by omega, by omega, by omega, hW _ (jfr_jw hf ⟨rfl, rfl⟩) (fun a h0 h1 => ?_)⟩⟩
    by_cases ea : a = (n : Int)
    · rw [ea, jw_eq]
    · rw [jw_i ea]
      exact hz a h0 (by omega)
  · have hL2 : ML b F ζ := ML_fr hL (fun t i h => hf _ _ _ (by omega))
    refine s_X11_unlikeOf_5 _ _ _ _ _ _ _ ?_
    rw [show ζ 40 0 11 = nal b F from hL2.2.1]
    refine ⟨⟨⟨by omega, by omega⟩, ⟨by omega, by omega⟩⟩, fun _ => ?_, fun h => absurd (by omega) h⟩
    refine nlp (W := fun i c => ∀ (u : JV) ξ, jfr P71 ν ξ → (∀ a, 0 ≤ a → a < nal b F → (ξ 71 0 a = 0 ∨ ξ 71 0 a = 1) ∧ (ξ 71 0 a = 0 ↔ psn b F lo w a i.toNat = false)) → wp true (d + 4) 291 31 [(40, 0), (0, w), (0, s), (0, c), (0, i), u] [] ξ Q) (f := pul b F lo w) (N := F.length) (fun n hn hW u ξ hf2 hx => ?_) (fun u ξ hf2 hx => ?_) (9, 0) ζ hf (fun a h0 h1 => ⟨Or.inl (hz a h0 h1), fun _ => rfl, fun _ => hz a h0 h1⟩)
    · have hL3 : ML b F ξ := ML_fr hL (fun t i h => hf2 _ _ _ (by omega))
      have hM3 : isM ξ b := isM_fr hM (fun i => hf2 _ _ _ (by omega))
      have row := ML_row hv hM3 hg hL3 (r := (n : Int)) ⟨by omega, by omega⟩
      rw [show ((n : Int)).toNat = n from rfl] at row hx
      have hm := vb_m hv
      have tm := vb_t hv row.2.2.2.2.1.1 row.2.2.2.2.1.2
      have ai := aix_in b F hn
      have xa := hx _ ai.1 ai.2
      have ep : pul b F lo w (n + 1) = pul b F lo w n + if irg b F lo w n ∧ psn b F lo w (aix b F n : Int) n = false then 1 else 0 := rfl
      rw [ep, show ((n : Int) + 1).toNat = n + 1 by omega] at hW
      have no : ¬ irg b F lo w n → ∀ u', wp true (d + 4) 291 73 [(40, 0), (0, w), (0, s), (0, pul b F lo w n), (0, (n : Int)), u'] [(0, 0)] ξ Q := fun hni u' => by
        rw [if_neg (fun h => hni h.1), Int.add_zero] at hW
        refine s_X11_unlikeOf_73 _ _ _ _ _ _ _ _ _ ⟨Or.inl rfl, fun _ => hW _ ξ hf2 (fun a h0 h1 => ⟨(hx a h0 h1).1, ?_⟩), fun h => absurd rfl h⟩
        rw [(hx a h0 h1).2, ← Bool.not_eq_true, ← Bool.not_eq_true, psn_s]
        exact ⟨fun h hh => h (hh.resolve_right (fun h => hni h.1)), fun h hh => h (Or.inl hh)⟩
      have yes : irg b F lo w n → ∀ u', wp true (d + 4) 291 73 [(40, 0), (0, w), (0, s), (0, pul b F lo w n), (0, (n : Int)), u'] [(0, 1)] ξ Q := fun hir u' => by
        refine s_X11_unlikeOf_73 _ _ _ _ _ _ _ _ _ ⟨by decide, fun h => absurd h (by decide), fun _ => ⟨by omega, by omega, ?_⟩⟩
        rw [row.2.2.2.2.2.2.2.2]
        refine ⟨ai.1, by omega, by rcases xa.1 with h | h <;> rw [h] <;> decide, fun h0 => ⟨by omega, by omega, ai.1, by omega, by omega, by omega, ?_⟩, fun hne => ?_⟩
        · rw [if_pos ⟨hir, xa.2.1 h0⟩] at hW
          refine hW _ _ (jfr_jw hf2 ⟨rfl, rfl⟩) (fun a h1 h2 => ?_)
          by_cases ea : a = (aix b F n : Int)
          · rw [ea, jw_eq]
            refine ⟨Or.inr rfl, fun h => absurd h (by decide), fun h => ?_⟩
            rw [← Bool.not_eq_true, psn_s] at h
            exact absurd (Or.inr ⟨hir, rfl⟩) h
          · rw [jw_i ea]
            refine ⟨(hx a h1 h2).1, ?_⟩
            rw [(hx a h1 h2).2, ← Bool.not_eq_true, ← Bool.not_eq_true, psn_s]
            exact ⟨fun h hh => h (hh.resolve_right (fun h => ea h.2.symm)), fun h hh => h (Or.inl hh)⟩
        · have hp : psn b F lo w (aix b F n : Int) n = true := by
            cases hpp : psn b F lo w (aix b F n : Int) n with
            | true => rfl
            | false => exact absurd (xa.2.2 hpp) hne
          rw [if_neg (fun h => by rw [hp] at h; cases h.2), Int.add_zero] at hW
          refine hW _ ξ hf2 (fun a h1 h2 => ⟨(hx a h1 h2).1, ?_⟩)
          rw [(hx a h1 h2).2, ← Bool.not_eq_true, ← Bool.not_eq_true, psn_s]
          refine ⟨fun h hh => ?_, fun h hh => h (Or.inl hh)⟩
          rcases hh with hh | hh
          · exact h hh
          · rw [← hh.2] at h
            exact h hp
      refine s_X11_unlikeOf_31 (d + 2) _ _ _ _ _ _ _ ?_
      rw [hL3.1.1]
      rcases hs with ⟨rfl, hlo⟩ | ⟨rfl, hlo⟩
      · refine ⟨⟨⟨by omega, by omega⟩, ⟨by omega, by omega⟩⟩, fun h => absurd h (by omega), fun _ => ⟨by decide, fun h => absurd h (by decide), fun _ => m_isStanding (d := d + 1) hv hM3 hg hL3 hF ⟨by omega, by omega⟩ hw (fun h1 h2 => ?_) (fun h => ?_)⟩⟩
        · exact yes ⟨by rw [hlo]; exact h1, h2⟩ u
        · exact no (by rw [show irg b F lo w n = (lo ≤ b 2 (rls (F.getD n [])) ∧ b 2 (rls (F.getD n [])) ≤ w) from rfl, hlo]; exact h) u
      · rw [row.1, row.2.2.1, row.2.2.2.2.2.2.1]
        refine ⟨⟨⟨by omega, by omega⟩, ⟨by omega, by omega⟩⟩, fun h => absurd h (by omega), fun _ => ⟨Or.inl rfl, fun _ => ⟨by omega, by omega, by omega, by omega, by omega, by omega, ⟨⟨by omega, by omega⟩, ⟨by omega, by omega⟩⟩, fun hlt => ?_, fun hge => ?_⟩, fun h => absurd rfl h⟩⟩
        · exact no (fun h => by have := h.2; omega) u
        · exact yes ⟨by rw [hlo]; omega, by omega⟩ u
    · have hL3 : ML b F ξ := ML_fr hL (fun t i h => hf2 _ _ _ (by omega))
      refine s_X11_unlikeOf_31 (d + 2) _ _ _ _ _ _ _ ?_
      rw [hL3.1.1]
      exact ⟨⟨⟨by omega, by omega⟩, ⟨by omega, by omega⟩⟩, fun _ => k ξ hf2, fun h => absurd (Int.le_refl _) h⟩
