/-! alarms with an account, rounds without a set, couples; the reference's nets and witnesses -/
def pwc (b : BK) (F : LL) (k : Nat) : Int := fup (fun c a => c + if bt (pmk (ral b F a)) k = true then 1 else 0) (pal b F F.length).length 0 0
theorem c_countWith {d : Nat} {b : BK} {F : LL} {ν : JM} {Q : JQ} {a : Int} (hv : vb b) (hg : gd b F) (hR : RS b F ν) (ha : 0 ≤ a ∧ a < 32) (k : Q (pwc b F a.toNat) ν) : wp true d 14 0 [(27, 0), (0, a), (9, 0), (9, 0)] [] ν Q := by
  have na := nal_in b F hR.2.1.2.1
  have en : nal b F = ((pal b F F.length).length : Int) := rfl
  have e0 : ν 27 0 0 = nal b F := hR.2.2.2.1.1
  refine s_X0_countWith_0 _ _ _ _ (fup_lp (W := fun i (c : Int) => wp true d 14 4 [(27, 0), (0, a), (0, c), (0, i)] [] ν Q) (g := fun c x => c + if bt (pmk (ral b F x)) a.toNat = true then 1 else 0) (lo := 0) (n := nal b F) (fun i c h0 h1 hW => ?_) (pal b F F.length).length 0 0 (by omega) (by omega) ?_)
  · have q := (RS_al hv hg hR ⟨h0, h1⟩).2.1
    refine s_X0_countWith_4 _ _ _ _ _ _ ?_
    rw [e0, q.2.2, has_u _ ha.1 ha.2]
    exact ⟨⟨⟨by omega, by omega⟩, ⟨by omega, by omega⟩⟩, fun h => absurd h (by omega), fun _ => ⟨q.1, h0, q.2.1, hW⟩⟩
  · refine s_X0_countWith_4 _ _ _ _ _ _ ?_
    rw [e0]
    exact ⟨⟨⟨by omega, by omega⟩, ⟨by omega, by omega⟩⟩, fun _ => k, fun h => absurd (Int.le_refl _) h⟩
theorem m_alarmsOf {d : Nat} {b : BK} {F : LL} {ν : JM} {Q : JQ} {a : Int} (hv : vb b) (hg : gd b F) (hL : ML b F ν) (hF : F.length ≤ 12000) (ha : 0 ≤ a ∧ a < 32) (k : Q (pwc b F a.toNat) ν) : wp true (d + 1) 265 0 [(40, 0), (0, a), (9, 0), (9, 0)] [] ν Q := by
  have na := nal_in b F hF
  have en : nal b F = ((pal b F F.length).length : Int) := rfl
  have e0 : ν 40 0 11 = nal b F := hL.2.1
  refine s_X11_alarmsOf_0 _ _ _ _ (fup_lp (W := fun i (c : Int) => wp true (d + 1) 265 4 [(40, 0), (0, a), (0, c), (0, i)] [] ν Q) (g := fun c x => c + if bt (pmk (ral b F x)) a.toNat = true then 1 else 0) (lo := 0) (n := nal b F) (fun i c h0 h1 hW => ?_) (pal b F F.length).length 0 0 (by omega) (by omega) ?_)
  · have q := ML_al hv hg hL ⟨h0, h1⟩
    refine s_X11_alarmsOf_4 _ _ _ _ _ _ ?_
    rw [e0, q.2.2.1]
    refine ⟨⟨⟨by omega, by omega⟩, ⟨by omega, by omega⟩⟩, fun h => absurd h (by omega), fun _ => ⟨by omega, by omega, by omega, by omega, w_has ha (fun h => ⟨by decide, fun h => absurd h (by decide), fun _ => ?_⟩) (fun h => ⟨by decide, fun _ => ?_, fun h => absurd rfl h⟩)⟩⟩
    · rw [if_pos h] at hW
      exact hW
    · rw [if_neg (by rw [h]; decide)] at hW
      exact hW
  · refine s_X11_alarmsOf_4 _ _ _ _ _ _ ?_
    rw [e0]
    exact ⟨⟨⟨by omega, by omega⟩, ⟨by omega, by omega⟩⟩, fun _ => k, fun h => absurd (Int.le_refl _) h⟩
/-- rings that a set does not meet -/
abbrev out0 (s : Int) : List Int → Bool := fun g => decide (jand (pmk g) s = 0)
theorem c_roundsWithout {d : Nat} {b : BK} {F : LL} {ν : JM} {Q : JQ} {s : Int} (hv : vb b) (hg : gd b F) (hR : RS b F ν) (k : Q (pct b F (out0 s) F.length) ν) : wp true d 16 0 [(27, 0), (0, s), (9, 0), (9, 0)] [] ν Q := by
  have na := nal_in b F hR.2.1.2.1
  have en : nal b F = ((pal b F F.length).length : Int) := rfl
  have e0 : ν 27 0 0 = nal b F := hR.2.2.2.1.1
  have k' : Q (fup (fun c x => c + (fun g => if out0 s g = true then pcn b F g F.length else 0) ((pal b F F.length).getD x.toNat [])) (pal b F F.length).length 0 0) ν := by
    have e := fup_sA (fun g => if out0 s g = true then pcn b F g F.length else 0) (pal b F F.length) (pal b F F.length).length 0 0 (by omega)
    rw [show ((0 : Nat) : Int) = 0 from rfl] at e
    rw [e, List.drop_zero, pct_sA, Int.zero_add]
    exact k
  refine s_X0_roundsWithout_0 _ _ _ _ (fup_lp (W := fun i (c : Int) => wp true d 16 4 [(27, 0), (0, s), (0, c), (0, i)] [] ν Q) (g := fun c x => c + (fun g => if out0 s g = true then pcn b F g F.length else 0) ((pal b F F.length).getD x.toNat [])) (lo := 0) (n := nal b F) (fun i c h0 h1 hW => ?_) (pal b F F.length).length 0 0 (by omega) (by omega) ?_)
  · have q := RS_al hv hg hR ⟨h0, h1⟩
    change wp true d 16 4 [(27, 0), (0, s), (0, c + if out0 s (ral b F i) = true then pcn b F (ral b F i) F.length else 0), (0, i + 1)] [] ν Q at hW
    refine s_X0_roundsWithout_4 _ _ _ _ _ _ ?_
    rw [e0, q.2.1.2.2, q.2.2.1.2.2]
    refine ⟨⟨⟨by omega, by omega⟩, ⟨by omega, by omega⟩⟩, fun h => absurd h (by omega), fun _ => ⟨q.2.1.1, h0, q.2.1.2.1, Or.inr ⟨inR_and _ _, ⟨by omega, by omega⟩⟩, fun h => ?_, fun h => ⟨q.2.2.1.1, h0, q.2.2.1.2.1, ?_⟩⟩⟩
    · rw [if_neg (show ¬ out0 s (ral b F i) = true from fun h2 => h (of_decide_eq_true h2))] at hW
      exact hW
    · rw [if_pos (show out0 s (ral b F i) = true from decide_eq_true (by omega))] at hW
      exact hW
  · refine s_X0_roundsWithout_4 _ _ _ _ _ _ ?_
    rw [e0]
    exact ⟨⟨⟨by omega, by omega⟩, ⟨by omega, by omega⟩⟩, fun _ => k', fun h => absurd (Int.le_refl _) h⟩
theorem m_leftBy {d : Nat} {b : BK} {F : LL} {ν : JM} {Q : JQ} {s : Int} (hv : vb b) (hg : gd b F) (hL : ML b F ν) (hF : F.length ≤ 12000) (k : Q (pct b F (out0 s) F.length) ν) : wp true d 310 0 [(40, 0), (0, s), (9, 0), (9, 0)] [] ν Q := by
  refine s_X11_leftBy_0 _ _ _ _ (nlp (W := fun i c => wp true d 310 4 [(40, 0), (0, s), (0, c), (0, i)] [] ν Q) (f := pct b F (out0 s)) (N := F.length) (fun n hn hW => ?_) ?_)
  · have es := ML_set hv hg hL (r := (n : Int)) ⟨by omega, by omega⟩
    rw [show ((n : Int)).toNat = n from rfl] at es
    refine s_X11_leftBy_4 _ _ _ _ _ _ ?_
    rw [hL.1.1, es]
    have e : pct b F (out0 s) (n + 1) = pct b F (out0 s) n + if out0 s (rgn b F n) = true then 1 else 0 := rfl
    rw [e] at hW
    refine ⟨⟨⟨by omega, by omega⟩, ⟨by omega, by omega⟩⟩, fun h => absurd h (by omega), fun _ => ⟨by omega, by omega, Or.inr ⟨inR_and _ _, ⟨by omega, by omega⟩⟩, fun h => ?_, fun h => ?_⟩⟩
    · rw [if_neg (show ¬ out0 s (rgn b F n) = true from fun h2 => h (of_decide_eq_true h2))] at hW
      exact hW
    · rw [if_pos (show out0 s (rgn b F n) = true from decide_eq_true (by omega))] at hW
      exact hW
  · refine s_X11_leftBy_4 _ _ _ _ _ _ ?_
    rw [hL.1.1]
    exact ⟨⟨⟨by omega, by omega⟩, ⟨by omega, by omega⟩⟩, fun _ => k, fun h => absurd (Int.le_refl _) h⟩
/-- alarms there are, and all of two -/
abbrev ptwo (b : BK) (F : LL) : Prop := 1 ≤ nal b F ∧ ∀ a, 0 ≤ a → a < nal b F → (ral b F a).length = 2
theorem w_sizeOf {d : Nat} {b : BK} {F : LL} {ν : JM} {Q : JQ} {a : Int} (hv : vb b) (hg : gd b F) (hR : RS b F ν) (ha : 0 ≤ a ∧ a < nal b F) (k : Q ((ral b F a).length : Int) ν) : wp true (d + 1) 12 0 [(27, 0), (0, a)] [] ν Q := by
  have na := nal_in b F hR.2.1.2.1
  have e0 : ν 27 0 0 = nal b F := hR.2.2.2.1.1
  have q := (RS_al hv hg hR ha).2.1
  refine s_X0_sizeOf_0 _ _ _ _ (w_hasA e0 (by omega) ⟨by omega, by omega⟩ (fun _ _ => ⟨by decide, fun h => absurd h (by decide), fun _ => ⟨q.1, ha.1, q.2.1, w_bitCount ?_⟩⟩) (fun h => absurd ha h))
  rw [q.2.2, pmk_pop (ral_sm hv hg ha).1 (ral_nodup hv hg ha)]
  exact k
theorem c_allOfTwo {d : Nat} {b : BK} {F : LL} {ν : JM} {Q : JQ} (hv : vb b) (hg : gd b F) (hR : RS b F ν) (k1 : ptwo b F → Q 1 ν) (k0 : ¬ ptwo b F → Q 0 ν) : wp true (d + 2) 13 0 [(27, 0), (9, 0)] [] ν Q := by
  have na := nal_in b F hR.2.1.2.1
  have en : nal b F = ((pal b F F.length).length : Int) := rfl
  have e0 : ν 27 0 0 = nal b F := hR.2.2.2.1.1
  have key : ∀ (q : Nat) (i : Int), i + q = nal b F → 0 ≤ i → (∀ a, 0 ≤ a → a < i → (ral b F a).length = 2) → wp true (d + 2) 13 2 [(27, 0), (0, i)] [] ν Q := by
    intro q
    induction q with
    | zero =>
      intro i h1 h2 h3
      refine s_X0_allOfTwo_2 _ _ _ _ ?_
      rw [e0]
      refine ⟨⟨⟨by omega, by omega⟩, ⟨by omega, by omega⟩⟩, fun _ => ⟨⟨⟨by omega, by omega⟩, ⟨by omega, by omega⟩⟩, fun h => ⟨by omega, by omega, k0 (fun h2 => by have := h2.1; omega)⟩, fun h => ⟨by omega, by omega, k1 ⟨by omega, fun a a0 a1 => h3 a a0 (by omega)⟩⟩⟩, fun h => absurd (by omega) h⟩
    | succ q ih =>
      intro i h1 h2 h3
      have sm := (ral_sm hv hg (a := i) ⟨h2, by omega⟩).2
      refine s_X0_allOfTwo_2 _ _ _ _ ?_
      rw [e0]
      refine ⟨⟨⟨by omega, by omega⟩, ⟨by omega, by omega⟩⟩, fun h => absurd h (by omega), fun _ => w_sizeOf hv hg hR ⟨h2, by omega⟩ ⟨Or.inr ⟨⟨by omega, by omega⟩, ⟨by omega, by omega⟩⟩, fun h => ih (i + 1) (by omega) (by omega) (fun a a0 a1 => ?_), fun h => ⟨by omega, by omega, k0 (fun h4 => h (by have := h4.2 i h2 (by omega); omega))⟩⟩⟩
      by_cases e : a = i
      · subst e; omega
      · exact h3 a a0 (by omega)
  exact s_X0_allOfTwo_0 _ _ _ (key (pal b F F.length).length 0 (by omega) (by omega) (fun a a0 a1 => by omega))
theorem m_areCouples {d : Nat} {b : BK} {F : LL} {ν : JM} {Q : JQ} (hv : vb b) (hg : gd b F) (hL : ML b F ν) (hF : F.length ≤ 12000) (k1 : ptwo b F → Q 1 ν) (k0 : ¬ ptwo b F → Q 0 ν) : wp true d 258 0 [(40, 0), (9, 0)] [] ν Q := by
  have na := nal_in b F hF
  have en : nal b F = ((pal b F F.length).length : Int) := rfl
  have e0 : ν 40 0 11 = nal b F := hL.2.1
  have key : ∀ (q : Nat) (i : Int), i + q = nal b F → 0 ≤ i → (∀ a, 0 ≤ a → a < i → (ral b F a).length = 2) → wp true d 258 2 [(40, 0), (0, i)] [] ν Q := by
    intro q
    induction q with
    | zero =>
      intro i h1 h2 h3
      refine s_X11_areCouples_2 _ _ _ _ ?_
      rw [e0]
      refine ⟨⟨⟨by omega, by omega⟩, ⟨by omega, by omega⟩⟩, fun _ => ⟨⟨⟨by omega, by omega⟩, ⟨by omega, by omega⟩⟩, fun h => ⟨by omega, by omega, k0 (fun h2 => by have := h2.1; omega)⟩, fun h => ⟨by omega, by omega, k1 ⟨by omega, fun a a0 a1 => h3 a a0 (by omega)⟩⟩⟩, fun h => absurd (by omega) h⟩
    | succ q ih =>
      intro i h1 h2 h3
      have sm := (ral_sm hv hg (a := i) ⟨h2, by omega⟩).2
      have q0 := ML_al hv hg hL (a := i) ⟨h2, by omega⟩
      refine s_X11_areCouples_2 _ _ _ _ ?_
      rw [e0, q0.2.2.2.1]
      refine ⟨⟨⟨by omega, by omega⟩, ⟨by omega, by omega⟩⟩, fun h => absurd h (by omega), fun _ => ⟨by omega, by omega, by omega, by omega, Or.inr ⟨⟨by omega, by omega⟩, ⟨by omega, by omega⟩⟩, fun h => ih (i + 1) (by omega) (by omega) (fun a a0 a1 => ?_), fun h => ⟨by omega, by omega, k0 (fun h4 => h (by have := h4.2 i h2 (by omega); omega))⟩⟩⟩
      by_cases e : a = i
      · subst e; omega
      · exact h3 a a0 (by omega)
  exact s_X11_areCouples_0 _ _ _ (key (pal b F F.length).length 0 (by omega) (by omega) (fun a a0 a1 => by omega))
abbrev P70 : Nat → Int → Int → Prop := fun t y _ => t = 70 ∧ y = 0
theorem m_nets {d : Nat} {b : BK} {F : LL} {ν : JM} {Q : JQ} (hv : vb b) (hM : isM ν b) (hg : gd b F) (hL : ML b F ν) (hF : F.length ≤ 12000) (k : ∀ ξ, jfr P70 ν ξ → (∀ t, 0 ≤ t → t < b 5 1 → ξ 70 0 t = (pun b F F.length).1 t) → Q (pun b F F.length).2 ξ) : wp true (d + 2) 281 0 [(40, 0), (9, 0), (9, 0), (9, 0), (9, 0)] [] ν Q := by
  have hm := vb_m hv
  have second : ∀ (q n : Nat) (ξ : JM) (u3 u4 : JV), n + q = F.length → jfr P70 ν ξ → (∀ t, 0 ≤ t → t < b 5 1 → ξ 70 0 t = (pun b F n).1 t) → wp true (d + 2) 281 32 [(40, 0), (0, (pun b F n).2), (0, (n : Int)), u3, u4] [] ξ Q := by
    intro q
    induction q with
    | zero =>
      intro n ξ u3 u4 h1 h2 h3
      have en : n = F.length := by omega
      subst en
      refine s_X11_nets_32 _ _ _ _ _ _ _ ?_
      rw [show ξ 40 0 10 = (F.length : Int) from (h2 _ _ _ (by omega)).trans hL.1.1]
      exact ⟨⟨⟨by omega, by omega⟩, ⟨by omega, by omega⟩⟩, fun _ => k ξ h2 h3, fun h => absurd (Int.le_refl _) h⟩
    | succ q ih =>
      intro n ξ u3 u4 h1 h2 h3
      have hn : n < F.length := by omega
      have g := gd_get hg hn
      have gl := gr_len g
      have asc := gr_asc hv g
      have pu := pun_in hv hg n (by omega)
      have hr : ∀ t ∈ F.getD n [], 0 ≤ t ∧ t < b 5 1 := fun t ht => gr_in g ht
      have mi := pmn_in pu.1 hr
      have rowz : ∀ ζ : JM, jfr P70 ν ζ → ζ 61 0 (n : Int) = ((F.getD n []).length : Int) ∧ ∀ i : Nat, i < (F.getD n []).length → ζ 60 0 (5 * (n : Int) + (i : Int)) = (F.getD n []).getD i 0 := by
        intro ζ hz
        have hLz : LM b F ζ := LM_fr hL.1 (fun t i h => hz _ _ _ (by omega))
        have rz := LM_row hLz (r := (n : Int)) ⟨by omega, by omega⟩
        rw [show ((n : Int)).toNat = n from rfl] at rz
        exact ⟨rz.1, fun i hi => rz.2.2.2 (i : Int) (by omega) (by omega)⟩
      have sub : ∀ (p i : Nat) (ζ : JM), i + p = (F.getD n []).length → jfr P70 ν ζ → (∀ t, 0 ≤ t → t < b 5 1 → ζ 70 0 t = if t ∈ (F.getD n []).take i then (pun b F n).1 t - pmn (pun b F n).1 (F.getD n []) else (pun b F n).1 t) → wp true (d + 2) 281 84 [(40, 0), (0, (pun b F n).2), (0, (n : Int)), (0, pmn (pun b F n).1 (F.getD n [])), (0, (i : Int))] [] ζ Q := by
        intro p
        induction p with
        | zero =>
          intro i ζ y1 y2 y3
          have ei : i = (F.getD n []).length := by omega
          subst ei
          rw [List.take_length] at y3
          refine s_X11_nets_84 (d + 1) _ _ _ _ _ _ ?_
          rw [(rowz ζ y2).1]
          refine ⟨by omega, by omega, ⟨⟨by omega, by omega⟩, ⟨by omega, by omega⟩⟩, fun _ => ?_, fun h => absurd (Int.le_refl _) h⟩
          rw [show (n : Int) + 1 = ((n + 1 : Nat) : Int) by omega]
          exact ih (n + 1) ζ _ _ (by omega) y2 (fun t t0 t1 => y3 t t0 t1)
        | succ p ihp =>
          intro i ζ y1 y2 y3
          have ti := gr_get g (i := i) (by omega)
          have fresh := asc_fresh asc (n := i) (by omega)
          refine s_X11_nets_84 (d + 1) _ _ _ _ _ _ ?_
          rw [(rowz ζ y2).1, (rowz ζ y2).2 i (by omega)]
          refine ⟨by omega, by omega, ⟨⟨by omega, by omega⟩, ⟨by omega, by omega⟩⟩, fun h => absurd h (by omega), fun _ => ⟨by omega, by omega, by omega, by omega, by omega, by omega, ?_⟩⟩
          rw [show (i : Int) + 1 = ((i + 1 : Nat) : Int) by omega]
          refine ihp (i + 1) _ (by omega) (jfr_jw y2 ⟨rfl, rfl⟩) (fun t t0 t1 => ?_)
          by_cases e : t = (F.getD n []).getD i 0
          · rw [e, jw_eq, y3 _ ti.1 ti.2, if_neg fresh, if_pos ((mem_take (by omega) _).mpr (Or.inr rfl))]
          · rw [jw_i e, y3 t t0 t1]
            by_cases hm2 : t ∈ (F.getD n []).take i
            · rw [if_pos hm2, if_pos ((mem_take (by omega) _).mpr (Or.inl hm2))]
            · rw [if_neg hm2, if_neg (fun h => by rcases (mem_take (by omega) _).mp h with h | h; exact hm2 h; exact e h)]
      refine s_X11_nets_32 _ _ _ _ _ _ _ ?_
      rw [show ξ 40 0 10 = (F.length : Int) from (h2 _ _ _ (by omega)).trans hL.1.1]
      refine ⟨⟨⟨by omega, by omega⟩, ⟨by omega, by omega⟩⟩, fun h => absurd h (by omega), fun _ => ?_⟩
      refine fup_loop (W := fun i (c : Int) => wp true (d + 2) 281 47 [(40, 0), (0, (pun b F n).2), (0, (n : Int)), (0, c), (0, i)] [] ξ Q) (fun (_ : Int) (c : Int) => 0 ≤ c ∧ c ≤ 9999) (lo := 0) (n := ((F.getD n []).length : Int)) (pmn_step pu.1 hr) (fun i c h0' h1' hI hW => ?_) (F.getD n []).length 0 9999 (by omega) (by omega) (by omega) (fun _ => ?_)
      · have ti := gr_get g (i := i.toNat) (by omega)
        have ui := pu.1 _ ti.1 ti.2
        have hI' : 0 ≤ c ∧ c ≤ 9999 := hI
        have r2 := (rowz ξ h2).2 i.toNat (by omega)
        rw [show ((i.toNat : Nat) : Int) = i by omega] at r2
        refine s_X11_nets_47 (d + 1) _ _ _ _ _ _ ?_
        rw [(rowz ξ h2).1, r2, h3 _ ti.1 ti.2]
        exact ⟨by omega, by omega, ⟨⟨by omega, by omega⟩, ⟨by omega, by omega⟩⟩, fun h => absurd h (by omega), fun _ => ⟨by omega, by omega, by omega, by omega, ⟨by omega, by omega⟩, ⟨by omega, by omega⟩, hW⟩⟩
      · refine s_X11_nets_47 (d + 1) _ _ _ _ _ _ ?_
        rw [(rowz ξ h2).1]
        exact ⟨by omega, by omega, ⟨⟨by omega, by omega⟩, ⟨by omega, by omega⟩⟩, fun _ => sub (F.getD n []).length 0 ξ (by omega) h2 (fun t t0 t1 => by rw [h3 t t0 t1]; simp), fun h => absurd (Int.le_refl _) h⟩
  have first : ∀ (q : Nat) (i : Int) (ξ : JM), i + q = b 5 1 → 0 ≤ i → jfr P70 ν ξ → (∀ t, 0 ≤ t → t < i → ξ 70 0 t = b 3 t) → wp true (d + 2) 281 4 [(40, 0), (0, 0), (0, i), (9, 0), (9, 0)] [] ξ Q := by
    intro q
    induction q with
    | zero =>
      intro i ξ h1 h2 h3 h4
      have hMx : isM ξ b := isM_fr hM (fun i => h3 _ _ _ (by omega))
      refine s_X11_nets_4 _ _ _ _ _ ?_
      rw [isM_m hMx]
      exact ⟨by omega, by omega, ⟨⟨by omega, by omega⟩, ⟨by omega, by omega⟩⟩, fun _ => second F.length 0 ξ _ _ (by omega) h3 (fun t t0 t1 => h4 t t0 (by omega)), fun h => absurd (by omega) h⟩
    | succ q ih =>
      intro i ξ h1 h2 h3 h4
      have hMx : isM ξ b := isM_fr hM (fun i => h3 _ _ _ (by omega))
      refine s_X11_nets_4 _ _ _ _ _ ?_
      rw [isM_m hMx, (isM_t hMx h2 (by omega)).2.2.2]
      refine ⟨by omega, by omega, ⟨⟨by omega, by omega⟩, ⟨by omega, by omega⟩⟩, fun h => absurd h (by omega), fun _ => ⟨by omega, by omega, by omega, by omega, ih (i + 1) _ (by omega) (by omega) (jfr_jw h3 ⟨rfl, rfl⟩) (fun t t0 t1 => ?_)⟩⟩
      by_cases e : t = i
      · subst e; rw [jw_eq]
      · rw [jw_i e]; exact h4 t t0 (by omega)
  exact s_X11_nets_0 _ _ _ (first (nm b) 0 ν (nm_eq hv) (by omega) (jfr_refl _ _) (fun t t0 t1 => by omega))
