/-! the reference's tokens -/
def mkd (k : Int) : Int := if k = 0 then 0 else if k = 1 then 2 else if k = 2 then 3 else if k = 3 then 4 else 1
theorem mkd_in (k : Int) : 0 ≤ mkd k ∧ mkd k ≤ 4 := by
  unfold mkd
  repeat' split
  all_goals omega
theorem mkd_1 {k : Int} : mkd k = 2 ↔ k = 1 := by
  unfold mkd
  repeat' split
  all_goals omega
theorem mkd_2 {k : Int} : mkd k = 3 ↔ k = 2 := by
  unfold mkd
  repeat' split
  all_goals omega
theorem mkd_3 {k : Int} : mkd k = 4 ↔ k = 3 := by
  unfold mkd
  repeat' split
  all_goals omega
theorem mkd_0 {k : Int} : mkd k = 0 ↔ k = 0 := by
  unfold mkd
  repeat' split
  all_goals omega
theorem mkd_4 {k : Int} (h : 0 ≤ k ∧ k ≤ 4) : mkd k = 1 ↔ k = 4 := by
  unfold mkd
  repeat' split
  all_goals omega
def TXm (f : TX) (n : Int) (ν : JM) : Prop := ν 40 0 17 = n ∧ ∀ i, 0 ≤ i → i < n → jand (ν 67 0 i) 255 = f i
def MT (f : TX) (t : TK) (ν : JM) : Prop := ν 40 0 18 = mkd t.1 ∧ ν 40 0 19 = t.2.1 ∧ ν 40 0 20 = t.2.2 ∧ (t.1 = 2 → ν 40 0 21 = vlt f t)
abbrev PAh : Nat → Int → Int → Prop := fun t y i => t = 40 ∧ y = 0 ∧ 18 ≤ i ∧ i ≤ 21
theorem TXm_fr {f : TX} {n : Int} {ν ξ : JM} (h : TXm f n ν) (e1 : ξ 40 0 17 = ν 40 0 17) (e2 : ∀ i, ξ 67 0 i = ν 67 0 i) : TXm f n ξ := ⟨e1.trans h.1, fun i h0 h1 => by rw [e2]; exact h.2 i h0 h1⟩
section
variable {d : Nat} {f : TX} {n : Int} {ν : JM} {Q : JQ}
theorem m_byteAt {i : Int} (ho : okt f n) (hT : TXm f n ν) (hi : 0 ≤ i ∧ i ≤ n) (k1 : i < n → Q (f i) ν) (k0 : n ≤ i → Q (-1) ν) : wp true d 237 0 [(40, 0), (0, i)] [] ν Q := by
  have hn := ho.1
  refine s_X11_byteAt_0 _ _ _ _ ?_
  rw [hT.1]
  refine ⟨⟨⟨by omega, by omega⟩, ⟨by omega, by omega⟩⟩, fun h => k0 h, fun h => ⟨by omega, by omega, ?_⟩⟩
  rw [hT.2 i hi.1 (by omega)]
  exact k1 (by omega)
theorem m_isL {c : Int} (hc : inR c) (k1 : isl c = true → Q 1 ν) (k0 : isl c = false → Q 0 ν) : wp true d 238 0 [(0, c)] [] ν Q := by
  unfold isl at k1 k0
  exact s_X11_isSmall_0 _ _ _ _ ⟨⟨hc, ⟨by omega, by omega⟩⟩, fun h => ⟨by omega, by omega, k0 (decide_eq_false (by omega))⟩, fun h => ⟨⟨hc, ⟨by omega, by omega⟩⟩, fun h2 => ⟨by omega, by omega, k0 (decide_eq_false (by omega))⟩, fun h2 => ⟨by omega, by omega, k1 (decide_eq_true (by omega))⟩⟩⟩
theorem m_isD {c : Int} (hc : inR c) (k1 : isd c = true → Q 1 ν) (k0 : isd c = false → Q 0 ν) : wp true d 239 0 [(0, c)] [] ν Q := by
  unfold isd at k1 k0
  exact s_X11_isDigit_0 _ _ _ _ ⟨⟨hc, ⟨by omega, by omega⟩⟩, fun h => ⟨by omega, by omega, k0 (decide_eq_false (by omega))⟩, fun h => ⟨⟨hc, ⟨by omega, by omega⟩⟩, fun h2 => ⟨by omega, by omega, k0 (decide_eq_false (by omega))⟩, fun h2 => ⟨by omega, by omega, k1 (decide_eq_true (by omega))⟩⟩⟩
theorem isl_no : isl (-1) = false := by decide
theorem isd_no : isd (-1) = false := by decide
/-- a letter, a digit here, or none -/
theorem m_letterAt {i : Int} {q : JQ} (ho : okt f n) (hT : TXm f n ν) (hi : 0 ≤ i ∧ i ≤ n) (k1 : i < n → isl (f i) = true → q 1 ν) (k0 : (i < n → isl (f i) = false) → q 0 ν) : wp true d 237 0 [(40, 0), (0, i)] [] ν (fun r1 μ1 => wp true d 238 0 [(0, r1)] [] μ1 q) :=
  m_byteAt ho hT hi (fun h => by
    have fi := ho.2 i hi.1 h
    exact m_isL ⟨by omega, by omega⟩ (k1 h) (fun e => k0 (fun _ => e))) (fun h => m_isL ⟨by omega, by omega⟩ (fun e => by rw [isl_no] at e; cases e) (fun _ => k0 (fun h2 => by omega)))
theorem m_digitAt {i : Int} {q : JQ} (ho : okt f n) (hT : TXm f n ν) (hi : 0 ≤ i ∧ i ≤ n) (k1 : i < n → isd (f i) = true → q 1 ν) (k0 : (i < n → isd (f i) = false) → q 0 ν) : wp true d 237 0 [(40, 0), (0, i)] [] ν (fun r1 μ1 => wp true d 239 0 [(0, r1)] [] μ1 q) :=
  m_byteAt ho hT hi (fun h => by
    have fi := ho.2 i hi.1 h
    exact m_isD ⟨by omega, by omega⟩ (k1 h) (fun e => k0 (fun _ => e))) (fun h => m_isD ⟨by omega, by omega⟩ (fun e => by rw [isd_no] at e; cases e) (fun _ => k0 (fun h2 => by omega)))
theorem m_ahead76 {l1 b : Int} (ho : okt f n) (hT : TXm f n ν) (hb : 0 ≤ b ∧ b < n) (h19 : ν 40 0 19 = b) (h20 : ν 40 0 20 = b) (K : ∀ ξ, jfr PAh ν ξ → MT f (1, b, skl f n b) ξ → Q 0 ξ) : wp true (d + 1) 240 76 [(40, 0), (0, l1)] [] ν Q := by
  have hn := ho.1
  have fin : ∀ (i : Int) (ξ : JM), i = skl f n b → jfr PAh ν ξ → ξ 40 0 19 = b → ξ 40 0 20 = i → Q 0 (jw ξ 40 0 18 2) := fun i ξ e hf x19 x20 =>
    K _ (jfr_jw hf (by omega)) ⟨jw_eq _ _ _ _ _, (jw_i (by omega)).trans x19, ((jw_i (by omega)).trans x20).trans e, fun h => absurd (show (1 : Int) = 2 from h) (by decide)⟩
  refine ffst_lp (p := fun j => !isl (f j)) (W := fun i => ∀ ξ, jfr PAh ν ξ → ξ 40 0 19 = b → ξ 40 0 20 = i → wp true (d + 1) 240 76 [(40, 0), (0, l1)] [] ξ Q) (lo := b) (n := n) (fun i i0 i1 hp hbf ξ hf x19 x20 => ?_) (fun i i0 i1 hp hW ξ hf x19 x20 => ?_) (fun hbf ξ hf x19 x20 => ?_) (n - b).toNat b (Int.le_refl _) (by omega) (fun j h1 h2 => by omega) ν (jfr_refl _ _) h19 h20
  · have hT' := TXm_fr hT (hf _ _ _ (by omega)) (fun i => hf _ _ _ (by omega))
    have hp' : isl (f i) = false := by
      cases hh : isl (f i) with
      | false => rfl
      | true => rw [hh] at hp; cases hp
    refine s_X11_ahead_76 d _ _ _ ?_
    rw [x20]
    refine m_letterAt ho hT' ⟨by omega, by omega⟩ (fun _ h => by rw [hp'] at h; cases h) (fun _ => ⟨by decide, fun _ => ?_, fun h => absurd rfl h⟩)
    exact fin i ξ (ffst_eq i0 (by omega) hp hbf).symm hf x19 x20
  · have hT' := TXm_fr hT (hf _ _ _ (by omega)) (fun i => hf _ _ _ (by omega))
    have hp' : isl (f i) = true := by
      cases hh : isl (f i) with
      | true => rfl
      | false => rw [hh] at hp; cases hp
    refine s_X11_ahead_76 d _ _ _ ?_
    rw [x20]
    refine m_letterAt ho hT' ⟨by omega, by omega⟩ (fun _ _ => ⟨by decide, fun h => absurd h (by decide), fun _ => ?_⟩) (fun h => by rw [h i1] at hp'; cases hp')
    rw [x20]
    exact hW _ (jfr_jw hf (by omega)) ((jw_i (by omega)).trans x19) (jw_eq _ _ _ _ _)
  · have hT' := TXm_fr hT (hf _ _ _ (by omega)) (fun i => hf _ _ _ (by omega))
    refine s_X11_ahead_76 d _ _ _ ?_
    rw [x20]
    refine m_letterAt ho hT' ⟨by omega, by omega⟩ (fun h => absurd h (by omega)) (fun _ => ⟨by decide, fun _ => ?_, fun h => absurd rfl h⟩)
    have e := ffst_no (p := fun j => !isl (f j)) (k := (n - b).toNat) (lo := b) (fun j j0 j1 => hbf j j0 (by omega))
    exact fin n ξ (by unfold skl; rw [e]; omega) hf x19 x20
theorem m_ahead123 {l1 b : Int} (ho : okt f n) (hT : TXm f n ν) (hb : 0 ≤ b ∧ b < n) (h19 : ν 40 0 19 = b) (h20 : ν 40 0 20 = b) (h21 : ν 40 0 21 = 0) (K : ∀ ξ, jfr PAh ν ξ → MT f (if skd f n b - b ≤ 4 then 2 else 4, b, skd f n b) ξ → Q 0 ξ) : wp true (d + 1) 240 123 [(40, 0), (0, l1)] [] ν Q := by
  have hn := ho.1
  have fin : ∀ (i : Int) (ξ : JM), i = skd f n b → b ≤ i → i ≤ n → jfr PAh ν ξ → ξ 40 0 19 = b → ξ 40 0 20 = i → (i - b ≤ 4 → ξ 40 0 21 = vlk f b (i - b).toNat) → (inR (ξ 40 0 20 - ξ 40 0 19) ∧ inR 4) ∧ (ξ 40 0 20 - ξ 40 0 19 ≤ 4 → Q 0 (jw ξ 40 0 18 3)) ∧ (¬ (ξ 40 0 20 - ξ 40 0 19 ≤ 4) → Q 0 (jw ξ 40 0 18 1)) := fun i ξ e i0 i1 hf x19 x20 xv => by
    rw [x19, x20]
    refine ⟨⟨⟨by omega, by omega⟩, ⟨by omega, by omega⟩⟩, fun h4 => ?_, fun h4 => ?_⟩
    · rw [if_pos (by omega)] at K
      refine K _ (jfr_jw hf (by omega)) ⟨jw_eq _ _ _ _ _, (jw_i (by omega)).trans x19, ((jw_i (by omega)).trans x20).trans e, fun _ => ?_⟩
      rw [jw_i (by omega), xv h4, e]
      rfl
    · rw [if_neg (by omega)] at K
      exact K _ (jfr_jw hf (by omega)) ⟨jw_eq _ _ _ _ _, (jw_i (by omega)).trans x19, ((jw_i (by omega)).trans x20).trans e, fun h => absurd (show (4 : Int) = 2 from h) (by decide)⟩
  refine ffst_lp (p := fun j => !isd (f j)) (W := fun i => (∀ j, b ≤ j → j < i → isd (f j) = true) → ∀ ξ, jfr PAh ν ξ → ξ 40 0 19 = b → ξ 40 0 20 = i → (0 ≤ ξ 40 0 21 ∧ ξ 40 0 21 ≤ 99999) → (i - b ≤ 4 → ξ 40 0 21 = vlk f b (i - b).toNat) → wp true (d + 1) 240 123 [(40, 0), (0, l1)] [] ξ Q) (lo := b) (n := n) (fun i i0 i1 hp hbf hl ξ hf x19 x20 x21 xv => ?_) (fun i i0 i1 hp hW hl ξ hf x19 x20 x21 xv => ?_) (fun hbf hl ξ hf x19 x20 x21 xv => ?_) (n - b).toNat b (Int.le_refl _) (by omega) (fun j h1 h2 => by omega) (fun j h1 h2 => by omega) ν (jfr_refl _ _) h19 h20 (by omega) (fun _ => by rw [h21, Int.sub_self]; rfl)
  · have hT' := TXm_fr hT (hf _ _ _ (by omega)) (fun i => hf _ _ _ (by omega))
    have hp' : isd (f i) = false := by
      cases hh : isd (f i) with
      | false => rfl
      | true => rw [hh] at hp; cases hp
    refine s_X11_ahead_123 d _ _ _ ?_
    have q := fin i ξ (ffst_eq i0 (by omega) hp hbf).symm i0 (by omega) hf x19 x20 xv
    rw [show wp true d 237 0 [(40, 0), (0, ξ 40 0 20)] = wp true d 237 0 [(40, 0), (0, i)] by rw [x20]]
    exact m_digitAt ho hT' ⟨by omega, by omega⟩ (fun _ h => by rw [hp'] at h; cases h) (fun _ => ⟨by decide, fun _ => q, fun h => absurd rfl h⟩)
  · have hT' := TXm_fr hT (hf _ _ _ (by omega)) (fun i => hf _ _ _ (by omega))
    have hp' : isd (f i) = true := by
      cases hh : isd (f i) with
      | true => rfl
      | false => rw [hh] at hp; cases hp
    have di := isd_in hp'
    refine s_X11_ahead_123 d _ _ _ ?_
    rw [show wp true d 237 0 [(40, 0), (0, ξ 40 0 20)] = wp true d 237 0 [(40, 0), (0, i)] by rw [x20]]
    refine m_digitAt ho hT' ⟨by omega, by omega⟩ (fun _ _ => ⟨by decide, fun h => absurd h (by decide), fun _ => ?_⟩) (fun h => by rw [h i1] at hp'; cases hp')
    rw [show wp true d 237 0 [(40, 0), (0, ξ 40 0 20)] = wp true d 237 0 [(40, 0), (0, i)] by rw [x20]]
    refine m_byteAt ho hT' ⟨by omega, by omega⟩ (fun _ => ⟨⟨by omega, by omega⟩, ⟨by omega, by omega⟩, ?_⟩) (fun h => absurd h (by omega))
    have hl' : ∀ j, b ≤ j → j < i + 1 → isd (f j) = true := fun j h1 h2 => by
      by_cases e : j = i
      · rw [e]; exact hp'
      · exact hl j h1 (by omega)
    have mr : 0 ≤ jmin 99999 (10 * ξ 40 0 21 + f i - 48) ∧ jmin 99999 (10 * ξ 40 0 21 + f i - 48) ≤ 99999 := by
      unfold jmin
      split <;> omega
    refine hW hl' _ (jfr_jw (jfr_jw hf (by omega)) (by omega)) (by rw [jw_i (by omega), jw_i (by omega)]; exact x19) (by rw [jw_eq, jw_i (by omega), x20]) (by rw [jw_i (by omega), jw_eq]; exact mr) (fun h4 => ?_)
    rw [jw_i (by omega), jw_eq]
    have q := vlk_in (f := f) (b := b) (k := (i + 1 - b).toNat) (by omega) (fun j j0 j1 => hl' j j0 (by omega))
    have p4 : (10 : Int) ^ (i + 1 - b).toNat ≤ 10 ^ 4 := by
      have := Nat.pow_le_pow_right (n := 10) (by omega) (show (i + 1 - b).toNat ≤ 4 by omega)
      exact_mod_cast this
    have e4 : (10 : Int) ^ 4 = 10000 := by decide
    have s := vlk_s f b (i - b).toNat
    rw [show b + ((i - b).toNat : Int) = i by omega] at s
    rw [show (i + 1 - b).toNat = (i - b).toNat + 1 by omega] at q p4 ⊢
    rw [xv (by omega)]
    unfold jmin
    rw [if_pos (by omega)]
    omega
  · have hT' := TXm_fr hT (hf _ _ _ (by omega)) (fun i => hf _ _ _ (by omega))
    refine s_X11_ahead_123 d _ _ _ ?_
    have e := ffst_no (p := fun j => !isd (f j)) (k := (n - b).toNat) (lo := b) (fun j j0 j1 => hbf j j0 (by omega))
    have q := fin n ξ (by unfold skd; rw [e]; omega) (by omega) (Int.le_refl _) hf x19 x20 xv
    rw [show wp true d 237 0 [(40, 0), (0, ξ 40 0 20)] = wp true d 237 0 [(40, 0), (0, n)] by rw [x20]]
    exact m_digitAt ho hT' ⟨by omega, by omega⟩ (fun h => absurd h (by omega)) (fun _ => ⟨by decide, fun _ => q, fun h => absurd rfl h⟩)
theorem m_ahead {i : Int} (ho : okt f n) (hT : TXm f n ν) (hi : 0 ≤ i ∧ i ≤ n) (h20 : ν 40 0 20 = i) (K : ∀ ξ, jfr PAh ν ξ → MT f (nx f n i) ξ → Q 0 ξ) : wp true (d + 1) 240 0 [(40, 0), (9, 0)] [] ν Q := by
  have hn := ho.1
  -- behind the blanks
  have beh : ∀ (q : Int) (ξ : JM), q = skb f n i → 0 ≤ q → q ≤ n → jfr PAh ν ξ → ξ 40 0 20 = q → wp true d 237 0 [(40, 0), (0, (jw ξ 40 0 19 (ξ 40 0 20)) 40 0 20)] [] (jw ξ 40 0 19 (ξ 40 0 20)) (fun r3 μ3 => (r3 = (-1) ∨ inR r3 ∧ inR (-1)) ∧ (¬ r3 = (-1) → wp true d 238 0 [(0, r3)] [] μ3 (fun r4 μ4 => (r4 = 0 ∨ inR r4 ∧ inR 0) ∧ (r4 = 0 → wp true d 239 0 [(0, r3)] [] μ4 (fun r5 μ5 => (r5 = 0 ∨ inR r5 ∧ inR 0) ∧ (r5 = 0 → (r3 = 59 ∨ inR r3 ∧ inR 59) ∧ (r3 = 59 → Q 0 (jw (jw μ5 40 0 20 (μ5 40 0 20 + 1)) 40 0 18 4)) ∧ (¬ (r3 = 59) → (r3 = 62 ∨ inR r3 ∧ inR 62) ∧ (¬ r3 = 62 → Q 0 (jw (jw μ5 40 0 20 (μ5 40 0 20 + 1)) 40 0 18 1)) ∧ (¬ (¬ r3 = 62) → Q 0 (jw (jw μ5 40 0 20 (μ5 40 0 20 + 1)) 40 0 18 4)))) ∧ (¬ (r5 = 0) → wp true (d + 1) 240 123 [(40, 0), (0, r3)] [] (jw μ5 40 0 21 0) Q))) ∧ (¬ (r4 = 0) → wp true (d + 1) 240 76 [(40, 0), (0, r3)] [] μ4 Q))) ∧ (¬ (¬ r3 = (-1)) → Q 0 (jw μ3 40 0 18 0))) := by
    intro q ξ eq q0 qn hf x20
    unfold nx at K
    rw [← eq] at K
    rw [x20]
    generalize eM : jw ξ 40 0 19 q = M
    have g : ∀ t y i, ¬ (t = 40 ∧ y = 0 ∧ i = 19) → M t y i = ξ t y i := fun t y i h => by
      rw [← eM]
      unfold jw
      rw [if_neg h]
    have hfM : jfr PAh ν M := by rw [← eM]; exact jfr_jw hf (by omega)
    have m19 : M 40 0 19 = q := by rw [← eM, jw_eq]
    have m20 : M 40 0 20 = q := (g _ _ _ (by omega)).trans x20
    have hT' := TXm_fr hT (hfM _ _ _ (by omega)) (fun i => hfM _ _ _ (by omega))
    rw [m20]
    refine m_byteAt ho hT' ⟨q0, qn⟩ (fun hlt => ?_) (fun hge => ⟨Or.inl rfl, fun h => absurd rfl h, fun _ => ?_⟩)
    · rw [if_neg (by omega)] at K
      have fi := ho.2 q q0 hlt
      refine ⟨Or.inr ⟨⟨by omega, by omega⟩, ⟨by omega, by omega⟩⟩, fun _ => m_isL ⟨by omega, by omega⟩ (fun hl => ⟨by decide, fun h => absurd h (by decide), fun _ => ?_⟩) (fun hl => ⟨by decide, fun _ => ?_, fun h => absurd rfl h⟩), fun h => absurd h (by omega)⟩
      · rw [if_pos hl] at K
        exact m_ahead76 (d := d) ho hT' ⟨q0, hlt⟩ m19 m20 (fun ζ hfz hc => K ζ (jfr_trans hfM hfz) hc)
      · rw [if_neg (by rw [hl]; decide)] at K
        refine m_isD ⟨by omega, by omega⟩ (fun hd => ⟨by decide, fun h => absurd h (by decide), fun _ => ?_⟩) (fun hd => ⟨by decide, fun _ => ?_, fun h => absurd rfl h⟩)
        · rw [if_pos hd] at K
          refine m_ahead123 (d := d) ho (TXm_fr hT' (jw_i (by omega)) (fun i => jw_t (by omega))) ⟨q0, hlt⟩ ((jw_i (by omega)).trans m19) ((jw_i (by omega)).trans m20) (jw_eq _ _ _ _ _) (fun ζ hfz hc => K ζ (jfr_trans (jfr_jw hfM (by omega)) hfz) hc)
        · rw [if_neg (by rw [hd]; decide)] at K
          have done : ∀ kd mv : Int, (if f q = 62 ∨ f q = 59 then (3 : Int) else 4) = kd → mkd kd = mv → kd ≠ 2 → Q 0 (jw (jw M 40 0 20 (M 40 0 20 + 1)) 40 0 18 mv) := fun kd mv e e2 n2 => by
            rw [e] at K
            rw [m20]
            exact K _ (jfr_jw (jfr_jw hfM (by omega)) (by omega)) ⟨(jw_eq _ _ _ _ _).trans e2.symm, by rw [jw_i (by omega), jw_i (by omega)]; exact m19, by rw [jw_i (by omega), jw_eq], fun h => absurd (show kd = 2 from h) n2⟩
          refine ⟨Or.inr ⟨⟨by omega, by omega⟩, ⟨by omega, by omega⟩⟩, fun e => done 3 4 (by rw [if_pos (Or.inr e)]) (by decide) (by decide), fun n1 => ⟨Or.inr ⟨⟨by omega, by omega⟩, ⟨by omega, by omega⟩⟩, fun n2 => done 4 1 (by rw [if_neg (by omega)]) (by decide) (by decide), fun e => done 3 4 (by rw [if_pos (by omega)]) (by decide) (by decide)⟩⟩
    · rw [if_pos hge] at K
      exact K _ (jfr_jw hfM (by omega)) ⟨jw_eq _ _ _ _ _, (jw_i (by omega)).trans m19, (jw_i (by omega)).trans m20, fun h => absurd (show (0 : Int) = 2 from h) (by decide)⟩
  refine ffst_lp (p := fun j => !isb (f j)) (W := fun j => ∀ ξ, jfr PAh ν ξ → ξ 40 0 20 = j → wp true (d + 1) 240 0 [(40, 0), (9, 0)] [] ξ Q) (lo := i) (n := n) (fun j j0 j1 hp hbf ξ hf x20 => ?_) (fun j j0 j1 hp hW ξ hf x20 => ?_) (fun hbf ξ hf x20 => ?_) (n - i).toNat i (Int.le_refl _) (by omega) (fun j h1 h2 => by omega) ν (jfr_refl _ _) h20
  · have hT' := TXm_fr hT (hf _ _ _ (by omega)) (fun i => hf _ _ _ (by omega))
    have fi := ho.2 j (by omega) j1
    have hp' : ¬ (f j = 32 ∨ f j = 10) := fun h => by
      have : isb (f j) = true := decide_eq_true h
      rw [this] at hp
      cases hp
    refine s_X11_ahead_0 d _ _ ?_
    have q := beh j ξ (ffst_eq j0 (by omega) hp hbf).symm (by omega) (by omega) hf x20
    rw [show wp true d 237 0 [(40, 0), (0, ξ 40 0 20)] = wp true d 237 0 [(40, 0), (0, j)] by rw [x20]]
    refine m_byteAt ho hT' ⟨by omega, by omega⟩ (fun _ => ⟨Or.inr ⟨⟨by omega, by omega⟩, ⟨by omega, by omega⟩⟩, fun e => absurd (Or.inl e) hp', fun _ => ?_⟩) (fun h => absurd h (by omega))
    rw [show wp true d 237 0 [(40, 0), (0, ξ 40 0 20)] = wp true d 237 0 [(40, 0), (0, j)] by rw [x20]]
    exact m_byteAt ho hT' ⟨by omega, by omega⟩ (fun _ => ⟨Or.inr ⟨⟨by omega, by omega⟩, ⟨by omega, by omega⟩⟩, fun _ => q, fun e => absurd (Or.inr (Decidable.byContradiction e)) hp'⟩) (fun h => absurd h (by omega))
  · have hT' := TXm_fr hT (hf _ _ _ (by omega)) (fun i => hf _ _ _ (by omega))
    have fi := ho.2 j (by omega) j1
    have hp' : f j = 32 ∨ f j = 10 := by
      refine Decidable.byContradiction (fun h => ?_)
      have : isb (f j) = false := decide_eq_false h
      rw [this] at hp
      cases hp
    have go : wp true (d + 1) 240 0 [(40, 0), (9, 0)] [] (jw ξ 40 0 20 (ξ 40 0 20 + 1)) Q := by
      rw [x20]
      exact hW _ (jfr_jw hf (by omega)) (jw_eq _ _ _ _ _)
    refine s_X11_ahead_0 d _ _ ?_
    rw [show wp true d 237 0 [(40, 0), (0, ξ 40 0 20)] = wp true d 237 0 [(40, 0), (0, j)] by rw [x20]]
    refine m_byteAt ho hT' ⟨by omega, by omega⟩ (fun _ => ⟨Or.inr ⟨⟨by omega, by omega⟩, ⟨by omega, by omega⟩⟩, fun _ => go, fun n1 => ?_⟩) (fun h => absurd h (by omega))
    rw [show wp true d 237 0 [(40, 0), (0, ξ 40 0 20)] = wp true d 237 0 [(40, 0), (0, j)] by rw [x20]]
    exact m_byteAt ho hT' ⟨by omega, by omega⟩ (fun _ => ⟨Or.inr ⟨⟨by omega, by omega⟩, ⟨by omega, by omega⟩⟩, fun n2 => absurd hp' (by omega), fun _ => go⟩) (fun h => absurd h (by omega))
  · have hT' := TXm_fr hT (hf _ _ _ (by omega)) (fun i => hf _ _ _ (by omega))
    have e := ffst_no (p := fun j => !isb (f j)) (k := (n - i).toNat) (lo := i) (fun j j0 j1 => hbf j j0 (by omega))
    refine s_X11_ahead_0 d _ _ ?_
    have q := beh n ξ (by unfold skb; rw [e]; omega) (by omega) (Int.le_refl _) hf x20
    rw [show wp true d 237 0 [(40, 0), (0, ξ 40 0 20)] = wp true d 237 0 [(40, 0), (0, n)] by rw [x20]]
    refine m_byteAt ho hT' ⟨by omega, by omega⟩ (fun h => absurd h (by omega)) (fun _ => ⟨Or.inr ⟨⟨by omega, by omega⟩, ⟨by omega, by omega⟩⟩, fun e => absurd e (by decide), fun _ => ?_⟩)
    rw [show wp true d 237 0 [(40, 0), (0, ξ 40 0 20)] = wp true d 237 0 [(40, 0), (0, n)] by rw [x20]]
    exact m_byteAt ho hT' ⟨by omega, by omega⟩ (fun h => absurd h (by omega)) (fun _ => ⟨Or.inr ⟨⟨by omega, by omega⟩, ⟨by omega, by omega⟩⟩, fun _ => q, fun e => absurd e (by decide)⟩)
end
