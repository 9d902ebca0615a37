/-! the class's tokens -/
theorem jlc {x y : Int} (hx : 0 ≤ x ∧ x < 4611686018427387904) (hy : 0 ≤ y ∧ y < 4611686018427387904) : jlcmp x y = 0 ↔ x = y := by
  obtain ⟨n, rfl⟩ := Int.eq_ofNat_of_zero_le hx.1
  obtain ⟨m, rfl⟩ := Int.eq_ofNat_of_zero_le hy.1
  have t1 : (Int64.ofInt (n : Int)).toInt = (n : Int) := by rw [← Int64.toInt_toBitVec, i64n, j64n (by omega)]
  have t2 : (Int64.ofInt (m : Int)).toInt = (m : Int) := by rw [← Int64.toInt_toBitVec, i64n, j64n (by omega)]
  unfold jlcmp lg_cmp
  by_cases h1 : Int64.ofInt (n : Int) > Int64.ofInt (m : Int)
  · rw [if_pos h1]
    have h2 := h1
    rw [gt_iff_lt, Int64.lt_iff_toInt_lt, t1, t2] at h2
    constructor
    · intro h; exact absurd h (by decide)
    · intro h; omega
  · rw [if_neg h1]
    by_cases h2 : Int64.ofInt (n : Int) = Int64.ofInt (m : Int)
    · rw [if_pos h2]
      have h3 := congrArg Int64.toInt h2
      rw [t1, t2] at h3
      exact ⟨fun _ => h3, fun _ => by decide⟩
    · rw [if_neg h2]
      constructor
      · intro h; exact absurd h (by decide)
      · intro h
        rw [h] at h2
        exact absurd rfl h2
def TXc (f : TX) (n : Int) (ν : JM) : Prop := ν 20 0 6 = n ∧ ∀ i, 0 ≤ i → i < n → jand (ν 29 0 i) 255 = f i
def CT (f : TX) (t : TK) (ν : JM) : Prop := ν 20 0 8 = t.1 ∧ ν 20 0 9 = t.2.1 ∧ ν 20 0 10 = t.2.2 ∧ (t.1 = 1 → ν 20 0 11 = kwt f t ∧ (t.2.2 - t.2.1 ≤ 6 → ν 20 0 12 = nmt f t))
abbrev PAd : Nat → Int → Int → Prop := fun t y i => t = 20 ∧ y = 0 ∧ 8 ≤ i ∧ i ≤ 12
theorem TXc_fr {f : TX} {n : Int} {ν ξ : JM} (h : TXc f n ν) (e1 : ξ 20 0 6 = ν 20 0 6) (e2 : ∀ i, ξ 29 0 i = ν 29 0 i) : TXc f n ξ := ⟨e1.trans h.1, fun i h0 h1 => by rw [e2]; exact h.2 i h0 h1⟩
theorem c_byteAt {d : Nat} {f : TX} {n i : Int} {ν : JM} {Q : JQ} (ho : okt f n) (hT : TXc f n ν) (hi : 0 ≤ i ∧ i < n) (k : Q (f i) ν) : wp true d 89 0 [(20, 0), (0, i)] [] ν Q := by
  have h1 := ho.1
  refine s_X7_byteAt_0 _ _ _ _ ?_
  rw [hT.1, hT.2 i hi.1 hi.2]
  exact ⟨⟨by omega, by omega⟩, fun h => absurd h (by omega), fun _ => ⟨⟨by omega, by omega⟩, fun h => absurd h (by omega), fun _ => ⟨by omega, by omega, k⟩⟩⟩
theorem c_isL {d : Nat} {c : Int} {ν : JM} {Q : JQ} (hc : inR c) (k1 : isl c = true → Q 1 ν) (k0 : isl c = false → Q 0 ν) : wp true d 90 0 [(0, c)] [] ν Q := by
  unfold isl at k1 k0
  exact s_X7_isLetter_0 _ _ _ _ ⟨⟨hc, ⟨by omega, by omega⟩⟩, fun h => ⟨by omega, by omega, k0 (decide_eq_false (by omega))⟩, fun h => ⟨⟨hc, ⟨by omega, by omega⟩⟩, fun h2 => ⟨by omega, by omega, k0 (decide_eq_false (by omega))⟩, fun h2 => ⟨by omega, by omega, k1 (decide_eq_true (by omega))⟩⟩⟩
theorem c_isD {d : Nat} {c : Int} {ν : JM} {Q : JQ} (hc : inR c) (k1 : isd c = true → Q 1 ν) (k0 : isd c = false → Q 0 ν) : wp true d 91 0 [(0, c)] [] ν Q := by
  unfold isd at k1 k0
  exact s_X7_isDigit_0 _ _ _ _ ⟨⟨hc, ⟨by omega, by omega⟩⟩, fun h => ⟨by omega, by omega, k0 (decide_eq_false (by omega))⟩, fun h => ⟨⟨hc, ⟨by omega, by omega⟩⟩, fun h2 => ⟨by omega, by omega, k0 (decide_eq_false (by omega))⟩, fun h2 => ⟨by omega, by omega, k1 (decide_eq_true (by omega))⟩⟩⟩
theorem c_keyword {d : Nat} {v : Int} {ν : JM} {Q : JQ} (h12 : ν 20 0 12 = v) (hv : 0 ≤ v ∧ v < 4611686018427387904) (k : Q (kwv v) ν) : wp true d 88 0 [(20, 0)] [] ν Q := by
  unfold kwv at k
  refine s_X7_keywordHere_0 _ _ _ ?_
  rw [h12]
  have j : ∀ y : Int, 0 ≤ y → y < 4611686018427387904 → (jlcmp v y = 0 ↔ v = y) := fun y h0 h1 => jlc hv ⟨h0, h1⟩
  have r : ∀ y : Int, inR (jlcmp v y) := fun y => inR_i32 _
  refine ⟨Or.inr ⟨r _, ⟨by omega, by omega⟩⟩, fun n1 => ⟨Or.inr ⟨r _, ⟨by omega, by omega⟩⟩, fun n2 => ⟨Or.inr ⟨r _, ⟨by omega, by omega⟩⟩, fun n3 => ⟨Or.inr ⟨r _, ⟨by omega, by omega⟩⟩, fun n4 => ⟨Or.inr ⟨r _, ⟨by omega, by omega⟩⟩, fun n5 => ⟨Or.inr ⟨r _, ⟨by omega, by omega⟩⟩, fun n6 => ⟨Or.inr ⟨r _, ⟨by omega, by omega⟩⟩, fun n7 => ?_, fun e => ?_⟩, fun e => ?_⟩, fun e => ?_⟩, fun e => ?_⟩, fun e => ?_⟩, fun e => ?_⟩, fun e => ?_⟩
  all_goals (try rw [j _ (by decide) (by decide)] at n1); (try rw [j _ (by decide) (by decide)] at n2); (try rw [j _ (by decide) (by decide)] at n3); (try rw [j _ (by decide) (by decide)] at n4); (try rw [j _ (by decide) (by decide)] at n5); (try rw [j _ (by decide) (by decide)] at n6); (try rw [j _ (by decide) (by decide)] at n7); (try rw [j _ (by decide) (by decide)] at e)
  · rw [if_neg n1, if_neg n2, if_neg n3, if_neg n4, if_neg n5, if_neg n6, if_neg n7] at k
    exact k
  · rw [if_neg n1, if_neg n2, if_neg n3, if_neg n4, if_neg n5, if_neg n6, if_pos (Decidable.byContradiction e)] at k
    exact k
  · rw [if_neg n1, if_neg n2, if_neg n3, if_neg n4, if_neg n5, if_pos (Decidable.byContradiction e)] at k
    exact k
  · rw [if_neg n1, if_neg n2, if_neg n3, if_neg n4, if_pos (Decidable.byContradiction e)] at k
    exact k
  · rw [if_neg n1, if_neg n2, if_neg n3, if_pos (Decidable.byContradiction e)] at k
    exact k
  · rw [if_neg n1, if_neg n2, if_pos (Decidable.byContradiction e)] at k
    exact k
  · rw [if_neg n1, if_pos (Decidable.byContradiction e)] at k
    exact k
  · rw [if_pos (Decidable.byContradiction e)] at k
    exact k
theorem c_readWord {d : Nat} {f : TX} {n b : Int} {ν : JM} {Q : JQ} (ho : okt f n) (hT : TXc f n ν) (hb : 0 ≤ b ∧ b < n) (h9 : ν 20 0 9 = b) (h10 : ν 20 0 10 = b) (K : ∀ ξ, jfr PAd ν ξ → CT f (1, b, skl f n b) ξ → Q 0 ξ) : wp true (d + 1) 86 0 [(20, 0)] [] ν Q := by
  have hn := ho.1
  have fin : ∀ (i : Int) (ξ : JM), i = skl f n b → b ≤ i → i ≤ n → (∀ j, b ≤ j → j < i → isl (f j) = true) → jfr PAd ν ξ → ξ 20 0 8 = 1 → ξ 20 0 9 = b → ξ 20 0 10 = i → (i - b ≤ 7 → ξ 20 0 12 = nmk f b (i - b).toNat) → wp true (d + 1) 86 71 [(20, 0)] [] ξ Q := by
    intro i ξ e hi hin hl hf x8 x9 x10 x12
    refine s_X7_readWord_71 _ _ _ ?_
    rw [x10, x9]
    refine ⟨⟨⟨by omega, by omega⟩, ⟨by omega, by omega⟩⟩, fun h7 => ?_, fun h7 => ?_⟩
    · refine K _ (jfr_jw hf (by omega)) ⟨(jw_i (by omega)).trans x8, (jw_i (by omega)).trans x9, ((jw_i (by omega)).trans x10).trans e, fun _ => ⟨?_, fun h6 => ?_⟩⟩
      · rw [jw_eq, kwt, if_neg (by show ¬ skl f n b - b ≤ 7; omega)]
      · have h6' : skl f n b - b ≤ 6 := h6
        omega
    · have nin := nmk_in (f := f) (b := b) (k := (i - b).toNat) (by omega) (fun j h1 h2 => hl j h1 (by omega))
      have p7 : (32 : Int) ^ (i - b).toNat ≤ 32 ^ 7 := by
        have := Nat.pow_le_pow_right (n := 32) (by omega) (show (i - b).toNat ≤ 7 by omega)
        exact_mod_cast this
      have e7 : (32 : Int) ^ 7 = 34359738368 := by decide
      refine c_keyword (x12 (by omega)) ⟨by omega, by omega⟩ ?_
      refine K _ (jfr_jw hf (by omega)) ⟨(jw_i (by omega)).trans x8, (jw_i (by omega)).trans x9, ((jw_i (by omega)).trans x10).trans e, fun _ => ⟨?_, fun _ => ?_⟩⟩
      · rw [jw_eq, kwt, if_pos (by show skl f n b - b ≤ 7; omega), e]
        rfl
      · rw [jw_i (by omega), x12 (by omega), e]
        rfl
  refine s_X7_readWord_0 _ _ _ ?_
  refine ffst_lp (p := fun j => !isl (f j)) (W := fun i => (∀ j, b ≤ j → j < i → isl (f j) = true) → ∀ ξ, jfr PAd ν ξ → ξ 20 0 8 = 1 → ξ 20 0 9 = b → ξ 20 0 10 = i → (i - b ≤ 7 → ξ 20 0 12 = nmk f b (i - b).toNat) → wp true (d + 1) 86 10 [(20, 0)] [] ξ Q) (lo := b) (n := n) (fun i i0 i1 hp hbf hl ξ hf x8 x9 x10 x12 => ?_) (fun i i0 i1 hp hW hl ξ hf x8 x9 x10 x12 => ?_) (fun hbf hl ξ hf x8 x9 x10 x12 => ?_) (n - b).toNat b (Int.le_refl _) (by omega) (fun j h1 h2 => by omega) (fun j h1 h2 => by omega) _ (jfr_jw (jfr_jw (jfr_refl _ _) (by omega)) (by omega)) (by rw [jw_i (by omega), jw_eq]) (by rw [jw_i (by omega), jw_i (by omega)]; exact h9) (by rw [jw_i (by omega), jw_i (by omega)]; exact h10) (fun _ => by rw [jw_eq, Int.sub_self]; rfl)
  · have hT' := TXc_fr hT (hf _ _ _ (by omega)) (fun i => hf _ _ _ (by omega))
    have fi := ho.2 i (by omega) i1
    have hp' : isl (f i) = false := by
      cases hh : isl (f i) with
      | false => rfl
      | true => rw [hh] at hp; cases hp
    refine s_X7_readWord_10 d _ _ ?_
    rw [x10, hT'.1]
    refine ⟨⟨⟨by omega, by omega⟩, ⟨by omega, by omega⟩⟩, fun h => absurd h (by omega), fun _ => c_byteAt ho hT' ⟨by omega, i1⟩ (c_isL ⟨by omega, by omega⟩ (fun h => by rw [hp'] at h; cases h) (fun _ => ⟨by decide, fun _ => ?_, fun h => absurd rfl h⟩))⟩
    exact fin i ξ (ffst_eq i0 (by omega) hp hbf).symm i0 (by omega) hl hf x8 x9 x10 x12
  · have hT' := TXc_fr hT (hf _ _ _ (by omega)) (fun i => hf _ _ _ (by omega))
    have fi := ho.2 i (by omega) i1
    have hp' : isl (f i) = true := by
      cases hh : isl (f i) with
      | true => rfl
      | false => rw [hh] at hp; cases hp
    have li := isl_in hp'
    refine s_X7_readWord_10 d _ _ ?_
    rw [x10, hT'.1]
    refine ⟨⟨⟨by omega, by omega⟩, ⟨by omega, by omega⟩⟩, fun h => absurd h (by omega), fun _ => c_byteAt ho hT' ⟨by omega, i1⟩ (c_isL ⟨by omega, by omega⟩ (fun _ => ⟨by decide, fun h => absurd h (by decide), fun _ => ?_⟩) (fun h => by rw [hp'] at h; cases h))⟩
    rw [x10]
    refine c_byteAt ho hT' ⟨by omega, i1⟩ ⟨inR_and _ _, ?_⟩
    refine hW (fun j h1 h2 => ?_) _ (jfr_jw (jfr_jw hf (by omega)) (by omega)) (by rw [jw_i (by omega), jw_i (by omega)]; exact x8) (by rw [jw_i (by omega), jw_i (by omega)]; exact x9) (by rw [jw_eq, jw_i (by omega), x10]) (fun h7 => ?_)
    · by_cases e : j = i
      · rw [e]; exact hp'
      · exact hl j h1 (by omega)
    · have nin := nmk_in (f := f) (b := b) (k := (i - b).toNat) (by omega) (fun j h1 h2 => hl j h1 (by omega))
      have p6 : (32 : Int) ^ (i - b).toNat ≤ 32 ^ 6 := by
        have := Nat.pow_le_pow_right (n := 32) (by omega) (show (i - b).toNat ≤ 6 by omega)
        exact_mod_cast this
      have e6 : (32 : Int) ^ 6 = 1073741824 := by decide
      rw [jw_i (by omega), jw_eq, x12 (by omega), and31 li, lw_step ⟨by omega, by omega⟩ ⟨by omega, by omega⟩, show (i + 1 - b).toNat = (i - b).toNat + 1 by omega, nmk_s, show b + ((i - b).toNat : Int) = i by omega]
  · have hT' := TXc_fr hT (hf _ _ _ (by omega)) (fun i => hf _ _ _ (by omega))
    refine s_X7_readWord_10 d _ _ ?_
    rw [x10, hT'.1]
    refine ⟨⟨⟨by omega, by omega⟩, ⟨by omega, by omega⟩⟩, fun _ => ?_, fun h => absurd (Int.le_refl _) h⟩
    have e := ffst_no (p := fun j => !isl (f j)) (k := (n - b).toNat) (lo := b) (fun j j0 j1 => hbf j j0 (by omega))
    exact fin n ξ (by unfold skl; rw [e]; omega) (by omega) (Int.le_refl _) hl hf x8 x9 x10 x12
theorem c_readNumber {d : Nat} {f : TX} {n b : Int} {ν : JM} {Q : JQ} (ho : okt f n) (hT : TXc f n ν) (hb : 0 ≤ b ∧ b < n) (h9 : ν 20 0 9 = b) (h10 : ν 20 0 10 = b) (K : ∀ ξ, jfr PAd ν ξ → CT f (if skd f n b - b ≤ 4 then 2 else 4, b, skd f n b) ξ → Q 0 ξ) : wp true (d + 1) 87 0 [(20, 0)] [] ν Q := by
  have hn := ho.1
  have fin : ∀ (i : Int) (ξ : JM), i = skd f n b → b ≤ i → i ≤ n → jfr PAd ν ξ → ξ 20 0 9 = b → ξ 20 0 10 = i → wp true (d + 1) 87 38 [(20, 0)] [] ξ Q := by
    intro i ξ e hi hin hf x9 x10
    refine s_X7_readNumber_38 _ _ _ ?_
    rw [x10, x9]
    refine ⟨⟨⟨by omega, by omega⟩, ⟨by omega, by omega⟩⟩, fun h4 => ?_, fun h4 => ?_⟩
    · rw [if_neg (by omega)] at K
      exact K _ (jfr_jw hf (by omega)) ⟨jw_eq _ _ _ _ _, (jw_i (by omega)).trans x9, ((jw_i (by omega)).trans x10).trans e, fun h => absurd (show (4 : Int) = 1 from h) (by decide)⟩
    · rw [if_pos (by omega)] at K
      exact K _ (jfr_jw hf (by omega)) ⟨jw_eq _ _ _ _ _, (jw_i (by omega)).trans x9, ((jw_i (by omega)).trans x10).trans e, fun h => absurd (show (2 : Int) = 1 from h) (by decide)⟩
  refine ffst_lp (p := fun j => !isd (f j)) (W := fun i => ∀ ξ, jfr PAd ν ξ → ξ 20 0 9 = b → ξ 20 0 10 = i → wp true (d + 1) 87 0 [(20, 0)] [] ξ Q) (lo := b) (n := n) (fun i i0 i1 hp hbf ξ hf x9 x10 => ?_) (fun i i0 i1 hp hW ξ hf x9 x10 => ?_) (fun hbf ξ hf x9 x10 => ?_) (n - b).toNat b (Int.le_refl _) (by omega) (fun j h1 h2 => by omega) ν (jfr_refl _ _) h9 h10
  · have hT' := TXc_fr hT (hf _ _ _ (by omega)) (fun i => hf _ _ _ (by omega))
    have fi := ho.2 i (by omega) i1
    have hp' : isd (f i) = false := by
      cases hh : isd (f i) with
      | false => rfl
      | true => rw [hh] at hp; cases hp
    refine s_X7_readNumber_0 d _ _ ?_
    rw [x10, hT'.1]
    refine ⟨⟨⟨by omega, by omega⟩, ⟨by omega, by omega⟩⟩, fun h => absurd h (by omega), fun _ => c_byteAt ho hT' ⟨by omega, i1⟩ (c_isD ⟨by omega, by omega⟩ (fun h => by rw [hp'] at h; cases h) (fun _ => ⟨by decide, fun _ => ?_, fun h => absurd rfl h⟩))⟩
    exact fin i ξ (ffst_eq i0 (by omega) hp hbf).symm i0 (by omega) hf x9 x10
  · have hT' := TXc_fr hT (hf _ _ _ (by omega)) (fun i => hf _ _ _ (by omega))
    have fi := ho.2 i (by omega) i1
    have hp' : isd (f i) = true := by
      cases hh : isd (f i) with
      | true => rfl
      | false => rw [hh] at hp; cases hp
    refine s_X7_readNumber_0 d _ _ ?_
    rw [x10, hT'.1]
    refine ⟨⟨⟨by omega, by omega⟩, ⟨by omega, by omega⟩⟩, fun h => absurd h (by omega), fun _ => c_byteAt ho hT' ⟨by omega, i1⟩ (c_isD ⟨by omega, by omega⟩ (fun _ => ⟨by decide, fun h => absurd h (by decide), fun _ => ?_⟩) (fun h => by rw [hp'] at h; cases h))⟩
    exact hW _ (jfr_jw hf (by omega)) ((jw_i (by omega)).trans x9) (by rw [jw_eq, x10])
  · have hT' := TXc_fr hT (hf _ _ _ (by omega)) (fun i => hf _ _ _ (by omega))
    refine s_X7_readNumber_0 d _ _ ?_
    rw [x10, hT'.1]
    refine ⟨⟨⟨by omega, by omega⟩, ⟨by omega, by omega⟩⟩, fun _ => ?_, fun h => absurd (Int.le_refl _) h⟩
    have e := ffst_no (p := fun j => !isd (f j)) (k := (n - b).toNat) (lo := b) (fun j j0 j1 => hbf j j0 (by omega))
    exact fin n ξ (by unfold skd; rw [e]; omega) (by omega) (Int.le_refl _) hf x9 x10
theorem c_adv58 {d : Nat} {f : TX} {n i : Int} {ν ξ : JM} {Q : JQ} (ho : okt f n) (hT : TXc f n ξ) (hi : 0 ≤ i ∧ i ≤ n) (hf : jfr PAd ν ξ) (h9 : ξ 20 0 9 = skb f n i) (K : ∀ ζ, jfr PAd ν ζ → CT f (nx f n i) ζ → Q 0 ζ) : wp true (d + 2) 85 58 [(20, 0)] [] ξ Q := by
  have hn := ho.1
  have sb := sk_in (fun j => !isb (f j)) hi.2
  have esb : skb f n i = ffst (fun j => !isb (f j)) (n - i).toNat i := rfl
  rw [← esb] at sb
  unfold nx at K
  generalize skb f n i = q at *
  refine s_X7_advance_58 (d + 1) _ _ ?_
  rw [h9]
  generalize e1 : jw ξ 20 0 10 q = M1
  have g1 : ∀ t y j, ¬ (t = 20 ∧ y = 0 ∧ j = 10) → M1 t y j = ξ t y j := fun t y j h => by
    rw [← e1]
    unfold jw
    rw [if_neg h]
  have hf1 : jfr PAd ν M1 := by rw [← e1]; exact jfr_jw hf (by omega)
  have hT1 : TXc f n M1 := TXc_fr hT (g1 _ _ _ (by omega)) (fun i => g1 _ _ _ (by omega))
  have x9 : M1 20 0 9 = q := (g1 _ _ _ (by omega)).trans h9
  have x10 : M1 20 0 10 = q := by rw [← e1, jw_eq]
  rw [x9, hT1.1]
  refine ⟨⟨⟨by omega, by omega⟩, ⟨by omega, by omega⟩⟩, fun hlt => ?_, fun hge => ?_⟩
  · rw [if_neg (by omega)] at K
    have fq := ho.2 q (by omega) hlt
    refine c_byteAt ho hT1 ⟨by omega, hlt⟩ (c_isL ⟨by omega, by omega⟩ (fun hl => ⟨by decide, fun h => absurd h (by decide), fun _ => ?_⟩) (fun hl => ⟨by decide, fun _ => ?_, fun h => absurd rfl h⟩))
    · rw [if_pos hl] at K
      exact c_readWord (d := d) ho hT1 ⟨by omega, hlt⟩ x9 x10 (fun ζ hfz hc => K ζ (jfr_trans hf1 hfz) hc)
    · rw [if_neg (by rw [hl]; decide)] at K
      rw [x9]
      refine c_byteAt ho hT1 ⟨by omega, hlt⟩ (c_isD ⟨by omega, by omega⟩ (fun hl => ⟨by decide, fun h => absurd h (by decide), fun _ => ?_⟩) (fun hl => ⟨by decide, fun _ => ?_, fun h => absurd rfl h⟩))
      · rw [if_pos hl] at K
        exact c_readNumber (d := d) ho hT1 ⟨by omega, hlt⟩ x9 x10 (fun ζ hfz hc => K ζ (jfr_trans hf1 hfz) hc)
      · rw [if_neg (by rw [hl]; decide)] at K
        have done : ∀ kd : Int, (if f q = 62 ∨ f q = 59 then (3 : Int) else 4) = kd → Q 0 (jw (jw M1 20 0 8 kd) 20 0 10 ((jw M1 20 0 8 kd) 20 0 10 + 1)) := fun kd e => by
          rw [e] at K
          rw [jw_i (by omega), x10]
          refine K _ (jfr_jw (jfr_jw hf1 (by omega)) (by omega)) ⟨by rw [jw_i (by omega), jw_eq], by rw [jw_i (by omega), jw_i (by omega)]; exact x9, jw_eq _ _ _ _ _, fun h => ?_⟩
          have h' : kd = 1 := h
          split at e <;> omega
        rw [x9]
        refine c_byteAt ho hT1 ⟨by omega, hlt⟩ ⟨Or.inr ⟨⟨by omega, by omega⟩, ⟨by omega, by omega⟩⟩, fun e => ?_, fun n1 => ?_⟩
        · exact done 3 (by rw [if_pos (Or.inl e)])
        · rw [x9]
          refine c_byteAt ho hT1 ⟨by omega, hlt⟩ ⟨Or.inr ⟨⟨by omega, by omega⟩, ⟨by omega, by omega⟩⟩, fun n2 => ?_, fun e => ?_⟩
          · exact done 4 (by rw [if_neg (by omega)])
          · exact done 3 (by rw [if_pos (by omega)])
  · rw [if_pos (by omega)] at K
    exact K _ (jfr_jw hf1 (by omega)) ⟨jw_eq _ _ _ _ _, (jw_i (by omega)).trans x9, (jw_i (by omega)).trans x10, fun h => absurd (show (0 : Int) = 1 from h) (by decide)⟩
theorem c_advance {d : Nat} {f : TX} {n i : Int} {ν : JM} {Q : JQ} (ho : okt f n) (hT : TXc f n ν) (hi : 0 ≤ i ∧ i ≤ n) (h10 : ν 20 0 10 = i) (K : ∀ ξ, jfr PAd ν ξ → CT f (nx f n i) ξ → Q 0 ξ) : wp true (d + 2) 85 0 [(20, 0)] [] ν Q := by
  have hn := ho.1
  refine s_X7_advance_0 _ _ _ ?_
  rw [h10]
  refine ffst_lp (p := fun j => !isb (f j)) (W := fun j => ∀ ξ, jfr PAd ν ξ → ξ 20 0 9 = j → wp true (d + 2) 85 8 [(20, 0)] [] ξ Q) (lo := i) (n := n) (fun j j0 j1 hp hbf ξ hf x9 => ?_) (fun j j0 j1 hp hW ξ hf x9 => ?_) (fun hbf ξ hf x9 => ?_) (n - i).toNat i (Int.le_refl _) (by omega) (fun j h1 h2 => by omega) _ (jfr_jw (jfr_refl _ _) (by omega)) (jw_eq _ _ _ _ _)
  · have hT' := TXc_fr hT (hf _ _ _ (by omega)) (fun i => hf _ _ _ (by omega))
    have fi := ho.2 j (by omega) j1
    have hp' : ¬ (f j = 32 ∨ f j = 10) := fun h => by
      have : isb (f j) = true := decide_eq_true h
      rw [this] at hp
      cases hp
    have go : wp true (d + 2) 85 58 [(20, 0)] [] ξ Q := c_adv58 (d := d) ho hT' hi hf (x9.trans (ffst_eq j0 (by omega) hp hbf).symm) K
    refine s_X7_advance_8 (d + 1) _ _ ?_
    rw [x9, hT'.1]
    refine ⟨⟨⟨by omega, by omega⟩, ⟨by omega, by omega⟩⟩, fun _ => go, fun _ => c_byteAt ho hT' ⟨by omega, j1⟩ ⟨Or.inr ⟨⟨by omega, by omega⟩, ⟨by omega, by omega⟩⟩, fun e => absurd (Or.inl e) hp', fun _ => ?_⟩⟩
    rw [x9]
    exact c_byteAt ho hT' ⟨by omega, j1⟩ ⟨Or.inr ⟨⟨by omega, by omega⟩, ⟨by omega, by omega⟩⟩, fun _ => go, fun h => absurd (Or.inr (Decidable.byContradiction h)) hp'⟩
  · have hT' := TXc_fr hT (hf _ _ _ (by omega)) (fun i => hf _ _ _ (by omega))
    have fi := ho.2 j (by omega) j1
    have hp' : f j = 32 ∨ f j = 10 := by
      refine Decidable.byContradiction (fun h => ?_)
      have : isb (f j) = false := decide_eq_false h
      rw [this] at hp
      cases hp
    have go : wp true (d + 2) 85 8 [(20, 0)] [] (jw ξ 20 0 9 (j + 1)) Q := hW _ (jfr_jw hf (by omega)) (jw_eq _ _ _ _ _)
    refine s_X7_advance_8 (d + 1) _ _ ?_
    rw [x9, hT'.1]
    refine ⟨⟨⟨by omega, by omega⟩, ⟨by omega, by omega⟩⟩, fun h => absurd h (by omega), fun _ => c_byteAt ho hT' ⟨by omega, j1⟩ ⟨Or.inr ⟨⟨by omega, by omega⟩, ⟨by omega, by omega⟩⟩, fun e => ?_, fun n1 => ?_⟩⟩
    · rw [x9]
      exact go
    · rw [x9]
      refine c_byteAt ho hT' ⟨by omega, j1⟩ ⟨Or.inr ⟨⟨by omega, by omega⟩, ⟨by omega, by omega⟩⟩, fun n2 => absurd hp' (by omega), fun _ => ?_⟩
      rw [x9]
      exact go
  · have hT' := TXc_fr hT (hf _ _ _ (by omega)) (fun i => hf _ _ _ (by omega))
    have e := ffst_no (p := fun j => !isb (f j)) (k := (n - i).toNat) (lo := i) (fun j j0 j1 => hbf j j0 (by omega))
    refine s_X7_advance_8 (d + 1) _ _ ?_
    rw [x9, hT'.1]
    refine ⟨⟨⟨by omega, by omega⟩, ⟨by omega, by omega⟩⟩, fun _ => c_adv58 (d := d) ho hT' hi hf (x9.trans ?_) K, fun h => absurd (Int.le_refl _) h⟩
    unfold skb
    rw [e]
    omega
