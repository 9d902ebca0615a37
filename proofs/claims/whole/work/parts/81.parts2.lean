/-! parts: both programs -/
abbrev PL : Nat → Int → Int → Prop := fun t y i => t = 45 ∨ (t = 26 ∧ y = 0 ∧ i = 1)
theorem c_lay135 {d : Nat} {b : BK} {ν : JM} {Q : JQ} {W B k : Int} {R : Int → Int} (hv : vb b) (hk : 0 ≤ k ∧ k < b 5 0) (h3 : i3 b W B k R) (K : ∀ (u : JV) ζ, ζ 26 0 1 = b 5 0 → jfr PL ν ζ → (∀ a, 0 ≤ a → a < b 5 0 → ζ 45 0 a = if bt (R a) k.toNat = true then jor (R a) (R k) else R a) → wp true d 61 123 [(26, 0), (12, 0), (0, W), (0, B), (0, (k + 1)), u] [] ζ Q) : ∀ (n : Nat) (i : Int) (ξ : JM), i + (n : Int) = b 5 0 → 0 ≤ i → ξ 26 0 1 = b 5 0 → jfr PL ν ξ → (∀ a, 0 ≤ a → a < i → ξ 45 0 a = if bt (R a) k.toNat = true then jor (R a) (R k) else R a) → (∀ a, i ≤ a → a < b 5 0 → ξ 45 0 a = R a) → wp true d 61 135 [(26, 0), (12, 0), (0, W), (0, B), (0, k), (0, i)] [] ξ Q
  | 0, i, ξ, hn, hi, e26, hf, h1, h2 => by
    have nb := vb_n hv
    have hnn := nn_eq hv
    refine s_X6_lay_135 _ _ _ _ _ _ _ _ ?_
    rw [e26]
    exact ⟨⟨⟨by omega, by omega⟩, ⟨by omega, by omega⟩⟩, fun _ => K _ ξ e26 hf (fun a a0 a1 => h1 a a0 (by omega)), fun h => absurd (by omega) h⟩
  | n + 1, i, ξ, hn, hi, e26, hf, h1, h2 => by
    have nb := vb_n hv
    have hnn := nn_eq hv
    have hs := (h3 k hk.1 hk.2).1
    have ek : ξ 45 0 k = R k := by
      by_cases hc : k < i
      · rw [h1 k hk.1 hc]
        split
        · exact bt_ext (inR_or _ _) ⟨by omega, by omega⟩ (fun j _ => by rw [bt_or, Bool.or_self])
        · rfl
      · exact h2 k (by omega) hk.2
    have ei : ξ 45 0 i = R i := h2 i (Int.le_refl _) (by omega)
    refine s_X6_lay_135 _ _ _ _ _ _ _ _ ?_
    rw [e26, has_u _ hk.1 (by omega), ei, ek]
    refine ⟨⟨⟨by omega, by omega⟩, ⟨by omega, by omega⟩⟩, fun h => absurd h (by omega), fun _ => ⟨by omega, by omega, ?_⟩⟩
    cases hb : bt (R i) k.toNat with
    | false =>
      rw [if_neg (by decide)]
      refine ⟨by decide, fun _ => c_lay135 hv hk h3 K n (i + 1) ξ (by omega) (by omega) e26 hf (fun a a0 a1 => ?_) (fun a a0 a1 => h2 a (by omega) a1), fun h => absurd rfl h⟩
      by_cases e : a = i
      · subst e
        rw [hb, ei, if_neg (by decide)]
      · exact h1 a a0 (by omega)
    | true =>
      rw [if_pos rfl]
      refine ⟨by decide, fun h => absurd h (by decide), fun _ => ⟨by omega, by omega, by omega, by omega, by omega, by omega, c_lay135 hv hk h3 K n (i + 1) _ (by omega) (by omega) ((jw_t (by omega)).trans e26) (jfr_jw hf (Or.inl rfl)) (fun a a0 a1 => ?_) (fun a a0 a1 => (jw_i (by omega)).trans (h2 a (by omega) a1))⟩⟩
      by_cases e : a = i
      · subst e
        rw [hb, if_pos rfl]
        exact jw_eq _ _ _ _ _
      · rw [jw_i e]
        exact h1 a a0 (by omega)
theorem c_lay123 {d : Nat} {b : BK} {ν : JM} {Q : JQ} {W B : Int} (hv : vb b) (K : ∀ ζ, ζ 26 0 1 = b 5 0 → jfr PL ν ζ → i3 b W B (b 5 0) (ζ 45 0) → Q 0 ζ) : ∀ (n : Nat) (k : Int) (u : JV) (ξ : JM), k + (n : Int) = b 5 0 → 0 ≤ k → ξ 26 0 1 = b 5 0 → jfr PL ν ξ → i3 b W B k (ξ 45 0) → wp true d 61 123 [(26, 0), (12, 0), (0, W), (0, B), (0, k), u] [] ξ Q
  | 0, k, u, ξ, hn, hk, e26, hf, h3 => by
    have nb := vb_n hv
    have hnn := nn_eq hv
    have : k = b 5 0 := by omega
    subst this
    refine s_X6_lay_123 _ _ _ _ _ _ _ _ ?_
    rw [e26]
    exact ⟨⟨⟨by omega, by omega⟩, ⟨by omega, by omega⟩⟩, fun _ => K ξ e26 hf h3, fun h => absurd (Int.le_refl _) h⟩
  | n + 1, k, u, ξ, hn, hk, e26, hf, h3 => by
    have nb := vb_n hv
    have hnn := nn_eq hv
    refine s_X6_lay_123 _ _ _ _ _ _ _ _ ?_
    rw [e26]
    refine ⟨⟨⟨by omega, by omega⟩, ⟨by omega, by omega⟩⟩, fun h => absurd h (by omega), fun _ => c_lay135 hv ⟨hk, by omega⟩ h3 (fun u ζ e hf2 h4 => c_lay123 hv K n (k + 1) u ζ (by omega) (by omega) e hf2 (i3_step h3 ⟨hk, by omega⟩ h4)) (nn b) 0 ξ (by omega) (by omega) e26 hf (fun a a0 a1 => by omega) (fun a _ _ => rfl)⟩
def i2 (b : BK) (W B k : Int) (R : Int → Int) : Prop := ∀ a, 0 ≤ a → a < b 5 0 → s12 (R a) ∧ bt (R a) a.toNat = true ∧ (∀ j, bt (R a) j = true → pR b W B a.toNat j) ∧ ∀ t, 0 ≤ t → t < k → pe b W B t → b 0 t = a → bt (R a) (b 1 t).toNat = true
theorem c_lay45 {d : Nat} {b : BK} {ν : JM} {Q : JQ} {W B : Int} (hv : vb b) (hC : isC ν 0 b) (hW : 0 ≤ W ∧ W ≤ 9999) (hB : 0 ≤ B ∧ B ≤ 9999) (K : ∀ ζ, ζ 26 0 1 = b 5 0 → jfr PL ν ζ → i3 b W B (b 5 0) (ζ 45 0) → Q 0 ζ) : ∀ (n : Nat) (k : Int) (u : JV) (ξ : JM), k + (n : Int) = b 5 1 → 0 ≤ k → ξ 26 0 1 = b 5 0 → jfr PL ν ξ → i2 b W B k (ξ 45 0) → wp true (d + 1) 61 45 [(26, 0), (12, 0), (0, W), (0, B), (0, k), u] [] ξ Q
  | 0, k, u, ξ, hn, hk, e26, hf, h2 => by
    have nb := vb_m hv
    have hnn := nn_eq hv
    have hC' : isC ξ 0 b := isC_fr hC (fun t t0 t1 i => hf _ _ _ (by omega))
    have : k = b 5 1 := by omega
    subst this
    refine s_X6_lay_45 _ _ _ _ _ _ _ _ ?_
    rw [isC_m hC']
    exact ⟨⟨⟨by omega, by omega⟩, ⟨by omega, by omega⟩⟩, fun _ => c_lay123 hv K (nn b) 0 _ ξ (by have := vb_n hv; omega) (by omega) e26 hf (fun a a0 a1 => by
      have q := h2 a a0 a1
      exact ⟨q.1, q.2.1, q.2.2.1, q.2.2.2, fun u u0 u1 => by omega⟩), fun h => absurd (Int.le_refl _) h⟩
  | n + 1, k, u, ξ, hn, hk, e26, hf, h2 => by
    have nb := vb_m hv
    have hnn := nn_eq hv
    have nc := vb_n hv
    have hC' : isC ξ 0 b := isC_fr hC (fun t t0 t1 i => hf _ _ _ (by omega))
    have t := isC_t hC' (t := k) hk (by omega)
    have tt := vb_t hv (t := k) hk (by omega)
    have sk : ¬ pe b W B k → wp true (d + 1) 61 45 [(26, 0), (12, 0), (0, W), (0, B), (0, (k + 1)), (0, (W - b 2 k))] [] ξ Q := fun hne => c_lay45 hv hC hW hB K n (k + 1) _ ξ (by omega) (by omega) e26 hf (fun a a0 a1 => by
      have q := h2 a a0 a1
      refine ⟨q.1, q.2.1, q.2.2.1, fun t t0 t1 he e => ?_⟩
      by_cases etk : t = k
      · subst etk
        exact absurd he hne
      · exact q.2.2.2 t t0 (by omega) he e)
    refine s_X6_lay_45 _ _ _ _ _ _ _ _ ?_
    rw [isC_m hC', t.2.2.1, t.1]
    refine ⟨⟨⟨by omega, by omega⟩, ⟨by omega, by omega⟩⟩, fun h => absurd h (by omega), fun _ => ⟨by omega, by omega, ⟨⟨by omega, by omega⟩, ⟨by omega, by omega⟩⟩, fun h => sk (by omega), fun g1 => ⟨⟨⟨by omega, by omega⟩, ⟨by omega, by omega⟩⟩, fun h => sk (by omega), fun g2 => ⟨by omega, by omega, w_hasAccount hC' hv ⟨by omega, by omega⟩ (fun _ _ => ⟨by decide, fun h => absurd h (by decide), fun _ => ?_⟩) (fun h => absurd tt.1 h)⟩⟩⟩⟩
    rw [t.1, t.2.1]
    refine ⟨by omega, by omega, by omega, by omega, by omega, by omega, by omega, by omega, ?_⟩
    refine c_lay45 hv hC hW hB K n (k + 1) _ _ (by omega) (by omega) ((jw_t (by omega)).trans e26) (jfr_jw hf (Or.inl rfl)) (fun a a0 a1 => ?_)
    have q := h2 a a0 a1
    by_cases e : a = b 0 k
    · subst e
      rw [jw_eq]
      refine ⟨or12 q.1 (s12_bit (by omega)), by rw [bt_or, q.2.1]; rfl, fun j hj => ?_, fun t t0 t1 he e => ?_⟩
      · rw [bt_or, bt_bitz tt.2.1.1 (by omega), Bool.or_eq_true] at hj
        rcases hj with hj | hj
        · exact q.2.2.1 j hj
        · rw [of_decide_eq_true hj]
          exact fun s hs hc => hc _ _ hs ⟨k, ⟨hk, by omega⟩, ⟨by omega, by omega⟩, by omega, by omega⟩
      · by_cases etk : t = k
        · subst etk
          rw [bt_or, bt_bitz tt.2.1.1 (by omega), decide_eq_true rfl, Bool.or_true]
        · rw [bt_or, q.2.2.2 t t0 (by omega) he e]
          rfl
    · rw [jw_i e]
      refine ⟨q.1, q.2.1, q.2.2.1, fun t t0 t1 he e2 => ?_⟩
      by_cases etk : t = k
      · subst etk
        exact absurd e2.symm e
      · exact q.2.2.2 t t0 (by omega) he e2
theorem c_lay16 {d : Nat} {b : BK} {ν : JM} {Q : JQ} {W B : Int} (hv : vb b) (hC : isC ν 0 b) (hW : 0 ≤ W ∧ W ≤ 9999) (hB : 0 ≤ B ∧ B ≤ 9999) (K : ∀ ζ, ζ 26 0 1 = b 5 0 → jfr PL ν ζ → i3 b W B (b 5 0) (ζ 45 0) → Q 0 ζ) : ∀ (n : Nat) (k : Int) (ξ : JM), k + (n : Int) = b 5 0 → 0 ≤ k → ξ 26 0 1 = b 5 0 → jfr PL ν ξ → (∀ a, 0 ≤ a → a < k → ξ 45 0 a = jshl 1 a) → wp true (d + 1) 61 16 [(26, 0), (12, 0), (0, W), (0, B), (0, k), (9, 0)] [] ξ Q
  | 0, k, ξ, hn, hk, e26, hf, h1 => by
    have nb := vb_n hv
    have hnn := nn_eq hv
    refine s_X6_lay_16 _ _ _ _ _ _ _ ?_
    rw [e26]
    refine ⟨⟨⟨by omega, by omega⟩, ⟨by omega, by omega⟩⟩, fun _ => c_lay45 hv hC hW hB K (nm b) 0 _ ξ (nm_eq hv) (by omega) e26 hf (fun a a0 a1 => ?_), fun h => absurd (by omega) h⟩
    rw [h1 a a0 (by omega)]
    refine ⟨s12_bit (by omega), by rw [bt_bitz a0 (by omega)]; exact decide_eq_true rfl, fun j hj => ?_, fun t t0 t1 => by omega⟩
    rw [bt_bitz a0 (by omega)] at hj
    rw [of_decide_eq_true hj]
    exact pR_refl _ _ _ _
  | n + 1, k, ξ, hn, hk, e26, hf, h1 => by
    have nb := vb_n hv
    have hnn := nn_eq hv
    refine s_X6_lay_16 _ _ _ _ _ _ _ ?_
    rw [e26]
    refine ⟨⟨⟨by omega, by omega⟩, ⟨by omega, by omega⟩⟩, fun h => absurd h (by omega), fun _ => ⟨by omega, by omega, c_lay16 hv hC hW hB K n (k + 1) _ (by omega) (by omega) ((jw_t (by omega)).trans e26) (jfr_jw hf (Or.inl rfl)) (fun a a0 a1 => ?_)⟩⟩
    by_cases e : a = k
    · subst e
      exact jw_eq _ _ _ _ _
    · rw [jw_i e]
      exact h1 a a0 (by omega)
theorem c_lay {d : Nat} {b : BK} {ν : JM} {Q : JQ} {W B : Int} (hv : vb b) (hC : isC ν 0 b) (hW : 0 ≤ W ∧ W ≤ 9999) (hB : 0 ≤ B ∧ B ≤ 9999) (K : ∀ ζ, jfr PL ν ζ → ζ 26 0 1 = b 5 0 → (∀ a, 0 ≤ a → a < b 5 0 → ζ 45 0 a = pS b W B a) → Q 0 ζ) : wp true (d + 1) 61 0 [(26, 0), (12, 0), (0, W), (0, B), (9, 0), (9, 0)] [] ν Q := by
  have nb := vb_n hv
  have hnn := nn_eq hv
  refine s_X6_lay_0 _ _ _ _ _ _ ?_
  rw [isC_n hC, show jmin (b 5 0) 12 = b 5 0 by rw [jmin_eq]; split <;> omega]
  exact ⟨⟨by omega, by omega⟩, ⟨by omega, by omega⟩, c_lay16 hv hC hW hB (fun ζ e hf h3 => K ζ hf e (fun a a0 a1 => i3_fin hv h3 ⟨a0, a1⟩)) (nn b) 0 _ (by omega) (by omega) (jw_eq _ _ _ _ _) (jfr_jw (jfr_refl _ _) (Or.inr ⟨rfl, rfl, rfl⟩)) (fun a a0 a1 => by omega)⟩
/-- what the class has laid -/
def PT (b : BK) (W B : Int) (ξ : JM) : Prop := ξ 26 0 1 = b 5 0 ∧ ∀ a, 0 ≤ a → a < b 5 0 → ξ 45 0 a = pS b W B a
theorem c_together {d : Nat} {b : BK} {ξ : JM} {Q : JQ} {W B a o : Int} (hv : vb b) (h : PT b W B ξ) (ha : 0 ≤ a ∧ a < b 5 0) (ho : 0 ≤ o ∧ o < b 5 0) (k1 : tg b W B a o = true → Q 1 ξ) (k0 : tg b W B a o = false → Q 0 ξ) : wp true d 62 0 [(26, 0), (0, a), (0, o)] [] ξ Q := by
  have nb := vb_n hv
  have hnn := nn_eq hv
  refine s_X6_together_0 _ _ _ _ _ ?_
  rw [h.2 a ha.1 ha.2, h.2 o ho.1 ho.2, has_u _ ho.1 (by omega), has_u _ ha.1 (by omega)]
  unfold tg at k1 k0
  cases h1 : bt (pS b W B a) o.toNat with
  | false =>
    rw [h1] at k0
    rw [if_neg (by decide)]
    exact ⟨by omega, by omega, by decide, fun _ => ⟨by omega, by omega, k0 rfl⟩, fun h => absurd rfl h⟩
  | true =>
    rw [h1] at k0 k1
    rw [if_pos rfl]
    refine ⟨by omega, by omega, by decide, fun h => absurd h (by decide), fun _ => ⟨by omega, by omega, ?_⟩⟩
    cases h2 : bt (pS b W B o) a.toNat with
    | false =>
      rw [h2] at k0
      rw [if_neg (by decide)]
      exact ⟨by decide, fun _ => ⟨by omega, by omega, k0 rfl⟩, fun h => absurd rfl h⟩
    | true =>
      rw [h2] at k1
      rw [if_pos rfl]
      exact ⟨by decide, fun h => absurd h (by decide), fun _ => ⟨by omega, by omega, k1 rfl⟩⟩
theorem c_leastOf {d : Nat} {b : BK} {ξ : JM} {Q : JQ} {W B a : Int} (hv : vb b) (h : PT b W B ξ) (ha : 0 ≤ a ∧ a < b 5 0) (k : Q (lsa b W B a) ξ) : wp true (d + 1) 63 0 [(26, 0), (0, a), (9, 0)] [] ξ Q := by
  have nb := vb_n hv
  have hnn := nn_eq hv
  refine s_X6_leastOf_0 _ _ _ _ (ffst_lp (p := tg b W B a) (W := fun i => wp true (d + 1) 63 2 [(26, 0), (0, a), (0, i)] [] ξ Q) (lo := 0) (n := a) (fun i i0 i1 hp hb => ?_) (fun i i0 i1 hp hW => ?_) (fun hb => ?_) a.toNat 0 (Int.le_refl _) (by omega) (fun j h1 h2 => by omega))
  · have e := ffst_eq (k := a.toNat) i0 (by omega) hp hb
    unfold lsa at k
    rw [e] at k
    refine s_X6_leastOf_2 _ _ _ _ _ ?_
    rw [h.1]
    refine ⟨⟨⟨by omega, by omega⟩, ⟨by omega, by omega⟩⟩, fun h => absurd h (by omega), fun _ => ⟨⟨⟨by omega, by omega⟩, ⟨by omega, by omega⟩⟩, fun h => absurd h (by omega), fun _ => c_together hv h ha ⟨i0, by omega⟩ (fun _ => ⟨by decide, fun h => absurd h (by decide), fun _ => ?_⟩) (fun h => by rw [h] at hp; cases hp)⟩⟩
    exact k
  · refine s_X6_leastOf_2 _ _ _ _ _ ?_
    rw [h.1]
    exact ⟨⟨⟨by omega, by omega⟩, ⟨by omega, by omega⟩⟩, fun h => absurd h (by omega), fun _ => ⟨⟨⟨by omega, by omega⟩, ⟨by omega, by omega⟩⟩, fun h => absurd h (by omega), fun _ => c_together hv h ha ⟨i0, by omega⟩ (fun h => by rw [h] at hp; cases hp) (fun _ => ⟨by decide, fun _ => hW, fun h => absurd rfl h⟩)⟩⟩
  · have e := ffst_no (p := tg b W B a) (k := a.toNat) (lo := 0) (fun j j0 j1 => hb j j0 (by omega))
    unfold lsa at k
    rw [e, show (0 : Int) + (a.toNat : Int) = a by omega] at k
    exact s_X6_leastOf_2 _ _ _ _ _ ⟨⟨⟨by omega, by omega⟩, ⟨by omega, by omega⟩⟩, fun _ => k, fun h => absurd (Int.le_refl _) h⟩
theorem szn_in (b : BK) (W B a : Int) : ∀ n : Nat, 0 ≤ szn b W B a n ∧ szn b W B a n ≤ n
  | 0 => ⟨Int.le_refl _, Int.le_refl _⟩
  | n + 1 => by
    have ih := szn_in b W B a n
    have e2 : szn b W B a (n + 1) = szn b W B a n + if tg b W B a (n : Int) = true then 1 else 0 := rfl
    rw [e2]
    split <;> omega
theorem siz_in {b : BK} (hv : vb b) (W B a : Int) : 0 ≤ siz b W B a ∧ siz b W B a ≤ 12 := by
  have nb := vb_n hv
  have hnn := nn_eq hv
  have := szn_in b W B a (nn b)
  show 0 ≤ szn b W B a (nn b) ∧ szn b W B a (nn b) ≤ 12
  omega
theorem c_sizeOf {d : Nat} {b : BK} {ξ : JM} {Q : JQ} {W B a : Int} (hv : vb b) (h : PT b W B ξ) (ha : 0 ≤ a ∧ a < b 5 0) (k : Q (siz b W B a) ξ) : wp true (d + 1) 64 0 [(26, 0), (0, a), (9, 0), (9, 0)] [] ξ Q := by
  have nb := vb_n hv
  have hnn := nn_eq hv
  refine s_X6_sizeOf_0 _ _ _ _ (nlp (W := fun i c => wp true (d + 1) 64 4 [(26, 0), (0, a), (0, c), (0, i)] [] ξ Q) (f := szn b W B a) (N := nn b) (fun n hn hW => ?_) ?_)
  · have e2 : szn b W B a (n + 1) = szn b W B a n + if tg b W B a (n : Int) = true then 1 else 0 := rfl
    rw [e2] at hW
    refine s_X6_sizeOf_4 _ _ _ _ _ _ ?_
    rw [h.1]
    refine ⟨⟨⟨by omega, by omega⟩, ⟨by omega, by omega⟩⟩, fun h => absurd h (by omega), fun _ => ⟨⟨⟨by omega, by omega⟩, ⟨by omega, by omega⟩⟩, fun h => absurd h (by omega), fun _ => c_together hv h ha ⟨by omega, by omega⟩ (fun h => ⟨by decide, fun h => absurd h (by decide), fun _ => ?_⟩) (fun h => ⟨by decide, fun _ => ?_, fun h => absurd rfl h⟩)⟩⟩
    · rw [h, if_pos rfl] at hW
      exact hW
    · rw [h, if_neg (by decide)] at hW
      exact hW
  · refine s_X6_sizeOf_4 _ _ _ _ _ _ ?_
    rw [h.1]
    exact ⟨⟨⟨by omega, by omega⟩, ⟨by omega, by omega⟩⟩, fun _ => k, fun h => absurd (by omega) h⟩
