/-! parts: counts and the greatest; the calls -/
def cfn (b : BK) (W B m : Int) : Nat → Int
  | 0 => 0
  | n + 1 => cfn b W B m n + if lsa b W B (n : Int) = (n : Int) ∧ m ≤ siz b W B (n : Int) then 1 else 0
def gre (b : BK) (W B : Int) : Nat → Int
  | 0 => 0
  | n + 1 => if siz b W B (gre b W B n) < siz b W B (n : Int) then (n : Int) else gre b W B n
theorem lsa_in {b : BK} {W B a : Int} (ha : 0 ≤ a) : 0 ≤ lsa b W B a ∧ lsa b W B a ≤ a := by
  have s := ffst_spec (tg b W B a) a.toNat 0
  unfold lsa
  omega
theorem cfn_in (b : BK) (W B m : Int) : ∀ n : Nat, 0 ≤ cfn b W B m n ∧ cfn b W B m n ≤ n
  | 0 => ⟨Int.le_refl _, Int.le_refl _⟩
  | n + 1 => by
    have ih := cfn_in b W B m n
    have e : cfn b W B m (n + 1) = cfn b W B m n + if lsa b W B (n : Int) = (n : Int) ∧ m ≤ siz b W B (n : Int) then 1 else 0 := rfl
    rw [e]
    split <;> omega
theorem gre_in (b : BK) (W B : Int) : ∀ n : Nat, 0 ≤ gre b W B n ∧ (gre b W B n < n ∨ n = 0 ∧ gre b W B n = 0) ∧ ∀ j : Nat, j < n → siz b W B (j : Int) ≤ siz b W B (gre b W B n)
  | 0 => ⟨Int.le_refl _, Or.inr ⟨rfl, rfl⟩, fun j hj => absurd hj (Nat.not_lt_zero _)⟩
  | n + 1 => by
    have ih := gre_in b W B n
    have e : gre b W B (n + 1) = if siz b W B (gre b W B n) < siz b W B (n : Int) then (n : Int) else gre b W B n := rfl
    rw [e]
    by_cases hc : siz b W B (gre b W B n) < siz b W B (n : Int)
    · rw [if_pos hc]
      refine ⟨by omega, by omega, fun j hj => ?_⟩
      by_cases ej : j = n
      · subst ej
        exact Int.le_refl _
      · have := ih.2.2 j (by omega)
        omega
    · rw [if_neg hc]
      refine ⟨ih.1, by omega, fun j hj => ?_⟩
      by_cases ej : j = n
      · subst ej
        omega
      · exact ih.2.2 j (by omega)
theorem szn_congr {b : BK} {W B a c : Int} : ∀ n : Nat, (∀ o : Nat, o < n → tg b W B a (o : Int) = tg b W B c (o : Int)) → szn b W B a n = szn b W B c n
  | 0, _ => rfl
  | n + 1, h => by
    show szn b W B a n + (if tg b W B a (n : Int) = true then 1 else 0) = szn b W B c n + if tg b W B c (n : Int) = true then 1 else 0
    rw [szn_congr n (fun o ho => h o (by omega)), h n (by omega)]
theorem siz_eq {b : BK} (hv : vb b) {W B a c : Int} (ha : 0 ≤ a ∧ a < b 5 0) (hc : 0 ≤ c ∧ c < b 5 0) (h : tg b W B a c = true) : siz b W B a = siz b W B c := szn_congr (nn b) (fun o ho => tg_eq hv ha hc (by have := nn_eq hv; omega) h)
theorem siz_lsa {b : BK} (hv : vb b) {W B a : Int} (ha : 0 ≤ a ∧ a < b 5 0) : siz b W B (lsa b W B a) = siz b W B a := by
  have i := lsa_in (b := b) (W := W) (B := B) ha.1
  have s := ffst_spec (tg b W B a) a.toNat 0
  have e : lsa b W B a = ffst (tg b W B a) a.toNat 0 := rfl
  by_cases hc : lsa b W B a = a
  · rw [hc]
  · exact (siz_eq hv ha ⟨i.1, by omega⟩ (by rw [e]; exact s.2.2.2 (by omega))).symm
theorem siz_pos {b : BK} (hv : vb b) {W B a : Int} (ha : 0 ≤ a ∧ a < b 5 0) : 1 ≤ siz b W B a := by
  have key : ∀ n : Nat, a < n → 1 ≤ szn b W B a n := by
    intro n
    induction n with
    | zero => intro h; omega
    | succ n ih =>
      intro h
      have e2 : szn b W B a (n + 1) = szn b W B a n + if tg b W B a (n : Int) = true then 1 else 0 := rfl
      have i := szn_in b W B a n
      rw [e2]
      by_cases hc : a = (n : Int)
      · rw [← hc, tg_refl hv ha, if_pos rfl]
        omega
      · have := ih (by omega)
        split <;> omega
  exact key (nn b) (by have := nn_eq hv; omega)
theorem c_countFrom {d : Nat} {b : BK} {ξ : JM} {Q : JQ} {W B m : Int} (hv : vb b) (h : PT b W B ξ) (hm : inR m) (k : Q (cfn b W B m (nn b)) ξ) : wp true (d + 2) 65 0 [(26, 0), (0, m), (9, 0), (9, 0)] [] ξ Q := by
  have nb := vb_n hv
  have hnn := nn_eq hv
  refine s_X6_countFrom_0 _ _ _ _ (nlp (W := fun i c => wp true (d + 2) 65 4 [(26, 0), (0, m), (0, c), (0, i)] [] ξ Q) (f := cfn b W B m) (N := nn b) (fun n hn hW => ?_) ?_)
  · have e2 : cfn b W B m (n + 1) = cfn b W B m n + if lsa b W B (n : Int) = (n : Int) ∧ m ≤ siz b W B (n : Int) then 1 else 0 := rfl
    have hi : 0 ≤ (n : Int) ∧ (n : Int) < b 5 0 := ⟨by omega, by omega⟩
    have l := lsa_in (b := b) (W := W) (B := B) hi.1
    have z := siz_in hv W B (n : Int)
    rw [e2] at hW
    refine s_X6_countFrom_4 _ _ _ _ _ _ ?_
    rw [h.1]
    refine ⟨⟨⟨by omega, by omega⟩, ⟨by omega, by omega⟩⟩, fun h => absurd h (by omega), fun _ => c_leastOf hv h hi ⟨Or.inr ⟨⟨by omega, by omega⟩, ⟨by omega, by omega⟩⟩, fun hne => ?_, fun he => c_sizeOf hv h hi ⟨⟨⟨by omega, by omega⟩, hm⟩, fun hlt => ?_, fun hge => ?_⟩⟩⟩
    · rw [if_neg (fun h => hne h.1), Int.add_zero] at hW
      exact hW
    · rw [if_neg (by omega), Int.add_zero] at hW
      exact hW
    · rw [if_pos (by omega)] at hW
      exact hW
  · refine s_X6_countFrom_4 _ _ _ _ _ _ ?_
    rw [h.1]
    exact ⟨⟨⟨by omega, by omega⟩, ⟨by omega, by omega⟩⟩, fun _ => k, fun h => absurd (by omega) h⟩
theorem c_greatest {d : Nat} {b : BK} {ξ : JM} {Q : JQ} {W B : Int} (hv : vb b) (h : PT b W B ξ) (k : Q (gre b W B (nn b)) ξ) : wp true (d + 2) 66 0 [(26, 0), (9, 0), (9, 0)] [] ξ Q := by
  have nb := vb_n hv
  have hnn := nn_eq hv
  have key : ∀ (q n : Nat), n + q = nn b → 1 ≤ n → wp true (d + 2) 66 4 [(26, 0), (0, gre b W B n), (0, (n : Int))] [] ξ Q := by
    intro q
    induction q with
    | zero =>
      intro n h1 h2
      have : n = nn b := by omega
      subst this
      refine s_X6_greatest_4 (d + 1) _ _ _ _ ?_
      rw [h.1]
      exact ⟨⟨⟨by omega, by omega⟩, ⟨by omega, by omega⟩⟩, fun _ => k, fun h => absurd (by omega) h⟩
    | succ q ih =>
      intro n h1 h2
      have g := gre_in b W B n
      have hi : 0 ≤ (n : Int) ∧ (n : Int) < b 5 0 := ⟨by omega, by omega⟩
      have z := siz_in hv W B (n : Int)
      have z2 := siz_in hv W B (gre b W B n)
      have e : gre b W B (n + 1) = if siz b W B (gre b W B n) < siz b W B (n : Int) then (n : Int) else gre b W B n := rfl
      have ih' := ih (n + 1) (by omega) (by omega)
      rw [e] at ih'
      refine s_X6_greatest_4 (d + 1) _ _ _ _ ?_
      rw [h.1]
      refine ⟨⟨⟨by omega, by omega⟩, ⟨by omega, by omega⟩⟩, fun h => absurd h (by omega), fun _ => c_sizeOf hv h hi (c_sizeOf hv h ⟨g.1, by omega⟩ ⟨⟨⟨by omega, by omega⟩, ⟨by omega, by omega⟩⟩, fun hle => ?_, fun hgt => ?_⟩)⟩
      · rw [if_neg (by omega)] at ih'
        exact ih'
      · rw [if_pos (by omega)] at ih'
        exact ih'
  refine s_X6_greatest_0 _ _ _ ?_
  by_cases h0 : nn b = 0
  · rw [h0] at k
    refine s_X6_greatest_4 (d + 1) _ _ _ _ ?_
    rw [h.1]
    exact ⟨⟨⟨by omega, by omega⟩, ⟨by omega, by omega⟩⟩, fun _ => k, fun h => absurd (by omega) h⟩
  · have e : gre b W B 1 = 0 := by
      show (if siz b W B 0 < siz b W B ((0 : Nat) : Int) then ((0 : Nat) : Int) else 0) = 0
      split <;> rfl
    have := key (nn b - 1) 1 (by omega) (by omega)
    rw [e] at this
    exact this
/-- part, parts -/
def oPart (b : BK) (a W B : Int) : Int × Int := if ¬ (0 ≤ W ∧ W ≤ 9999) ∨ ¬ (0 ≤ B ∧ B ≤ 9999) then (-1, 1) else if ¬ (0 ≤ a ∧ a < b 5 0) then (-1, 2) else (lsa b W B a, 0)
theorem c_part {d : Nat} {b : BK} {A K : List BK} {c : Int} {ν : JM} {Q : JQ} (hV : VS b A K) (h : CI b A K c ν) {a W B : Int} (ha : inR a) (hW : inR W) (hB : inR B) (k : KCS c ν Q (oPart b a W B, b, A, K)) : wp true (d + 14) 163 0 [(11, 0), (0, a), (0, W), (0, B)] [] ν Q := by
  unfold oPart at k
  refine s_X10_part_0 (d + 13) _ _ _ _ _ (w_notTime (d := d + 12) hW (fun w0 w1 => ⟨by decide, fun h => absurd rfl h, fun _ => ?_⟩) (fun w2 => ⟨by decide, fun _ => ?_, fun h => absurd (by decide) h⟩))
  · refine w_notTime (d := d + 12) hB (fun b0 b1 => ⟨by decide, fun _ => ?_, fun h => absurd rfl h⟩) (fun b2 => ⟨by decide, fun h => absurd h (by decide), fun _ => ?_⟩)
    · rw [if_neg (by omega)] at k
      refine w_hasAccount h.1 hV.1 ha (fun a0 a1 => ⟨by decide, fun _ => ?_, fun h => absurd (by decide) h⟩) (fun a2 => ⟨by decide, fun h => absurd rfl h, fun _ => ?_⟩)
      · rw [if_neg (by omega)] at k
        exact c_lay (d := d + 12) hV.1 h.1 ⟨w0, w1⟩ ⟨b0, b1⟩ (fun ζ hf e26 e45 => c_leastOf (d := d + 12) hV.1 ⟨e26, e45⟩ ⟨a0, a1⟩ (KCS_fin k (CI_fr h (Int.le_refl _) (fun t y i hp => hf _ _ _ (by omega))) (jfr_mono hf (fun t y i h => by omega))))
      · rw [if_pos a2] at k
        exact KCS_fin k h (jfr_refl _ _)
    · rw [if_pos (Or.inr b2)] at k
      exact KCS_fin k h (jfr_refl _ _)
  · rw [if_pos (Or.inl w2)] at k
    exact KCS_fin k h (jfr_refl _ _)
def oParts (b : BK) (W B x : Int) : Int × Int := if ¬ (0 ≤ W ∧ W ≤ 9999) ∨ ¬ (0 ≤ B ∧ B ≤ 9999) ∨ ¬ (0 ≤ x ∧ x ≤ 3) then (-1, 1) else (if x = 0 then cfn b W B 1 (nn b) else if x = 1 then cfn b W B 2 (nn b) else if x = 2 then (if b 5 0 = 0 then 0 else siz b W B (gre b W B (nn b))) else gre b W B (nn b), 0)
theorem c_parts {d : Nat} {b : BK} {A K : List BK} {c : Int} {ν : JM} {Q : JQ} (hV : VS b A K) (h : CI b A K c ν) {W B x : Int} (hW : inR W) (hB : inR B) (hx : inR x) (k : KCS c ν Q (oParts b W B x, b, A, K)) : wp true (d + 14) 164 0 [(11, 0), (0, W), (0, B), (0, x)] [] ν Q := by
  unfold oParts at k
  have nb := vb_n hV.1
  have hnn := nn_eq hV.1
  refine s_X10_parts_0 (d + 13) _ _ _ _ _ (w_notTime (d := d + 12) hW (fun w0 w1 => ⟨by decide, fun h => absurd rfl h, fun _ => ?_⟩) (fun w2 => ⟨by decide, fun _ => ?_, fun h => absurd (by decide) h⟩))
  · refine w_notTime (d := d + 12) hB (fun b0 b1 => ⟨by decide, fun h => absurd rfl h, fun _ => ?_⟩) (fun b2 => ⟨by decide, fun _ => ?_, fun h => absurd (by decide) h⟩)
    · refine w_outside hx ⟨by omega, by omega⟩ ⟨by omega, by omega⟩ (fun x0 x1 => ⟨by decide, fun _ => ?_, fun h => absurd rfl h⟩) (fun x2 => ⟨by decide, fun h => absurd h (by decide), fun _ => ?_⟩)
      · rw [if_neg (by omega)] at k
        refine c_lay (d := d + 12) hV.1 h.1 ⟨w0, w1⟩ ⟨b0, b1⟩ (fun ζ hf e26 e45 => ?_)
        have h2 : CI b A K c ζ := CI_fr h (Int.le_refl _) (fun t y i hp => hf _ _ _ (by omega))
        have hff : jfr PAc ν ζ := jfr_mono hf (fun t y i h => by omega)
        have P : PT b W B ζ := ⟨e26, e45⟩
        refine ⟨hx, fun e => ?_, fun n0 => ⟨fun e => ?_, fun n1 => ⟨fun e => ?_, fun n2 => ?_⟩⟩⟩
        · rw [if_pos e] at k
          exact c_countFrom (d := d + 11) hV.1 P ⟨by omega, by omega⟩ (KCS_fin k h2 hff)
        · rw [if_neg n0, if_pos e] at k
          exact c_countFrom (d := d + 11) hV.1 P ⟨by omega, by omega⟩ (KCS_fin k h2 hff)
        · rw [if_neg n0, if_neg n1, if_pos e] at k
          refine c_greatest (d := d + 11) hV.1 P ?_
          have g := gre_in b W B (nn b)
          by_cases h0 : b 5 0 = 0
          · rw [if_pos h0] at k
            refine s_X6_sizeOf_0 (d + 13) _ _ _ (s_X6_sizeOf_4 (d + 12) _ _ _ _ _ ?_)
            rw [e26]
            exact ⟨⟨⟨by omega, by omega⟩, ⟨by omega, by omega⟩⟩, fun _ => KCS_fin k h2 hff, fun h => absurd (by omega) h⟩
          · rw [if_neg h0] at k
            exact c_sizeOf (d := d + 12) hV.1 P ⟨g.1, by omega⟩ (KCS_fin k h2 hff)
        · rw [if_neg n0, if_neg n1, if_neg n2] at k
          exact c_greatest (d := d + 11) hV.1 P (KCS_fin k h2 hff)
      · rw [if_pos (by omega)] at k
        exact KCS_fin k h (jfr_refl _ _)
    · rw [if_pos (by omega)] at k
      exact KCS_fin k h (jfr_refl _ _)
  · rw [if_pos (by omega)] at k
    exact KCS_fin k h (jfr_refl _ _)
/-- the reference -/
theorem m_ct22 {d : Nat} {b : BK} {ξ : JM} {Q : JQ} {W B a1 : Int} (hv : vb b) (hM : isM ξ b) (hW : 0 ≤ W ∧ W ≤ 9999) (hB : 0 ≤ B ∧ B ≤ 9999) : ∀ (k : Nat) (s o : Int) (u : JV), s12 s → s12 o → s ≠ o → 13 ≤ pop12 s.toNat + k → Q (cms b W B k s) ξ → wp true (d + 2) 305 8 [(40, 0), (0, a1), (0, W), (0, B), (0, s), (0, o), u] [] ξ Q
  | 0, s, o, u, hs, _, _, hp, _ => by
    have := pop_in (n := s.toNat) (by omega)
    omega
  | k + 1, s, o, u, hs, ho, hne, hp, hQ => by
    have nb := vb_n hv
    have hnn := nn_eq hv
    have mb := vb_m hv
    have p12 := cps12 (W := W) (B := B) hv hs
    refine s_X11_comesTo_8 _ _ _ _ _ _ _ _ _ ⟨Or.inr ⟨⟨by omega, by omega⟩, ⟨by omega, by omega⟩⟩, fun h => absurd h.symm hne, fun _ => ?_⟩
    refine fup_loop (W := fun i (x : Int) => wp true (d + 2) 305 22 [(40, 0), (0, a1), (0, W), (0, B), (0, x), (0, s), (0, i)] [] ξ Q) (g := pcm b W B) (fun _ x => s12 x ∧ sub s x) (lo := 0) (n := b 5 1) (pcm_in hv s) (fun i x i0 i1 hx hW2 => ?_) (nm b) 0 s (by omega) (nm_eq hv) ⟨hs, fun _ h => h⟩ (fun hx => ?_)
    · have t := isM_t hM i0 i1
      have tt := vb_t hv i0 i1
      refine s_X11_comesTo_22 _ _ _ _ _ _ _ _ _ ?_
      rw [isM_m hM, t.2.2.1]
      refine ⟨by omega, by omega, ⟨⟨by omega, by omega⟩, ⟨by omega, by omega⟩⟩, fun h => absurd h (by omega), fun _ => ⟨by omega, by omega, w_isFrom ⟨by omega, by omega⟩ ⟨by omega, by omega⟩ ⟨by omega, by omega⟩ (fun w0 w1 => ⟨by decide, fun h => absurd h (by decide), fun _ => ?_⟩) (fun w2 => ⟨by decide, fun _ => ?_, fun h => absurd rfl h⟩)⟩⟩
      · rw [t.1]
        refine ⟨by omega, by omega, w_has ⟨by omega, by omega⟩ (fun hb => ⟨by decide, fun h => absurd h (by decide), fun _ => ?_⟩) (fun hb => ⟨by decide, fun _ => ?_, fun h => absurd rfl h⟩)⟩
        · rw [t.2.1]
          refine ⟨by omega, by omega, ?_⟩
          rw [show pcm b W B x i = jor x (jshl 1 (b 1 i)) from if_pos ⟨⟨by omega, by omega⟩, hb⟩] at hW2
          exact hW2
        · rw [show pcm b W B x i = x from if_neg (fun h => by rw [hb] at h; cases h.2)] at hW2
          exact hW2
      · rw [show pcm b W B x i = x from if_neg (fun h => w2 ⟨h.1.1, by omega⟩)] at hW2
        exact hW2
    · refine s_X11_comesTo_22 _ _ _ _ _ _ _ _ _ ?_
      rw [isM_m hM]
      refine ⟨by omega, by omega, ⟨⟨by omega, by omega⟩, ⟨by omega, by omega⟩⟩, fun _ => ?_, fun h => absurd (Int.le_refl _) h⟩
      have e : cms b W B (k + 1) s = if cps b W B s = s then s else cms b W B k (cps b W B s) := rfl
      rw [e] at hQ
      change wp true (d + 2) 305 8 [(40, 0), (0, a1), (0, W), (0, B), (0, cps b W B s), (0, s), _] [] ξ Q
      by_cases hf : cps b W B s = s
      · rw [if_pos hf] at hQ
        rw [hf]
        exact s_X11_comesTo_8 _ _ _ _ _ _ _ _ _ ⟨Or.inl rfl, fun _ => hQ, fun h => absurd rfl h⟩
      · rw [if_neg hf] at hQ
        have pl := pop_sub hs p12.1 p12.2 hf
        exact m_ct22 hv hM hW hB k (cps b W B s) s _ p12.1 hs hf (by omega) hQ
theorem m_comesTo {d : Nat} {b : BK} {ξ : JM} {Q : JQ} {W B a : Int} (hv : vb b) (hM : isM ξ b) (hW : 0 ≤ W ∧ W ≤ 9999) (hB : 0 ≤ B ∧ B ≤ 9999) (ha : 0 ≤ a ∧ a < b 5 0) (k : Q (pS b W B a) ξ) : wp true (d + 2) 305 0 [(40, 0), (0, a), (0, W), (0, B), (9, 0), (9, 0), (9, 0)] [] ξ Q := by
  have nb := vb_n hv
  have hnn := nn_eq hv
  have p1 := pop_bit (k := a) (by omega)
  exact s_X11_comesTo_0 _ _ _ _ _ _ (m_ct22 hv hM hW hB 12 (jshl 1 a) 0 _ (s12_bit (by omega)) ⟨by omega, by omega⟩ p1.2 (by omega) k)
theorem m_partOf {d : Nat} {b : BK} {ξ : JM} {Q : JQ} {W B a : Int} (hv : vb b) (hM : isM ξ b) (hW : 0 ≤ W ∧ W ≤ 9999) (hB : 0 ≤ B ∧ B ≤ 9999) (ha : 0 ≤ a ∧ a < b 5 0) (k : Q (pTn b W B a (nn b)) ξ) : wp true (d + 3) 306 0 [(40, 0), (0, a), (0, W), (0, B), (9, 0), (9, 0)] [] ξ Q := by
  have nb := vb_n hv
  have hnn := nn_eq hv
  refine s_X11_partOf_0 _ _ _ _ _ _ (nlp (W := fun i c => wp true (d + 3) 306 6 [(40, 0), (0, a), (0, W), (0, B), (0, c), (0, i)] [] ξ Q) (f := pTn b W B a) (N := nn b) (fun n hn hW2 => ?_) ?_)
  · have e1 : pTn b W B a (n + 1) = if tg b W B a (n : Int) = true then jor (pTn b W B a n) (jshl 1 (n : Int)) else pTn b W B a n := rfl
    have et : tg b W B a (n : Int) = (bt (pS b W B a) ((n : Int)).toNat && bt (pS b W B (n : Int)) a.toNat) := rfl
    have hi : 0 ≤ (n : Int) ∧ (n : Int) < b 5 0 := ⟨by omega, by omega⟩
    rw [e1, et] at hW2
    refine s_X11_partOf_6 (d + 2) _ _ _ _ _ _ _ ?_
    rw [isM_n hM]
    refine ⟨by omega, by omega, ⟨⟨by omega, by omega⟩, ⟨by omega, by omega⟩⟩, fun h => absurd h (by omega), fun _ => m_comesTo hv hM hW hB ha (w_has ⟨by omega, by omega⟩ (fun hb => ⟨by decide, fun h => absurd h (by decide), fun _ => m_comesTo hv hM hW hB hi (w_has ⟨by omega, by omega⟩ (fun hb2 => ⟨by decide, fun h => absurd h (by decide), fun _ => ?_⟩) (fun hb2 => ⟨by decide, fun _ => ?_, fun h => absurd rfl h⟩))⟩) (fun hb => ⟨by decide, fun _ => ?_, fun h => absurd rfl h⟩))⟩
    · rw [hb, hb2, if_pos (by decide)] at hW2
      exact hW2
    · rw [hb, hb2, if_neg (by decide)] at hW2
      exact hW2
    · rw [hb, if_neg (by simp)] at hW2
      exact hW2
  · refine s_X11_partOf_6 (d + 2) _ _ _ _ _ _ _ ?_
    rw [isM_n hM]
    exact ⟨by omega, by omega, ⟨⟨by omega, by omega⟩, ⟨by omega, by omega⟩⟩, fun _ => k, fun h => absurd (by omega) h⟩
theorem m_leastOf {d : Nat} {b : BK} {ξ : JM} {Q : JQ} {W B a : Int} (hv : vb b) (ha : 0 ≤ a ∧ a < b 5 0) (k : Q (lsa b W B a) ξ) : wp true (d + 1) 307 0 [(0, pTn b W B a (nn b)), (9, 0)] [] ξ Q := by
  have nb := vb_n hv
  have hnn := nn_eq hv
  have p := (pTn_in b W B a (nn b) (by omega)).2.1
  have hp' : ∀ i : Int, 0 ≤ i → i < b 5 0 → bt (pTn b W B a (nn b)) i.toNat = tg b W B a i := fun i i0 i1 => by
    rw [p, decide_eq_true (by omega), show ((i.toNat : Nat) : Int) = i by omega]
    rfl
  refine s_X11_leastOf_0 _ _ _ _ (ffst_lp (p := tg b W B a) (W := fun i => wp true (d + 1) 307 2 [(0, pTn b W B a (nn b)), (0, i)] [] ξ Q) (lo := 0) (n := a) (fun i i0 i1 hp hb => ?_) (fun i i0 i1 hp hW => ?_) (fun hb => ?_) a.toNat 0 (Int.le_refl _) (by omega) (fun j h1 h2 => by omega))
  · have e := ffst_eq (k := a.toNat) i0 (by omega) hp hb
    unfold lsa at k
    rw [e] at k
    refine s_X11_leastOf_2 _ _ _ _ _ (w_has ⟨i0, by omega⟩ (fun _ => ⟨by decide, fun _ => ?_, fun h => absurd (by decide) h⟩) (fun h => by rw [hp' i i0 (by omega), hp] at h; cases h))
    exact k
  · exact s_X11_leastOf_2 _ _ _ _ _ (w_has ⟨i0, by omega⟩ (fun h => by rw [hp' i i0 (by omega), hp] at h; cases h) (fun _ => ⟨by decide, fun h => absurd rfl h, fun _ => hW⟩))
  · have e := ffst_no (p := tg b W B a) (k := a.toNat) (lo := 0) (fun j j0 j1 => hb j j0 (by omega))
    unfold lsa at k
    rw [e, show (0 : Int) + (a.toNat : Int) = a by omega] at k
    refine s_X11_leastOf_2 _ _ _ _ _ (w_has ⟨ha.1, by omega⟩ (fun _ => ⟨by decide, fun _ => ?_, fun h => absurd (by decide) h⟩) (fun h => by rw [hp' a ha.1 ha.2, tg_refl hv ha] at h; cases h))
    exact k
theorem m_part {d : Nat} {b : BK} {A K : List BK} {ν : JM} {Q : JQ} (hV : VS b A K) (h : MI b A K ν) {a W B : Int} (ha : inR a) (hW : inR W) (hB : inR B) (k : KM b A K ν Q (oPart b a W B)) : wp true (d + 13) 308 0 [(40, 0), (0, a), (0, W), (0, B)] [] ν Q := by
  unfold oPart at k
  refine s_X11_part_0 (d + 12) _ _ _ _ _ (w_isFrom hW ⟨by omega, by omega⟩ ⟨by omega, by omega⟩ (fun w0 w1 => ⟨by decide, fun h => absurd h (by decide), fun _ => ?_⟩) (fun w2 => ⟨by decide, fun _ => ?_, fun h => absurd rfl h⟩))
  · refine w_isFrom hB ⟨by omega, by omega⟩ ⟨by omega, by omega⟩ (fun b0 b1 => ⟨by decide, fun _ => ?_, fun h => absurd (by decide) h⟩) (fun b2 => ⟨by decide, fun h => absurd rfl h, fun _ => ?_⟩)
    · rw [if_neg (by omega)] at k
      refine w_isAccount h.1 hV.1 ha (fun a0 a1 => ⟨by decide, fun h => absurd h (by decide), fun _ => ?_⟩) (fun a2 => ⟨by decide, fun _ => ?_, fun h => absurd rfl h⟩)
      · rw [if_neg (by omega)] at k
        exact m_partOf (d := d + 9) hV.1 h.1 ⟨w0, w1⟩ ⟨b0, b1⟩ ⟨a0, a1⟩ (m_leastOf (d := d + 11) hV.1 ⟨a0, a1⟩ (KM_fin hV k h (jfr_refl _ _)))
      · rw [if_pos a2] at k
        exact KM_fin hV k h (jfr_refl _ _)
    · rw [if_pos (Or.inr b2)] at k
      exact KM_fin hV k h (jfr_refl _ _)
  · rw [if_pos (Or.inl w2)] at k
    exact KM_fin hV k h (jfr_refl _ _)
def ms (b : BK) (W B : Int) (n : Nat) : Int := if n = 0 then 0 else siz b W B (gre b W B n)
theorem m_bitsP {d : Nat} {b : BK} {ξ : JM} {Q : JQ} {W B a : Int} (hv : vb b) (k : Q (siz b W B a) ξ) : wp true d 195 0 [(0, pTn b W B a (nn b)), (9, 0), (9, 0)] [] ξ Q := by
  have nb := vb_n hv
  have hnn := nn_eq hv
  have p := pTn_in b W B a (nn b) (by omega)
  have := m_bits (d := d) (n := (pTn b W B a (nn b)).toNat) (μ := ξ) (Q := Q) (by omega) (by rw [p.2.2]; exact k)
  rw [show (((pTn b W B a (nn b)).toNat : Nat) : Int) = pTn b W B a (nn b) by omega] at this
  exact this
theorem m_parts {d : Nat} {b : BK} {A K : List BK} {ν : JM} {Q : JQ} (hV : VS b A K) (h : MI b A K ν) {W B x : Int} (hW : inR W) (hB : inR B) (hx : inR x) (k : KM b A K ν Q (oParts b W B x)) : wp true (d + 13) 309 0 [(40, 0), (0, W), (0, B), (0, x), (9, 0), (9, 0), (9, 0), (9, 0), (9, 0), (9, 0)] [] ν Q := by
  unfold oParts at k
  have nb := vb_n hV.1
  have hnn := nn_eq hV.1
  refine s_X11_parts_0 (d + 12) _ _ _ _ _ (w_isFrom hW ⟨by omega, by omega⟩ ⟨by omega, by omega⟩ (fun w0 w1 => ⟨by decide, fun h => absurd h (by decide), fun _ => ?_⟩) (fun w2 => ⟨by decide, fun _ => ?_, fun h => absurd rfl h⟩))
  · refine w_isFrom hB ⟨by omega, by omega⟩ ⟨by omega, by omega⟩ (fun b0 b1 => ⟨by decide, fun h => absurd h (by decide), fun _ => ?_⟩) (fun b2 => ⟨by decide, fun _ => ?_, fun h => absurd rfl h⟩)
    · refine w_isFrom hx ⟨by omega, by omega⟩ ⟨by omega, by omega⟩ (fun x0 x1 => ⟨by decide, fun _ => ?_, fun h => absurd (by decide) h⟩) (fun x2 => ⟨by decide, fun h => absurd rfl h, fun _ => ?_⟩)
      · rw [if_neg (by omega)] at k
        refine nlp (W := fun i (p : Int × Int × Int × Int) => ∀ u, wp true (d + 13) 309 52 [(40, 0), (0, W), (0, B), (0, x), (0, p.1), (0, p.2.1), (0, p.2.2.1), (0, p.2.2.2), (0, i), u] [] ν Q) (f := fun n => (cfn b W B 1 n, cfn b W B 2 n, gre b W B n, ms b W B n)) (N := nn b) (fun n hn hW2 u => ?_) (fun u => ?_) _
        · have hi : 0 ≤ (n : Int) ∧ (n : Int) < b 5 0 := ⟨by omega, by omega⟩
          have l := lsa_in (b := b) (W := W) (B := B) hi.1
          have z := siz_in hV.1 W B (n : Int)
          have zp := siz_pos (W := W) (B := B) hV.1 hi
          have zl := siz_lsa (W := W) (B := B) hV.1 hi
          have g := gre_in b W B n
          have z2 := siz_in hV.1 W B (gre b W B n)
          have e1 : cfn b W B 1 (n + 1) = cfn b W B 1 n + if lsa b W B (n : Int) = (n : Int) ∧ 1 ≤ siz b W B (n : Int) then 1 else 0 := rfl
          have e2 : cfn b W B 2 (n + 1) = cfn b W B 2 n + if lsa b W B (n : Int) = (n : Int) ∧ 2 ≤ siz b W B (n : Int) then 1 else 0 := rfl
          have e3 : gre b W B (n + 1) = if siz b W B (gre b W B n) < siz b W B (n : Int) then (n : Int) else gre b W B n := rfl
          have e4 : ms b W B (n + 1) = siz b W B (gre b W B (n + 1)) := if_neg (by omega)
          have e5 : ms b W B n = if n = 0 then 0 else siz b W B (gre b W B n) := rfl
          have g0 : n = 0 → siz b W B (gre b W B n) = siz b W B (n : Int) := fun h => by subst h; rfl
          dsimp only at hW2 ⊢
          rw [e4] at hW2
          refine s_X11_parts_52 (d + 12) _ _ _ _ _ _ _ _ _ _ _ ?_
          rw [isM_n h.1]
          refine ⟨by omega, by omega, ⟨⟨by omega, by omega⟩, ⟨by omega, by omega⟩⟩, fun h => absurd h (by omega), fun _ => m_partOf (d := d + 9) hV.1 h.1 ⟨w0, w1⟩ ⟨b0, b1⟩ hi (m_leastOf (d := d + 11) hV.1 hi ⟨Or.inr ⟨⟨by omega, by omega⟩, ⟨by omega, by omega⟩⟩, fun he => m_bitsP hV.1 ⟨⟨⟨by omega, by omega⟩, ⟨by omega, by omega⟩⟩, fun hle => ?_, fun hgt => ?_⟩, fun hne => ?_⟩)⟩
          · rw [e1, if_pos ⟨he, zp⟩, e2, if_neg (by omega), Int.add_zero] at hW2
            refine s_X11_parts_104 (d + 12) _ _ _ _ _ _ _ _ _ _ _ _ _ (m_bitsP hV.1 ⟨⟨⟨by omega, by omega⟩, ?_⟩, fun hlt => m_bitsP hV.1 ?_, fun hge => ?_⟩)
            · rw [e5]
              split <;> exact ⟨by omega, by omega⟩
            · have eg : gre b W B (n + 1) = (n : Int) := by
                rw [e3]
                split
                · rfl
                · rename_i hc
                  rw [e5] at hlt
                  split at hlt
                  · rename_i h0
                    have := g.2.1
                    omega
                  · omega
              rw [eg] at hW2
              rw [Int.add_zero]
              exact hW2 _
            · have hn0 : ¬ n = 0 := fun h0 => by
                rw [e5, if_pos h0] at hge
                omega
              rw [e5, if_neg hn0] at hge ⊢
              rw [e3, if_neg hge] at hW2
              rw [Int.add_zero]
              exact hW2 _
          · rw [e1, if_pos ⟨he, zp⟩, e2, if_pos ⟨he, by omega⟩] at hW2
            refine s_X11_parts_104 (d + 12) _ _ _ _ _ _ _ _ _ _ _ _ _ (m_bitsP hV.1 ⟨⟨⟨by omega, by omega⟩, ?_⟩, fun hlt => m_bitsP hV.1 ?_, fun hge => ?_⟩)
            · rw [e5]
              split <;> exact ⟨by omega, by omega⟩
            · have eg : gre b W B (n + 1) = (n : Int) := by
                rw [e3]
                split
                · rfl
                · rename_i hc
                  rw [e5] at hlt
                  split at hlt
                  · rename_i h0
                    have := g.2.1
                    omega
                  · omega
              rw [eg] at hW2
              exact hW2 _
            · have hn0 : ¬ n = 0 := fun h0 => by
                rw [e5, if_pos h0] at hge
                omega
              rw [e5, if_neg hn0] at hge ⊢
              rw [e3, if_neg hge] at hW2
              exact hW2 _
          · have hn0 : ¬ n = 0 := fun h0 => by omega
            have gl := g.2.2 (lsa b W B (n : Int)).toNat (by omega)
            rw [show (((lsa b W B (n : Int)).toNat : Nat) : Int) = lsa b W B (n : Int) by omega, zl] at gl
            rw [e1, if_neg (fun h => hne h.1), Int.add_zero, e2, if_neg (fun h => hne h.1), Int.add_zero, e3, if_neg (by omega)] at hW2
            rw [e5, if_neg hn0]
            exact hW2 _
        · have e5 : ms b W B (nn b) = if nn b = 0 then 0 else siz b W B (gre b W B (nn b)) := rfl
          dsimp only
          refine s_X11_parts_52 (d + 12) _ _ _ _ _ _ _ _ _ _ _ ?_
          rw [isM_n h.1]
          refine ⟨by omega, by omega, ⟨⟨by omega, by omega⟩, ⟨by omega, by omega⟩⟩, fun _ => ⟨Or.inr ⟨hx, ⟨by omega, by omega⟩⟩, fun n0 => ⟨Or.inr ⟨hx, ⟨by omega, by omega⟩⟩, fun n1 => ⟨Or.inr ⟨hx, ⟨by omega, by omega⟩⟩, fun n2 => ?_, fun e => ?_⟩, fun e => ?_⟩, fun e => ?_⟩, fun h => absurd (by omega) h⟩
          · rw [if_neg n0, if_neg n1, if_neg n2] at k
            exact KM_fin hV k h (jfr_refl _ _)
          · rw [if_neg n0, if_neg n1, if_pos (by omega)] at k
            by_cases h0 : nn b = 0
            · rw [if_pos (by omega)] at k
              rw [e5, if_pos h0]
              exact KM_fin hV k h (jfr_refl _ _)
            · rw [if_neg (by omega)] at k
              rw [e5, if_neg h0]
              exact KM_fin hV k h (jfr_refl _ _)
          · rw [if_neg n0, if_pos (by omega)] at k
            exact KM_fin hV k h (jfr_refl _ _)
          · rw [if_pos (by omega)] at k
            exact KM_fin hV k h (jfr_refl _ _)
      · rw [if_pos (by omega)] at k
        exact KM_fin hV k h (jfr_refl _ _)
    · rw [if_pos (by omega)] at k
      exact KM_fin hV k h (jfr_refl _ _)
  · rw [if_pos (by omega)] at k
    exact KM_fin hV k h (jfr_refl _ _)
