/-! would -/
theorem pcl_app (L : LL) (r : List Int) (t : Int) : ∀ n, n ≤ L.length → pcl (L ++ [r]) t n = pcl L t n
  | 0, _ => rfl
  | n + 1, h => by
    have e : ∀ F : LL, pcl F t (n + 1) = if rls (F.getD n []) = t then pcl F t n + 1 else pcl F t n := fun _ => rfl
    rw [e, e, pcl_app L r t n (by omega), gda_l (by omega)]
def IW (b : BK) (t : Int) (ν1 : JM) (L : LL) (ν : JM) : Prop := jfr (fun x y i => y = 1 ∧ ((x = 22 ∧ (i = 2 ∨ i = 5)) ∨ x = 32 ∨ x = 33)) ν1 ν ∧ isC ν 3 b ∧ nextC b ν 1 ∧ ν 22 1 2 = b 4 0 ∧ ν 22 1 4 = t ∧ ν 22 1 5 = pcl L t L.length
theorem IW_HI {b : BK} (hv : vb b) {t : Int} {ν1 : JM} : HI 1 b (fun _ => b 4 0) (IW b t ν1) := by
  intro L ν h
  have := vb_w hv
  exact ⟨h.2.2.2.1, (show inR (b 4 0) from ⟨by omega, by omega⟩), h.2.1, h.2.2.1⟩
theorem IW_HF {b : BK} {t : Int} {ν1 : JM} : HF 1 (IW b t ν1) := by
  intro L ν ξ h hf
  obtain ⟨h1, h2, h3, h4, h5, h6⟩ := h
  exact ⟨jfr_trans h1 (jfr_mono hf (fun t y i h => by omega)), isC_fr h2 (fun t _ _ i => hf _ _ _ (by omega)), nextC_fr h3 (fun i => hf _ _ _ (by omega)), by rw [hf _ _ _ (by omega)]; exact h4, by rw [hf _ _ _ (by omega)]; exact h5, by rw [hf _ _ _ (by omega)]; exact h6⟩
theorem IW_HM {b : BK} (hv : vb b) {F : LL} {t : Int} (ht : inR t) {ν1 : JM} : HMt 1 b F (IW b t ν1) := by
  intro d L p ν R h hpa hp hp2 hcl hpre k
  refine ⟨fun h => absurd h (by decide), fun _ => ?_, fun h => absurd h (by decide)⟩
  obtain ⟨h1, h2, h3, h4, h5, h6⟩ := h
  have hm := vb_m hv
  have hh := pin_hd hp
  have hl5 := hp.2.1
  have e5 : pcl (L ++ [p.reverse]) t (L ++ [p.reverse]).length = if hd p = t then pcl L t L.length + 1 else pcl L t L.length := by
    rw [List.length_append, List.length_singleton]
    have e : pcl (L ++ [p.reverse]) t (L.length + 1) = if rls ((L ++ [p.reverse]).getD L.length []) = t then pcl (L ++ [p.reverse]) t L.length + 1 else pcl (L ++ [p.reverse]) t L.length := rfl
    rw [e, pcl_app L _ t _ (Nat.le_refl _), gda_r (Nat.le_refl _), Nat.sub_self]
    have er : rls p.reverse = hd p := by
      cases p with
      | nil => exact absurd rfl hp.1
      | cons a l =>
        show (a :: l).reverse.getD ((a :: l).reverse.length - 1) 0 = a
        rw [List.reverse_cons, List.length_append, List.length_singleton, Nat.add_sub_cancel, gda_r (Nat.le_refl _), Nat.sub_self]
        rfl
    rw [show ([p.reverse] : LL).getD 0 [] = p.reverse from rfl, er]
  refine s_X2_meet_0 _ _ _ _ ?_
  rw [pathC_l hpa hp.1, h5]
  refine ⟨by omega, by omega, Or.inr ⟨⟨by omega, by omega⟩, ht⟩, fun hne => ?_, fun he => ?_⟩
  · rw [if_neg hne] at e5
    exact k ν ⟨h1, h2, h3, h4, h5, by rw [e5]; exact h6⟩ (fun _ => rfl)
  · rw [if_pos (Decidable.byContradiction he)] at e5
    have e : ∀ x y i, ¬ (x = 22 ∧ y = 1 ∧ i = 5) → jw ν 22 1 5 (ν 22 1 5 + 1) x y i = ν x y i := fun x y i h => by
      unfold jw
      rw [if_neg (by omega)]
    exact k _ ⟨jfr_jw h1 (by omega), isC_fr h2 (fun t _ _ i => e _ _ _ (by omega)), nextC_fr h3 (fun i => e _ _ _ (by omega)), by rw [e _ _ _ (by omega)]; exact h4, by rw [e _ _ _ (by omega)]; exact h5, by rw [jw_eq, e5, h6]⟩ (fun i => e _ _ _ (by omega))
abbrev pwb (b : BK) (f t a w : Int) : BK := pins b (pdn b w (nm b)) f t a w
def aWould (b : BK) (A K : List BK) (f t a w : Int) : (Int × Int) × ST := (if pwhy b f t a w = 0 then (pcl (FR (pwb b f t a w)) (pdn b w (nm b)) (FR (pwb b f t a w)).length, 0) else (-1, pwhy b f t a w), b, A, K)
theorem c_would {d : Nat} {b : BK} {A K : List BK} {c : Int} {ν : JM} {Q : JQ} (hV : VS b A K) (h : CI b A K c ν) {f t a w : Int} (hf : inR f) (ht : inR t) (ha : inR a) (hw : inR w) (k : KCS c ν Q (aWould b A K f t a w)) : wp true (d + 14) 150 0 [(11, 0), (0, f), (0, t), (0, a), (0, w), (9, 0)] [] ν Q := by
  have p := pwhy_in b f t a w
  unfold aWould at k
  refine s_X10_would_0 (d + 13) _ _ _ _ _ _ (c_why (d := d + 11) h.1 hV.1 hf ht ha hw ⟨Or.inr ⟨⟨by omega, by omega⟩, ⟨by omega, by omega⟩⟩, fun h0 => ?_, fun h0 => ?_⟩)
  · rw [if_pos h0] at k
    obtain ⟨q1, q2, q3, q4, q5, q6⟩ := pwhy_0 hV.1 h0
    have hv' : vb (pwb b f t a w) := vb_pins hV.1 q5 q3 q4 q6 q1 q2
    have hp := pdn_le b w (nm b)
    have hnm := nm_eq hV.1
    have hm := vb_m hV.1
    refine s_X2_countFor_0 (d + 12) _ _ _ _ _ _ _ (c_copy h.1 hV.1 (by omega) (fun ξ hf1 h1 => c_insert (d := d + 11) h1 hV.1 q5 hw (fun ζ hf2 h2 => ?_)))
    have e : ∀ x y i, ¬ (x = 22 ∧ y = 1 ∧ (i = 4 ∨ i = 5)) → jw (jw ζ 22 1 4 (pdn b w (nm b))) 22 1 5 0 x y i = ζ x y i := fun x y i h => by
      unfold jw
      rw [if_neg (by omega), if_neg (by omega)]
    refine c_hunt (d := d + 1) (F := pro (pwb b f t a w) (fun _ => (pwb b f t a w) 4 0)) (win := fun _ => (pwb b f t a w) 4 0) (I := IW (pwb b f t a w) (pdn b w (nm b)) (jw (jw ζ 22 1 4 (pdn b w (nm b))) 22 1 5 0)) (Or.inr (Or.inl rfl)) hv' (isC_fr h2 (fun t _ _ i => e _ _ _ (by omega))) (IW_HI hv') IW_HF (IW_HM hv' ⟨by omega, by omega⟩) List.prefix_rfl (fun η hf3 g1 g2 g3 => ?_) (fun η g => ?_)
    · refine ⟨jfr_mono hf3 (fun t y i h => by omega), g3, g2, g1, ?_, ?_⟩
      · rw [hf3 _ _ _ (by omega), jw_i (by omega), jw_eq]
      · rw [hf3 _ _ _ (by omega), jw_eq]
        rfl
    · rw [g.2.2.2.2.2]
      have ff : ∀ x y i, ¬ ((12 ≤ x ∧ x ≤ 17) ∧ y = 3) → ¬ (y = 1 ∧ (x = 22 ∨ x = 32 ∨ x = 33)) → η x y i = ν x y i := fun x y i h4 h5 => by
        rw [g.1 _ _ _ (by omega), e _ _ _ (by omega), hf2 _ _ _ (by omega), hf1 _ _ _ (by omega)]
      exact KCS_fin k (CI_fr h (Int.le_refl _) (fun t y i h => ff _ _ _ (by omega) (by omega))) (fun t y i h => ff _ _ _ (by omega) (by omega))
  · rw [if_neg h0] at k
    exact KCS_fin k h (jfr_refl _ _)
theorem m_would {d : Nat} {b : BK} {A K : List BK} {ν : JM} {Q : JQ} (hV : VS b A K) (h : MI b A K ν) {f t a w : Int} (hf : inR f) (ht : inR t) (ha : inR a) (hw : inR w) (k : KMS ν Q (aWould b A K f t a w)) : wp true (d + 13) 277 0 [(40, 0), (0, f), (0, t), (0, a), (0, w), (9, 0), (9, 0), (9, 0)] [] ν Q := by
  have p := pwhy_in b f t a w
  unfold aWould at k
  refine s_X11_would_0 (d + 12) _ _ _ _ _ _ (m_why (d := d + 10) h.1 hV.1 hf ht ha hw ⟨⟨⟨by omega, by omega⟩, ⟨by omega, by omega⟩⟩, fun h0 => ?_, fun h0 => ?_⟩)
  · rw [if_pos (by omega)] at k
    obtain ⟨q1, q2, q3, q4, q5, q6⟩ := pwhy_0 hV.1 (f := f) (t := t) (a := a) (w := w) (by omega)
    have hv' : vb (pwb b f t a w) := vb_pins hV.1 q5 q3 q4 q6 q1 q2
    have hp := pdn_le b w (nm b)
    have hnm := nm_eq hV.1
    have hm := vb_m hV.1
    refine m_copies (by omega) (by omega) (by omega) ?_
    generalize hμ : jcp ν 41 0 0 41 0 136 136 = μ
    have o1 : ∀ t y i, ¬ (t = 41 ∧ y = 0 ∧ 136 ≤ i ∧ i < 136 + 136) → μ t y i = ν t y i := fun t y i h => hμ ▸ jcp_out h
    have o2 : ∀ i, 136 ≤ i → i < 136 + 136 → μ 41 0 i = ν 41 0 (0 + (i - 136)) := fun i h1 h2 => hμ ▸ jcp_in h1 h2
    have hM1 : isM μ b := isF_fr h.1 (vb_m hV.1).2 (fun i i0 i1 => o1 _ _ _ (by omega))
    refine m_comes (d := d + 9) hM1 hV.1 q5 hw (fun ζ hf2 h4 h5 => ?_)
    have h2 : MI (pwb b f t a w) A K ζ := MI_act h4 (hM_fr hV.2.1 h.2.1 (fun t x i h => by rw [hf2 _ _ _ (by omega), o1 _ _ _ (by omega)])) (kM_fr hV.2.2 h.2.2.1 (fun t x i h => by rw [hf2 _ _ _ (by omega), o1 _ _ _ (by omega)])) h5
    refine m_layI ⟨hv', hV.2.1, hV.2.2⟩ h2 (fun η h3 hL hf3 _ => m_closes (d := d + 10) hv' h3.1 (FR_gd hv') hL (FR_le hv') ⟨by omega, by omega⟩ (m_copies (by omega) (by omega) (by omega) ⟨by omega, by omega, ?_⟩))
    generalize hθ : jcp η 41 0 136 41 0 0 136 = θ
    have p1 : ∀ t y i, ¬ (t = 41 ∧ y = 0 ∧ 0 ≤ i ∧ i < 0 + 136) → θ t y i = η t y i := fun t y i h => hθ ▸ jcp_out h
    have p2 : ∀ i, 0 ≤ i → i < 0 + 136 → θ 41 0 i = η 41 0 (136 + (i - 0)) := fun i h1 h2 => hθ ▸ jcp_in h1 h2
    have e : ∀ t y i, ¬ (t = 40 ∧ y = 0 ∧ i = 12) → jw θ 40 0 12 0 t y i = θ t y i := fun t y i h => by
      unfold jw
      rw [if_neg (by omega)]
    refine KMS_fin hV.2.1 hV.2.2 k (MI_act (isF_fr h.1 (vb_m hV.1).2 (fun i i0 i1 => ?_)) (hM_fr hV.2.1 h3.2.1 (fun t x i h => by rw [e _ _ _ (by omega), p1 _ _ _ (by omega)])) (kM_fr hV.2.2 h3.2.2.1 (fun t x i h => by rw [e _ _ _ (by omega), p1 _ _ _ (by omega)])) (jw_eq _ _ _ _ _)) (fun t y i h => ?_)
    · rw [e _ _ _ (by omega), p2 _ i0 (by omega), hf3 _ _ _ (by omega), hf2 _ _ _ (by omega), o2 _ (by omega) (by omega)]
      congr 1
      omega
    · rw [e _ _ _ (by omega), p1 _ _ _ (by omega), hf3 _ _ _ (by omega), hf2 _ _ _ (by omega), o1 _ _ _ (by omega)]
  · rw [if_neg (by omega)] at k
    exact KMS_fin hV.2.1 hV.2.2 k h (jfr_refl _ _)
