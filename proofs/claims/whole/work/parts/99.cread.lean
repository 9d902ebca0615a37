/-! the class reads a text as pparse says -/
abbrev PRd : Nat → Int → Int → Prop := fun t y i => (t = 20 ∧ y = 0 ∧ ((2 ≤ i ∧ i ≤ 3) ∨ (7 ≤ i ∧ i ≤ 12))) ∨ (t = 28 ∧ y = 0) ∨ ((12 ≤ t ∧ t ≤ 17) ∧ y = 1)
def CR (f : TX) (n : Int) (b : BK) (N : Int → Int) (o : Int) (t : TK) (ν : JM) : Prop := TXc f n ν ∧ isC ν 1 b ∧ CT f t ν ∧ ν 20 0 7 = o ∧ (∀ k, 0 ≤ k → k < b 5 0 → ν 28 0 k = N k) ∧ ν 20 0 2 = 0 ∧ ν 20 0 3 = -1
def RD (z : JM) (f : TX) (n : Int) (b : BK) (N : Int → Int) (o : Int) (t : TK) (ν : JM) : Prop := jfr PRd z ν ∧ CR f n b N o t ν
def RF (z : JM) (x : PF) (ν : JM) : Prop := jfr PRd z ν ∧ ν 20 0 2 = x.1 ∧ ν 20 0 3 = x.2 ∧ (1 ≤ x.1 ∧ x.1 ≤ 6)
def PK (z : JM) (f : TX) (n : Int) (Q : JQ) : Except PF PS → Prop
  | .error x => ∀ ξ, RF z x ξ → Q 0 ξ
  | .ok s => ∀ ξ, RD z f n s.1 s.2.1 s.2.2.1 s.2.2.2 ξ → Q 0 ξ
theorem pft_in (t : TK) {k : Int} (h : 1 ≤ k ∧ k ≤ 6) : 1 ≤ (pft t k).1 ∧ (pft t k).1 ≤ 6 := by
  unfold pft
  dsimp only
  split <;> omega
theorem CR_fr {f : TX} {n : Int} {b : BK} {N : Int → Int} {o : Int} {t t' : TK} {ν ξ : JM} (h : CR f n b N o t ν) (hf : jfr PAd ν ξ) (hc : CT f t' ξ) : CR f n b N o t' ξ := by
  obtain ⟨h1, h2, h3, h4, h5, h6, h7⟩ := h
  exact ⟨TXc_fr h1 (hf _ _ _ (by omega)) (fun i => hf _ _ _ (by omega)), isC_fr h2 (fun t _ _ i => hf _ _ _ (by omega)), hc, (hf _ _ _ (by omega)).trans h4, fun k k0 k1 => (hf _ _ _ (by omega)).trans (h5 k k0 k1), (hf _ _ _ (by omega)).trans h6, (hf _ _ _ (by omega)).trans h7⟩
section
variable {d : Nat} {f : TX} {n : Int} {b : BK} {N : Int → Int} {o : Int} {t : TK} {z ν : JM} {Q : JQ}
theorem c_adv (ho : okt f n) (hw : wft f n t) (h : RD z f n b N o t ν) (K : ∀ ξ, RD z f n b N o (nx f n t.2.2) ξ → Q 0 ξ) : wp true (d + 2) 85 0 [(20, 0)] [] ν Q := by
  have hw' := hw.2.1
  exact c_advance ho h.2.1 ⟨by omega, by omega⟩ h.2.2.2.1.2.2.1 (fun ξ hf hc => K ξ ⟨jfr_trans h.1 (jfr_mono hf (fun t y i h => by omega)), CR_fr h.2 hf hc⟩)
theorem c_failed {k : Int} (h : RD z f n b N o t ν) (hk : 1 ≤ k ∧ k ≤ 6) (K : ∀ ξ, RF z (k, t.2.1) ξ → Q 0 ξ) : wp true d 75 0 [(20, 0), (0, k)] [] ν Q := by
  obtain ⟨h0, h1, h2, h3, h4, h5, h6, h7⟩ := h
  refine s_X7_failed_0 _ _ _ _ ?_
  rw [h6]
  refine ⟨Or.inl rfl, fun h => absurd rfl h, fun _ => ⟨by decide, by decide, ?_⟩⟩
  refine K _ ⟨jfr_jw (jfr_jw h0 (by omega)) (by omega), (jw_i (by omega)).trans (jw_eq _ _ _ _ _), ?_, hk⟩
  rw [jw_eq, jw_i (by omega)]
  exact h3.2.1
theorem c_stands {w : Int} (hw : wft f n t) (hk : 1 ≤ w ∧ w ≤ 3) (h : RD z f n b N o t ν) (k1 : t.1 = w → Q 1 ν) (k0 : t.1 ≠ w → ∀ ξ, RF z (pft t 2) ξ → Q 0 ξ) : wp true (d + 1) 76 0 [(20, 0), (0, w)] [] ν Q := by
  have hr := hw.1
  unfold pft at k0
  refine s_X7_stands_0 _ _ _ _ ?_
  rw [h.2.2.2.1.1]
  refine ⟨Or.inr ⟨⟨by omega, by omega⟩, ⟨by omega, by omega⟩⟩, fun n4 => ⟨Or.inr ⟨⟨by omega, by omega⟩, ⟨by omega, by omega⟩⟩, fun e => ⟨by decide, by decide, k1 e⟩, fun ne => ?_⟩, fun e4 => ?_⟩
  · have k0 := k0 ne
    rw [if_neg n4] at k0
    exact c_failed h ⟨by omega, by omega⟩ (fun ξ hf => ⟨by decide, fun _ => ⟨by decide, by decide, k0 ξ hf⟩, fun h => absurd rfl h⟩)
  · have k0 := k0 (by omega)
    rw [if_pos (by omega)] at k0
    exact c_failed h ⟨by omega, by omega⟩ (fun ξ hf => ⟨by decide, by decide, k0 ξ hf⟩)
theorem c_takeSign {c : Int} (ho : okt f n) (hw : wft f n t) (hc : 0 ≤ c ∧ c ≤ 255) (h : RD z f n b N o t ν) (kb : ∀ x, psig f n c t = .error x → ∀ ξ, RF z x ξ → Q 0 ξ) (kg : ∀ t', psig f n c t = .ok t' → ∀ ξ, RD z f n b N o t' ξ → Q 1 ξ) : wp true (d + 3) 77 0 [(20, 0), (0, c)] [] ν Q := by
  have hw' := hw.2.1
  have hw2 := hw.2.2.1
  refine s_X7_takeSign_0 (d + 2) _ _ _ (c_stands (d := d + 1) hw ⟨by omega, by omega⟩ h (fun e3 => ⟨by decide, fun _ => ?_, fun h => absurd (by decide) h⟩) (fun n3 ξ hf => ⟨by decide, fun h => absurd rfl h, fun _ => ⟨by decide, by decide, ?_⟩⟩))
  · rw [h.2.2.2.1.2.1]
    have hi := ho.2 t.2.1 (by omega) (by omega)
    refine c_byteAt ho h.2.1 ⟨by omega, by omega⟩ ⟨Or.inr ⟨⟨by omega, by omega⟩, ⟨by omega, by omega⟩⟩, fun e => ?_, fun ne => ?_⟩
    · refine c_adv (d := d) ho hw h (fun ξ hx => ⟨by decide, by decide, kg _ ?_ ξ hx⟩)
      unfold psig
      rw [if_pos ⟨e3, e⟩]
    · refine c_failed h ⟨by omega, by omega⟩ (fun ξ hf => ⟨by decide, by decide, kb _ ?_ ξ hf⟩)
      unfold psig pft
      rw [if_neg (fun h => ne h.2), if_neg (by omega)]
  · refine kb _ ?_ ξ hf
    unfold psig
    rw [if_neg (fun h => n3 h.1)]
theorem c_takeAt (ho : okt f n) (hw : wft f n t) (h : RD z f n b N o t ν) (kb : ∀ x, pat f n t = .error x → ∀ ξ, RF z x ξ → Q 0 ξ) (kg : ∀ t', pat f n t = .ok t' → ∀ ξ, RD z f n b N o t' ξ → Q 1 ξ) : wp true (d + 3) 78 0 [(20, 0)] [] ν Q := by
  refine s_X7_takeAt_0 (d + 2) _ _ (c_stands (d := d + 1) hw ⟨by omega, by omega⟩ h (fun e1 => ⟨by decide, fun _ => ?_, fun h => absurd (by decide) h⟩) (fun n1 ξ hf => ⟨by decide, fun h => absurd rfl h, fun _ => ⟨by decide, by decide, ?_⟩⟩))
  · have kr := kwt_in f t
    rw [(h.2.2.2.1.2.2.2 e1).1]
    refine ⟨Or.inr ⟨⟨by omega, by omega⟩, ⟨by omega, by omega⟩⟩, fun e => ?_, fun ne => ?_⟩
    · refine c_adv (d := d) ho hw h (fun ξ hx => ⟨by decide, by decide, kg _ ?_ ξ hx⟩)
      unfold pat
      rw [if_pos ⟨e1, e⟩]
    · refine c_failed h ⟨by omega, by omega⟩ (fun ξ hf => ⟨by decide, by decide, kb _ ?_ ξ hf⟩)
      unfold pat pft
      rw [if_neg (fun h => ne h.2), if_neg (by omega)]
  · refine kb _ ?_ ξ hf
    unfold pat
    rw [if_neg (fun h => n1 h.1)]
theorem c_valueLoop (ho : okt f n) (hw : wft f n t) (h2 : t.1 = 2) (h : RD z f n b N o t ν) (K : Q (vlt f t) ν) : ∀ (j k : Nat), t.2.1 + (k : Int) + (j : Int) = t.2.2 → wp true (d + 1) 84 7 [(20, 0), (0, vlk f t.2.1 k), (0, t.2.1 + (k : Int))] [] ν Q := by
  have hw' := hw.2.1
  have h5 := hw.2.2.2.2 h2
  intro j
  induction j with
  | zero =>
    intro k hk
    have q := vlk_in (f := f) (b := t.2.1) (k := k) (by omega) (fun i i0 i1 => h5.2 i i0 (by omega))
    refine s_X7_numberValue_7 d _ _ _ _ ?_
    rw [h.2.2.2.1.2.2.1]
    refine ⟨⟨⟨by omega, by omega⟩, ⟨by omega, by omega⟩⟩, fun _ => ?_, fun h => absurd (by omega) h⟩
    unfold vlt at K
    rw [show (t.2.2 - t.2.1).toNat = k by omega] at K
    exact K
  | succ j ih =>
    intro k hk
    refine s_X7_numberValue_7 d _ _ _ _ ?_
    rw [h.2.2.2.1.2.2.1]
    refine ⟨⟨⟨by omega, by omega⟩, ⟨by omega, by omega⟩⟩, fun h => absurd h (by omega), fun _ => c_byteAt ho h.2.1 ⟨by omega, by omega⟩ ?_⟩
    have q := ih (k + 1) (by omega)
    rw [vlk_s, show t.2.1 + ((k + 1 : Nat) : Int) = t.2.1 + (k : Int) + 1 by omega, Int.mul_comm 10] at q
    exact q
theorem c_numberValue (ho : okt f n) (hw : wft f n t) (h2 : t.1 = 2) (h : RD z f n b N o t ν) (K : Q (vlt f t) ν) : wp true (d + 1) 84 0 [(20, 0), (9, 0), (9, 0)] [] ν Q := by
  have hw' := hw.2.1
  refine s_X7_numberValue_0 _ _ _ ?_
  rw [h.2.2.2.1.2.1]
  have q := c_valueLoop (d := d) ho hw h2 h K (t.2.2 - t.2.1).toNat 0 (by omega)
  rw [show t.2.1 + ((0 : Nat) : Int) = t.2.1 by omega] at q
  exact q
theorem c_takeNumber {lo hi : Int} (hl : 0 ≤ lo ∧ lo ≤ 1) (hh : hi = 9999) (ho : okt f n) (hw : wft f n t) (h : RD z f n b N o t ν) (kb : ∀ x, pnum f n lo hi t = .error x → ∀ ξ, RF z x ξ → Q (-1) ξ) (kg : ∀ v, pnum f n lo hi t = .ok v → ∀ ξ, RD z f n b N o v.2 ξ → Q v.1 ξ) : wp true (d + 3) 79 0 [(20, 0), (0, lo), (0, hi), (9, 0)] [] ν Q := by
  refine s_X7_takeNumber_0 (d + 2) _ _ _ _ (c_stands (d := d + 1) hw ⟨by omega, by omega⟩ h (fun e2 => ⟨by decide, fun _ => ?_, fun h => absurd (by decide) h⟩) (fun n2 ξ hf => ⟨by decide, fun h => absurd rfl h, fun _ => ?_⟩))
  · have vr := vlt_in hw e2
    refine c_numberValue (d := d + 1) ho hw e2 h ⟨⟨⟨by omega, by omega⟩, ⟨by omega, by omega⟩⟩, fun hlt => ?_, fun hge => ⟨⟨⟨by omega, by omega⟩, ⟨by omega, by omega⟩⟩, fun hle => ?_, fun hgt => ?_⟩⟩
    · refine c_failed h ⟨by omega, by omega⟩ (kb _ ?_)
      unfold pnum
      rw [if_pos e2, if_neg (by omega)]
    · refine c_adv (d := d) ho hw h (kg (vlt f t, nx f n t.2.2) ?_)
      unfold pnum
      rw [if_pos e2, if_pos ⟨by omega, by omega⟩]
    · refine c_failed h ⟨by omega, by omega⟩ (kb _ ?_)
      unfold pnum
      rw [if_pos e2, if_neg (by omega)]
  · refine kb _ ?_ ξ hf
    unfold pnum
    rw [if_neg n2]
theorem c_isName (ho : okt f n) (hw : wft f n t) (h : RD z f n b N o t ν) (h1 : t.1 = 1) (k1 : isnm f t → Q 1 ν) (k0 : ¬ isnm f t → Q 0 ν) : wp true d 83 0 [(20, 0)] [] ν Q := by
  have kr := kwt_in f t
  have hw' := hw.2.1
  have hn := ho.1
  refine s_X7_isName_0 _ _ _ ?_
  rw [(h.2.2.2.1.2.2.2 h1).1, h.2.2.2.1.2.2.1, h.2.2.2.1.2.1]
  exact ⟨Or.inr ⟨⟨by omega, by omega⟩, ⟨by omega, by omega⟩⟩, fun ne => ⟨by decide, by decide, k0 (fun h => ne h.1)⟩, fun e => ⟨⟨⟨by omega, by omega⟩, ⟨by omega, by omega⟩⟩, fun h6 => ⟨by decide, by decide, k0 (fun h => by have := h.2; omega)⟩, fun h6 => ⟨by decide, by decide, k1 ⟨by omega, by omega⟩⟩⟩⟩
theorem c_accountNamed (hw : wft f n t) (h : RD z f n b N o t ν) (hv : vb b) (hN : nmok b N) (h1 : t.1 = 1) (h6 : t.2.2 - t.2.1 ≤ 6) (K : Q (pfd N (b 5 0) (nmt f t)) ν) : wp true d 82 0 [(20, 0), (9, 0)] [] ν Q := by
  have hn := vb_n hv
  have vr := nmt_in hw h1 h6
  have hm : ν 20 0 12 = nmt f t := (h.2.2.2.1.2.2.2 h1).2 h6
  have cond : ∀ i, 0 ≤ i → i < b 5 0 → (jlcmp (N i) (nmt f t) = 0 ↔ N i = nmt f t) := fun i i0 i1 => by
    have := hN i i0 i1
    exact jlc ⟨by omega, by omega⟩ ⟨by omega, by omega⟩
  refine s_X7_accountNamed_0 _ _ _ ?_
  refine ffst_lp (p := fun k => decide (N k = nmt f t)) (W := fun i => wp true d 82 2 [(20, 0), (0, i)] [] ν Q) (lo := 0) (n := b 5 0) (fun i i0 i1 hp hbf => ?_) (fun i i0 i1 hp hW => ?_) (fun hbf => ?_) (b 5 0).toNat 0 (Int.le_refl _) (by omega) (fun j h1 h2 => by omega)
  · have e := of_decide_eq_true hp
    refine s_X7_accountNamed_2 _ _ _ _ ?_
    rw [isC_n h.2.2.1, hm, h.2.2.2.2.2.1 i i0 i1]
    refine ⟨⟨⟨by omega, by omega⟩, ⟨by omega, by omega⟩⟩, fun h => absurd h (by omega), fun _ => ⟨⟨⟨by omega, by omega⟩, ⟨by omega, by omega⟩⟩, fun h => absurd h (by omega), fun _ => ⟨by omega, by omega, Or.inr ⟨inR_i32 _, ⟨by omega, by omega⟩⟩, fun ne => absurd ((cond i i0 i1).2 e) ne, fun _ => ?_⟩⟩⟩
    rw [pfd_hit i0 i1 e (fun j j0 j1 => of_decide_eq_false (hbf j j0 j1))] at K
    exact K
  · have ne := of_decide_eq_false hp
    refine s_X7_accountNamed_2 _ _ _ _ ?_
    rw [isC_n h.2.2.1, hm, h.2.2.2.2.2.1 i i0 i1]
    exact ⟨⟨⟨by omega, by omega⟩, ⟨by omega, by omega⟩⟩, fun h => absurd h (by omega), fun _ => ⟨⟨⟨by omega, by omega⟩, ⟨by omega, by omega⟩⟩, fun h => absurd h (by omega), fun _ => ⟨by omega, by omega, Or.inr ⟨inR_i32 _, ⟨by omega, by omega⟩⟩, fun _ => hW, fun h => absurd ((cond i i0 i1).1 (Decidable.byContradiction h)) ne⟩⟩⟩
  · refine s_X7_accountNamed_2 _ _ _ _ ?_
    rw [isC_n h.2.2.1]
    refine ⟨⟨⟨by omega, by omega⟩, ⟨by omega, by omega⟩⟩, fun _ => ?_, fun h => absurd (Int.le_refl _) h⟩
    rw [pfd_no hn.1 (fun j j0 j1 => of_decide_eq_false (hbf j j0 j1))] at K
    exact K
theorem c_knownAccount (ho : okt f n) (hw : wft f n t) (h : RD z f n b N o t ν) (hv : vb b) (hN : nmok b N) (kb : ∀ x, pacc f b N t = .error x → ∀ ξ, RF z x ξ → Q (-1) ξ) (kg : ∀ a, pacc f b N t = .ok a → Q a ν) : wp true (d + 2) 81 0 [(20, 0), (9, 0)] [] ν Q := by
  have hn := vb_n hv
  have pr := pfd_in N hn.1 (nmt f t)
  refine s_X7_knownAccount_0 (d + 1) _ _ (c_stands (d := d) hw ⟨by omega, by omega⟩ h (fun e1 => ⟨by decide, fun _ => ?_, fun h => absurd (by decide) h⟩) (fun n1 ξ hf => ⟨by decide, fun h => absurd rfl h, fun _ => ?_⟩))
  · refine c_isName ho hw h e1 (fun hi => ⟨by decide, fun _ => ?_, fun h => absurd (by decide) h⟩) (fun hi => ⟨by decide, fun h => absurd rfl h, fun _ => ?_⟩)
    · refine c_accountNamed hw h hv hN e1 hi.2 ⟨Or.inr ⟨⟨by omega, by omega⟩, ⟨by omega, by omega⟩⟩, fun ne => kg _ ?_, fun e => ?_⟩
      · unfold pacc
        rw [if_pos e1, if_pos hi, if_neg ne]
      · have e : pfd N (b 5 0) (nmt f t) = -1 := by omega
        rw [e]
        refine c_failed h ⟨by omega, by omega⟩ (kb _ ?_)
        unfold pacc
        rw [if_pos e1, if_pos hi, if_pos e]
    · refine c_failed h ⟨by omega, by omega⟩ (kb _ ?_)
      unfold pacc
      rw [if_pos e1, if_neg hi]
  · refine kb _ ?_ ξ hf
    unfold pacc
    rw [if_neg n1]
theorem c_takeAccount {u : Int} (hu : -1 ≤ u ∧ u ≤ 12) (ho : okt f n) (hw : wft f n t) (h : RD z f n b N o t ν) (hv : vb b) (hN : nmok b N) (kb : ∀ x, pacc f b N t = .error x → ∀ ξ, RF z x ξ → Q (-1) ξ) (ku : ∀ a, pacc f b N t = .ok a → a = u → ∀ ξ, RF z (4, t.2.1) ξ → Q (-1) ξ) (kg : ∀ a, pacc f b N t = .ok a → a ≠ u → ∀ ξ, RD z f n b N o (nx f n t.2.2) ξ → Q a ξ) : wp true (d + 3) 80 0 [(20, 0), (0, u), (9, 0)] [] ν Q := by
  have hn := vb_n hv
  refine s_X7_takeAccount_0 (d + 2) _ _ _ (c_knownAccount (d := d) ho hw h hv hN (fun x hx ξ hf => ⟨Or.inl rfl, fun h => absurd rfl h, fun _ => kb x hx ξ hf⟩) (fun a ha => ?_))
  have q := pacc_ok hv ha
  exact ⟨Or.inr ⟨⟨by omega, by omega⟩, ⟨by omega, by omega⟩⟩, fun _ => ⟨Or.inr ⟨⟨by omega, by omega⟩, ⟨by omega, by omega⟩⟩, fun ne => c_adv (d := d) ho hw h (kg a ha ne), fun e => c_failed h ⟨by omega, by omega⟩ (ku a ha (by omega))⟩, fun h => absurd h (by omega)⟩
end
theorem psig_wf {f : TX} {n c : Int} {t t' : TK} (hw : wft f n t) (h : psig f n c t = .ok t') : wft f n t' ∧ t' = nx f n t.2.2 := by
  have q := psig_ok h
  have hw' := hw.2.1
  exact ⟨q.1 ▸ (nx_wf ⟨by omega, by omega⟩).1, q.1⟩
theorem nx_wft {f : TX} {n : Int} {t : TK} (hw : wft f n t) : wft f n (nx f n t.2.2) := by
  have hw' := hw.2.1
  exact (nx_wf ⟨by omega, by omega⟩).1
section
variable {d : Nat} {f : TX} {n : Int} {b : BK} {N : Int → Int} {o : Int} {t : TK} {z ν : JM} {Q : JQ}
theorem c_readPay (ho : okt f n) (hw : wft f n t) (h1 : t.1 = 1) (h : RD z f n b N o t ν) (hv : vb b) (hN : nmok b N) (k : PK z f n Q (ppay f n b N o t)) : wp true (d + 4) 72 0 [(20, 0), (9, 0), (9, 0), (9, 0), (9, 0)] [] ν Q := by
  have hm := vb_m hv
  have hn := vb_n hv
  unfold ppay at k
  refine s_X7_readPay_0 (d + 3) _ _ ?_
  rw [isC_m h.2.2.1]
  refine ⟨⟨⟨by omega, by omega⟩, ⟨by omega, by omega⟩⟩, fun hlt => ?_, fun hge => ?_⟩
  · rw [if_neg (by omega)] at k
    refine c_adv (d := d + 1) ho hw h (fun ξ1 r1 => ?_)
    have w1 := nx_wft hw
    refine c_takeAccount (d := d) ⟨by omega, by omega⟩ ho w1 r1 hv hN (fun x hx ξ hf => ?_) (fun a ha ea => ?_) (fun a ha _ ξ2 r2 => ?_)
    · rw [hx] at k
      exact ⟨Or.inl rfl, fun _ => k ξ hf, fun h => absurd rfl h⟩
    · have := pacc_ok hv ha
      omega
    · rw [ha] at k
      dsimp only [Except.bind] at k
      have qa := pacc_ok hv ha
      have w2 := nx_wft w1
      refine ⟨Or.inr ⟨⟨by omega, by omega⟩, ⟨by omega, by omega⟩⟩, fun h => absurd h (by omega), fun _ => c_takeSign (d := d) ho w2 ⟨by omega, by omega⟩ r2 (fun x hx ξ hf => ⟨by decide, fun h => absurd rfl h, fun _ => ?_⟩) (fun t3 h3 ξ3 r3 => ⟨by decide, fun _ => ?_, fun h => absurd (by decide) h⟩)⟩
      · rw [hx] at k
        exact k ξ hf
      · rw [h3] at k
        dsimp only [Except.bind] at k
        have w3 := (psig_wf w2 h3).1
        refine c_takeAccount (d := d) ⟨by omega, by omega⟩ ho w3 r3 hv hN (fun x hx ξ hf => ?_) (fun c hc ec ξ hf => ?_) (fun c hc nc ξ4 r4 => ?_)
        · rw [hx] at k
          exact ⟨Or.inl rfl, fun h => absurd rfl h, fun _ => k ξ hf⟩
        · rw [hc] at k
          dsimp only [Except.bind] at k
          rw [if_pos ec.symm] at k
          exact ⟨Or.inl rfl, fun h => absurd rfl h, fun _ => k ξ hf⟩
        · rw [hc] at k
          dsimp only [Except.bind] at k
          rw [if_neg (fun h => nc h.symm)] at k
          have qc := pacc_ok hv hc
          have w4 := nx_wft w3
          refine ⟨Or.inr ⟨⟨by omega, by omega⟩, ⟨by omega, by omega⟩⟩, fun _ => c_takeNumber (d := d) ⟨by omega, by omega⟩ rfl ho w4 r4 (fun x hx ξ hf => ?_) (fun v h5 ξ5 r5 => ?_), fun h => absurd h (by omega)⟩
          · rw [hx] at k
            exact ⟨Or.inl rfl, fun _ => k ξ hf, fun h => absurd rfl h⟩
          · rw [h5] at k
            dsimp only [Except.bind] at k
            have q5 := pnum_ok h5
            have w5 : wft f n v.2 := q5.2.1 ▸ nx_wft w4
            refine ⟨Or.inr ⟨⟨by omega, by omega⟩, ⟨by omega, by omega⟩⟩, fun h => absurd h (by omega), fun _ => c_takeAt (d := d) ho w5 r5 (fun x hx ξ hf => ⟨by decide, fun h => absurd rfl h, fun _ => ?_⟩) (fun t6 h6 ξ6 r6 => ⟨by decide, fun _ => ?_, fun h => absurd (by decide) h⟩)⟩
            · rw [hx] at k
              exact k ξ hf
            · rw [h6] at k
              dsimp only [Except.bind] at k
              have w6 : wft f n t6 := (pat_ok h6).1 ▸ nx_wft w5
              refine c_takeNumber (d := d) ⟨by omega, by omega⟩ rfl ho w6 r6 (fun x hx ξ hf => ?_) (fun w h7 ξ7 r7 => ?_)
              · rw [hx] at k
                exact ⟨Or.inl rfl, fun _ => k ξ hf, fun h => absurd rfl h⟩
              · rw [h7] at k
                dsimp only [Except.bind] at k
                have q7 := pnum_ok h7
                have w7 : wft f n w.2 := q7.2.1 ▸ nx_wft w6
                refine ⟨Or.inr ⟨⟨by omega, by omega⟩, ⟨by omega, by omega⟩⟩, fun h => absurd h (by omega), fun _ => c_takeSign (d := d) ho w7 ⟨by omega, by omega⟩ r7 (fun x hx ξ hf => ?_) (fun t8 h8 ξ8 r8 => ?_)⟩
                · rw [hx] at k
                  exact ⟨Or.inl rfl, fun _ => k ξ hf, fun h => absurd rfl h⟩
                · rw [h8] at k
                  dsimp only [Except.bind] at k
                  refine ⟨by decide, fun h => absurd h (by decide), fun _ => c_insert (d := d + 2) r8.2.2.1 hv (by omega) ⟨by omega, by omega⟩ (fun ξ9 hf9 hC9 => ?_)⟩
                  obtain ⟨r80, r81, _, r83, r84, r85, r86, r87⟩ := r8
                  exact k ξ9 ⟨jfr_trans r80 (jfr_mono hf9 (fun t y i h => by omega)), TXc_fr r81 (hf9 _ _ _ (by omega)) (fun i => hf9 _ _ _ (by omega)), hC9, ⟨(hf9 _ _ _ (by omega)).trans r83.1, (hf9 _ _ _ (by omega)).trans r83.2.1, (hf9 _ _ _ (by omega)).trans r83.2.2.1, fun h => by rw [hf9 _ _ _ (by omega), hf9 _ _ _ (by omega)]; exact r83.2.2.2 h⟩, (hf9 _ _ _ (by omega)).trans r84, fun k k0 k1 => (hf9 _ _ _ (by omega)).trans (r85 k k0 k1), (hf9 _ _ _ (by omega)).trans r86, (hf9 _ _ _ (by omega)).trans r87⟩
  · rw [if_pos (by omega)] at k
    exact c_failed h ⟨by omega, by omega⟩ (fun ξ hf => k ξ hf)
/-- a change outside the text's own token -/
theorem CT_fr {μ ξ : JM} (h : CT f t μ) (e : ∀ i, 8 ≤ i → i ≤ 12 → ξ 20 0 i = μ 20 0 i) : CT f t ξ := ⟨(e _ (by omega) (by omega)).trans h.1, (e _ (by omega) (by omega)).trans h.2.1, (e _ (by omega) (by omega)).trans h.2.2.1, fun h1 => by rw [e _ (by omega) (by omega), e _ (by omega) (by omega)]; exact h.2.2.2 h1⟩
theorem c_readTrust (ho : okt f n) (hw : wft f n t) (h : RD z f n b N o t ν) (hv : vb b) (hN : nmok b N) (k : PK z f n Q (ptru f n b N o t)) : wp true (d + 4) 73 0 [(20, 0), (9, 0)] [] ν Q := by
  have hn := vb_n hv
  unfold ptru at k
  refine s_X7_readTrust_0 (d + 3) _ _ (c_adv (d := d + 1) ho hw h (fun ξ1 r1 => ?_))
  have w1 := nx_wft hw
  refine c_knownAccount (d := d + 1) ho w1 r1 hv hN (fun x hx ξ hf => ?_) (fun a ha => ?_)
  · rw [hx] at k
    exact ⟨Or.inl rfl, fun h => absurd rfl h, fun _ => k ξ hf⟩
  · rw [ha] at k
    dsimp only [Except.bind] at k
    have qa := pacc_ok hv ha
    refine ⟨Or.inr ⟨⟨by omega, by omega⟩, ⟨by omega, by omega⟩⟩, fun _ => w_isTrusted r1.2.2.1 ⟨by omega, by omega⟩ (fun hb => ⟨by decide, fun h => absurd h (by decide), fun _ => ?_⟩) (fun hb => ⟨by decide, fun _ => ?_, fun h => absurd rfl h⟩), fun h => absurd h (by omega)⟩
    · rw [if_pos hb] at k
      exact c_failed r1 ⟨by omega, by omega⟩ (fun ξ hf => k ξ hf)
    · rw [if_neg (by rw [hb]; decide)] at k
      rw [isC_tr r1.2.2.1]
      obtain ⟨r10, r11, r12, r13, r14, r15, r16, r17⟩ := r1
      generalize eM : jw ξ1 12 1 1 (jor (b 5 2) (jshl 1 a)) = M
      have g : ∀ t y i, ¬ (t = 12 ∧ y = 1 ∧ i = 1) → M t y i = ξ1 t y i := fun t y i h => by
        rw [← eM]
        unfold jw
        rw [if_neg h]
      have rM : RD z f n (pone b 5 2 (jor (b 5 2) (jshl 1 a))) N o (nx f n t.2.2) M := by
        refine ⟨?_, TXc_fr r11 (g _ _ _ (by omega)) (fun i => g _ _ _ (by omega)), isC_one (x0 := 1) (Or.inr (Or.inl ⟨rfl, rfl, rfl, rfl⟩)) r12 (by rw [← eM, jw_eq]) (fun t _ _ i hh => g _ _ _ (by omega)), CT_fr r13 (fun i _ _ => g _ _ _ (by omega)), (g _ _ _ (by omega)).trans r14, fun k k0 k1 => ?_, (g _ _ _ (by omega)).trans r16, (g _ _ _ (by omega)).trans r17⟩
        · rw [← eM]
          exact jfr_jw r10 (by omega)
        · rw [pone_ne (by omega)] at k1
          rw [g _ _ _ (by omega)]
          exact r15 k k0 k1
      refine c_adv (d := d + 1) ho w1 rM (fun ξ2 r2 => c_takeSign (d := d) ho (nx_wft w1) ⟨by omega, by omega⟩ r2 (fun x hx ξ hf => ?_) (fun t3 h3 ξ r3 => ?_))
      · rw [hx] at k
        exact k ξ hf
      · rw [h3] at k
        exact k ξ r3
theorem c_readBound {j : Int} (hj : 0 ≤ j ∧ j ≤ 3) (ho : okt f n) (hw : wft f n t) (h : RD z f n b N o t ν) (h1 : t.1 = 1) (k : PK z f n Q (pbnd f n b N o t j)) : wp true (d + 4) 74 0 [(20, 0), (0, j), (9, 0)] [] ν Q := by
  unfold pbnd at k
  refine s_X7_readBound_0 (d + 3) _ _ _ ?_
  rw [h.2.2.2.2.1, has_u o hj.1 (by omega)]
  by_cases hb : bt o j.toNat = true
  · rw [if_pos hb] at k ⊢
    exact ⟨by decide, fun h => absurd h (by decide), fun _ => c_failed h ⟨by omega, by omega⟩ (fun ξ hf => k ξ hf)⟩
  · rw [if_neg hb] at k ⊢
    refine ⟨Or.inl rfl, fun _ => ?_, fun h => absurd rfl h⟩
    obtain ⟨r10, r11, r12, r13, r14, r15, r16, r17⟩ := h
    generalize eM : jw ν 20 0 7 (jor o (jshl 1 j)) = M
    have g : ∀ t y i, ¬ (t = 20 ∧ y = 0 ∧ i = 7) → M t y i = ν t y i := fun t y i h => by
      rw [← eM]
      unfold jw
      rw [if_neg h]
    have rM : RD z f n b N (jor o (jshl 1 j)) t M := by
      refine ⟨?_, TXc_fr r11 (g _ _ _ (by omega)) (fun i => g _ _ _ (by omega)), isC_fr r12 (fun t _ _ i => g _ _ _ (by omega)), CT_fr r13 (fun i _ _ => g _ _ _ (by omega)), by rw [← eM, jw_eq], fun k k0 k1 => ?_, (g _ _ _ (by omega)).trans r16, (g _ _ _ (by omega)).trans r17⟩
      · rw [← eM]
        exact jfr_jw r10 (by omega)
      · rw [g _ _ _ (by omega)]
        exact r15 k k0 k1
    have w1 := nx_wft hw
    refine c_adv (d := d + 1) ho hw rM (fun ξ1 r1 => c_stands (d := d + 2) w1 ⟨by omega, by omega⟩ r1 (fun e2 => ⟨by decide, fun _ => ?_, fun h => absurd (by decide) h⟩) (fun n2 ξ hf => ⟨by decide, fun h => absurd rfl h, fun _ => ?_⟩))
    · rw [if_pos e2] at k
      have vr := vlt_in w1 e2
      refine c_numberValue (d := d + 2) ho w1 e2 r1 (w_boundCanBe ⟨by omega, by omega⟩ ⟨by omega, by omega⟩ (fun hp => ⟨by decide, fun _ => ?_, fun h => absurd (by decide) h⟩) (fun hp => ⟨by decide, fun h => absurd rfl h, fun _ => ?_⟩))
      · rw [if_pos hp] at k
        refine ⟨hj.1, by omega, ?_⟩
        obtain ⟨s10, s11, s12, s13, s14, s15, s16, s17⟩ := r1
        generalize eM2 : jw ξ1 17 1 j (vlt f (nx f n t.2.2)) = M2
        have g2 : ∀ t y i, ¬ (t = 17 ∧ y = 1 ∧ i = j) → M2 t y i = ξ1 t y i := fun t y i h => by
          rw [← eM2]
          unfold jw
          rw [if_neg h]
        have rM2 : RD z f n (pone b 4 j (vlt f (nx f n t.2.2))) N (jor o (jshl 1 j)) (nx f n t.2.2) M2 := by
          refine ⟨?_, TXc_fr s11 (g2 _ _ _ (by omega)) (fun i => g2 _ _ _ (by omega)), isC_one (x0 := j) (Or.inr (Or.inr ⟨rfl, ⟨hj.1, by omega⟩, rfl, rfl⟩)) s12 (by rw [← eM2, jw_eq]) (fun t _ _ i hh => g2 _ _ _ (by omega)), CT_fr s13 (fun i _ _ => g2 _ _ _ (by omega)), (g2 _ _ _ (by omega)).trans s14, fun k k0 k1 => ?_, (g2 _ _ _ (by omega)).trans s16, (g2 _ _ _ (by omega)).trans s17⟩
          · rw [← eM2]
            exact jfr_jw s10 (by omega)
          · rw [pone_ne (by omega)] at k1
            rw [g2 _ _ _ (by omega)]
            exact s15 k k0 k1
        refine c_adv (d := d + 1) ho w1 rM2 (fun ξ2 r2 => c_takeSign (d := d) ho (nx_wft w1) ⟨by omega, by omega⟩ r2 (fun x hx ξ hf => ?_) (fun t3 h3 ξ r3 => ?_))
        · rw [hx] at k
          exact k ξ hf
        · rw [h3] at k
          exact k ξ r3
      · rw [if_neg hp] at k
        exact c_failed r1 ⟨by omega, by omega⟩ (fun ξ hf => k ξ hf)
    · rw [if_neg n2] at k
      exact k ξ hf
theorem c_readNewName (ho : okt f n) (hw : wft f n t) (h1 : t.1 = 1) (h : RD z f n b N o t ν) (hv : vb b) (hN : nmok b N) (k0 : ¬ isnm f t → ∀ ξ, RF z (2, t.2.1) ξ → Q 0 ξ) (k3 : isnm f t → pfd N (b 5 0) (nmt f t) ≠ -1 → ∀ ξ, RF z (3, t.2.1) ξ → Q 0 ξ) (k6 : isnm f t → pfd N (b 5 0) (nmt f t) = -1 → b 5 0 = 12 → ∀ ξ, RF z (6, t.2.1) ξ → Q 0 ξ) (kg : isnm f t → pfd N (b 5 0) (nmt f t) = -1 → b 5 0 ≠ 12 → ∀ ξ, RD z f n (pone b 5 0 (b 5 0 + 1)) (pnew N (b 5 0) (nmt f t)) o (nx f n t.2.2) ξ → Q 1 ξ) : wp true (d + 3) 71 0 [(20, 0)] [] ν Q := by
  have hn := vb_n hv
  have pr := pfd_in N hn.1 (nmt f t)
  refine s_X7_readNewName_0 (d + 2) _ _ (c_isName ho hw h h1 (fun hi => ⟨by decide, fun _ => ?_, fun h => absurd (by decide) h⟩) (fun hi => ⟨by decide, fun h => absurd rfl h, fun _ => ?_⟩))
  · refine c_accountNamed hw h hv hN h1 hi.2 ⟨Or.inr ⟨⟨by omega, by omega⟩, ⟨by omega, by omega⟩⟩, fun e => ?_, fun ne => c_failed h ⟨by omega, by omega⟩ (fun ξ hf => ⟨by decide, by decide, k3 hi ne ξ hf⟩)⟩
    rw [isC_n h.2.2.1, h.2.2.2.1.2.2.2 h1 |>.2 hi.2]
    refine ⟨⟨⟨by omega, by omega⟩, ⟨by omega, by omega⟩⟩, fun h => absurd h (by omega), fun _ => ⟨⟨⟨by omega, by omega⟩, ⟨by omega, by omega⟩⟩, fun hlt => ⟨by omega, by omega, ?_⟩, fun hge => c_failed h ⟨by omega, by omega⟩ (fun ξ hf => ⟨by decide, by decide, k6 hi e (by omega) ξ hf⟩)⟩⟩
    obtain ⟨r10, r11, r12, r13, r14, r15, r16, r17⟩ := h
    generalize eM1 : jw ν 28 0 (b 5 0) (nmt f t) = M1
    have g1 : ∀ t y i, ¬ (t = 28 ∧ y = 0 ∧ i = b 5 0) → M1 t y i = ν t y i := fun t y i h => by
      rw [← eM1]
      unfold jw
      rw [if_neg h]
    rw [g1 12 1 0 (by omega), isC_n r12]
    generalize eM : jw M1 12 1 0 (b 5 0 + 1) = M
    have g : ∀ t y i, ¬ (t = 12 ∧ y = 1 ∧ i = 0) → M t y i = M1 t y i := fun t y i h => by
      rw [← eM]
      unfold jw
      rw [if_neg h]
    have rM : RD z f n (pone b 5 0 (b 5 0 + 1)) (pnew N (b 5 0) (nmt f t)) o t M := by
      refine ⟨?_, TXc_fr r11 ((g _ _ _ (by omega)).trans (g1 _ _ _ (by omega))) (fun i => (g _ _ _ (by omega)).trans (g1 _ _ _ (by omega))), isC_one (x0 := 0) (Or.inl ⟨rfl, rfl, rfl, rfl⟩) r12 (by rw [← eM, jw_eq]) (fun t _ _ i hh => (g _ _ _ (by omega)).trans (g1 _ _ _ (by omega))), CT_fr r13 (fun i _ _ => (g _ _ _ (by omega)).trans (g1 _ _ _ (by omega))), ((g _ _ _ (by omega)).trans (g1 _ _ _ (by omega))).trans r14, fun k k0 k1 => ?_, ((g _ _ _ (by omega)).trans (g1 _ _ _ (by omega))).trans r16, ((g _ _ _ (by omega)).trans (g1 _ _ _ (by omega))).trans r17⟩
      · rw [← eM, ← eM1]
        exact jfr_jw (jfr_jw r10 (by omega)) (by omega)
      · rw [pone_eq] at k1
        rw [g _ _ _ (by omega)]
        unfold pnew
        by_cases hk : k = b 5 0
        · rw [if_pos hk, hk, ← eM1, jw_eq]
        · rw [if_neg hk, g1 _ _ _ (by omega)]
          exact r15 k k0 (by omega)
    exact c_adv (d := d) ho hw rM (fun ξ hx => ⟨by decide, by decide, kg hi e (by omega) ξ hx⟩)
  · exact c_failed h ⟨by omega, by omega⟩ (fun ξ hf => ⟨by decide, by decide, k0 hi ξ hf⟩)
/-- the token behind reaches farther -/
theorem nx_far (hw : wft f n t) {i : Int} (hi : i ≤ t.2.2) : (nx f n t.2.2).1 ≠ 0 → i + 1 ≤ (nx f n t.2.2).2.2 := fun h => by
  have hw' := hw.2.1
  have q := nx_wf (f := f) (n := n) (i := t.2.2) ⟨by omega, by omega⟩
  have := q.1.2.2.1 h
  omega
theorem c_namesLoop (ho : okt f n) : ∀ (k : Nat) (i : Int) (b : BK) (N : Int → Int) (t : TK) (ν : JM), i + (k : Int) = n + 1 → 0 ≤ i → wft f n t → (t.1 ≠ 0 → i + 1 ≤ t.2.2) → RD z f n b N o t ν → vb b → nmok b N → PK z f n Q (pnms f n o k b N t) → wp true (d + 4) 70 2 [(20, 0), (0, i)] [] ν Q
  | 0, i, b, N, t, ν, hk, hi, hw, he, h, hv, hN, K => by
    have hn := ho.1
    have hw' := hw.2.1
    have K : PK z f n Q ((psig f n 59 t).bind fun t2 => .ok (b, N, o, t2)) := K
    refine s_X7_readNames_2 (d + 3) _ _ _ ?_
    rw [h.2.1.1]
    refine ⟨⟨⟨by omega, by omega⟩, ⟨by omega, by omega⟩⟩, fun _ => c_takeSign (d := d) ho hw ⟨by omega, by omega⟩ h (fun x hx ξ hf => ?_) (fun t3 h3 ξ r3 => ?_), fun hh => absurd (by omega) hh⟩
    · rw [hx] at K
      exact K ξ hf
    · rw [h3] at K
      exact K ξ r3
  | k + 1, i, b, N, t, ν, hk, hi, hw, he, h, hv, hN, K => by
    have hn := ho.1
    have hw' := hw.2.1
    have hr := hw.1
    have K : PK z f n Q (if t.1 = 1 then (if isnm f t then (if pfd N (b 5 0) (nmt f t) = -1 then (if b 5 0 = 12 then .error (6, t.2.1) else pnms f n o k (pone b 5 0 (b 5 0 + 1)) (pnew N (b 5 0) (nmt f t)) (nx f n t.2.2)) else .error (3, t.2.1)) else .error (2, t.2.1)) else (psig f n 59 t).bind fun t2 => .ok (b, N, o, t2)) := K
    refine s_X7_readNames_2 (d + 3) _ _ _ ?_
    rw [h.2.1.1, h.2.2.2.1.1]
    refine ⟨⟨⟨by omega, by omega⟩, ⟨by omega, by omega⟩⟩, fun hh => absurd hh (by omega), fun _ => ⟨Or.inr ⟨⟨by omega, by omega⟩, ⟨by omega, by omega⟩⟩, fun n1 => c_takeSign (d := d) ho hw ⟨by omega, by omega⟩ h (fun x hx ξ hf => ?_) (fun t3 h3 ξ r3 => ?_), fun e1 => ?_⟩⟩
    · rw [if_neg n1, hx] at K
      exact K ξ hf
    · rw [if_neg n1, h3] at K
      exact K ξ r3
    · have e1 : t.1 = 1 := Decidable.byContradiction e1
      rw [if_pos e1] at K
      refine c_readNewName (d := d) ho hw e1 h hv hN (fun hi ξ hf => ?_) (fun hi hp ξ hf => ?_) (fun hi hp hb ξ hf => ?_) (fun hi2 hp hb ξ hr => ?_)
      · rw [if_neg hi] at K
        exact ⟨by decide, fun h => absurd rfl h, fun _ => K ξ hf⟩
      · rw [if_pos hi, if_neg hp] at K
        exact ⟨by decide, fun h => absurd rfl h, fun _ => K ξ hf⟩
      · rw [if_pos hi, if_pos hp, if_pos hb] at K
        exact ⟨by decide, fun h => absurd rfl h, fun _ => K ξ hf⟩
      · rw [if_pos hi2, if_pos hp, if_neg hb] at K
        have he1 := he (by omega)
        exact ⟨by decide, fun _ => c_namesLoop ho k (i + 1) _ _ _ ξ (by omega) (by omega) (nx_wft hw) (nx_far hw he1) hr (vb_add hv hb) (nmok_add hN (nmt_in hw e1 hi2.2)) K, fun h => absurd (by decide) h⟩
theorem c_readNames (ho : okt f n) (hw : wft f n t) (he : t.1 ≠ 0 → 1 ≤ t.2.2) (h : RD z f n b N o t ν) (hv : vb b) (hN : nmok b N) (K : PK z f n Q (pnms f n o (n.toNat + 1) b N t)) : wp true (d + 4) 70 0 [(20, 0), (9, 0)] [] ν Q := by
  have hn := ho.1
  exact s_X7_readNames_0 _ _ _ (c_namesLoop (d := d) ho (n.toNat + 1) 0 b N t ν (by omega) (Int.le_refl _) hw (fun h => by have := he h; omega) h hv hN K)
end
