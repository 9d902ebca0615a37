/-! the reference reads a text as pparse says -/
abbrev PRm : Nat → Int → Int → Prop := fun t y i => y = 0 ∧ ((t = 40 ∧ (i = 12 ∨ (18 ≤ i ∧ i ≤ 23) ∨ i = 25 ∨ i = 26)) ∨ t = 68 ∨ (t = 41 ∧ 0 ≤ i ∧ i < 136))
def MR (f : TX) (n : Int) (b : BK) (N : Int → Int) (o : Int) (t : TK) (ν : JM) : Prop := TXm f n ν ∧ isM ν b ∧ MT f t ν ∧ ν 40 0 25 = o ∧ (∀ k, 0 ≤ k → k < b 5 0 → ν 68 0 k = N k) ∧ ν 40 0 22 = 0 ∧ ν 40 0 23 = -1 ∧ ν 40 0 12 = 0
def RDm (z : JM) (f : TX) (n : Int) (b : BK) (N : Int → Int) (o : Int) (t : TK) (ν : JM) : Prop := jfr PRm z ν ∧ MR f n b N o t ν
def RFm (z : JM) (x : PF) (ν : JM) : Prop := jfr PRm z ν ∧ ν 40 0 22 = x.1 ∧ ν 40 0 23 = x.2 ∧ ν 40 0 12 = 0 ∧ (1 ≤ x.1 ∧ x.1 ≤ 6)
def PKm (z : JM) (f : TX) (n : Int) (Q : JQ) : Except PF PS → Prop
  | .error x => ∀ ξ, RFm z x ξ → Q 0 ξ
  | .ok s => ∀ ξ, RDm z f n s.1 s.2.1 s.2.2.1 s.2.2.2 ξ → Q 1 ξ
theorem MR_fr {f : TX} {n : Int} {b : BK} {N : Int → Int} {o : Int} {t t' : TK} {ν ξ : JM} (h : MR f n b N o t ν) (hf : jfr PAh ν ξ) (hc : MT f t' ξ) : MR f n b N o t' ξ := by
  obtain ⟨h1, h2, h3, h4, h5, h6, h7, h8⟩ := h
  exact ⟨TXm_fr h1 (hf _ _ _ (by omega)) (fun i => hf _ _ _ (by omega)), isM_fr h2 (fun i => hf _ _ _ (by omega)), hc, (hf _ _ _ (by omega)).trans h4, fun k k0 k1 => (hf _ _ _ (by omega)).trans (h5 k k0 k1), (hf _ _ _ (by omega)).trans h6, (hf _ _ _ (by omega)).trans h7, (hf _ _ _ (by omega)).trans h8⟩
section
variable {d : Nat} {f : TX} {n : Int} {b : BK} {N : Int → Int} {o : Int} {t : TK} {z ν : JM} {Q : JQ}
theorem m_adv (ho : okt f n) (hw : wft f n t) (h : RDm z f n b N o t ν) (K : ∀ ξ, RDm z f n b N o (nx f n t.2.2) ξ → jfr PAh ν ξ → Q 0 ξ) : wp true (d + 1) 240 0 [(40, 0), (9, 0)] [] ν Q := by
  have hw' := hw.2.1
  exact m_ahead (d := d) ho h.2.1 ⟨by omega, by omega⟩ h.2.2.2.1.2.2.1 (fun ξ hf hc => K ξ ⟨jfr_trans h.1 (jfr_mono hf (fun t y i h => by omega)), MR_fr h.2 hf hc⟩ hf)
theorem m_takesOn (ho : okt f n) (hw : wft f n t) (h : RDm z f n b N o t ν) (K : ∀ ξ, RDm z f n b N o (nx f n t.2.2) ξ → jfr PAh ν ξ → Q 1 ξ) : wp true (d + 2) 243 0 [(40, 0)] [] ν Q :=
  s_X11_takesOn_0 (d + 1) _ _ (m_adv (d := d) ho hw h (fun ξ h1 h2 => ⟨by decide, by decide, K ξ h1 h2⟩))
abbrev PFm : Nat → Int → Int → Prop := fun t y i => t = 40 ∧ y = 0 ∧ 22 ≤ i ∧ i ≤ 23
theorem m_fails {k : Int} (hw : wft f n t) (h : RDm z f n b N o t ν) (hk : 1 ≤ k ∧ k ≤ 6) (K : ∀ ξ, RFm z (pft t k) ξ → jfr PFm ν ξ → Q 0 ξ) : wp true d 242 0 [(40, 0), (0, k)] [] ν Q := by
  have hr := hw.1
  have mr := mkd_in t.1
  obtain ⟨h0, h1, h2, h3, h4, h5, h6, h7, h8⟩ := h
  unfold pft at K
  refine s_X11_fails_0 _ _ _ _ ?_
  rw [h6, h3.1]
  have fin : ∀ v : Int, (1 ≤ v ∧ v ≤ 6) → (if t.1 = 4 then 1 else k) = v → Q 0 (jw (jw ν 40 0 22 v) 40 0 23 ((jw ν 40 0 22 v) 40 0 19)) := fun v hv e => by
    rw [e] at K
    refine K _ ⟨jfr_jw (jfr_jw h0 (by omega)) (by omega), (jw_i (by omega)).trans (jw_eq _ _ _ _ _), ?_, ?_, hv⟩ (jfr_jw (jfr_jw (jfr_refl _ _) (by omega)) (by omega))
    · rw [jw_eq, jw_i (by omega)]
      exact h3.2.1
    · rw [jw_i (by omega), jw_i (by omega)]
      exact h8
  exact ⟨Or.inl rfl, fun h => absurd rfl h, fun _ => ⟨Or.inr ⟨⟨by omega, by omega⟩, ⟨by omega, by omega⟩⟩, fun n4 => ⟨by decide, by decide, fin k hk (by rw [if_neg (fun h => n4 ((mkd_4 hr).2 h))])⟩, fun e4 => ⟨by decide, by decide, fin 1 ⟨by omega, by omega⟩ (by rw [if_pos ((mkd_4 hr).1 (Decidable.byContradiction e4))])⟩⟩⟩
theorem m_takesSign {c : Int} (ho : okt f n) (hw : wft f n t) (hc : 0 ≤ c ∧ c ≤ 255) (h : RDm z f n b N o t ν) (kb : ∀ x, psig f n c t = .error x → ∀ ξ, RFm z x ξ → Q 0 ξ) (kg : ∀ t', psig f n c t = .ok t' → ∀ ξ, RDm z f n b N o t' ξ → Q 1 ξ) : wp true (d + 3) 244 0 [(40, 0), (0, c)] [] ν Q := by
  have hw' := hw.2.1
  have hw2 := hw.2.2.1
  have mr := mkd_in t.1
  refine s_X11_takesSign_0 (d + 2) _ _ _ ?_
  rw [h.2.2.2.1.1, h.2.2.2.1.2.1]
  refine ⟨Or.inr ⟨⟨by omega, by omega⟩, ⟨by omega, by omega⟩⟩, fun n3 => m_fails hw h ⟨by omega, by omega⟩ (fun ξ hf _ => ⟨by decide, by decide, kb _ ?_ ξ hf⟩), fun e3 => ?_⟩
  · unfold psig
    rw [if_neg (fun h => n3 (mkd_3.2 h.1))]
  · have e3 : t.1 = 3 := mkd_3.1 (Decidable.byContradiction e3)
    have hi := ho.2 t.2.1 (by omega) (by omega)
    refine m_byteAt ho h.2.1 ⟨by omega, by omega⟩ (fun _ => ⟨Or.inr ⟨⟨by omega, by omega⟩, ⟨by omega, by omega⟩⟩, fun ne => m_fails hw h ⟨by omega, by omega⟩ (fun ξ hf _ => ⟨by decide, by decide, kb _ ?_ ξ hf⟩), fun e => m_takesOn (d := d) ho hw h (fun ξ hx _ => ⟨by decide, by decide, kg _ ?_ ξ hx⟩)⟩) (fun h => absurd h (by omega))
    · unfold psig
      rw [if_neg (fun h => ne h.2)]
    · unfold psig
      rw [if_pos ⟨e3, Decidable.byContradiction e⟩]
theorem m_takesNumber {lo hi : Int} (hl : 0 ≤ lo ∧ lo ≤ 1) (hh : hi = 9999) (ho : okt f n) (hw : wft f n t) (h : RDm z f n b N o t ν) (kb : ∀ x, pnum f n lo hi t = .error x → ∀ ξ, RFm z x ξ → Q 0 ξ) (kg : ∀ v, pnum f n lo hi t = .ok v → ∀ ξ, RDm z f n b N o v.2 ξ → ξ 40 0 26 = v.1 → Q 1 ξ) : wp true (d + 3) 245 0 [(40, 0), (0, lo), (0, hi)] [] ν Q := by
  have mr := mkd_in t.1
  refine s_X11_takesNumber_0 (d + 2) _ _ _ _ ?_
  rw [h.2.2.2.1.1]
  refine ⟨Or.inr ⟨⟨by omega, by omega⟩, ⟨by omega, by omega⟩⟩, fun e2 => ?_, fun n2 => m_fails hw h ⟨by omega, by omega⟩ (fun ξ hf _ => ⟨by decide, by decide, kb _ ?_ ξ hf⟩)⟩
  · have e2 : t.1 = 2 := mkd_2.1 e2
    have vr := vlt_in hw e2
    rw [h.2.2.2.1.2.2.2 e2]
    refine w_isFrom ⟨by omega, by omega⟩ ⟨by omega, by omega⟩ ⟨by omega, by omega⟩ (fun a0 a1 => ⟨by decide, fun _ => ?_, fun h => absurd (by decide) h⟩) (fun a => ⟨by decide, fun h => absurd rfl h, fun _ => ?_⟩)
    · rw [h.2.2.2.1.2.2.2 e2]
      obtain ⟨r0, r1, r2, r3, r4, r5, r6, r7, r8⟩ := h
      have g : ∀ t' y i, ¬ (t' = 40 ∧ y = 0 ∧ i = 26) → jw ν 40 0 26 (vlt f t) t' y i = ν t' y i := fun t' y i h => by
        unfold jw
        rw [if_neg h]
      have rM : RDm z f n b N o t (jw ν 40 0 26 (vlt f t)) := ⟨jfr_jw r0 (by omega), TXm_fr r1 (g _ _ _ (by omega)) (fun i => g _ _ _ (by omega)), isM_fr r2 (fun i => g _ _ _ (by omega)), ⟨(g _ _ _ (by omega)).trans r3.1, (g _ _ _ (by omega)).trans r3.2.1, (g _ _ _ (by omega)).trans r3.2.2.1, fun h => (g _ _ _ (by omega)).trans (r3.2.2.2 h)⟩, (g _ _ _ (by omega)).trans r4, fun k k0 k1 => (g _ _ _ (by omega)).trans (r5 k k0 k1), (g _ _ _ (by omega)).trans r6, (g _ _ _ (by omega)).trans r7, (g _ _ _ (by omega)).trans r8⟩
      refine m_takesOn (d := d) ho hw rM (fun ξ hx hf => ⟨by decide, by decide, kg (vlt f t, nx f n t.2.2) ?_ ξ hx ((hf _ _ _ (by omega)).trans (jw_eq _ _ _ _ _))⟩)
      unfold pnum
      rw [if_pos e2, if_pos ⟨a0, a1⟩]
    · refine m_fails hw h ⟨by omega, by omega⟩ (fun ξ hf _ => ⟨by decide, by decide, kb _ ?_ ξ hf⟩)
      unfold pnum pft
      rw [if_pos e2, if_neg a, if_neg (by omega)]
  · unfold pnum
    rw [if_neg (fun h => n2 (mkd_2.2 h))]
theorem m_isName (ho : okt f n) (hw : wft f n t) (hT : TXm f n ν) (hM : MT f t ν) (k1 : t.1 = 1 → isnm f t → Q 1 ν) (k0 : ¬ (t.1 = 1 ∧ isnm f t) → Q 0 ν) : wp true (d + 2) 246 0 [(40, 0)] [] ν Q := by
  have mr := mkd_in t.1
  have hw' := hw.2.1
  have hn := ho.1
  have kr := kwt_in f t
  have km := kmap_in kr
  refine s_X11_isName_0 (d + 1) _ _ ?_
  rw [hM.1, hM.2.1, hM.2.2.1]
  refine ⟨Or.inr ⟨⟨by omega, by omega⟩, ⟨by omega, by omega⟩⟩, fun h => ⟨by decide, by decide, k0 (fun hh => h (mkd_1.2 hh.1))⟩, fun h => ⟨⟨⟨by omega, by omega⟩, ⟨by omega, by omega⟩⟩, fun h6 => ⟨by decide, by decide, k0 (fun hh => by have := hh.2.2; omega)⟩, fun h6 => ?_⟩⟩
  have e1 : t.1 = 1 := mkd_1.1 (Decidable.byContradiction h)
  refine m_key (d := d) rfl ho hT hw hM (fun _ => ⟨Or.inr ⟨⟨by omega, by omega⟩, ⟨by omega, by omega⟩⟩, fun hne => ⟨by decide, by decide, k0 (fun hh => hne ?_)⟩, fun he => ⟨by decide, by decide, k1 e1 ⟨?_, by omega⟩⟩⟩) (fun h => absurd e1 h)
  · rw [hh.2.1]
    decide
  · have he : kmap (kwt f t) = -1 := Decidable.byContradiction he
    unfold kmap at he
    repeat' split at he
    all_goals omega
theorem m_nameLoop (ho : okt f n) (hw : wft f n t) (h1 : t.1 = 1) (h6 : t.2.2 - t.2.1 ≤ 6) (hT : TXm f n ν) (h20 : ν 40 0 20 = t.2.2) (K : Q (nmt f t) ν) : ∀ (j k : Nat), t.2.1 + (k : Int) + (j : Int) = t.2.2 → wp true (d + 1) 247 7 [(40, 0), (0, nmk f t.2.1 k), (0, t.2.1 + (k : Int))] [] ν Q := by
  have hw' := hw.2.1
  have hn := ho.1
  intro j
  induction j with
  | zero =>
    intro k hk
    refine s_X11_nameHere_7 d _ _ _ _ ?_
    rw [h20]
    refine ⟨⟨⟨by omega, by omega⟩, ⟨by omega, by omega⟩⟩, fun _ => ?_, fun h => absurd (by omega) h⟩
    unfold nmt at K
    rw [show (t.2.2 - t.2.1).toNat = k by omega] at K
    exact K
  | succ j ih =>
    intro k hk
    refine s_X11_nameHere_7 d _ _ _ _ ?_
    rw [h20]
    refine ⟨⟨⟨by omega, by omega⟩, ⟨by omega, by omega⟩⟩, fun h => absurd h (by omega), fun _ => m_byteAt ho hT ⟨by omega, by omega⟩ (fun _ => ?_) (fun h => absurd h (by omega))⟩
    have q := ih (k + 1) (by omega)
    rw [nmk_s, show t.2.1 + ((k + 1 : Nat) : Int) = t.2.1 + (k : Int) + 1 by omega] at q
    rw [show 32 * nmk f t.2.1 k + f (t.2.1 + (k : Int)) - 97 + 1 = 32 * nmk f t.2.1 k + (f (t.2.1 + (k : Int)) - 96) by omega]
    exact q
theorem m_nameHere (ho : okt f n) (hw : wft f n t) (h1 : t.1 = 1) (h6 : t.2.2 - t.2.1 ≤ 6) (hT : TXm f n ν) (h19 : ν 40 0 19 = t.2.1) (h20 : ν 40 0 20 = t.2.2) (K : Q (nmt f t) ν) : wp true (d + 1) 247 0 [(40, 0), (9, 0), (9, 0)] [] ν Q := by
  have hw' := hw.2.1
  refine s_X11_nameHere_0 _ _ _ ?_
  rw [h19]
  have q := m_nameLoop (d := d) ho hw h1 h6 hT h20 K (t.2.2 - t.2.1).toNat 0 (by omega)
  rw [show t.2.1 + ((0 : Nat) : Int) = t.2.1 by omega] at q
  exact q
theorem m_named (ho : okt f n) (hw : wft f n t) (h1 : t.1 = 1) (h6 : t.2.2 - t.2.1 ≤ 6) (hv : vb b) (hN : nmok b N) (hT : TXm f n ν) (h19 : ν 40 0 19 = t.2.1) (h20 : ν 40 0 20 = t.2.2) (h41 : ν 41 0 0 = b 5 0) (h68 : ∀ k, 0 ≤ k → k < b 5 0 → ν 68 0 k = N k) (K : Q (pfd N (b 5 0) (nmt f t)) ν) : wp true (d + 2) 248 0 [(40, 0), (9, 0)] [] ν Q := by
  have hn := vb_n hv
  have vr := nmt_in hw h1 h6
  refine s_X11_named_0 _ _ _ ?_
  refine ffst_lp (p := fun k => decide (N k = nmt f t)) (W := fun i => wp true (d + 2) 248 2 [(40, 0), (0, i)] [] ν Q) (lo := 0) (n := b 5 0) (fun i i0 i1 hp hbf => ?_) (fun i i0 i1 hp hW => ?_) (fun hbf => ?_) (b 5 0).toNat 0 (Int.le_refl _) (by omega) (fun j h1 h2 => by omega)
  · have e := of_decide_eq_true hp
    have hi := hN i i0 i1
    refine s_X11_named_2 (d + 1) _ _ _ ?_
    rw [h41, h68 i i0 i1]
    refine ⟨by omega, by omega, ⟨⟨by omega, by omega⟩, ⟨by omega, by omega⟩⟩, fun h => absurd h (by omega), fun _ => ⟨by omega, by omega, m_nameHere (d := d) ho hw h1 h6 hT h19 h20 ⟨Or.inr ⟨⟨by omega, by omega⟩, ⟨by omega, by omega⟩⟩, fun ne => absurd e ne, fun _ => ?_⟩⟩⟩
    rw [pfd_hit i0 i1 e (fun j j0 j1 => of_decide_eq_false (hbf j j0 j1))] at K
    exact K
  · have ne := of_decide_eq_false hp
    have hi := hN i i0 i1
    refine s_X11_named_2 (d + 1) _ _ _ ?_
    rw [h41, h68 i i0 i1]
    exact ⟨by omega, by omega, ⟨⟨by omega, by omega⟩, ⟨by omega, by omega⟩⟩, fun h => absurd h (by omega), fun _ => ⟨by omega, by omega, m_nameHere (d := d) ho hw h1 h6 hT h19 h20 ⟨Or.inr ⟨⟨by omega, by omega⟩, ⟨by omega, by omega⟩⟩, fun _ => hW, fun h => absurd (Decidable.byContradiction h) ne⟩⟩⟩
  · refine s_X11_named_2 (d + 1) _ _ _ ?_
    rw [h41]
    refine ⟨by omega, by omega, ⟨⟨by omega, by omega⟩, ⟨by omega, by omega⟩⟩, fun _ => ?_, fun h => absurd (Int.le_refl _) h⟩
    rw [pfd_no hn.1 (fun j j0 j1 => of_decide_eq_false (hbf j j0 j1))] at K
    exact K
theorem m_accountHere (ho : okt f n) (hw : wft f n t) (h : RDm z f n b N o t ν) (hv : vb b) (hN : nmok b N) (kb : ∀ x, pacc f b N t = .error x → ∀ ξ, RFm z x ξ → Q (-1) ξ) (kg : ∀ a, pacc f b N t = .ok a → Q a ν) : wp true (d + 3) 249 0 [(40, 0)] [] ν Q := by
  have hn := vb_n hv
  have pr := pfd_in N hn.1 (nmt f t)
  refine s_X11_accountHere_0 (d + 2) _ _ (m_isName (d := d) ho hw h.2.1 h.2.2.2.1 (fun e1 hi => ⟨by decide, fun _ => ?_, fun h => absurd (by decide) h⟩) (fun hi => ⟨by decide, fun h => absurd rfl h, fun _ => ?_⟩))
  · refine m_named (d := d) ho hw e1 hi.2 hv hN h.2.1 h.2.2.2.1.2.1 h.2.2.2.1.2.2.1 (isM_n h.2.2.1) h.2.2.2.2.2.1 ⟨Or.inr ⟨⟨by omega, by omega⟩, ⟨by omega, by omega⟩⟩, fun ne => ?_, fun e => ?_⟩
    · refine m_named (d := d) ho hw e1 hi.2 hv hN h.2.1 h.2.2.2.1.2.1 h.2.2.2.1.2.2.1 (isM_n h.2.2.1) h.2.2.2.2.2.1 (kg _ ?_)
      unfold pacc
      rw [if_pos e1, if_pos hi, if_neg ne]
    · have e : pfd N (b 5 0) (nmt f t) = -1 := Decidable.byContradiction e
      refine m_fails hw h ⟨by omega, by omega⟩ (fun ξ hf hf2 => m_named (d := d) ho hw e1 hi.2 hv hN (TXm_fr h.2.1 (hf2 _ _ _ (by omega)) (fun i => hf2 _ _ _ (by omega))) ((hf2 _ _ _ (by omega)).trans h.2.2.2.1.2.1) ((hf2 _ _ _ (by omega)).trans h.2.2.2.1.2.2.1) ((hf2 _ _ _ (by omega)).trans (isM_n h.2.2.1)) (fun k k0 k1 => (hf2 _ _ _ (by omega)).trans (h.2.2.2.2.2.1 k k0 k1)) ?_)
      rw [e]
      refine kb _ ?_ ξ hf
      unfold pacc pft
      rw [if_pos e1, if_pos hi, if_pos e, if_neg (by omega)]
  · refine m_fails hw h ⟨by omega, by omega⟩ (fun ξ hf _ => kb _ ?_ ξ hf)
    unfold pacc
    by_cases e1 : t.1 = 1
    · rw [if_pos e1, if_neg (fun h => hi ⟨e1, h⟩)]
      unfold pft
      rw [if_neg (by omega)]
    · rw [if_neg e1]
/-- what follows a line's words -/
def LQ (D : Nat) (Q : JQ) : JQ := fun r μ => (r = 0 ∨ inR r ∧ inR 0) ∧ (r = 0 → (0 : Int) ≤ 0 ∧ (0 : Int) ≤ 1 ∧ Q 0 μ) ∧ (¬ (r = 0) → wp true D 244 0 [(40, 0), (0, 59)] [] μ (fun r3 μ3 => (r3 = 0 ∨ inR r3 ∧ inR 0) ∧ (r3 = 0 → (0 : Int) ≤ 0 ∧ (0 : Int) ≤ 1 ∧ Q 0 μ3) ∧ (¬ (r3 = 0) → (0 : Int) ≤ 1 ∧ (1 : Int) ≤ 1 ∧ Q 1 μ3)))
theorem LQ_bad {D : Nat} (h : Q 0 ν) : LQ D Q 0 ν := ⟨Or.inl rfl, fun _ => ⟨by decide, by decide, h⟩, fun h => absurd rfl h⟩
theorem LQ_good (ho : okt f n) (hw : wft f n t) (h : RDm z f n b N o t ν) (K : PKm z f n Q ((psig f n 59 t).bind fun t2 => .ok (b, N, o, t2))) : LQ (d + 3) Q 1 ν := by
  refine ⟨Or.inr (by decide), fun h => absurd h (by decide), fun _ => m_takesSign (d := d) ho hw ⟨by omega, by omega⟩ h (fun x hx ξ hf => ?_) (fun t3 h3 ξ r3 => ?_)⟩
  · rw [hx] at K
    exact ⟨Or.inl rfl, fun _ => ⟨by decide, by decide, K ξ hf⟩, fun h => absurd rfl h⟩
  · rw [h3] at K
    exact ⟨Or.inr (by decide), fun h => absurd h (by decide), fun _ => ⟨by decide, by decide, K ξ r3⟩⟩
theorem m_aPay (ho : okt f n) (hw : wft f n t) (h1 : t.1 = 1) (h : RDm z f n b N o t ν) (hv : vb b) (hN : nmok b N) (k : PKm z f n Q (ppay f n b N o t)) : wp true (d + 4) 251 0 [(40, 0), (9, 0), (9, 0), (9, 0)] [] ν (LQ (d + 4) Q) := by
  have hm := vb_m hv
  have hn := vb_n hv
  unfold ppay at k
  refine s_X11_aPay_0 (d + 3) _ _ ?_
  rw [isM_m h.2.2.1]
  refine ⟨by omega, by omega, Or.inr ⟨⟨by omega, by omega⟩, ⟨by omega, by omega⟩⟩, fun hne => ?_, fun he => ?_⟩
  · rw [if_neg hne] at k
    refine m_adv (d := d + 2) ho hw h (fun ξ1 r1 _ => ?_)
    have w1 := nx_wft hw
    refine m_accountHere (d := d) ho w1 r1 hv hN (fun x hx ξ hf => ?_) (fun a ha => ?_)
    · rw [hx] at k
      exact ⟨Or.inl rfl, fun h => absurd rfl h, fun _ => ⟨by decide, by decide, LQ_bad (k ξ hf)⟩⟩
    · rw [ha] at k
      dsimp only [Except.bind] at k
      have qa := pacc_ok hv ha
      have w2 := nx_wft w1
      refine ⟨Or.inr ⟨⟨by omega, by omega⟩, ⟨by omega, by omega⟩⟩, fun _ => m_adv (d := d + 2) ho w1 r1 (fun ξ2 r2 _ => m_takesSign (d := d) ho w2 ⟨by omega, by omega⟩ r2 (fun x hx ξ hf => ?_) (fun t3 h3 ξ3 r3 => ?_)), fun h => absurd h (by omega)⟩
      · rw [hx] at k
        exact ⟨Or.inl rfl, fun h => absurd rfl h, fun _ => ⟨by decide, by decide, LQ_bad (k ξ hf)⟩⟩
      · rw [h3] at k
        dsimp only [Except.bind] at k
        have w3 := (psig_wf w2 h3).1
        refine ⟨Or.inr (by decide), fun _ => m_accountHere (d := d) ho w3 r3 hv hN (fun x hx ξ hf => ?_) (fun c hc => ?_), fun h => absurd (by decide) h⟩
        · rw [hx] at k
          exact ⟨Or.inl rfl, fun h => absurd rfl h, fun _ => ⟨by decide, by decide, LQ_bad (k ξ hf)⟩⟩
        · rw [hc] at k
          dsimp only [Except.bind] at k
          have qc := pacc_ok hv hc
          have w4 := nx_wft w3
          refine ⟨Or.inr ⟨⟨by omega, by omega⟩, ⟨by omega, by omega⟩⟩, fun _ => ⟨Or.inr ⟨⟨by omega, by omega⟩, ⟨by omega, by omega⟩⟩, fun nac => ?_, fun eac => ?_⟩, fun h => absurd h (by omega)⟩
          · rw [if_neg nac] at k
            refine m_adv (d := d + 2) ho w3 r3 (fun ξ4 r4 _ => m_takesNumber (d := d) ⟨by omega, by omega⟩ rfl ho w4 r4 (fun x hx ξ hf => ?_) (fun v h5 ξ5 r5 v5 => ?_))
            · rw [hx] at k
              exact ⟨Or.inl rfl, fun h => absurd rfl h, fun _ => ⟨by decide, by decide, LQ_bad (k ξ hf)⟩⟩
            · rw [h5] at k
              dsimp only [Except.bind] at k
              have q5 := pnum_ok h5
              have w5 : wft f n v.2 := q5.2.1 ▸ nx_wft w4
              have kr := kwt_in f v.2
              have km := kmap_in kr
              have notat : v.2.1 ≠ 1 ∨ kwt f v.2 ≠ 6 → wp true (d + 3) 242 0 [(40, 0), (0, 2)] [] ξ5 (fun r12 μ12 => 0 ≤ r12 ∧ r12 ≤ 1 ∧ LQ (d + 4) Q r12 μ12) := fun hh => by
                have e : pat f n v.2 = .error (pft v.2 2) := by
                  unfold pat
                  rw [if_neg (by omega)]
                rw [e] at k
                exact m_fails w5 r5 ⟨by omega, by omega⟩ (fun ξ hf _ => ⟨by decide, by decide, LQ_bad (k ξ hf)⟩)
              refine ⟨Or.inr (by decide), fun _ => m_key (d := d + 2) rfl ho r5.2.1 w5 r5.2.2.2.1 (fun e1 => ⟨Or.inr ⟨⟨by omega, by omega⟩, ⟨by omega, by omega⟩⟩, fun e6 => ?_, fun n6 => notat (Or.inr (fun h => n6 (by rw [h]; decide)))⟩) (fun n1 => ⟨Or.inr (by decide), fun h => absurd h (by decide), fun _ => notat (Or.inl n1)⟩), fun h => absurd (by decide) h⟩
              have k6 : kwt f v.2 = 6 := by
                unfold kmap at e6
                repeat' split at e6
                all_goals omega
              have e : pat f n v.2 = .ok (nx f n v.2.2.2) := by
                unfold pat
                rw [if_pos ⟨e1, k6⟩]
              rw [e] at k
              dsimp only [Except.bind] at k
              have w6 := nx_wft w5
              refine m_adv (d := d + 2) ho w5 r5 (fun ξ6 r6 _ => m_takesNumber (d := d) ⟨by omega, by omega⟩ rfl ho w6 r6 (fun x hx ξ hf => ?_) (fun w h7 ξ7 r7 v7 => ?_))
              · rw [hx] at k
                exact ⟨Or.inl rfl, fun h => absurd rfl h, fun _ => ⟨by decide, by decide, LQ_bad (k ξ hf)⟩⟩
              · rw [h7] at k
                dsimp only [Except.bind] at k
                have q7 := pnum_ok h7
                have w7 : wft f n w.2 := q7.2.1 ▸ nx_wft w6
                rw [v5, v7]
                refine ⟨Or.inr (by decide), fun _ => m_comes (d := d) r7.2.2.1 hv (by omega) ⟨by omega, by omega⟩ (fun ξ8 hf8 hM8 h12 => ⟨by decide, by decide, LQ_good (d := d + 1) ho w7 ?_ k⟩), fun h => absurd (by decide) h⟩
                obtain ⟨r80, r81, _, r83, r84, r85, r86, r87, r88⟩ := r7
                exact ⟨jfr_trans r80 (jfr_mono hf8 (fun t y i h => by omega)), TXm_fr r81 (hf8 _ _ _ (by omega)) (fun i => hf8 _ _ _ (by omega)), hM8, ⟨(hf8 _ _ _ (by omega)).trans r83.1, (hf8 _ _ _ (by omega)).trans r83.2.1, (hf8 _ _ _ (by omega)).trans r83.2.2.1, fun h => (hf8 _ _ _ (by omega)).trans (r83.2.2.2 h)⟩, (hf8 _ _ _ (by omega)).trans r84, fun k k0 k1 => (hf8 _ _ _ (by omega)).trans (r85 k k0 k1), (hf8 _ _ _ (by omega)).trans r86, (hf8 _ _ _ (by omega)).trans r87, h12⟩
          · have eac : a = c := Decidable.byContradiction eac
            rw [if_pos eac] at k
            have p4 : pft t3 4 = (4, t3.2.1) := by
              unfold pft
              rw [if_neg (by omega)]
            exact m_fails w3 r3 ⟨by omega, by omega⟩ (fun ξ hf _ => ⟨by decide, by decide, LQ_bad (k ξ (p4 ▸ hf))⟩)
  · rw [if_pos (by omega)] at k
    have p6 : pft t 6 = (6, t.2.1) := by
      unfold pft
      rw [if_neg (by omega)]
    exact m_fails hw h ⟨by omega, by omega⟩ (fun ξ hf _ => ⟨by decide, by decide, LQ_bad (k ξ (p6 ▸ hf))⟩)
theorem MT_fr {μ ξ : JM} (h : MT f t μ) (e : ∀ i, 18 ≤ i → i ≤ 21 → ξ 40 0 i = μ 40 0 i) : MT f t ξ := ⟨(e _ (by omega) (by omega)).trans h.1, (e _ (by omega) (by omega)).trans h.2.1, (e _ (by omega) (by omega)).trans h.2.2.1, fun h1 => (e _ (by omega) (by omega)).trans (h.2.2.2 h1)⟩
theorem m_aTrust (ho : okt f n) (hw : wft f n t) (h : RDm z f n b N o t ν) (hv : vb b) (hN : nmok b N) (k : PKm z f n Q (ptru f n b N o t)) : wp true (d + 4) 252 0 [(40, 0), (9, 0)] [] ν (LQ (d + 4) Q) := by
  have hn := vb_n hv
  unfold ptru at k
  refine s_X11_aTrust_0 (d + 3) _ _ (m_adv (d := d + 2) ho hw h (fun ξ1 r1 _ => ?_))
  have w1 := nx_wft hw
  refine m_accountHere (d := d) ho w1 r1 hv hN (fun x hx ξ hf => ?_) (fun a ha => ?_)
  · rw [hx] at k
    exact ⟨Or.inl rfl, fun h => absurd rfl h, fun _ => ⟨by decide, by decide, LQ_bad (k ξ hf)⟩⟩
  · rw [ha] at k
    dsimp only [Except.bind] at k
    have qa := pacc_ok hv ha
    rw [isM_tr r1.2.2.1]
    refine ⟨Or.inr ⟨⟨by omega, by omega⟩, ⟨by omega, by omega⟩⟩, fun _ => ⟨by omega, by omega, w_has ⟨by omega, by omega⟩ (fun hb => ⟨by decide, fun h => absurd h (by decide), fun _ => ?_⟩) (fun hb => ⟨by decide, fun _ => ?_, fun h => absurd rfl h⟩)⟩, fun h => absurd h (by omega)⟩
    · rw [if_pos hb] at k
      have p5 : pft (nx f n t.2.2) 5 = (5, (nx f n t.2.2).2.1) := by
        unfold pft
        rw [if_neg (by omega)]
      exact m_fails w1 r1 ⟨by omega, by omega⟩ (fun ξ hf _ => ⟨by decide, by decide, LQ_bad (k ξ (p5 ▸ hf))⟩)
    · rw [if_neg (by rw [hb]; decide)] at k
      refine ⟨by omega, by omega, by omega, by omega, ?_⟩
      obtain ⟨r10, r11, r12, r13, r14, r15, r16, r17, r18⟩ := r1
      rw [isM_tr r12]
      generalize eM : jw ξ1 41 0 2 (jor (b 5 2) (jshl 1 a)) = M
      have g : ∀ t y i, ¬ (t = 41 ∧ y = 0 ∧ i = 2) → M t y i = ξ1 t y i := fun t y i h => by
        rw [← eM]
        unfold jw
        rw [if_neg h]
      have rM : RDm z f n (pone b 5 2 (jor (b 5 2) (jshl 1 a))) N o (nx f n t.2.2) M := by
        refine ⟨?_, TXm_fr r11 (g _ _ _ (by omega)) (fun i => g _ _ _ (by omega)), isM_one (x0 := 2) (Or.inr (Or.inl ⟨rfl, rfl, rfl⟩)) r12 (by rw [← eM, jw_eq]) (fun i hh => g _ _ _ (by omega)), MT_fr r13 (fun i _ _ => g _ _ _ (by omega)), (g _ _ _ (by omega)).trans r14, fun k k0 k1 => ?_, (g _ _ _ (by omega)).trans r16, (g _ _ _ (by omega)).trans r17, (g _ _ _ (by omega)).trans r18⟩
        · rw [← eM]
          exact jfr_jw r10 (by omega)
        · rw [pone_ne (by omega)] at k1
          rw [g _ _ _ (by omega)]
          exact r15 k k0 k1
      exact m_takesOn (d := d + 1) ho w1 rM (fun ξ2 r2 _ => ⟨by decide, by decide, LQ_good (d := d + 1) ho (nx_wft w1) r2 k⟩)
theorem m_aBound {j : Int} (hj : 0 ≤ j ∧ j ≤ 3) (ho : okt f n) (hw : wft f n t) (h : RDm z f n b N o t ν) (h1 : t.1 = 1) (k : PKm z f n Q (pbnd f n b N o t j)) : wp true (d + 4) 253 0 [(40, 0), (0, j)] [] ν (LQ (d + 4) Q) := by
  unfold pbnd at k
  refine s_X11_aBound_0 (d + 3) _ _ _ ?_
  rw [h.2.2.2.2.1]
  refine w_has ⟨by omega, by omega⟩ (fun hb => ⟨by decide, fun h => absurd h (by decide), fun _ => ?_⟩) (fun hb => ⟨by decide, fun _ => ?_, fun h => absurd rfl h⟩)
  · rw [if_pos hb] at k
    have p5 : pft t 5 = (5, t.2.1) := by
      unfold pft
      rw [if_neg (by omega)]
    exact m_fails hw h ⟨by omega, by omega⟩ (fun ξ hf _ => ⟨by decide, by decide, LQ_bad (k ξ (p5 ▸ hf))⟩)
  · rw [if_neg (by rw [hb]; decide)] at k
    obtain ⟨r10, r11, r12, r13, r14, r15, r16, r17, r18⟩ := h
    rw [r14]
    generalize eM : jw ν 40 0 25 (jor o (jshl 1 j)) = M
    have g : ∀ t y i, ¬ (t = 40 ∧ y = 0 ∧ i = 25) → M t y i = ν t y i := fun t y i h => by
      rw [← eM]
      unfold jw
      rw [if_neg h]
    have rM : RDm z f n b N (jor o (jshl 1 j)) t M := by
      refine ⟨?_, TXm_fr r11 (g _ _ _ (by omega)) (fun i => g _ _ _ (by omega)), isM_fr r12 (fun i => g _ _ _ (by omega)), MT_fr r13 (fun i _ _ => g _ _ _ (by omega)), by rw [← eM, jw_eq], fun k k0 k1 => ?_, (g _ _ _ (by omega)).trans r16, (g _ _ _ (by omega)).trans r17, (g _ _ _ (by omega)).trans r18⟩
      · rw [← eM]
        exact jfr_jw r10 (by omega)
      · rw [g _ _ _ (by omega)]
        exact r15 k k0 k1
    have w1 := nx_wft hw
    have mr := mkd_in (nx f n t.2.2).1
    refine m_adv (d := d + 2) ho hw rM (fun ξ1 r1 _ => ?_)
    rw [r1.2.2.2.1.1]
    refine ⟨Or.inr ⟨⟨by omega, by omega⟩, ⟨by omega, by omega⟩⟩, fun e2 => ?_, fun n2 => ?_⟩
    · have e2 := mkd_2.1 e2
      rw [if_pos e2] at k
      have vr := vlt_in w1 e2
      rw [r1.2.2.2.1.2.2.2 e2]
      refine w_isBound (d := d + 2) ⟨by omega, by omega⟩ ⟨by omega, by omega⟩ (fun hp => ⟨by decide, fun _ => ?_, fun h => absurd (by decide) h⟩) (fun hp => ⟨by decide, fun h => absurd rfl h, fun _ => ?_⟩)
      · rw [if_pos hp] at k
        refine ⟨by omega, by omega, ?_⟩
        rw [r1.2.2.2.1.2.2.2 e2]
        obtain ⟨s10, s11, s12, s13, s14, s15, s16, s17, s18⟩ := r1
        generalize eM2 : jw ξ1 41 0 (3 + j) (vlt f (nx f n t.2.2)) = M2
        have g2 : ∀ t y i, ¬ (t = 41 ∧ y = 0 ∧ i = 3 + j) → M2 t y i = ξ1 t y i := fun t y i h => by
          rw [← eM2]
          unfold jw
          rw [if_neg h]
        have rM2 : RDm z f n (pone b 4 j (vlt f (nx f n t.2.2))) N (jor o (jshl 1 j)) (nx f n t.2.2) M2 := by
          refine ⟨?_, TXm_fr s11 (g2 _ _ _ (by omega)) (fun i => g2 _ _ _ (by omega)), isM_one (x0 := 3 + j) (Or.inr (Or.inr ⟨rfl, ⟨hj.1, by omega⟩, rfl⟩)) s12 (by rw [← eM2, jw_eq]) (fun i hh => g2 _ _ _ (by omega)), MT_fr s13 (fun i _ _ => g2 _ _ _ (by omega)), (g2 _ _ _ (by omega)).trans s14, fun k k0 k1 => ?_, (g2 _ _ _ (by omega)).trans s16, (g2 _ _ _ (by omega)).trans s17, (g2 _ _ _ (by omega)).trans s18⟩
          · rw [← eM2]
            exact jfr_jw s10 (by omega)
          · rw [pone_ne (by omega)] at k1
            rw [g2 _ _ _ (by omega)]
            exact s15 k k0 k1
        exact m_takesOn (d := d + 1) ho w1 rM2 (fun ξ2 r2 _ => ⟨by decide, by decide, LQ_good (d := d + 1) ho (nx_wft w1) r2 k⟩)
      · rw [if_neg hp] at k
        have p4 : pft (nx f n t.2.2) 4 = (4, (nx f n t.2.2).2.1) := by
          unfold pft
          rw [if_neg (by omega)]
        exact m_fails w1 r1 ⟨by omega, by omega⟩ (fun ξ hf _ => ⟨by decide, by decide, LQ_bad (k ξ (p4 ▸ hf))⟩)
    · rw [if_neg (fun h => n2 (mkd_2.2 h))] at k
      exact m_fails w1 r1 ⟨by omega, by omega⟩ (fun ξ hf _ => ⟨by decide, by decide, LQ_bad (k ξ hf)⟩)
theorem m_someLoop (ho : okt f n) : ∀ (k : Nat) (i : Int) (b : BK) (N : Int → Int) (t : TK) (ν : JM), i + (k : Int) = n + 1 → 0 ≤ i → wft f n t → (t.1 ≠ 0 → i + 1 ≤ t.2.2) → RDm z f n b N o t ν → vb b → nmok b N → PKm z f n Q (pnms f n o k b N t) → wp true (d + 4) 250 0 [(40, 0)] [] ν (LQ (d + 4) Q)
  | 0, i, b, N, t, ν, hk, hi, hw, he, h, hv, hN, K => by
    have hn := ho.1
    have hw' := hw.2.1
    have K : PKm z f n Q ((psig f n 59 t).bind fun t2 => .ok (b, N, o, t2)) := K
    exact s_X11_someAccounts_0 (d + 3) _ _ (m_isName (d := d + 1) ho hw h.2.1 h.2.2.2.1 (fun e1 _ => by have := he (by omega); omega) (fun _ => ⟨Or.inl rfl, fun _ => ⟨by decide, by decide, LQ_good (d := d + 1) ho hw h K⟩, fun h => absurd rfl h⟩))
  | k + 1, i, b, N, t, ν, hk, hi, hw, he, h, hv, hN, K => by
    have hn := ho.1
    have hw' := hw.2.1
    have hb := vb_n hv
    have pr := pfd_in N hb.1 (nmt f t)
    have K : PKm z f n Q (if t.1 = 1 then (if isnm f t then (if pfd N (b 5 0) (nmt f t) = -1 then (if b 5 0 = 12 then .error (6, t.2.1) else pnms f n o k (pone b 5 0 (b 5 0 + 1)) (pnew N (b 5 0) (nmt f t)) (nx f n t.2.2)) else .error (3, t.2.1)) else .error (2, t.2.1)) else (psig f n 59 t).bind fun t2 => .ok (b, N, o, t2)) := K
    refine s_X11_someAccounts_0 (d + 3) _ _ (m_isName (d := d + 1) ho hw h.2.1 h.2.2.2.1 (fun e1 hi2 => ⟨by decide, fun h => absurd h (by decide), fun _ => ?_⟩) (fun hni => ⟨Or.inl rfl, fun _ => ⟨by decide, by decide, LQ_good (d := d + 1) ho hw h ?_⟩, fun h => absurd rfl h⟩))
    · rw [if_pos e1, if_pos hi2] at K
      refine m_named (d := d + 1) ho hw e1 hi2.2 hv hN h.2.1 h.2.2.2.1.2.1 h.2.2.2.1.2.2.1 (isM_n h.2.2.1) h.2.2.2.2.2.1 ?_
      rw [isM_n h.2.2.1]
      refine ⟨Or.inr ⟨⟨by omega, by omega⟩, ⟨by omega, by omega⟩⟩, fun e => ?_, fun ne => ?_⟩
      · rw [if_pos e] at K
        refine ⟨by omega, by omega, Or.inr ⟨⟨by omega, by omega⟩, ⟨by omega, by omega⟩⟩, fun n12 => ?_, fun e12 => ?_⟩
        · rw [if_neg n12] at K
          refine ⟨by omega, by omega, m_nameHere (d := d + 2) ho hw e1 hi2.2 h.2.1 h.2.2.2.1.2.1 h.2.2.2.1.2.2.1 ⟨by omega, by omega, by omega, by omega, by omega, by omega, ?_⟩⟩
          obtain ⟨r10, r11, r12, r13, r14, r15, r16, r17, r18⟩ := h
          generalize eM1 : jw ν 68 0 (b 5 0) (nmt f t) = M1
          have g1 : ∀ t y i, ¬ (t = 68 ∧ y = 0 ∧ i = b 5 0) → M1 t y i = ν t y i := fun t y i h => by
            rw [← eM1]
            unfold jw
            rw [if_neg h]
          rw [g1 41 0 0 (by omega), isM_n r12]
          generalize eM : jw M1 41 0 0 (b 5 0 + 1) = M
          have g : ∀ t y i, ¬ (t = 41 ∧ y = 0 ∧ i = 0) → M t y i = M1 t y i := fun t y i h => by
            rw [← eM]
            unfold jw
            rw [if_neg h]
          have rM : RDm z f n (pone b 5 0 (b 5 0 + 1)) (pnew N (b 5 0) (nmt f t)) o t M := by
            refine ⟨?_, TXm_fr r11 ((g _ _ _ (by omega)).trans (g1 _ _ _ (by omega))) (fun i => (g _ _ _ (by omega)).trans (g1 _ _ _ (by omega))), isM_one (x0 := 0) (Or.inl ⟨rfl, rfl, rfl⟩) r12 (by rw [← eM, jw_eq]) (fun i hh => (g _ _ _ (by omega)).trans (g1 _ _ _ (by omega))), MT_fr r13 (fun i _ _ => (g _ _ _ (by omega)).trans (g1 _ _ _ (by omega))), ((g _ _ _ (by omega)).trans (g1 _ _ _ (by omega))).trans r14, fun k k0 k1 => ?_, ((g _ _ _ (by omega)).trans (g1 _ _ _ (by omega))).trans r16, ((g _ _ _ (by omega)).trans (g1 _ _ _ (by omega))).trans r17, ((g _ _ _ (by omega)).trans (g1 _ _ _ (by omega))).trans r18⟩
            · rw [← eM, ← eM1]
              exact jfr_jw (jfr_jw r10 (by omega)) (by omega)
            · rw [pone_eq] at k1
              rw [g _ _ _ (by omega)]
              unfold pnew
              by_cases hk : k = b 5 0
              · rw [if_pos hk, hk, ← eM1, jw_eq]
              · rw [if_neg hk, g1 _ _ _ (by omega)]
                exact r15 k k0 (by omega)
          have he1 := he (by omega)
          exact m_adv (d := d + 2) ho hw rM (fun ξ hx _ => m_someLoop ho k (i + 1) _ _ _ ξ (by omega) (by omega) (nx_wft hw) (nx_far hw he1) hx (vb_add hv n12) (nmok_add hN (nmt_in hw e1 hi2.2)) K)
        · have e12 : b 5 0 = 12 := Decidable.byContradiction e12
          rw [if_pos e12] at K
          have p6 : pft t 6 = (6, t.2.1) := by
            unfold pft
            rw [if_neg (by omega)]
          exact m_fails hw h ⟨by omega, by omega⟩ (fun ξ hf _ => ⟨by decide, by decide, LQ_bad (K ξ (p6 ▸ hf))⟩)
      · rw [if_neg ne] at K
        have p3 : pft t 3 = (3, t.2.1) := by
          unfold pft
          rw [if_neg (by omega)]
        exact m_fails hw h ⟨by omega, by omega⟩ (fun ξ hf _ => ⟨by decide, by decide, LQ_bad (K ξ (p3 ▸ hf))⟩)
    · by_cases e1 : t.1 = 1
      · -- a word that is no name stands where a sign must
        rw [if_pos e1, if_neg (fun h => hni ⟨e1, h⟩)] at K
        have e : psig f n 59 t = .error (2, t.2.1) := by
          unfold psig pft
          rw [if_neg (by omega), if_neg (by omega)]
        rw [e]
        exact K
      · rw [if_neg e1] at K
        exact K
theorem m_aLine (ho : okt f n) (hw : wft f n t) (he : t.1 ≠ 0 → 1 ≤ t.2.2) (h : RDm z f n b N o t ν) (hv : vb b) (hN : nmok b N) (k : PKm z f n Q (pline f n b N o t)) : wp true (d + 5) 254 0 [(40, 0), (9, 0), (9, 0)] [] ν Q := by
  have hn := ho.1
  have kr := kwt_in f t
  have km := kmap_in kr
  unfold pline at k
  have bad : (∀ ξ, RFm z (pft t 2) ξ → Q 0 ξ) → wp true (d + 4) 242 0 [(40, 0), (0, 2)] [] ν (LQ (d + 4) Q) := fun hq => m_fails hw h ⟨by omega, by omega⟩ (fun ξ hf _ => LQ_bad (hq ξ hf))
  have nms : t.1 = 1 → (kwt f t = -1 ∨ kwt f t = 6) → PKm z f n Q (pnms f n o (n.toNat + 1) b N t) := fun e1 e => by
    rw [if_pos e1, if_neg (by omega), if_neg (by omega), if_neg (by omega)] at k
    exact k
  refine s_X11_aLine_0 (d + 4) _ _ (m_key (d := d + 3) rfl ho h.2.1 hw h.2.2.2.1 (fun e1 => ?_) (fun n1 => ?_))
  · have nm2 : ¬ isnm f t → (kwt f t = -1 ∨ kwt f t = 6) → ∀ ξ, RFm z (pft t 2) ξ → Q 0 ξ := fun hi e ξ hf => by
      have q := nms e1 e
      have q : PKm z f n Q (if t.1 = 1 then (if isnm f t then (if pfd N (b 5 0) (nmt f t) = -1 then (if b 5 0 = 12 then .error (6, t.2.1) else pnms f n o n.toNat (pone b 5 0 (b 5 0 + 1)) (pnew N (b 5 0) (nmt f t)) (nx f n t.2.2)) else .error (3, t.2.1)) else .error (2, t.2.1)) else (psig f n 59 t).bind fun t2 => .ok (b, N, o, t2)) := q
      rw [if_pos e1, if_neg hi] at q
      have p2 : pft t 2 = (2, t.2.1) := by
        unfold pft
        rw [if_neg (by omega)]
      exact q ξ (p2 ▸ hf)
    refine ⟨Or.inr ⟨⟨by omega, by omega⟩, ⟨by omega, by omega⟩⟩, fun hne => ⟨Or.inr ⟨⟨by omega, by omega⟩, ⟨by omega, by omega⟩⟩, fun hn0 => ⟨Or.inr ⟨⟨by omega, by omega⟩, ⟨by omega, by omega⟩⟩, fun hn2 => ⟨⟨⟨by omega, by omega⟩, ⟨by omega, by omega⟩⟩, fun hlt => ?_, fun hge => ?_⟩, fun h2 => ?_⟩, fun h0 => ?_⟩, fun hm1 => ?_⟩
    · -- at
      have e6 : kwt f t = 6 := by
        unfold kmap at hne hn0 hn2 hlt
        repeat' split at hlt
        all_goals (repeat' split at hne)
        all_goals omega
      exact bad (nm2 (fun h => by have := h.1; omega) (Or.inr e6))
    · -- a bound
      have e3 : (0 ≤ kwt f t ∧ kwt f t ≤ 3) ∧ kmap (kwt f t) - 3 = kwt f t := by
        unfold kmap at hge ⊢
        repeat' split at hge
        all_goals (repeat' split)
        all_goals omega
      rw [if_pos e1, if_neg (by omega), if_neg (by omega), if_pos e3.1] at k
      rw [e3.2]
      exact m_aBound (d := d) e3.1 ho hw h e1 k
    · have e5 : kwt f t = 5 := by
        have h2 := Decidable.byContradiction h2
        unfold kmap at h2
        repeat' split at h2
        all_goals omega
      rw [if_pos e1, if_neg (by omega), if_pos e5] at k
      exact m_aTrust (d := d) ho hw h hv hN k
    · have e4 : kwt f t = 4 := by
        have h0 := Decidable.byContradiction h0
        unfold kmap at h0
        repeat' split at h0
        all_goals omega
      rw [if_pos e1, if_pos e4] at k
      exact m_aPay (d := d) ho hw e1 h hv hN k
    · have em : kwt f t = -1 := by
        have hm1 := Decidable.byContradiction hm1
        unfold kmap at hm1
        repeat' split at hm1
        all_goals omega
      refine m_isName (d := d + 2) ho hw h.2.1 h.2.2.2.1 (fun _ hi => ⟨by decide, fun h => absurd h (by decide), fun _ => ?_⟩) (fun hni => ⟨by decide, fun _ => ?_, fun h => absurd rfl h⟩)
      · exact m_someLoop (d := d) ho (n.toNat + 1) 0 b N t ν (by omega) (Int.le_refl _) hw (fun h => by have := he h; omega) h hv hN (nms e1 (Or.inl em))
      · exact bad (nm2 (fun h => hni ⟨e1, h⟩) (Or.inl em))
  · rw [if_neg n1] at k
    refine ⟨Or.inr (by decide), fun h => absurd rfl h, fun _ => m_isName (d := d + 2) ho hw h.2.1 h.2.2.2.1 (fun e1 _ => absurd e1 n1) (fun _ => ⟨by decide, fun _ => ?_, fun h => absurd rfl h⟩)⟩
    exact bad k
end
