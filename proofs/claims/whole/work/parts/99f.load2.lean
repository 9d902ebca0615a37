/-! load -/
def aLoad (s : SS) (n : Int) : (Int × Int) × SS := if ¬ (0 ≤ n ∧ n ≤ s.2.1.1) then ((-1, 1), s) else match pparse (txt s.2.1.2) n with
  | .error x => ((-1, 9), s.1, (0, s.2.1.2), x)
  | .ok r => ((r.1 5 0, 0), (r.1, keep s.1.1 s.1.2.1, s.1.2.2), (0, s.2.1.2), (0, -1))
theorem okg_0 (g : Int → Int) : okg 0 g := ⟨by omega, fun i i0 i1 => by omega⟩
theorem v_load {s : SS} {n : Int} (hV : VA s) : VA (aLoad s n).2 := by
  unfold aLoad
  split
  · exact hV
  · rename_i hn
    have hn := Decidable.byContradiction hn
    split
    · exact ⟨hV.1, okg_0 _⟩
    · rename_i r hp
      exact ⟨⟨vl_parse hn.1 hp, vbs_keep hV.1.1 hV.1.2.1, hV.1.2.2⟩, okg_0 _⟩
theorem c_load {d : Nat} {s : SS} {c n : Int} {ν : JM} {Q : JQ} (hV : VA s) (h : CA s c ν) (hn : inR n) (k : KCA c ν Q (aLoad s n)) : wp true (d + 14) 130 0 [(11, 0), (0, n)] [] ν Q := by
  obtain ⟨hC, hT, hf2, hf3⟩ := h
  have hg := hV.2
  have h1 := hg.1
  have bad : KCA c ν Q ((-1, 1), s) → Q (-1) (jw ν 11 0 8 1) := fun k => by
    have e : ∀ t y i, ¬ (t = 11 ∧ y = 0 ∧ i = 8) → jw ν 11 0 8 1 t y i = ν t y i := fun t y i h => by
      unfold jw
      rw [if_neg h]
    exact k _ ⟨CI_fr hC (by omega) (fun t y i h => e _ _ _ (by omega)), LC_fr ⟨hT, hf2, hf3⟩ (fun t y i h => e _ _ _ (by omega))⟩ (fun t y i h => e _ _ _ (by omega)) (jw_eq _ _ _ _ _)
  unfold aLoad at k
  refine s_X10_load_0 (d + 13) _ _ _ ?_
  rw [hT.1]
  refine ⟨⟨hn, ⟨by omega, by omega⟩⟩, fun h0 => ?_, fun h0 => ⟨⟨hn, ⟨by omega, by omega⟩⟩, fun hle => ?_, fun hgt => ?_⟩⟩
  · rw [if_pos (by omega)] at k
    exact bad k
  · rw [if_neg (by omega)] at k
    refine c_read (d := d + 8) hg ⟨by omega, hle⟩ hT (fun x hp ξ hf a1 a2 a3 a4 a5 => ?_) (fun r hp ξ hf a1 a2 a3 a4 => ?_)
    · rw [hp] at k
      rw [a2]
      refine ⟨Or.inr ⟨⟨by omega, by omega⟩, ⟨by omega, by omega⟩⟩, fun h => absurd h (by omega), fun _ => ?_⟩
      have e : ∀ t y i, ¬ (t = 11 ∧ y = 0 ∧ i = 8) → jw ξ 11 0 8 9 t y i = ξ t y i := fun t y i h => by
        unfold jw
        rw [if_neg h]
      exact k _ ⟨CI_fr hC (by omega) (fun t y i h => by rw [e _ _ _ (by omega), hf _ _ _ (by omega)]), ⟨(e _ _ _ (by omega)).trans a1, fun i i0 i1 => by have i1 : i < 0 := i1; omega⟩, (e _ _ _ (by omega)).trans a2, (e _ _ _ (by omega)).trans a3⟩ (fun t y i h => by rw [e _ _ _ (by omega), hf _ _ _ (by omega)]) (jw_eq _ _ _ _ _)
    · rw [hp] at k
      rw [a2]
      have hvr := vl_parse (by omega) hp
      have hC1 : CI s.1.1 s.1.2.1 s.1.2.2 c ξ := CI_fr hC (by omega) (fun t y i h => hf _ _ _ (by omega))
      refine ⟨Or.inl rfl, fun _ => c_beginAct (d := d + 11) hV.1 hC1 (fun ξ2 b1 b2 b3 b9 fb => c_copy (d := d + 13) (x := 0) (y := 1) (isC_fr a4 (fun t _ _ i => fb _ _ _ (by omega))) hvr (by omega) (fun ζ fz z1 => ?_)), fun h => absurd rfl h⟩
      rw [isC_n z1]
      have q := CI_act hC z1 (hC_fr b2 (fun t x i h => fz _ _ _ (by omega))) (kC_fr b3 (fun t x i h => fz _ _ _ (by omega))) ((fz _ _ _ (by omega)).trans b9) (fun t y i h => by rw [fz _ _ _ (by omega), fb _ _ _ (by omega), hf _ _ _ (by omega)])
      have e : ∀ t y i, ¬ (t = 11 ∧ y = 0 ∧ i = 8) → jw ζ 11 0 8 0 t y i = ζ t y i := fun t y i h => by
        unfold jw
        rw [if_neg h]
      refine k _ ⟨CI_fr q (by omega) (fun t y i h => e _ _ _ (by omega)), ⟨?_, fun i i0 i1 => by have i1 : i < 0 := i1; omega⟩, ?_, ?_⟩ (fun t y i h => by rw [e _ _ _ (by omega), fz _ _ _ (by omega), fb _ _ _ (by omega), hf _ _ _ (by omega)]) (jw_eq _ _ _ _ _)
      · rw [e _ _ _ (by omega), fz _ _ _ (by omega), fb _ _ _ (by omega)]
        exact a1
      · rw [e _ _ _ (by omega), fz _ _ _ (by omega), fb _ _ _ (by omega)]
        exact a2
      · rw [e _ _ _ (by omega), fz _ _ _ (by omega), fb _ _ _ (by omega)]
        exact a3
  · rw [if_pos (by omega)] at k
    exact bad k
/-! the reference's -/
theorem m_linesLoop {d : Nat} {f : TX} {n a1 : Int} {z : JM} {Q : JQ} (hto : okt f n) : ∀ (k : Nat) (i : Int) (b : BK) (N : Int → Int) (o : Int) (t : TK) (ν : JM), i + (k : Int) = n + 1 → 0 ≤ i → (t.1 ≠ 0 → i + 1 ≤ t.2.2) → vb b → nmok b N → (0 ≤ o ∧ o < 16) → wft f n t → RDm z f n b N o t ν → PKm z f n (fun _ ξ => ∀ l2, inR l2 → wp true (d + 6) 255 110 [(40, 0), (0, a1), (0, l2), (9, 0), (9, 0)] [] ξ Q) (plns f n k b N o t) → wp true (d + 6) 255 91 [(40, 0), (0, a1), (0, 1), (9, 0), (9, 0)] [] ν Q
  | 0, i, b, N, o, t, ν, hk, hi, he, hv, hN, ho, hw, h, K => by
    have hn := hto.1
    have hw' := hw.2.1
    have e0 : t.1 = 0 := by
      refine Decidable.byContradiction (fun hh => ?_)
      have := he hh
      omega
    have m0 : mkd t.1 = 0 := mkd_0.2 e0
    refine s_X11_load_91 (d + 5) _ _ _ _ ?_
    rw [h.2.2.2.1.1, m0]
    exact ⟨Or.inr (by decide), fun h => absurd h (by decide), fun _ => ⟨Or.inl rfl, fun _ => K ν h 1 ⟨by omega, by omega⟩, fun h => absurd rfl h⟩⟩
  | k + 1, i, b, N, o, t, ν, hk, hi, he, hv, hN, ho, hw, h, K => by
    have hn := hto.1
    have hw' := hw.2.1
    have mr := mkd_in t.1
    have K : PKm z f n (fun _ ξ => ∀ l2, inR l2 → wp true (d + 6) 255 110 [(40, 0), (0, a1), (0, l2), (9, 0), (9, 0)] [] ξ Q) (if t.1 = 0 then .ok (b, N, o, t) else (pline f n b N o t).bind fun s => plns f n k s.1 s.2.1 s.2.2.1 s.2.2.2) := K
    refine s_X11_load_91 (d + 5) _ _ _ _ ?_
    rw [h.2.2.2.1.1]
    refine ⟨Or.inr (by decide), fun h => absurd h (by decide), fun _ => ⟨Or.inr ⟨⟨by omega, by omega⟩, ⟨by omega, by omega⟩⟩, fun e0 => ?_, fun n0 => ?_⟩⟩
    · rw [if_pos (mkd_0.1 e0)] at K
      exact K ν h 1 ⟨by omega, by omega⟩
    · have n0 : t.1 ≠ 0 := fun h => n0 (mkd_0.2 h)
      rw [if_neg n0] at K
      have he1 := he n0
      refine m_aLine (d := d) hto hw (fun h => by have := he h; omega) h hv hN ?_
      cases hl : pline f n b N o t with
      | error x =>
        rw [hl] at K
        intro ξ hf
        exact s_X11_load_91 (d + 5) _ _ _ _ ⟨Or.inl rfl, fun _ => K ξ hf 0 ⟨by omega, by omega⟩, fun h => absurd rfl h⟩
      | ok s =>
        rw [hl] at K
        have q := vl_line hv hN ho hw hl
        have q2 := q.1.2.2.2.2.1
        exact fun ξ hx => m_linesLoop hto k (i + 1) _ _ _ _ ξ (by omega) (by omega) (fun h => by have := q.2 h; omega) q.1.1 q.1.2.1 q.1.2.2.1 q.1.2.2.2 hx K
/-- the books change their places -/
theorem m_swap {d : Nat} {a1 l2 : Int} {x y : Int → Int} {Q : JQ} {ν : JM} (K : ∀ ξ u, (∀ i, 0 ≤ i → i < 136 → ξ 41 0 i = y i ∧ ξ 41 0 (136 + i) = x i) → jfr (fun t z i => t = 41 ∧ z = 0 ∧ 0 ≤ i ∧ i < 272) ν ξ → wp true (d + 1) 255 142 [(40, 0), (0, a1), (0, l2), (0, 136), u] [] ξ Q) : ∀ (k : Nat) (i : Int) (u : JV) (ξ : JM), i + (k : Int) = 136 → 0 ≤ i → (∀ j, 0 ≤ j → j < i → ξ 41 0 j = y j ∧ ξ 41 0 (136 + j) = x j) → (∀ j, i ≤ j → j < 136 → ξ 41 0 j = x j ∧ ξ 41 0 (136 + j) = y j) → jfr (fun t z i => t = 41 ∧ z = 0 ∧ 0 ≤ i ∧ i < 272) ν ξ → wp true (d + 1) 255 142 [(40, 0), (0, a1), (0, l2), (0, i), u] [] ξ Q
  | 0, i, u, ξ, hk, hi, h1, h2, hf => by
    have e : i = 136 := by omega
    subst e
    exact K ξ u h1 hf
  | k + 1, i, u, ξ, hk, hi, h1, h2, hf => by
    have q := h2 i (by omega) (by omega)
    refine s_X11_load_142 d _ _ _ _ _ _ ⟨⟨⟨by omega, by omega⟩, ⟨by omega, by omega⟩⟩, fun h => absurd h (by omega), fun _ => ⟨hi, by omega, by omega, by omega, hi, by omega, by omega, by omega, m_swap K k (i + 1) _ _ (by omega) (by omega) (fun j j0 j1 => ?_) (fun j j0 j1 => ?_) (jfr_jw (jfr_jw hf (by omega)) (by omega))⟩⟩
    · by_cases e : j = i
      · subst e
        rw [jw_i (by omega), jw_eq, jw_eq]
        exact ⟨q.2, q.1⟩
      · rw [jw_i (by omega), jw_i (by omega), jw_i (by omega), jw_i (by omega)]
        exact h1 j j0 (by omega)
    · rw [jw_i (by omega), jw_i (by omega), jw_i (by omega), jw_i (by omega)]
      exact h2 j (by omega) j1
theorem jcpb_in {μ : JM} {i : Int} (h : 0 ≤ i ∧ i < 136) : jcp μ 41 0 136 41 0 0 136 41 0 i = μ 41 0 (136 + i) := by
  unfold jcp
  rw [if_pos ⟨rfl, rfl, h.1, by omega⟩]
  congr 1
  omega
theorem jcpb_out {μ : JM} {t : Nat} {y i : Int} (h : ¬ (t = 41 ∧ y = 0 ∧ 0 ≤ i ∧ i < 136)) : jcp μ 41 0 136 41 0 0 136 t y i = μ t y i := by
  unfold jcp
  rw [if_neg (by omega)]
theorem m_load {d : Nat} {s : SS} {n : Int} {ν : JM} {Q : JQ} (hV : VA s) (h : MA s ν) (hn : inR n) (k : KMA ν Q (aLoad s n)) : wp true (d + 14) 255 0 [(40, 0), (0, n), (9, 0), (9, 0), (9, 0)] [] ν Q := by
  obtain ⟨⟨gM, gH, gK, hL1, hL2⟩, hT, hf2, hf3⟩ := h
  have hg := hV.2
  have h1 := hg.1
  have hm := vb_m hV.1.1
  unfold aLoad at k
  refine s_X11_load_0 (d + 13) _ _ _ ?_
  rw [hT.1]
  refine w_isFrom hn ⟨by omega, by omega⟩ ⟨by omega, by omega⟩ (fun n0 nT => ⟨by decide, fun _ => ?_, fun h => absurd (by decide) h⟩) (fun hbad => ⟨by decide, fun h => absurd rfl h, fun _ => ?_⟩)
  · rw [if_neg (by omega)] at k
    -- the text is copied
    have cp : (∀ ξ, (∀ i, 0 ≤ i → i < n → ξ 67 0 i = s.2.1.2 i) → jfr (fun t y i => (t = 40 ∧ y = 0 ∧ i = 17) ∨ (t = 67 ∧ y = 0)) ν ξ → ξ 40 0 17 = n → wp true (d + 14) 255 25 [(40, 0), (0, n), (0, n), (9, 0), (9, 0)] [] ξ Q) → ∀ (k : Nat) (i : Int) (ξ : JM), i + (k : Int) = n → 0 ≤ i → (∀ j, 0 ≤ j → j < i → ξ 67 0 j = s.2.1.2 j) → jfr (fun t y i => (t = 40 ∧ y = 0 ∧ i = 17) ∨ (t = 67 ∧ y = 0)) ν ξ → ξ 40 0 17 = n → wp true (d + 14) 255 25 [(40, 0), (0, n), (0, i), (9, 0), (9, 0)] [] ξ Q := by
      intro kk k
      induction k with
      | zero =>
        intro i ξ hk hi hj hf h17
        have e : i = n := by omega
        subst e
        exact kk ξ hj hf h17
      | succ k ih =>
        intro i ξ hk hi hj hf h17
        have e66 : ξ 66 0 i = s.2.1.2 i := (hf _ _ _ (by omega)).trans (hT.2 i hi (by omega))
        have gb := hg.2 i hi (by omega)
        refine s_X11_load_25 (d + 13) _ _ _ _ ?_
        rw [e66]
        refine ⟨⟨⟨by omega, by omega⟩, ⟨by omega, by omega⟩⟩, fun h => absurd h (by omega), fun _ => ⟨hi, by omega, hi, by omega, gb.1, gb.2, ih (i + 1) _ (by omega) (by omega) (fun j j0 j1 => ?_) (jfr_jw hf (by omega)) ((jw_t (by omega)).trans h17)⟩⟩
        by_cases e : j = i
        · subst e
          rw [jw_eq]
        · rw [jw_i e]
          exact hj j j0 (by omega)
    refine cp ?_ n.toNat 0 _ (by omega) (Int.le_refl _) (fun j j0 j1 => by omega) (jfr_jw (jfr_refl _ _) (by omega)) (jw_eq _ _ _ _ _)
    intro ξ1 t1 f1 s1
    refine s_X11_load_25 (d + 13) _ _ _ _ ⟨⟨⟨by omega, by omega⟩, ⟨by omega, by omega⟩⟩, fun _ => ?_, fun h => absurd (Int.le_refl _) h⟩
    generalize eM : jw (jw (jw (jw (jw ξ1 40 0 16 0) 40 0 22 0) 40 0 23 (-1)) 40 0 25 0) 40 0 20 0 = M
    have g0 : ∀ t y i, ¬ (t = 40 ∧ y = 0 ∧ (i = 16 ∨ i = 22 ∨ i = 23 ∨ i = 25 ∨ i = 20)) → M t y i = ξ1 t y i := fun t y i h => by
      rw [← eM]
      unfold jw
      rw [if_neg (by omega), if_neg (by omega), if_neg (by omega), if_neg (by omega), if_neg (by omega)]
    have m16 : M 40 0 16 = 0 := by rw [← eM, jw_i (by omega), jw_i (by omega), jw_i (by omega), jw_i (by omega), jw_eq]
    have m22 : M 40 0 22 = 0 := by rw [← eM, jw_i (by omega), jw_i (by omega), jw_i (by omega), jw_eq]
    have m23 : M 40 0 23 = -1 := by rw [← eM, jw_i (by omega), jw_i (by omega), jw_eq]
    have m25 : M 40 0 25 = 0 := by rw [← eM, jw_i (by omega), jw_eq]
    have m20 : M 40 0 20 = 0 := by rw [← eM, jw_eq]
    refine m_copies (d := d + 13) ⟨by omega, by omega⟩ ⟨by omega, by omega⟩ (by omega) ?_
    have c1 : ∀ i, 0 ≤ i → i < 136 → jcp M 41 0 0 41 0 136 136 41 0 (136 + i) = ν 41 0 i := fun i i0 i1 => by
      have : jcp M 41 0 0 41 0 136 136 41 0 (136 + i) = M 41 0 (0 + (136 + i - 136)) := by
        unfold jcp
        rw [if_pos ⟨rfl, rfl, by omega, by omega⟩]
      rw [this, show 0 + (136 + i - 136) = i by omega, g0 _ _ _ (by omega), f1 _ _ _ (by omega)]
    have c0 : ∀ t y i, ¬ (t = 41 ∧ y = 0 ∧ 136 ≤ i ∧ i < 272) → jcp M 41 0 0 41 0 136 136 t y i = M t y i := fun t y i h => by
      unfold jcp
      rw [if_neg (by omega)]
    generalize jcp M 41 0 0 41 0 136 136 = M1 at c1 c0
    refine m_begins (d := d + 13) (fun M2 f2 b2 h12 => ?_)
    -- all of the reference but its own scratch
    have fr2 : ∀ t y i, ¬ (y = 0 ∧ ((t = 40 ∧ (i = 16 ∨ i = 17 ∨ i = 22 ∨ i = 23 ∨ i = 25 ∨ i = 20 ∨ i = 12)) ∨ (t = 67) ∨ (t = 41 ∧ 0 ≤ i ∧ i < 272))) → M2 t y i = ν t y i := fun t y i h => by rw [f2 _ _ _ (by omega), c0 _ _ _ (by omega), g0 _ _ _ (by omega), f1 _ _ _ (by omega)]
    have as2 : ∀ i, 0 ≤ i → i < 136 → M2 41 0 (136 + i) = ν 41 0 i := fun i i0 i1 => by rw [f2 _ _ _ (by omega)]; exact c1 i i0 i1
    have p40 : ∀ i, i ≠ 12 → M2 40 0 i = M 40 0 i := fun i h => by rw [f2 _ _ _ (by omega), c0 _ _ _ (by omega)]
    have ho := okt_txt hg ⟨n0, nT⟩
    have hTx : TXm (txt s.2.1.2) n M2 := ⟨by rw [p40 _ (by omega), g0 _ _ _ (by omega)]; exact s1, fun i i0 i1 => by rw [f2 _ _ _ (by omega), c0 _ _ _ (by omega), g0 _ _ _ (by omega), t1 i i0 i1]; rfl⟩
    refine m_ahead (d := d + 12) ho hTx ⟨Int.le_refl _, n0⟩ ((p40 _ (by omega)).trans m20) (fun ξ2 hf2' hc2 => ?_)
    have w2 := (nx_wf (f := txt s.2.1.2) (n := n) (i := 0) ⟨by omega, n0⟩).1
    have hR : RDm M2 (txt s.2.1.2) n bk0 (fun _ => 0) 0 (nx (txt s.2.1.2) n 0) ξ2 := ⟨jfr_mono hf2' (fun t y i h => by omega), TXm_fr hTx (hf2' _ _ _ (by omega)) (fun i => hf2' _ _ _ (by omega)), isM_fr b2 (fun i => hf2' _ _ _ (by omega)), hc2, (hf2' _ _ _ (by omega)).trans ((p40 _ (by omega)).trans m25), fun k k0 k1 => by have : bk0 5 0 = 0 := rfl; omega, (hf2' _ _ _ (by omega)).trans ((p40 _ (by omega)).trans m22), (hf2' _ _ _ (by omega)).trans ((p40 _ (by omega)).trans m23), (hf2' _ _ _ (by omega)).trans h12⟩
    refine m_linesLoop (d := d + 8) ho (n.toNat + 1) 0 bk0 (fun _ => 0) 0 (nx (txt s.2.1.2) n 0) ξ2 (by omega) (Int.le_refl _) (fun h => ?_) vb_bk0 nmok0 ⟨by omega, by omega⟩ w2 hR ?_
    · have := w2.2.2.1 h
      have := w2.2.1
      omega
    -- what is left of the old when the text is read
    have old : ∀ ξ, jfr PRm M2 ξ → (∀ i, 0 ≤ i → i < 136 → ξ 41 0 (136 + i) = ν 41 0 i) ∧ hM ξ s.1.2.1 ∧ kM ξ s.1.2.2 ∧ ξ 40 0 16 = 0 ∧ FRm ν ξ := fun ξ hf => by
      refine ⟨fun i i0 i1 => (hf _ _ _ (by omega)).trans (as2 i i0 i1), hM_fr hV.1.2.1 gH (fun t x i h => ?_), kM_fr hV.1.2.2 gK (fun t x i h => ?_), ?_, fun t y i h => ?_⟩
      · rw [hf _ _ _ (by omega), fr2 _ _ _ (by omega)]
      · rw [hf _ _ _ (by omega), fr2 _ _ _ (by omega)]
      · rw [hf _ _ _ (by omega), p40 _ (by omega)]
        exact m16
      · rw [hf _ _ _ (by omega), fr2 _ _ _ (by omega)]
    have hp0 : plns (txt s.2.1.2) n (n.toNat + 1) bk0 (fun _ => 0) 0 (nx (txt s.2.1.2) n 0) = pparse (txt s.2.1.2) n := rfl
    rw [hp0]
    cases hp : pparse (txt s.2.1.2) n with
    | error x =>
      rw [hp] at k
      intro ξ hx l2 hl2
      obtain ⟨fx, x22, x23, x12, xr⟩ := hx
      obtain ⟨o1, o2, o3, o4, o5⟩ := old ξ fx
      refine s_X11_load_110 (d + 13) _ _ _ _ ?_
      rw [x22, jw_i (by omega), x22]
      refine ⟨⟨⟨by omega, by omega⟩, ⟨by omega, by omega⟩⟩, fun h => absurd h (by omega), fun _ => m_copies (d := d + 13) ⟨by omega, by omega⟩ ⟨by omega, by omega⟩ (by omega) ?_⟩
      generalize eZ : jw (jcp (jw ξ 40 0 24 x.1) 41 0 136 41 0 0 136) 40 0 1 9 = Z
      have z0 : ∀ t y i, ¬ (y = 0 ∧ ((t = 40 ∧ (i = 24 ∨ i = 1)) ∨ (t = 41 ∧ 0 ≤ i ∧ i < 136))) → Z t y i = ξ t y i := fun t y i h => by
        rw [← eZ]
        unfold jw
        rw [if_neg (by omega), jcpb_out (by omega), if_neg (by omega)]
      have z1 : ∀ i, 0 ≤ i → i < 136 → Z 41 0 i = ν 41 0 i := fun i i0 i1 => by
        rw [← eZ, jw_t (by omega), jcpb_in ⟨i0, i1⟩, jw_t (by omega)]
        exact o1 i i0 i1
      have z24 : Z 40 0 24 = x.1 := by rw [← eZ, jw_i (by omega), jcpb_out (by omega), jw_eq]
      refine k Z ⟨MI_act (isF_fr gM hm.2 z1) (hM_fr hV.1.2.1 o2 (fun t x i h => z0 _ _ _ (by omega))) (kM_fr hV.1.2.2 o3 (fun t x i h => z0 _ _ _ (by omega))) ((z0 _ _ _ (by omega)).trans x12), ⟨(z0 _ _ _ (by omega)).trans o4, fun i i0 i1 => by have i1 : i < 0 := i1; omega⟩, z24, (z0 _ _ _ (by omega)).trans x23⟩ (fun t y i h => by rw [z0 _ _ _ (by omega)]; exact o5 t y i h) ?_
      rw [← eZ, jw_eq]
    | ok r =>
      rw [hp] at k
      intro ξ hx l2 hl2
      have hvr := vl_parse n0 hp
      have hrm := vb_m hvr
      obtain ⟨fx, _, xM, _, _, _, x22, x23, x12⟩ := hx
      obtain ⟨o1, o2, o3, o4, o5⟩ := old ξ fx
      refine s_X11_load_110 (d + 13) _ _ _ _ ?_
      rw [x22, jw_i (by omega), x22]
      refine ⟨⟨⟨by omega, by omega⟩, ⟨by omega, by omega⟩⟩, fun _ => ?_, fun h => absurd (by omega) h⟩
      generalize eY : jw ξ 40 0 24 0 = Y
      have y0 : ∀ t y i, ¬ (t = 40 ∧ y = 0 ∧ i = 24) → Y t y i = ξ t y i := fun t y i h => by
        rw [← eY]
        unfold jw
        rw [if_neg h]
      have y24 : Y 40 0 24 = 0 := by rw [← eY, jw_eq]
      refine m_swap (d := d + 13) (x := fun i => ξ 41 0 i) (y := fun i => ν 41 0 i) (ν := Y) (fun ξ3 u3 e3 f3 => ?_) 136 0 _ Y (by omega) (Int.le_refl _) (fun j j0 j1 => by omega) (fun j j0 j1 => ⟨y0 _ _ _ (by omega), (y0 _ _ _ (by omega)).trans (o1 j j0 j1)⟩) (jfr_refl _ _)
      have h3 : hM ξ3 s.1.2.1 := hM_fr hV.1.2.1 o2 (fun t x i h => by rw [f3 _ _ _ (by omega), y0 _ _ _ (by omega)])
      refine s_X11_load_142 (d + 13) _ _ _ _ _ _ ⟨⟨⟨by omega, by omega⟩, ⟨by omega, by omega⟩⟩, fun _ => m_acted (d := d + 12) (isF_fr gM hm.2 (fun i i0 i1 => (e3 i i0 i1).1)) hV.1.1 h3 hV.1.2.1 (fun ξ4 f4 h4 h412 => m_copies (d := d + 13) ⟨by omega, by omega⟩ ⟨by omega, by omega⟩ (by omega) ?_), fun h => absurd (Int.le_refl _) h⟩
      have hk := vbs_keep hV.1.1 hV.1.2.1
      generalize eZ : jw (jcp ξ4 41 0 136 41 0 0 136) 40 0 1 0 = Z
      have z0 : ∀ t y i, ¬ (y = 0 ∧ ((t = 40 ∧ i = 1) ∨ (t = 41 ∧ 0 ≤ i ∧ i < 136))) → Z t y i = ξ4 t y i := fun t y i h => by
        rw [← eZ]
        unfold jw
        rw [if_neg (by omega), jcpb_out (by omega)]
      have z1 : ∀ i, 0 ≤ i → i < 136 → jcp ξ4 41 0 136 41 0 0 136 41 0 i = ξ 41 0 i := fun i i0 i1 => by
        rw [jcpb_in ⟨i0, i1⟩, f4 _ _ _ (by omega)]
        exact (e3 i i0 i1).2
      have z2 : ∀ i, 0 ≤ i → i < 136 → Z 41 0 i = ξ 41 0 i := fun i i0 i1 => by
        rw [← eZ, jw_t (by omega)]
        exact z1 i i0 i1
      refine ⟨by omega, by omega, ?_⟩
      rw [z1 0 (by omega) (by omega), isM_n xM]
      have fz : ∀ t y i, ¬ (y = 0 ∧ ((t = 40 ∧ (i = 1 ∨ i = 2 ∨ i = 12 ∨ i = 24)) ∨ (t = 41 ∧ ((0 ≤ i ∧ i < 1632))))) → Z t y i = ξ t y i := fun t y i h => by
        rw [z0 _ _ _ (by omega), f4 _ _ _ (by omega), f3 _ _ _ (by omega), y0 _ _ _ (by omega)]
      refine k Z ⟨MI_act (isF_fr xM hrm.2 z2) (hM_fr hk h4 (fun t x i h => z0 _ _ _ (by omega))) (kM_fr hV.1.2.2 o3 (fun t x i h => fz _ _ _ (by omega))) ((z0 _ _ _ (by omega)).trans h412), ⟨(fz _ _ _ (by omega)).trans o4, fun i i0 i1 => by have i1 : i < 0 := i1; omega⟩, ?_, (fz _ _ _ (by omega)).trans x23⟩ (fun t y i h => by rw [fz _ _ _ (by omega)]; exact o5 t y i h) ?_
      · rw [z0 _ _ _ (by omega), f4 _ _ _ (by omega), f3 _ _ _ (by omega)]
        exact y24
      · rw [← eZ, jw_eq]
  · rw [if_pos (by omega)] at k
    have e : ∀ t y i, ¬ (t = 40 ∧ y = 0 ∧ i = 1) → jw ν 40 0 1 1 t y i = ν t y i := fun t y i h => by
      unfold jw
      rw [if_neg h]
    exact k _ ⟨MI_fr hV.1.2.1 hV.1.2.2 ⟨gM, gH, gK, hL1, hL2⟩ (fun t i h => e _ _ _ (by omega)), LR_fr ⟨hT, hf2, hf3⟩ (fun t y i h => e _ _ _ (by omega))⟩ (fun t y i h => e _ _ _ (by omega)) (jw_eq _ _ _ _ _)
