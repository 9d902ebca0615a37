/-! the tape and its text: feed, load, fault, status -/
abbrev SS : Type := ST × (Int × (Int → Int)) × PF
def TM (T : Int) (g : Int → Int) (ν : JM) : Prop := ν 40 0 16 = T ∧ ∀ i, 0 ≤ i → i < T → ν 66 0 i = g i
def LC (s : (Int × (Int → Int)) × PF) (ν : JM) : Prop := TC s.1.1 s.1.2 ν ∧ ν 20 0 2 = s.2.1 ∧ ν 20 0 3 = s.2.2
def LR (s : (Int × (Int → Int)) × PF) (ν : JM) : Prop := TM s.1.1 s.1.2 ν ∧ ν 40 0 24 = s.2.1 ∧ ν 40 0 23 = s.2.2
def CA (s : SS) (c : Int) (ν : JM) : Prop := CI s.1.1 s.1.2.1 s.1.2.2 c ν ∧ LC s.2 ν
def MA (s : SS) (ν : JM) : Prop := MI s.1.1 s.1.2.1 s.1.2.2 ν ∧ LR s.2 ν
def VA (s : SS) : Prop := VT s.1 ∧ okg s.2.1.1 s.2.1.2
abbrev FRc (ν ξ : JM) : Prop := ∀ t y i, (t = 40 ∨ t = 41 ∨ 60 ≤ t) → ξ t y i = ν t y i
abbrev FRm (ν ξ : JM) : Prop := ∀ t y i, ¬ (t = 40 ∨ t = 41 ∨ (60 ≤ t ∧ t ≤ 72)) → ξ t y i = ν t y i
def KCA (c : Int) (ν : JM) (Q : JQ) (r : (Int × Int) × SS) : Prop := ∀ ξ, CA r.2 (c + 1) ξ → FRc ν ξ → ξ 11 0 8 = r.1.2 → Q r.1.1 ξ
def KMA (ν : JM) (Q : JQ) (r : (Int × Int) × SS) : Prop := ∀ ξ, MA r.2 ξ → FRm ν ξ → ξ 40 0 1 = r.1.2 → Q r.1.1 ξ
theorem LC_fr {s : (Int × (Int → Int)) × PF} {ν ξ : JM} (h : LC s ν) (e : ∀ t y i, t = 20 ∨ t = 29 → ξ t y i = ν t y i) : LC s ξ := ⟨⟨(e _ _ _ (by omega)).trans h.1.1, fun i i0 i1 => (e _ _ _ (by omega)).trans (h.1.2 i i0 i1)⟩, (e _ _ _ (by omega)).trans h.2.1, (e _ _ _ (by omega)).trans h.2.2⟩
theorem LR_fr {s : (Int × (Int → Int)) × PF} {ν ξ : JM} (h : LR s ν) (e : ∀ t y i, t = 66 ∨ (t = 40 ∧ (i = 16 ∨ i = 23 ∨ i = 24)) → ξ t y i = ν t y i) : LR s ξ := ⟨⟨(e _ _ _ (by omega)).trans h.1.1, fun i i0 i1 => (e _ _ _ (by omega)).trans (h.1.2 i i0 i1)⟩, (e _ _ _ (by omega)).trans h.2.1, (e _ _ _ (by omega)).trans h.2.2⟩
theorem KC_of {s : SS} {c : Int} {ν : JM} {Q : JQ} {o : Int × Int} (h : CA s c ν) (k : KCA c ν Q (o, s)) : KC s.1.1 s.1.2.1 s.1.2.2 c ν Q o := fun ξ h1 hf hs => k ξ ⟨h1, LC_fr h.2 (fun t y i h => hf _ _ _ (by omega))⟩ (fun t y i h => hf _ _ _ (by omega)) hs
theorem KM_of {s : SS} {ν : JM} {Q : JQ} {o : Int × Int} (h : MA s ν) (k : KMA ν Q (o, s)) : KM s.1.1 s.1.2.1 s.1.2.2 ν Q o := fun ξ h1 hf hs => k ξ ⟨h1, LR_fr h.2 (fun t y i h => hf _ _ _ (by omega))⟩ (fun t y i h => hf _ _ _ (by omega)) hs
theorem KMS_of {s : SS} {ν : JM} {Q : JQ} {r : (Int × Int) × ST} (h : MA s ν) (k : KMA ν Q (r.1, r.2, s.2)) : KMS ν Q r := fun ξ h1 hf hs => k ξ ⟨h1, LR_fr h.2 (fun t y i h => hf _ _ _ (by omega))⟩ (fun t y i h => hf _ _ _ (by omega)) hs
theorem KCS_of {s : SS} {c : Int} {ν : JM} {Q : JQ} {r : (Int × Int) × ST} (h : CA s c ν) (k : KCA c ν Q (r.1, r.2, s.2)) : KCS c ν Q r := fun ξ h1 hf hs => k ξ ⟨h1, LC_fr h.2 (fun t y i h => hf _ _ _ (by omega))⟩ (fun t y i h => hf _ _ _ (by omega)) hs
/-! feed -/
theorem ji2b_bv (x : Int) : ji2b x = ((BitVec.ofInt 32 x).setWidth 8).toInt := by
  unfold ji2b
  rw [Int8.toInt_toInt32, ← Int8.toInt_toBitVec, Int32.toBitVec_toInt8, j32]
  rw [BitVec.signExtend_eq_setWidth_of_le _ (by omega)]
theorem ji2b_in (x : Int) : -128 ≤ ji2b x ∧ ji2b x < 128 := by
  rw [ji2b_bv]
  have h1 := BitVec.le_toInt ((BitVec.ofInt 32 x).setWidth 8)
  have h2 := BitVec.toInt_lt (x := (BitVec.ofInt 32 x).setWidth 8)
  omega
theorem ji2b_sh (x : Int) {n : Nat} (h : n ≤ 24) : ji2b (jshr x (n : Int)) = ji2b (jushr x (n : Int)) := by
  rw [ji2b_bv, ji2b_bv, jshr_bv x (by omega), jushr_bv x (by omega), BitVec.ofInt_toInt, BitVec.ofInt_toInt]
  congr 1
  apply BitVec.eq_of_getLsbD_eq
  intro k hk
  rw [BitVec.getLsbD_setWidth, BitVec.getLsbD_setWidth, BitVec.getLsbD_sshiftRight, BitVec.getLsbD_ushiftRight]
  have h1 : n + k < 32 := by omega
  have h2 : ¬ 32 ≤ k := by omega
  simp [h1, h2]
/-- an int's byte -/
def byt (v : Int) (k : Int) : Int := ji2b (jushr v (8 * k))
def pfour (v : Int) (T : Int) (g : Int → Int) : Int → Int := fun i => if i = T then byt v 3 else if i = T + 1 then byt v 2 else if i = T + 2 then byt v 1 else if i = T + 3 then byt v 0 else g i
theorem okg_four {v T : Int} {g : Int → Int} (h : okg T g) (hT : T + 4 ≤ 800) : okg (T + 4) (pfour v T g) := by
  have h1 := h.1
  refine ⟨by omega, fun i i0 i1 => ?_⟩
  unfold pfour byt
  split
  · exact ji2b_in _
  · split
    · exact ji2b_in _
    · split
      · exact ji2b_in _
      · split
        · exact ji2b_in _
        · exact h.2 i i0 (by omega)
theorem c_append {d : Nat} {v T : Int} {g : Int → Int} {ν : JM} {Q : JQ} (hg : okg T g) (hT : T + 4 ≤ 800) (h : TC T g ν) (K : ∀ ξ, TC (T + 4) (pfour v T g) ξ → jfr (fun t y i => (t = 20 ∧ y = 0 ∧ i = 1) ∨ (t = 29 ∧ y = 0)) ν ξ → Q 0 ξ) : wp true d 68 0 [(20, 0), (0, v), (9, 0)] [] ν Q := by
  have h1 := hg.1
  have st : ∀ (m : Nat) (T' : Int) (ξ : JM), m ≤ 3 → T' = T + 3 - m → ξ 20 0 1 = T' → (∀ ζ, ζ 20 0 1 = T' + 1 → (∀ i, ζ 29 0 i = if i = T' then byt v m else ξ 29 0 i) → jfr (fun t y i => (t = 20 ∧ y = 0 ∧ i = 1) ∨ (t = 29 ∧ y = 0)) ξ ζ → wp true d 68 23 [(20, 0), (0, v), (0, 8 * (m : Int) - 8)] [] ζ Q) → wp true d 68 23 [(20, 0), (0, v), (0, 8 * (m : Int))] [] ξ Q := by
    intro m T' ξ hm hT' e1 k
    have b1 := ji2b_in (jushr v (8 * (m : Int)))
    refine s_X7_append_23 _ _ _ _ _ ?_
    rw [e1]
    refine ⟨⟨⟨by omega, by omega⟩, ⟨by omega, by omega⟩⟩, fun h => absurd h (by omega), fun _ => ⟨by omega, by omega, b1.1, b1.2, ?_⟩⟩
    rw [show 8 * (m : Int) + -8 = 8 * (m : Int) - 8 by omega]
    refine k _ ?_ (fun i => ?_) (jfr_jw (jfr_jw (jfr_refl _ _) (by omega)) (by omega))
    · rw [jw_eq, jw_t (by omega), e1]
    · rw [jw_t (by omega)]
      unfold jw byt
      by_cases e : i = T'
      · rw [if_pos ⟨rfl, rfl, e⟩, if_pos e]
      · rw [if_neg (fun h => e h.2.2), if_neg e]
  refine s_X7_append_0 _ _ _ _ ?_
  rw [h.1]
  refine ⟨⟨⟨by omega, by omega⟩, ⟨by omega, by omega⟩⟩, fun h => absurd h (by omega), fun _ => ⟨⟨⟨by omega, by omega⟩, ⟨by omega, by omega⟩⟩, fun _ => ?_, fun h => absurd hT h⟩⟩
  refine st 3 T ν (by omega) (by omega) h.1 (fun ξ1 a1 b1 f1 => ?_)
  refine st 2 (T + 1) ξ1 (by omega) (by omega) a1 (fun ξ2 a2 b2 f2 => ?_)
  refine st 1 (T + 2) ξ2 (by omega) (by omega) (a2.trans (by omega)) (fun ξ3 a3 b3 f3 => ?_)
  refine st 0 (T + 3) ξ3 (by omega) (by omega) (a3.trans (by omega)) (fun ξ4 a4 b4 f4 => ?_)
  refine s_X7_append_23 _ _ _ _ _ ⟨⟨⟨by omega, by omega⟩, ⟨by omega, by omega⟩⟩, fun _ => ?_, fun h => absurd (by omega) h⟩
  refine K _ ⟨a4.trans (by omega), fun i i0 i1 => ?_⟩ (jfr_trans f1 (jfr_trans f2 (jfr_trans f3 f4)))
  rw [b4, b3, b2, b1]
  unfold pfour
  have hgi : i < T → ν 29 0 i = g i := fun hlt => h.2 i i0 hlt
  by_cases e0 : i = T
  · rw [if_neg (by omega), if_neg (by omega), if_neg (by omega), if_pos e0, if_pos e0]
    rfl
  · by_cases e1 : i = T + 1
    · rw [if_neg (by omega), if_neg (by omega), if_pos (by omega), if_neg e0, if_pos e1]
      rfl
    · by_cases e2 : i = T + 2
      · rw [if_neg (by omega), if_pos (by omega), if_neg e0, if_neg e1, if_pos e2]
        rfl
      · by_cases e3 : i = T + 3
        · rw [if_pos (by omega), if_neg e0, if_neg e1, if_neg e2, if_pos e3]
          rfl
        · rw [if_neg (by omega), if_neg (by omega), if_neg (by omega), if_neg (by omega), if_neg e0, if_neg e1, if_neg e2, if_neg e3]
          exact hgi (by omega)
theorem m_four {d : Nat} {v T : Int} {g : Int → Int} {ν : JM} {Q : JQ} (hg : okg T g) (hT : T + 4 ≤ 800) (h : TM T g ν) (K : ∀ ξ, TM (T + 4) (pfour v T g) ξ → jfr (fun t y i => (t = 40 ∧ y = 0 ∧ i = 16) ∨ (t = 66 ∧ y = 0)) ν ξ → Q 0 ξ) : wp true d 236 0 [(40, 0), (0, v), (9, 0)] [] ν Q := by
  have h1 := hg.1
  have st : ∀ (m : Nat) (T' : Int) (ξ : JM), m ≤ 3 → T' = T + 3 - m → ξ 40 0 16 = T' → (∀ ζ, ζ 40 0 16 = T' + 1 → (∀ i, ζ 66 0 i = if i = T' then byt v m else ξ 66 0 i) → jfr (fun t y i => (t = 40 ∧ y = 0 ∧ i = 16) ∨ (t = 66 ∧ y = 0)) ξ ζ → wp true d 236 2 [(40, 0), (0, v), (0, (m : Int) - 1)] [] ζ Q) → wp true d 236 2 [(40, 0), (0, v), (0, (m : Int))] [] ξ Q := by
    intro m T' ξ hm hT' e1 k
    have b1 := ji2b_in (jushr v (8 * (m : Int)))
    have es : ji2b (jshr v (8 * (m : Int))) = ji2b (jushr v (8 * (m : Int))) := by
      have := ji2b_sh v (n := 8 * m) (by omega)
      rw [show ((8 * m : Nat) : Int) = 8 * (m : Int) by omega] at this
      exact this
    refine s_X11_four_2 _ _ _ _ _ ?_
    rw [e1, es]
    refine ⟨⟨⟨by omega, by omega⟩, ⟨by omega, by omega⟩⟩, fun h => absurd h (by omega), fun _ => ⟨by omega, by omega, b1.1, b1.2, ?_⟩⟩
    rw [show (m : Int) + -1 = (m : Int) - 1 by omega]
    refine k _ ?_ (fun i => ?_) (jfr_jw (jfr_jw (jfr_refl _ _) (by omega)) (by omega))
    · rw [jw_eq, jw_t (by omega), e1]
    · rw [jw_t (by omega)]
      unfold jw byt
      by_cases e : i = T'
      · rw [if_pos ⟨rfl, rfl, e⟩, if_pos e]
      · rw [if_neg (fun h => e h.2.2), if_neg e]
  refine s_X11_four_0 _ _ _ _ ?_
  refine st 3 T ν (by omega) (by omega) h.1 (fun ξ1 a1 b1 f1 => ?_)
  refine st 2 (T + 1) ξ1 (by omega) (by omega) a1 (fun ξ2 a2 b2 f2 => ?_)
  refine st 1 (T + 2) ξ2 (by omega) (by omega) (a2.trans (by omega)) (fun ξ3 a3 b3 f3 => ?_)
  refine st 0 (T + 3) ξ3 (by omega) (by omega) (a3.trans (by omega)) (fun ξ4 a4 b4 f4 => ?_)
  refine s_X11_four_2 _ _ _ _ _ ⟨⟨⟨by omega, by omega⟩, ⟨by omega, by omega⟩⟩, fun _ => ?_, fun h => absurd (by omega) h⟩
  refine K _ ⟨a4.trans (by omega), fun i i0 i1 => ?_⟩ (jfr_trans f1 (jfr_trans f2 (jfr_trans f3 f4)))
  rw [b4, b3, b2, b1]
  unfold pfour
  have hgi : i < T → ν 66 0 i = g i := fun hlt => h.2 i i0 hlt
  by_cases e0 : i = T
  · rw [if_neg (by omega), if_neg (by omega), if_neg (by omega), if_pos e0, if_pos e0]
    rfl
  · by_cases e1 : i = T + 1
    · rw [if_neg (by omega), if_neg (by omega), if_pos (by omega), if_neg e0, if_pos e1]
      rfl
    · by_cases e2 : i = T + 2
      · rw [if_neg (by omega), if_pos (by omega), if_neg e0, if_neg e1, if_pos e2]
        rfl
      · by_cases e3 : i = T + 3
        · rw [if_pos (by omega), if_neg e0, if_neg e1, if_neg e2, if_pos e3]
          rfl
        · rw [if_neg (by omega), if_neg (by omega), if_neg (by omega), if_neg (by omega), if_neg e0, if_neg e1, if_neg e2, if_neg e3]
          exact hgi (by omega)
def pfeed (T : Int) (g : Int → Int) (v1 v2 v3 v4 v5 : Int) : Int → Int := pfour v5 (T + 4 + 4 + 4 + 4) (pfour v4 (T + 4 + 4 + 4) (pfour v3 (T + 4 + 4) (pfour v2 (T + 4) (pfour v1 T g))))
/-- feed: its answer, and the tape; no status -/
def aFeed (s : SS) (v1 v2 v3 v4 v5 : Int) : Int × SS := if s.2.1.1 + 20 ≤ 800 then (s.2.1.1 + 20, s.1, (s.2.1.1 + 20, pfeed s.2.1.1 s.2.1.2 v1 v2 v3 v4 v5), s.2.2) else (-1, s)
theorem okg_feed {T : Int} {g : Int → Int} {v1 v2 v3 v4 v5 : Int} (h : okg T g) (hT : T + 20 ≤ 800) : okg (T + 20) (pfeed T g v1 v2 v3 v4 v5) := by
  have q1 := okg_four (v := v1) h (by omega)
  have q2 := okg_four (v := v2) q1 (by omega)
  have q3 := okg_four (v := v3) q2 (by omega)
  have q4 := okg_four (v := v4) q3 (by omega)
  have q5 := okg_four (v := v5) q4 (by omega)
  rw [show T + 20 = T + 4 + 4 + 4 + 4 + 4 by omega]
  exact q5
theorem v_feed {s : SS} {v1 v2 v3 v4 v5 : Int} (hV : VA s) : VA (aFeed s v1 v2 v3 v4 v5).2 := by
  unfold aFeed
  split
  · exact ⟨hV.1, okg_feed hV.2 (by assumption)⟩
  · exact hV
theorem c_feed {d : Nat} {s : SS} {c v1 v2 v3 v4 v5 : Int} {ν : JM} {Q : JQ} (hV : VA s) (h : CA s c ν) (k : ∀ ξ, CA (aFeed s v1 v2 v3 v4 v5).2 (c + 1) ξ → FRc ν ξ → ξ 11 0 8 = ν 11 0 8 → Q (aFeed s v1 v2 v3 v4 v5).1 ξ) : wp true (d + 14) 129 0 [(11, 0), (0, v1), (0, v2), (0, v3), (0, v4), (0, v5)] [] ν Q := by
  obtain ⟨hC, hT, hf2, hf3⟩ := h
  have hg := hV.2
  have h1 := hg.1
  unfold aFeed at k
  refine s_X10_feed_0 (d + 13) _ _ _ _ _ _ _ ?_
  rw [hT.1]
  refine ⟨⟨⟨by omega, by omega⟩, ⟨by omega, by omega⟩⟩, fun hle => ?_, fun hgt => ?_⟩
  · rw [if_pos hle] at k
    have q1 := okg_four (v := v1) hg (by omega)
    have q2 := okg_four (v := v2) q1 (by omega)
    have q3 := okg_four (v := v3) q2 (by omega)
    have q4 := okg_four (v := v4) q3 (by omega)
    refine c_append (d := d + 13) hg (by omega) hT (fun ξ1 t1 f1 => c_append (d := d + 13) q1 (by omega) t1 (fun ξ2 t2 f2 => c_append (d := d + 13) q2 (by omega) t2 (fun ξ3 t3 f3 => c_append (d := d + 13) q3 (by omega) t3 (fun ξ4 t4 f4 => c_append (d := d + 13) q4 (by omega) t4 (fun ξ5 t5 f5 => ?_)))))
    have fr := jfr_trans f1 (jfr_trans f2 (jfr_trans f3 (jfr_trans f4 f5)))
    have e5 : ξ5 20 0 1 = s.2.1.1 + 20 := t5.1.trans (by omega)
    rw [e5]
    refine k ξ5 ⟨CI_fr hC (by omega) (fun t y i h => fr _ _ _ (by omega)), ⟨e5, fun i i0 i1 => ?_⟩, (fr _ _ _ (by omega)).trans hf2, (fr _ _ _ (by omega)).trans hf3⟩ (fun t y i h => fr _ _ _ (by omega)) (fr _ _ _ (by omega))
    have i1 : i < s.2.1.1 + 20 := i1
    exact t5.2 i i0 (by omega)
  · rw [if_neg hgt] at k
    exact k ν ⟨CI_fr hC (by omega) (fun _ _ _ _ => rfl), hT, hf2, hf3⟩ (fun _ _ _ _ => rfl) rfl
theorem m_feed {d : Nat} {s : SS} {v1 v2 v3 v4 v5 : Int} {ν : JM} {Q : JQ} (hV : VA s) (h : MA s ν) (k : ∀ ξ, MA (aFeed s v1 v2 v3 v4 v5).2 ξ → FRm ν ξ → ξ 40 0 1 = ν 40 0 1 → Q (aFeed s v1 v2 v3 v4 v5).1 ξ) : wp true (d + 14) 235 0 [(40, 0), (0, v1), (0, v2), (0, v3), (0, v4), (0, v5)] [] ν Q := by
  obtain ⟨hC, hT, hf2, hf3⟩ := h
  have hg := hV.2
  have h1 := hg.1
  unfold aFeed at k
  refine s_X11_feed_0 (d + 13) _ _ _ _ _ _ _ ?_
  rw [hT.1]
  refine ⟨⟨⟨by omega, by omega⟩, ⟨by omega, by omega⟩⟩, fun hle => ?_, fun hgt => ?_⟩
  · rw [if_pos (by omega)] at k
    have q1 := okg_four (v := v1) hg (by omega)
    have q2 := okg_four (v := v2) q1 (by omega)
    have q3 := okg_four (v := v3) q2 (by omega)
    have q4 := okg_four (v := v4) q3 (by omega)
    refine m_four (d := d + 13) hg (by omega) hT (fun ξ1 t1 f1 => m_four (d := d + 13) q1 (by omega) t1 (fun ξ2 t2 f2 => m_four (d := d + 13) q2 (by omega) t2 (fun ξ3 t3 f3 => m_four (d := d + 13) q3 (by omega) t3 (fun ξ4 t4 f4 => m_four (d := d + 13) q4 (by omega) t4 (fun ξ5 t5 f5 => ?_)))))
    have fr := jfr_trans f1 (jfr_trans f2 (jfr_trans f3 (jfr_trans f4 f5)))
    have e5 : ξ5 40 0 16 = s.2.1.1 + 20 := t5.1.trans (by omega)
    rw [e5]
    refine k ξ5 ⟨MI_fr hV.1.2.1 hV.1.2.2 hC (fun t i h => fr _ _ _ (by omega)), ⟨e5, fun i i0 i1 => ?_⟩, (fr _ _ _ (by omega)).trans hf2, (fr _ _ _ (by omega)).trans hf3⟩ (fun t y i h => fr _ _ _ (by omega)) (fr _ _ _ (by omega))
    have i1 : i < s.2.1.1 + 20 := i1
    exact t5.2 i i0 (by omega)
  · rw [if_neg (by omega)] at k
    exact k ν ⟨hC, hT, hf2, hf3⟩ (fun _ _ _ _ => rfl) rfl
/-- fault, status -/
def oFault (s : SS) (w : Int) : Int := if w = 0 then s.2.2.1 else if w = 1 then s.2.2.2 else -1
theorem c_fault {d : Nat} {s : SS} {c w : Int} {ν : JM} {Q : JQ} (h : CA s c ν) (hw : inR w) (k : Q (oFault s w) ν) : wp true d 131 0 [(11, 0), (0, w)] [] ν Q := by
  unfold oFault at k
  refine s_X10_fault_0 _ _ _ _ ?_
  rw [h.2.2.1, h.2.2.2]
  refine ⟨Or.inr ⟨hw, ⟨by omega, by omega⟩⟩, fun n0 => ⟨Or.inr ⟨hw, ⟨by omega, by omega⟩⟩, fun n1 => ?_, fun e1 => ?_⟩, fun e0 => ?_⟩
  · rw [if_neg n0, if_neg n1] at k
    exact k
  · rw [if_neg n0, if_pos (Decidable.byContradiction e1)] at k
    exact k
  · rw [if_pos (Decidable.byContradiction e0)] at k
    exact k
theorem m_fault {d : Nat} {s : SS} {w : Int} {ν : JM} {Q : JQ} (h : MA s ν) (hw : inR w) (k : Q (oFault s w) ν) : wp true d 256 0 [(40, 0), (0, w)] [] ν Q := by
  unfold oFault at k
  refine s_X11_fault_0 _ _ _ _ ?_
  rw [h.2.2.1, h.2.2.2]
  refine ⟨Or.inr ⟨hw, ⟨by omega, by omega⟩⟩, fun n0 => ⟨Or.inr ⟨hw, ⟨by omega, by omega⟩⟩, fun n1 => ?_, fun e1 => ?_⟩, fun e0 => ?_⟩
  · rw [if_neg n0, if_neg n1] at k
    exact k
  · rw [if_neg n0, if_pos (Decidable.byContradiction e1)] at k
    exact k
  · rw [if_pos (Decidable.byContradiction e0)] at k
    exact k
