/-! THE LAW: its loop, call by call -/
/-- what holds ahead of a call: the class and the reference stand for the same state -/
def SI (c : Int) (s : SS) (σ : Int → Int → Int) (ν : JM) : Prop := VA s ∧ CA s c ν ∧ MA s ν ∧ ν 11 0 8 = ν 40 0 1 ∧ ∀ y k, ν 80 y k = σ y k
def NX (c i : Int) (σ : Int → Int → Int) (l0 : Int) (Q : JQ) : Prop := ∀ (s : SS) (ζ : JM), SI (c + 1) s σ ζ → wp true 21 322 18 [(6, l0), (11, 0), (40, 0), (0, (i + 6))] [] ζ Q
def SC (L i c : Int) (σ : Int → Int → Int) : Prop := (0 ≤ i ∧ i + 6 ≤ L) ∧ σ 1 0 = L ∧ (∀ k, 0 ≤ k → k < L → inR (σ 0 k)) ∧ (0 ≤ c ∧ c ≤ 512)
theorem CA_fr {s : SS} {c : Int} {ξ ζ : JM} (h : CA s c ξ) (e : FRm ξ ζ) : CA s c ζ := ⟨CI_fr h.1 (Int.le_refl _) (fun t y i h => e _ _ _ (by omega)), LC_fr h.2 (fun t y i h => e _ _ _ (by omega))⟩
theorem MA_fr {s : SS} {ν ξ : JM} (hV : VA s) (h : MA s ν) (e : FRc ν ξ) : MA s ξ := ⟨MI_fr hV.1.2.1 hV.1.2.2 h.1 (fun t i h => e _ _ _ (by omega)), LR_fr h.2 (fun t y i h => e _ _ _ (by omega))⟩
theorem SI_nx {s : SS} {c v w : Int} {σ : Int → Int → Int} {ξ ζ : JM} (hV : VA s) (hC : CA s (c + 1) ξ) (hM : MA s ζ) (hf : FRm ξ ζ) (hs : ξ 11 0 8 = v) (hs' : ζ 40 0 1 = w) (hv : v = w) (e : ∀ y k, ξ 80 y k = σ y k) : SI (c + 1) s σ ζ :=
  ⟨hV, CA_fr hC hf, hM, (hf 11 0 8 (by omega)).trans (hs.trans (hv.trans hs'.symm)), fun y k => (hf _ _ _ (by omega)).trans (e y k)⟩
theorem va_of {x : ST} {s : SS} (h : VT x) (hg : okg s.2.1.1 s.2.1.2) : VA (x, s.2) := ⟨h, hg⟩
theorem SI_up {s : SS} {c : Int} {σ : Int → Int → Int} {ν : JM} (I : SI c s σ ν) : SI (c + 1) s σ ν := ⟨I.1, ⟨CI_fr I.2.1.1 (by omega) (fun _ _ _ _ => rfl), I.2.1.2⟩, I.2.2⟩
theorem lw_0 {c l0 i L : Int} {s : SS} {σ : Int → Int → Int} {ν : JM} {Q : JQ} (C : SC L i c σ) (I : SI c s σ ν) (nx : NX c i σ l0 Q) : (ν 11 0 8 = ν 40 0 1 ∨ inR (ν 11 0 8) ∧ inR (ν 40 0 1)) ∧ (ν 11 0 8 = ν 40 0 1 → wp true 21 322 18 [(6, l0), (11, 0), (40, 0), (0, (i + 6))] [] ν Q) ∧ (¬ (ν 11 0 8 = ν 40 0 1) → (0 : Int) ≤ 0 ∧ (0 : Int) ≤ 1 ∧ Q 0 ν) := by
  exact ⟨Or.inl I.2.2.2.1, fun _ => nx s ν (SI_up I), fun h => absurd I.2.2.2.1 h⟩
theorem lw_1 {c l0 i L : Int} {s : SS} {σ : Int → Int → Int} {ν : JM} {Q : JQ} (C : SC L i c σ) (I : SI c s σ ν) (nx : NX c i σ l0 Q) : 0 ≤ (i + 1) ∧ (i + 1) < ν 80 1 0 ∧ 0 ≤ (i + 2) ∧ (i + 2) < ν 80 1 0 ∧ 0 ≤ (i + 3) ∧ (i + 3) < ν 80 1 0 ∧ 0 ≤ (i + 4) ∧ (i + 4) < ν 80 1 0 ∧ 0 ≤ (i + 5) ∧ (i + 5) < ν 80 1 0 ∧ wp true 20 129 0 [(11, 0), (0, ν 80 0 (i + 1)), (0, ν 80 0 (i + 2)), (0, ν 80 0 (i + 3)), (0, ν 80 0 (i + 4)), (0, ν 80 0 (i + 5))] [] ν (fun r1 μ1 => 0 ≤ (i + 1) ∧ (i + 1) < μ1 80 1 0 ∧ 0 ≤ (i + 2) ∧ (i + 2) < μ1 80 1 0 ∧ 0 ≤ (i + 3) ∧ (i + 3) < μ1 80 1 0 ∧ 0 ≤ (i + 4) ∧ (i + 4) < μ1 80 1 0 ∧ 0 ≤ (i + 5) ∧ (i + 5) < μ1 80 1 0 ∧ wp true 20 235 0 [(40, 0), (0, μ1 80 0 (i + 1)), (0, μ1 80 0 (i + 2)), (0, μ1 80 0 (i + 3)), (0, μ1 80 0 (i + 4)), (0, μ1 80 0 (i + 5))] [] μ1 (fun r2 μ2 => (r1 = r2 ∨ inR r1 ∧ inR r2) ∧ (r1 = r2 → wp true 21 322 18 [(6, l0), (11, 0), (40, 0), (0, (i + 6))] [] μ2 Q) ∧ (¬ (r1 = r2) → (0 : Int) ≤ 0 ∧ (0 : Int) ≤ 1 ∧ Q 0 μ2))) := by
  obtain ⟨hi, hL, hσ, hc⟩ := C
  have e := I.2.2.2.2
  have a1 := hσ (i + 1) (by omega) (by omega)
  have a2 := hσ (i + 2) (by omega) (by omega)
  have a3 := hσ (i + 3) (by omega) (by omega)
  have a4 := hσ (i + 4) (by omega) (by omega)
  have a5 := hσ (i + 5) (by omega) (by omega)
  simp only [e]
  rw [hL]
  refine ⟨by omega, by omega, by omega, by omega, by omega, by omega, by omega, by omega, by omega, by omega, c_feed (d := 6) I.1 I.2.1 (fun ξ hC hf hs => ?_)⟩
  have hM := MA_fr I.1 I.2.2.1 hf
  have eξ : ∀ y k, ξ 80 y k = σ y k := fun y k => (hf _ _ _ (by omega)).trans (e y k)
  simp only [eξ]
  rw [hL]
  have I2 : ν 40 0 1 = ξ 40 0 1 := (hf _ _ _ (by omega)).symm
  exact ⟨by omega, by omega, by omega, by omega, by omega, by omega, by omega, by omega, by omega, by omega, m_feed (d := 6) I.1 hM (fun ζ hM2 hf2 hs2 => ⟨Or.inl rfl, fun _ => nx _ _ (SI_nx (v_feed I.1) hC hM2 hf2 hs (hs2.trans (I2.symm.trans rfl)) I.2.2.2.1 eξ), fun h => absurd rfl h⟩)⟩
theorem lw_2 {c l0 i L : Int} {s : SS} {σ : Int → Int → Int} {ν : JM} {Q : JQ} (C : SC L i c σ) (I : SI c s σ ν) (nx : NX c i σ l0 Q) : 0 ≤ (i + 1) ∧ (i + 1) < ν 80 1 0 ∧ wp true 20 130 0 [(11, 0), (0, ν 80 0 (i + 1))] [] ν (fun r3 μ3 => 0 ≤ (i + 1) ∧ (i + 1) < μ3 80 1 0 ∧ wp true 20 255 0 [(40, 0), (0, μ3 80 0 (i + 1)), (9, 0), (9, 0), (9, 0)] [] μ3 (fun r4 μ4 => (r3 = r4 ∨ inR r3 ∧ inR r4) ∧ (r3 = r4 → wp true 21 322 18 [(6, l0), (11, 0), (40, 0), (0, (i + 6))] [] μ4 Q) ∧ (¬ (r3 = r4) → (0 : Int) ≤ 0 ∧ (0 : Int) ≤ 1 ∧ Q 0 μ4))) := by
  obtain ⟨hi, hL, hσ, hc⟩ := C
  have e := I.2.2.2.2
  have a1 := hσ (i + 1) (by omega) (by omega)
  simp only [e]
  rw [hL]
  refine ⟨by omega, by omega, c_load (d := 6) I.1 I.2.1 a1 (fun ξ hC hf hs => ?_)⟩
  have hM := MA_fr I.1 I.2.2.1 hf
  have eξ : ∀ y k, ξ 80 y k = σ y k := fun y k => (hf _ _ _ (by omega)).trans (e y k)
  simp only [eξ]
  rw [hL]
  exact ⟨by omega, by omega, m_load (d := 6) I.1 hM a1 (fun ζ hM2 hf2 hs2 => ⟨Or.inl rfl, fun _ => nx _ _ (SI_nx (v_load I.1) hC hM2 hf2 hs hs2 rfl eξ), fun h => absurd rfl h⟩)⟩
theorem lw_3 {c l0 i L : Int} {s : SS} {σ : Int → Int → Int} {ν : JM} {Q : JQ} (C : SC L i c σ) (I : SI c s σ ν) (nx : NX c i σ l0 Q) : 0 ≤ (i + 1) ∧ (i + 1) < ν 80 1 0 ∧ wp true 20 131 0 [(11, 0), (0, ν 80 0 (i + 1))] [] ν (fun r5 μ5 => 0 ≤ (i + 1) ∧ (i + 1) < μ5 80 1 0 ∧ wp true 20 256 0 [(40, 0), (0, μ5 80 0 (i + 1))] [] μ5 (fun r6 μ6 => (r5 = r6 ∨ inR r5 ∧ inR r6) ∧ (r5 = r6 → wp true 21 322 18 [(6, l0), (11, 0), (40, 0), (0, (i + 6))] [] μ6 Q) ∧ (¬ (r5 = r6) → (0 : Int) ≤ 0 ∧ (0 : Int) ≤ 1 ∧ Q 0 μ6))) := by
  obtain ⟨hi, hL, hσ, hc⟩ := C
  have e := I.2.2.2.2
  have a1 := hσ (i + 1) (by omega) (by omega)
  simp only [e]
  rw [hL]
  refine ⟨by omega, by omega, c_fault I.2.1 a1 ?_⟩
  simp only [e]
  rw [hL]
  exact ⟨by omega, by omega, m_fault I.2.2.1 a1 ⟨Or.inl rfl, fun _ => nx s ν (SI_up I), fun h => absurd rfl h⟩⟩
theorem lw_4 {c l0 i L : Int} {s : SS} {σ : Int → Int → Int} {ν : JM} {Q : JQ} (C : SC L i c σ) (I : SI c s σ ν) (nx : NX c i σ l0 Q) : 0 ≤ (i + 1) ∧ (i + 1) < ν 80 1 0 ∧ wp true 20 132 0 [(11, 0), (0, ν 80 0 (i + 1))] [] ν (fun r7 μ7 => 0 ≤ (i + 1) ∧ (i + 1) < μ7 80 1 0 ∧ wp true 20 259 0 [(40, 0), (0, μ7 80 0 (i + 1))] [] μ7 (fun r8 μ8 => (r7 = r8 ∨ inR r7 ∧ inR r8) ∧ (r7 = r8 → wp true 21 322 18 [(6, l0), (11, 0), (40, 0), (0, (i + 6))] [] μ8 Q) ∧ (¬ (r7 = r8) → (0 : Int) ≤ 0 ∧ (0 : Int) ≤ 1 ∧ Q 0 μ8))) := by
  obtain ⟨hi, hL, hσ, hc⟩ := C
  have e := I.2.2.2.2
  have a1 := hσ (i + 1) (by omega) (by omega)
  simp only [e]
  rw [hL]
  refine ⟨by omega, by omega, c_many (d := 6) I.1.1 I.2.1.1 a1 (KC_of I.2.1 (fun ξ hC hf hs => ?_))⟩
  have hM := MA_fr I.1 I.2.2.1 hf
  have eξ : ∀ y k, ξ 80 y k = σ y k := fun y k => (hf _ _ _ (by omega)).trans (e y k)
  simp only [eξ]
  rw [hL]
  exact ⟨by omega, by omega, m_many (d := 7) I.1.1 hM.1 a1 (KM_of hM (fun ζ hM2 hf2 hs2 => ⟨Or.inl rfl, fun _ => nx _ _ (SI_nx I.1 hC hM2 hf2 hs hs2 rfl eξ), fun h => absurd rfl h⟩))⟩
theorem lw_5 {c l0 i L : Int} {s : SS} {σ : Int → Int → Int} {ν : JM} {Q : JQ} (C : SC L i c σ) (I : SI c s σ ν) (nx : NX c i σ l0 Q) : 0 ≤ (i + 1) ∧ (i + 1) < ν 80 1 0 ∧ wp true 20 133 0 [(11, 0), (0, ν 80 0 (i + 1))] [] ν (fun r9 μ9 => 0 ≤ (i + 1) ∧ (i + 1) < μ9 80 1 0 ∧ wp true 20 260 0 [(40, 0), (0, μ9 80 0 (i + 1))] [] μ9 (fun r10 μ10 => (r9 = r10 ∨ inR r9 ∧ inR r10) ∧ (r9 = r10 → wp true 21 322 18 [(6, l0), (11, 0), (40, 0), (0, (i + 6))] [] μ10 Q) ∧ (¬ (r9 = r10) → (0 : Int) ≤ 0 ∧ (0 : Int) ≤ 1 ∧ Q 0 μ10))) := by
  obtain ⟨hi, hL, hσ, hc⟩ := C
  have e := I.2.2.2.2
  have a1 := hσ (i + 1) (by omega) (by omega)
  simp only [e]
  rw [hL]
  refine ⟨by omega, by omega, c_bounds (d := 19) I.2.1.1 a1 (KC_of I.2.1 (fun ξ hC hf hs => ?_))⟩
  have hM := MA_fr I.1 I.2.2.1 hf
  have eξ : ∀ y k, ξ 80 y k = σ y k := fun y k => (hf _ _ _ (by omega)).trans (e y k)
  simp only [eξ]
  rw [hL]
  exact ⟨by omega, by omega, m_bounds (d := 18) I.1.1 hM.1 a1 (KM_of hM (fun ζ hM2 hf2 hs2 => ⟨Or.inl rfl, fun _ => nx _ _ (SI_nx I.1 hC hM2 hf2 hs hs2 rfl eξ), fun h => absurd rfl h⟩))⟩
theorem lw_6 {c l0 i L : Int} {s : SS} {σ : Int → Int → Int} {ν : JM} {Q : JQ} (C : SC L i c σ) (I : SI c s σ ν) (nx : NX c i σ l0 Q) : 0 ≤ (i + 1) ∧ (i + 1) < ν 80 1 0 ∧ 0 ≤ (i + 2) ∧ (i + 2) < ν 80 1 0 ∧ wp true 20 134 0 [(11, 0), (0, ν 80 0 (i + 1)), (0, ν 80 0 (i + 2))] [] ν (fun r11 μ11 => 0 ≤ (i + 1) ∧ (i + 1) < μ11 80 1 0 ∧ 0 ≤ (i + 2) ∧ (i + 2) < μ11 80 1 0 ∧ wp true 20 263 0 [(40, 0), (0, μ11 80 0 (i + 1)), (0, μ11 80 0 (i + 2))] [] μ11 (fun r12 μ12 => (r11 = r12 ∨ inR r11 ∧ inR r12) ∧ (r11 = r12 → wp true 21 322 18 [(6, l0), (11, 0), (40, 0), (0, (i + 6))] [] μ12 Q) ∧ (¬ (r11 = r12) → (0 : Int) ≤ 0 ∧ (0 : Int) ≤ 1 ∧ Q 0 μ12))) := by
  obtain ⟨hi, hL, hσ, hc⟩ := C
  have e := I.2.2.2.2
  have a1 := hσ (i + 1) (by omega) (by omega)
  have a2 := hσ (i + 2) (by omega) (by omega)
  simp only [e]
  rw [hL]
  refine ⟨by omega, by omega, by omega, by omega, c_transfer (d := 6) I.1.1 I.2.1.1 a1 a2 (KC_of I.2.1 (fun ξ hC hf hs => ?_))⟩
  have hM := MA_fr I.1 I.2.2.1 hf
  have eξ : ∀ y k, ξ 80 y k = σ y k := fun y k => (hf _ _ _ (by omega)).trans (e y k)
  simp only [eξ]
  rw [hL]
  exact ⟨by omega, by omega, by omega, by omega, m_transfer (d := 7) I.1.1 hM.1 a1 a2 (KM_of hM (fun ζ hM2 hf2 hs2 => ⟨Or.inl rfl, fun _ => nx _ _ (SI_nx I.1 hC hM2 hf2 hs hs2 rfl eξ), fun h => absurd rfl h⟩))⟩
theorem lw_7 {c l0 i L : Int} {s : SS} {σ : Int → Int → Int} {ν : JM} {Q : JQ} (C : SC L i c σ) (I : SI c s σ ν) (nx : NX c i σ l0 Q) : 0 ≤ (i + 1) ∧ (i + 1) < ν 80 1 0 ∧ 0 ≤ (i + 2) ∧ (i + 2) < ν 80 1 0 ∧ wp true 20 135 0 [(11, 0), (0, ν 80 0 (i + 1)), (0, ν 80 0 (i + 2))] [] ν (fun r13 μ13 => 0 ≤ (i + 1) ∧ (i + 1) < μ13 80 1 0 ∧ 0 ≤ (i + 2) ∧ (i + 2) < μ13 80 1 0 ∧ wp true 20 268 0 [(40, 0), (0, μ13 80 0 (i + 1)), (0, μ13 80 0 (i + 2))] [] μ13 (fun r14 μ14 => (r13 = r14 ∨ inR r13 ∧ inR r14) ∧ (r13 = r14 → wp true 21 322 18 [(6, l0), (11, 0), (40, 0), (0, (i + 6))] [] μ14 Q) ∧ (¬ (r13 = r14) → (0 : Int) ≤ 0 ∧ (0 : Int) ≤ 1 ∧ Q 0 μ14))) := by
  obtain ⟨hi, hL, hσ, hc⟩ := C
  have e := I.2.2.2.2
  have a1 := hσ (i + 1) (by omega) (by omega)
  have a2 := hσ (i + 2) (by omega) (by omega)
  simp only [e]
  rw [hL]
  refine ⟨by omega, by omega, by omega, by omega, c_account (d := 6) I.1.1 I.2.1.1 a1 a2 (KC_of I.2.1 (fun ξ hC hf hs => ?_))⟩
  have hM := MA_fr I.1 I.2.2.1 hf
  have eξ : ∀ y k, ξ 80 y k = σ y k := fun y k => (hf _ _ _ (by omega)).trans (e y k)
  simp only [eξ]
  rw [hL]
  exact ⟨by omega, by omega, by omega, by omega, m_account (d := 7) I.1.1 hM.1 a1 a2 (KM_of hM (fun ζ hM2 hf2 hs2 => ⟨Or.inl rfl, fun _ => nx _ _ (SI_nx I.1 hC hM2 hf2 hs hs2 rfl eξ), fun h => absurd rfl h⟩))⟩
theorem lw_8 {c l0 i L : Int} {s : SS} {σ : Int → Int → Int} {ν : JM} {Q : JQ} (C : SC L i c σ) (I : SI c s σ ν) (nx : NX c i σ l0 Q) : wp true 20 136 0 [(11, 0)] [] ν (fun r15 μ15 => wp true 20 210 0 [(40, 0)] [] μ15 (fun r16 μ16 => (r15 = r16 ∨ inR r15 ∧ inR r16) ∧ (r15 = r16 → wp true 21 322 18 [(6, l0), (11, 0), (40, 0), (0, (i + 6))] [] μ16 Q) ∧ (¬ (r15 = r16) → (0 : Int) ≤ 0 ∧ (0 : Int) ≤ 1 ∧ Q 0 μ16))) := by
  obtain ⟨hi, hL, hσ, hc⟩ := C
  have e := I.2.2.2.2
  refine c_add (d := 6) I.1.1 I.2.1.1  (KCS_of I.2.1 (fun ξ hC hf hs => ?_))
  have hM := MA_fr I.1 I.2.2.1 hf
  have eξ : ∀ y k, ξ 80 y k = σ y k := fun y k => (hf _ _ _ (by omega)).trans (e y k)
  exact m_add (d := 7) I.1.1 hM.1  (KMS_of hM (fun ζ hM2 hf2 hs2 => ⟨Or.inl rfl, fun _ => nx _ _ (SI_nx (va_of (v_add I.1.1) I.1.2) hC hM2 hf2 hs hs2 rfl eξ), fun h => absurd rfl h⟩))
theorem lw_9 {c l0 i L : Int} {s : SS} {σ : Int → Int → Int} {ν : JM} {Q : JQ} (C : SC L i c σ) (I : SI c s σ ν) (nx : NX c i σ l0 Q) : 0 ≤ (i + 1) ∧ (i + 1) < ν 80 1 0 ∧ 0 ≤ (i + 2) ∧ (i + 2) < ν 80 1 0 ∧ 0 ≤ (i + 3) ∧ (i + 3) < ν 80 1 0 ∧ 0 ≤ (i + 4) ∧ (i + 4) < ν 80 1 0 ∧ wp true 20 137 0 [(11, 0), (0, ν 80 0 (i + 1)), (0, ν 80 0 (i + 2)), (0, ν 80 0 (i + 3)), (0, ν 80 0 (i + 4)), (9, 0)] [] ν (fun r17 μ17 => 0 ≤ (i + 1) ∧ (i + 1) < μ17 80 1 0 ∧ 0 ≤ (i + 2) ∧ (i + 2) < μ17 80 1 0 ∧ 0 ≤ (i + 3) ∧ (i + 3) < μ17 80 1 0 ∧ 0 ≤ (i + 4) ∧ (i + 4) < μ17 80 1 0 ∧ wp true 20 212 0 [(40, 0), (0, μ17 80 0 (i + 1)), (0, μ17 80 0 (i + 2)), (0, μ17 80 0 (i + 3)), (0, μ17 80 0 (i + 4)), (9, 0)] [] μ17 (fun r18 μ18 => (r17 = r18 ∨ inR r17 ∧ inR r18) ∧ (r17 = r18 → wp true 21 322 18 [(6, l0), (11, 0), (40, 0), (0, (i + 6))] [] μ18 Q) ∧ (¬ (r17 = r18) → (0 : Int) ≤ 0 ∧ (0 : Int) ≤ 1 ∧ Q 0 μ18))) := by
  obtain ⟨hi, hL, hσ, hc⟩ := C
  have e := I.2.2.2.2
  have a1 := hσ (i + 1) (by omega) (by omega)
  have a2 := hσ (i + 2) (by omega) (by omega)
  have a3 := hσ (i + 3) (by omega) (by omega)
  have a4 := hσ (i + 4) (by omega) (by omega)
  simp only [e]
  rw [hL]
  refine ⟨by omega, by omega, by omega, by omega, by omega, by omega, by omega, by omega, c_pay (d := 6) I.1.1 I.2.1.1 a1 a2 a3 a4 (KCS_of I.2.1 (fun ξ hC hf hs => ?_))⟩
  have hM := MA_fr I.1 I.2.2.1 hf
  have eξ : ∀ y k, ξ 80 y k = σ y k := fun y k => (hf _ _ _ (by omega)).trans (e y k)
  simp only [eξ]
  rw [hL]
  exact ⟨by omega, by omega, by omega, by omega, by omega, by omega, by omega, by omega, m_pay (d := 7) I.1.1 hM.1 a1 a2 a3 a4 (KMS_of hM (fun ζ hM2 hf2 hs2 => ⟨Or.inl rfl, fun _ => nx _ _ (SI_nx (va_of (v_pay I.1.1) I.1.2) hC hM2 hf2 hs hs2 rfl eξ), fun h => absurd rfl h⟩))⟩
theorem lw_10 {c l0 i L : Int} {s : SS} {σ : Int → Int → Int} {ν : JM} {Q : JQ} (C : SC L i c σ) (I : SI c s σ ν) (nx : NX c i σ l0 Q) : 0 ≤ (i + 1) ∧ (i + 1) < ν 80 1 0 ∧ wp true 20 138 0 [(11, 0), (0, ν 80 0 (i + 1))] [] ν (fun r19 μ19 => 0 ≤ (i + 1) ∧ (i + 1) < μ19 80 1 0 ∧ wp true 20 213 0 [(40, 0), (0, μ19 80 0 (i + 1))] [] μ19 (fun r20 μ20 => (r19 = r20 ∨ inR r19 ∧ inR r20) ∧ (r19 = r20 → wp true 21 322 18 [(6, l0), (11, 0), (40, 0), (0, (i + 6))] [] μ20 Q) ∧ (¬ (r19 = r20) → (0 : Int) ≤ 0 ∧ (0 : Int) ≤ 1 ∧ Q 0 μ20))) := by
  obtain ⟨hi, hL, hσ, hc⟩ := C
  have e := I.2.2.2.2
  have a1 := hσ (i + 1) (by omega) (by omega)
  simp only [e]
  rw [hL]
  refine ⟨by omega, by omega, c_strike (d := 6) I.1.1 I.2.1.1 a1 (KCS_of I.2.1 (fun ξ hC hf hs => ?_))⟩
  have hM := MA_fr I.1 I.2.2.1 hf
  have eξ : ∀ y k, ξ 80 y k = σ y k := fun y k => (hf _ _ _ (by omega)).trans (e y k)
  simp only [eξ]
  rw [hL]
  exact ⟨by omega, by omega, m_strike (d := 7) I.1.1 hM.1 a1 (KMS_of hM (fun ζ hM2 hf2 hs2 => ⟨Or.inl rfl, fun _ => nx _ _ (SI_nx (va_of (v_strike I.1.1) I.1.2) hC hM2 hf2 hs hs2 rfl eξ), fun h => absurd rfl h⟩))⟩
theorem lw_11 {c l0 i L : Int} {s : SS} {σ : Int → Int → Int} {ν : JM} {Q : JQ} (C : SC L i c σ) (I : SI c s σ ν) (nx : NX c i σ l0 Q) : 0 ≤ (i + 1) ∧ (i + 1) < ν 80 1 0 ∧ 0 ≤ (i + 2) ∧ (i + 2) < ν 80 1 0 ∧ (ν 80 0 (i + 2) = 0 ∨ inR (ν 80 0 (i + 2)) ∧ inR 0) ∧ (ν 80 0 (i + 2) = 0 → wp true 21 322 566 [(6, l0), (11, 0), (40, 0), (0, i)] [(0, 0), (0, ν 80 0 (i + 1)), (11, 0)] ν Q) ∧ (¬ (ν 80 0 (i + 2) = 0) → wp true 21 322 566 [(6, l0), (11, 0), (40, 0), (0, i)] [(0, 1), (0, ν 80 0 (i + 1)), (11, 0)] ν Q) := by
  obtain ⟨hi, hL, hσ, hc⟩ := C
  have e := I.2.2.2.2
  have a1 := hσ (i + 1) (by omega) (by omega)
  have a2 := hσ (i + 2) (by omega) (by omega)
  simp only [e]
  rw [hL]
  refine ⟨by omega, by omega, by omega, by omega, Or.inr ⟨a2, by omega, by omega⟩, fun z => ?_, fun z => ?_⟩
  · refine s_L_law_566 20 _ _ _ _ _ _ _ _ _ (c_trust (d := 6) I.1.1 I.2.1.1 a1 (Or.inl rfl) (KCS_of I.2.1 (fun ξ hC hf hs => ?_)))
    have hM := MA_fr I.1 I.2.2.1 hf
    have eξ : ∀ y k, ξ 80 y k = σ y k := fun y k => (hf _ _ _ (by omega)).trans (e y k)
    simp only [eξ]
    rw [hL]
    exact ⟨by omega, by omega, by omega, by omega, Or.inr ⟨a2, by omega, by omega⟩, fun _ => (m_trust (d := 7) I.1.1 hM.1 a1 (Or.inl rfl) (KMS_of hM (fun ζ hM2 hf2 hs2 => ⟨Or.inl rfl, fun _ => nx _ _ (SI_nx (va_of (v_trust I.1.1) I.1.2) hC hM2 hf2 hs hs2 rfl eξ), fun h => absurd rfl h⟩))), fun h => absurd z h⟩
  · refine s_L_law_566 20 _ _ _ _ _ _ _ _ _ (c_trust (d := 6) I.1.1 I.2.1.1 a1 (Or.inr rfl) (KCS_of I.2.1 (fun ξ hC hf hs => ?_)))
    have hM := MA_fr I.1 I.2.2.1 hf
    have eξ : ∀ y k, ξ 80 y k = σ y k := fun y k => (hf _ _ _ (by omega)).trans (e y k)
    simp only [eξ]
    rw [hL]
    exact ⟨by omega, by omega, by omega, by omega, Or.inr ⟨a2, by omega, by omega⟩, fun h => absurd h z, fun _ => (m_trust (d := 7) I.1.1 hM.1 a1 (Or.inr rfl) (KMS_of hM (fun ζ hM2 hf2 hs2 => ⟨Or.inl rfl, fun _ => nx _ _ (SI_nx (va_of (v_trust I.1.1) I.1.2) hC hM2 hf2 hs hs2 rfl eξ), fun h => absurd rfl h⟩)))⟩
theorem lw_12 {c l0 i L : Int} {s : SS} {σ : Int → Int → Int} {ν : JM} {Q : JQ} (C : SC L i c σ) (I : SI c s σ ν) (nx : NX c i σ l0 Q) : 0 ≤ (i + 1) ∧ (i + 1) < ν 80 1 0 ∧ 0 ≤ (i + 2) ∧ (i + 2) < ν 80 1 0 ∧ wp true 20 140 0 [(11, 0), (0, ν 80 0 (i + 1)), (0, ν 80 0 (i + 2)), (9, 0)] [] ν (fun r21 μ21 => 0 ≤ (i + 1) ∧ (i + 1) < μ21 80 1 0 ∧ 0 ≤ (i + 2) ∧ (i + 2) < μ21 80 1 0 ∧ wp true 20 216 0 [(40, 0), (0, μ21 80 0 (i + 1)), (0, μ21 80 0 (i + 2)), (9, 0)] [] μ21 (fun r22 μ22 => (r21 = r22 ∨ inR r21 ∧ inR r22) ∧ (r21 = r22 → wp true 21 322 18 [(6, l0), (11, 0), (40, 0), (0, (i + 6))] [] μ22 Q) ∧ (¬ (r21 = r22) → (0 : Int) ≤ 0 ∧ (0 : Int) ≤ 1 ∧ Q 0 μ22))) := by
  obtain ⟨hi, hL, hσ, hc⟩ := C
  have e := I.2.2.2.2
  have a1 := hσ (i + 1) (by omega) (by omega)
  have a2 := hσ (i + 2) (by omega) (by omega)
  simp only [e]
  rw [hL]
  refine ⟨by omega, by omega, by omega, by omega, c_bound (d := 6) I.1.1 I.2.1.1 a1 a2 (KCS_of I.2.1 (fun ξ hC hf hs => ?_))⟩
  have hM := MA_fr I.1 I.2.2.1 hf
  have eξ : ∀ y k, ξ 80 y k = σ y k := fun y k => (hf _ _ _ (by omega)).trans (e y k)
  simp only [eξ]
  rw [hL]
  exact ⟨by omega, by omega, by omega, by omega, m_bound (d := 6) I.1.1 hM.1 a1 a2 (KMS_of hM (fun ζ hM2 hf2 hs2 => ⟨Or.inl rfl, fun _ => nx _ _ (SI_nx (va_of (v_bound I.1.1) I.1.2) hC hM2 hf2 hs hs2 rfl eξ), fun h => absurd rfl h⟩))⟩
theorem lw_13 {c l0 i L : Int} {s : SS} {σ : Int → Int → Int} {ν : JM} {Q : JQ} (C : SC L i c σ) (I : SI c s σ ν) (nx : NX c i σ l0 Q) : 0 ≤ (i + 1) ∧ (i + 1) < ν 80 1 0 ∧ 0 ≤ (i + 2) ∧ (i + 2) < ν 80 1 0 ∧ wp true 20 141 0 [(11, 0), (0, ν 80 0 (i + 1)), (0, ν 80 0 (i + 2))] [] ν (fun r23 μ23 => 0 ≤ (i + 1) ∧ (i + 1) < μ23 80 1 0 ∧ 0 ≤ (i + 2) ∧ (i + 2) < μ23 80 1 0 ∧ wp true 20 217 0 [(40, 0), (0, μ23 80 0 (i + 1)), (0, μ23 80 0 (i + 2)), (9, 0), (9, 0), (9, 0), (9, 0), (9, 0)] [] μ23 (fun r24 μ24 => (r23 = r24 ∨ inR r23 ∧ inR r24) ∧ (r23 = r24 → wp true 21 322 18 [(6, l0), (11, 0), (40, 0), (0, (i + 6))] [] μ24 Q) ∧ (¬ (r23 = r24) → (0 : Int) ≤ 0 ∧ (0 : Int) ≤ 1 ∧ Q 0 μ24))) := by
  obtain ⟨hi, hL, hσ, hc⟩ := C
  have e := I.2.2.2.2
  have a1 := hσ (i + 1) (by omega) (by omega)
  have a2 := hσ (i + 2) (by omega) (by omega)
  simp only [e]
  rw [hL]
  refine ⟨by omega, by omega, by omega, by omega, c_join (d := 6) I.1.1 I.2.1.1 a1 a2 (KCS_of I.2.1 (fun ξ hC hf hs => ?_))⟩
  have hM := MA_fr I.1 I.2.2.1 hf
  have eξ : ∀ y k, ξ 80 y k = σ y k := fun y k => (hf _ _ _ (by omega)).trans (e y k)
  simp only [eξ]
  rw [hL]
  exact ⟨by omega, by omega, by omega, by omega, m_join (d := 7) I.1.1 hM.1 a1 a2 (KMS_of hM (fun ζ hM2 hf2 hs2 => ⟨Or.inl rfl, fun _ => nx _ _ (SI_nx (va_of (v_join I.1.1) I.1.2) hC hM2 hf2 hs hs2 rfl eξ), fun h => absurd rfl h⟩))⟩
theorem lw_14 {c l0 i L : Int} {s : SS} {σ : Int → Int → Int} {ν : JM} {Q : JQ} (C : SC L i c σ) (I : SI c s σ ν) (nx : NX c i σ l0 Q) : wp true 20 142 0 [(11, 0)] [] ν (fun r25 μ25 => wp true 20 218 0 [(40, 0)] [] μ25 (fun r26 μ26 => (r25 = r26 ∨ inR r25 ∧ inR r26) ∧ (r25 = r26 → wp true 21 322 18 [(6, l0), (11, 0), (40, 0), (0, (i + 6))] [] μ26 Q) ∧ (¬ (r25 = r26) → (0 : Int) ≤ 0 ∧ (0 : Int) ≤ 1 ∧ Q 0 μ26))) := by
  obtain ⟨hi, hL, hσ, hc⟩ := C
  have e := I.2.2.2.2
  refine c_undo (d := 6) I.1.1 I.2.1.1  (KCS_of I.2.1 (fun ξ hC hf hs => ?_))
  have hM := MA_fr I.1 I.2.2.1 hf
  have eξ : ∀ y k, ξ 80 y k = σ y k := fun y k => (hf _ _ _ (by omega)).trans (e y k)
  exact m_undo (d := 7) I.1.1 hM.1  (KMS_of hM (fun ζ hM2 hf2 hs2 => ⟨Or.inl rfl, fun _ => nx _ _ (SI_nx (va_of (v_undo I.1.1) I.1.2) hC hM2 hf2 hs hs2 rfl eξ), fun h => absurd rfl h⟩))
theorem lw_15 {c l0 i L : Int} {s : SS} {σ : Int → Int → Int} {ν : JM} {Q : JQ} (C : SC L i c σ) (I : SI c s σ ν) (nx : NX c i σ l0 Q) : wp true 20 143 0 [(11, 0)] [] ν (fun r27 μ27 => wp true 20 219 0 [(40, 0)] [] μ27 (fun r28 μ28 => (r27 = r28 ∨ inR r27 ∧ inR r28) ∧ (r27 = r28 → wp true 21 322 18 [(6, l0), (11, 0), (40, 0), (0, (i + 6))] [] μ28 Q) ∧ (¬ (r27 = r28) → (0 : Int) ≤ 0 ∧ (0 : Int) ≤ 1 ∧ Q 0 μ28))) := by
  obtain ⟨hi, hL, hσ, hc⟩ := C
  have e := I.2.2.2.2
  refine c_mark (d := 6) I.1.1 I.2.1.1  (KCS_of I.2.1 (fun ξ hC hf hs => ?_))
  have hM := MA_fr I.1 I.2.2.1 hf
  have eξ : ∀ y k, ξ 80 y k = σ y k := fun y k => (hf _ _ _ (by omega)).trans (e y k)
  exact m_mark (d := 7) I.1.1 hM.1  (KMS_of hM (fun ζ hM2 hf2 hs2 => ⟨Or.inl rfl, fun _ => nx _ _ (SI_nx (va_of (v_mark I.1.1) I.1.2) hC hM2 hf2 hs hs2 rfl eξ), fun h => absurd rfl h⟩))
theorem lw_16 {c l0 i L : Int} {s : SS} {σ : Int → Int → Int} {ν : JM} {Q : JQ} (C : SC L i c σ) (I : SI c s σ ν) (nx : NX c i σ l0 Q) : wp true 20 144 0 [(11, 0)] [] ν (fun r29 μ29 => wp true 20 220 0 [(40, 0)] [] μ29 (fun r30 μ30 => (r29 = r30 ∨ inR r29 ∧ inR r30) ∧ (r29 = r30 → wp true 21 322 18 [(6, l0), (11, 0), (40, 0), (0, (i + 6))] [] μ30 Q) ∧ (¬ (r29 = r30) → (0 : Int) ≤ 0 ∧ (0 : Int) ≤ 1 ∧ Q 0 μ30))) := by
  obtain ⟨hi, hL, hσ, hc⟩ := C
  have e := I.2.2.2.2
  refine c_back (d := 6) I.1.1 I.2.1.1  (KCS_of I.2.1 (fun ξ hC hf hs => ?_))
  have hM := MA_fr I.1 I.2.2.1 hf
  have eξ : ∀ y k, ξ 80 y k = σ y k := fun y k => (hf _ _ _ (by omega)).trans (e y k)
  exact m_back (d := 7) I.1.1 hM.1  (KMS_of hM (fun ζ hM2 hf2 hs2 => ⟨Or.inl rfl, fun _ => nx _ _ (SI_nx (va_of (v_back I.1.1) I.1.2) hC hM2 hf2 hs hs2 rfl eξ), fun h => absurd rfl h⟩))
theorem lw_17 {c l0 i L : Int} {s : SS} {σ : Int → Int → Int} {ν : JM} {Q : JQ} (C : SC L i c σ) (I : SI c s σ ν) (nx : NX c i σ l0 Q) : 0 ≤ (i + 1) ∧ (i + 1) < ν 80 1 0 ∧ 0 ≤ (i + 2) ∧ (i + 2) < ν 80 1 0 ∧ wp true 20 145 0 [(11, 0), (0, ν 80 0 (i + 1)), (0, ν 80 0 (i + 2)), (9, 0)] [] ν (fun r31 μ31 => 0 ≤ (i + 1) ∧ (i + 1) < μ31 80 1 0 ∧ 0 ≤ (i + 2) ∧ (i + 2) < μ31 80 1 0 ∧ wp true 20 269 0 [(40, 0), (0, μ31 80 0 (i + 1)), (0, μ31 80 0 (i + 2))] [] μ31 (fun r32 μ32 => (r31 = r32 ∨ inR r31 ∧ inR r32) ∧ (r31 = r32 → wp true 21 322 18 [(6, l0), (11, 0), (40, 0), (0, (i + 6))] [] μ32 Q) ∧ (¬ (r31 = r32) → (0 : Int) ≤ 0 ∧ (0 : Int) ≤ 1 ∧ Q 0 μ32))) := by
  obtain ⟨hi, hL, hσ, hc⟩ := C
  have e := I.2.2.2.2
  have a1 := hσ (i + 1) (by omega) (by omega)
  have a2 := hσ (i + 2) (by omega) (by omega)
  simp only [e]
  rw [hL]
  refine ⟨by omega, by omega, by omega, by omega, c_round (d := 6) I.1.1 I.2.1.1 a1 a2 (KC_of I.2.1 (fun ξ hC hf hs => ?_))⟩
  have hM := MA_fr I.1 I.2.2.1 hf
  have eξ : ∀ y k, ξ 80 y k = σ y k := fun y k => (hf _ _ _ (by omega)).trans (e y k)
  simp only [eξ]
  rw [hL]
  exact ⟨by omega, by omega, by omega, by omega, m_round (d := 7) I.1.1 hM.1 a1 a2 (KM_of hM (fun ζ hM2 hf2 hs2 => ⟨Or.inl rfl, fun _ => nx _ _ (SI_nx I.1 hC hM2 hf2 hs hs2 rfl eξ), fun h => absurd rfl h⟩))⟩
theorem lw_18 {c l0 i L : Int} {s : SS} {σ : Int → Int → Int} {ν : JM} {Q : JQ} (C : SC L i c σ) (I : SI c s σ ν) (nx : NX c i σ l0 Q) : 0 ≤ (i + 1) ∧ (i + 1) < ν 80 1 0 ∧ 0 ≤ (i + 2) ∧ (i + 2) < ν 80 1 0 ∧ wp true 20 146 0 [(11, 0), (0, ν 80 0 (i + 1)), (0, ν 80 0 (i + 2))] [] ν (fun r33 μ33 => 0 ≤ (i + 1) ∧ (i + 1) < μ33 80 1 0 ∧ 0 ≤ (i + 2) ∧ (i + 2) < μ33 80 1 0 ∧ wp true 20 270 0 [(40, 0), (0, μ33 80 0 (i + 1)), (0, μ33 80 0 (i + 2))] [] μ33 (fun r34 μ34 => (r33 = r34 ∨ inR r33 ∧ inR r34) ∧ (r33 = r34 → wp true 21 322 18 [(6, l0), (11, 0), (40, 0), (0, (i + 6))] [] μ34 Q) ∧ (¬ (r33 = r34) → (0 : Int) ≤ 0 ∧ (0 : Int) ≤ 1 ∧ Q 0 μ34))) := by
  obtain ⟨hi, hL, hσ, hc⟩ := C
  have e := I.2.2.2.2
  have a1 := hσ (i + 1) (by omega) (by omega)
  have a2 := hσ (i + 2) (by omega) (by omega)
  simp only [e]
  rw [hL]
  refine ⟨by omega, by omega, by omega, by omega, c_hop (d := 6) I.1.1 I.2.1.1 a1 a2 (KC_of I.2.1 (fun ξ hC hf hs => ?_))⟩
  have hM := MA_fr I.1 I.2.2.1 hf
  have eξ : ∀ y k, ξ 80 y k = σ y k := fun y k => (hf _ _ _ (by omega)).trans (e y k)
  simp only [eξ]
  rw [hL]
  exact ⟨by omega, by omega, by omega, by omega, m_hop (d := 7) I.1.1 hM.1 a1 a2 (KM_of hM (fun ζ hM2 hf2 hs2 => ⟨Or.inl rfl, fun _ => nx _ _ (SI_nx I.1 hC hM2 hf2 hs hs2 rfl eξ), fun h => absurd rfl h⟩))⟩
theorem lw_19 {c l0 i L : Int} {s : SS} {σ : Int → Int → Int} {ν : JM} {Q : JQ} (C : SC L i c σ) (I : SI c s σ ν) (nx : NX c i σ l0 Q) : 0 ≤ (i + 1) ∧ (i + 1) < ν 80 1 0 ∧ 0 ≤ (i + 2) ∧ (i + 2) < ν 80 1 0 ∧ wp true 20 147 0 [(11, 0), (0, ν 80 0 (i + 1)), (0, ν 80 0 (i + 2)), (9, 0), (9, 0)] [] ν (fun r35 μ35 => 0 ≤ (i + 1) ∧ (i + 1) < μ35 80 1 0 ∧ 0 ≤ (i + 2) ∧ (i + 2) < μ35 80 1 0 ∧ wp true 20 274 0 [(40, 0), (0, μ35 80 0 (i + 1)), (0, μ35 80 0 (i + 2)), (9, 0), (9, 0), (9, 0)] [] μ35 (fun r36 μ36 => (r35 = r36 ∨ inR r35 ∧ inR r36) ∧ (r35 = r36 → wp true 21 322 18 [(6, l0), (11, 0), (40, 0), (0, (i + 6))] [] μ36 Q) ∧ (¬ (r35 = r36) → (0 : Int) ≤ 0 ∧ (0 : Int) ≤ 1 ∧ Q 0 μ36))) := by
  obtain ⟨hi, hL, hσ, hc⟩ := C
  have e := I.2.2.2.2
  have a1 := hσ (i + 1) (by omega) (by omega)
  have a2 := hσ (i + 2) (by omega) (by omega)
  simp only [e]
  rw [hL]
  refine ⟨by omega, by omega, by omega, by omega, c_alarm (d := 6) I.1.1 I.2.1.1 a1 a2 (KC_of I.2.1 (fun ξ hC hf hs => ?_))⟩
  have hM := MA_fr I.1 I.2.2.1 hf
  have eξ : ∀ y k, ξ 80 y k = σ y k := fun y k => (hf _ _ _ (by omega)).trans (e y k)
  simp only [eξ]
  rw [hL]
  exact ⟨by omega, by omega, by omega, by omega, m_alarm (d := 7) I.1.1 hM.1 a1 a2 (KM_of hM (fun ζ hM2 hf2 hs2 => ⟨Or.inl rfl, fun _ => nx _ _ (SI_nx I.1 hC hM2 hf2 hs hs2 rfl eξ), fun h => absurd rfl h⟩))⟩
theorem lw_20 {c l0 i L : Int} {s : SS} {σ : Int → Int → Int} {ν : JM} {Q : JQ} (C : SC L i c σ) (I : SI c s σ ν) (nx : NX c i σ l0 Q) : 0 ≤ (i + 1) ∧ (i + 1) < ν 80 1 0 ∧ 0 ≤ (i + 2) ∧ (i + 2) < ν 80 1 0 ∧ wp true 20 148 0 [(11, 0), (0, ν 80 0 (i + 1)), (0, ν 80 0 (i + 2))] [] ν (fun r37 μ37 => 0 ≤ (i + 1) ∧ (i + 1) < μ37 80 1 0 ∧ 0 ≤ (i + 2) ∧ (i + 2) < μ37 80 1 0 ∧ wp true 20 275 0 [(40, 0), (0, μ37 80 0 (i + 1)), (0, μ37 80 0 (i + 2))] [] μ37 (fun r38 μ38 => (r37 = r38 ∨ inR r37 ∧ inR r38) ∧ (r37 = r38 → wp true 21 322 18 [(6, l0), (11, 0), (40, 0), (0, (i + 6))] [] μ38 Q) ∧ (¬ (r37 = r38) → (0 : Int) ≤ 0 ∧ (0 : Int) ≤ 1 ∧ Q 0 μ38))) := by
  obtain ⟨hi, hL, hσ, hc⟩ := C
  have e := I.2.2.2.2
  have a1 := hσ (i + 1) (by omega) (by omega)
  have a2 := hσ (i + 2) (by omega) (by omega)
  simp only [e]
  rw [hL]
  refine ⟨by omega, by omega, by omega, by omega, c_ring (d := 6) I.1.1 I.2.1.1 a1 a2 (KC_of I.2.1 (fun ξ hC hf hs => ?_))⟩
  have hM := MA_fr I.1 I.2.2.1 hf
  have eξ : ∀ y k, ξ 80 y k = σ y k := fun y k => (hf _ _ _ (by omega)).trans (e y k)
  simp only [eξ]
  rw [hL]
  exact ⟨by omega, by omega, by omega, by omega, m_ring (d := 7) I.1.1 hM.1 a1 a2 (KM_of hM (fun ζ hM2 hf2 hs2 => ⟨Or.inl rfl, fun _ => nx _ _ (SI_nx I.1 hC hM2 hf2 hs hs2 rfl eξ), fun h => absurd rfl h⟩))⟩
theorem lw_21 {c l0 i L : Int} {s : SS} {σ : Int → Int → Int} {ν : JM} {Q : JQ} (C : SC L i c σ) (I : SI c s σ ν) (nx : NX c i σ l0 Q) : 0 ≤ (i + 1) ∧ (i + 1) < ν 80 1 0 ∧ 0 ≤ (i + 2) ∧ (i + 2) < ν 80 1 0 ∧ wp true 20 149 0 [(11, 0), (0, ν 80 0 (i + 1)), (0, ν 80 0 (i + 2))] [] ν (fun r39 μ39 => 0 ≤ (i + 1) ∧ (i + 1) < μ39 80 1 0 ∧ 0 ≤ (i + 2) ∧ (i + 2) < μ39 80 1 0 ∧ wp true 20 276 0 [(40, 0), (0, μ39 80 0 (i + 1)), (0, μ39 80 0 (i + 2)), (9, 0), (9, 0)] [] μ39 (fun r40 μ40 => (r39 = r40 ∨ inR r39 ∧ inR r40) ∧ (r39 = r40 → wp true 21 322 18 [(6, l0), (11, 0), (40, 0), (0, (i + 6))] [] μ40 Q) ∧ (¬ (r39 = r40) → (0 : Int) ≤ 0 ∧ (0 : Int) ≤ 1 ∧ Q 0 μ40))) := by
  obtain ⟨hi, hL, hσ, hc⟩ := C
  have e := I.2.2.2.2
  have a1 := hσ (i + 1) (by omega) (by omega)
  have a2 := hσ (i + 2) (by omega) (by omega)
  simp only [e]
  rw [hL]
  refine ⟨by omega, by omega, by omega, by omega, c_closed (d := 6) I.1.1 I.2.1.1 a1 a2 (KC_of I.2.1 (fun ξ hC hf hs => ?_))⟩
  have hM := MA_fr I.1 I.2.2.1 hf
  have eξ : ∀ y k, ξ 80 y k = σ y k := fun y k => (hf _ _ _ (by omega)).trans (e y k)
  simp only [eξ]
  rw [hL]
  exact ⟨by omega, by omega, by omega, by omega, m_closed (d := 6) I.1.1 hM.1 a1 a2 (KM_of hM (fun ζ hM2 hf2 hs2 => ⟨Or.inl rfl, fun _ => nx _ _ (SI_nx I.1 hC hM2 hf2 hs hs2 rfl eξ), fun h => absurd rfl h⟩))⟩
theorem lw_22 {c l0 i L : Int} {s : SS} {σ : Int → Int → Int} {ν : JM} {Q : JQ} (C : SC L i c σ) (I : SI c s σ ν) (nx : NX c i σ l0 Q) : 0 ≤ (i + 1) ∧ (i + 1) < ν 80 1 0 ∧ 0 ≤ (i + 2) ∧ (i + 2) < ν 80 1 0 ∧ 0 ≤ (i + 3) ∧ (i + 3) < ν 80 1 0 ∧ 0 ≤ (i + 4) ∧ (i + 4) < ν 80 1 0 ∧ wp true 20 150 0 [(11, 0), (0, ν 80 0 (i + 1)), (0, ν 80 0 (i + 2)), (0, ν 80 0 (i + 3)), (0, ν 80 0 (i + 4)), (9, 0)] [] ν (fun r41 μ41 => 0 ≤ (i + 1) ∧ (i + 1) < μ41 80 1 0 ∧ 0 ≤ (i + 2) ∧ (i + 2) < μ41 80 1 0 ∧ 0 ≤ (i + 3) ∧ (i + 3) < μ41 80 1 0 ∧ 0 ≤ (i + 4) ∧ (i + 4) < μ41 80 1 0 ∧ wp true 20 277 0 [(40, 0), (0, μ41 80 0 (i + 1)), (0, μ41 80 0 (i + 2)), (0, μ41 80 0 (i + 3)), (0, μ41 80 0 (i + 4)), (9, 0), (9, 0), (9, 0)] [] μ41 (fun r42 μ42 => (r41 = r42 ∨ inR r41 ∧ inR r42) ∧ (r41 = r42 → wp true 21 322 18 [(6, l0), (11, 0), (40, 0), (0, (i + 6))] [] μ42 Q) ∧ (¬ (r41 = r42) → (0 : Int) ≤ 0 ∧ (0 : Int) ≤ 1 ∧ Q 0 μ42))) := by
  obtain ⟨hi, hL, hσ, hc⟩ := C
  have e := I.2.2.2.2
  have a1 := hσ (i + 1) (by omega) (by omega)
  have a2 := hσ (i + 2) (by omega) (by omega)
  have a3 := hσ (i + 3) (by omega) (by omega)
  have a4 := hσ (i + 4) (by omega) (by omega)
  simp only [e]
  rw [hL]
  refine ⟨by omega, by omega, by omega, by omega, by omega, by omega, by omega, by omega, c_would (d := 6) I.1.1 I.2.1.1 a1 a2 a3 a4 (KCS_of I.2.1 (fun ξ hC hf hs => ?_))⟩
  have hM := MA_fr I.1 I.2.2.1 hf
  have eξ : ∀ y k, ξ 80 y k = σ y k := fun y k => (hf _ _ _ (by omega)).trans (e y k)
  simp only [eξ]
  rw [hL]
  exact ⟨by omega, by omega, by omega, by omega, by omega, by omega, by omega, by omega, m_would (d := 7) I.1.1 hM.1 a1 a2 a3 a4 (KMS_of hM (fun ζ hM2 hf2 hs2 => ⟨Or.inl rfl, fun _ => nx _ _ (SI_nx I.1 hC hM2 hf2 hs hs2 rfl eξ), fun h => absurd rfl h⟩))⟩
theorem lw_23 {c l0 i L : Int} {s : SS} {σ : Int → Int → Int} {ν : JM} {Q : JQ} (C : SC L i c σ) (I : SI c s σ ν) (nx : NX c i σ l0 Q) : 0 ≤ (i + 1) ∧ (i + 1) < ν 80 1 0 ∧ wp true 20 151 0 [(11, 0), (0, ν 80 0 (i + 1)), (9, 0)] [] ν (fun r43 μ43 => 0 ≤ (i + 1) ∧ (i + 1) < μ43 80 1 0 ∧ wp true 20 280 0 [(40, 0), (0, μ43 80 0 (i + 1)), (9, 0), (9, 0)] [] μ43 (fun r44 μ44 => (r43 = r44 ∨ inR r43 ∧ inR r44) ∧ (r43 = r44 → wp true 21 322 18 [(6, l0), (11, 0), (40, 0), (0, (i + 6))] [] μ44 Q) ∧ (¬ (r43 = r44) → (0 : Int) ≤ 0 ∧ (0 : Int) ≤ 1 ∧ Q 0 μ44))) := by
  obtain ⟨hi, hL, hσ, hc⟩ := C
  have e := I.2.2.2.2
  have a1 := hσ (i + 1) (by omega) (by omega)
  simp only [e]
  rw [hL]
  refine ⟨by omega, by omega, c_top (d := 6) I.1.1 I.2.1.1 a1 (KC_of I.2.1 (fun ξ hC hf hs => ?_))⟩
  have hM := MA_fr I.1 I.2.2.1 hf
  have eξ : ∀ y k, ξ 80 y k = σ y k := fun y k => (hf _ _ _ (by omega)).trans (e y k)
  simp only [eξ]
  rw [hL]
  exact ⟨by omega, by omega, m_top (d := 7) I.1.1 hM.1 a1 (KM_of hM (fun ζ hM2 hf2 hs2 => ⟨Or.inl rfl, fun _ => nx _ _ (SI_nx I.1 hC hM2 hf2 hs hs2 rfl eξ), fun h => absurd rfl h⟩))⟩
theorem lw_24 {c l0 i L : Int} {s : SS} {σ : Int → Int → Int} {ν : JM} {Q : JQ} (C : SC L i c σ) (I : SI c s σ ν) (nx : NX c i σ l0 Q) : 0 ≤ (i + 1) ∧ (i + 1) < ν 80 1 0 ∧ wp true 20 152 0 [(11, 0), (0, ν 80 0 (i + 1))] [] ν (fun r45 μ45 => 0 ≤ (i + 1) ∧ (i + 1) < μ45 80 1 0 ∧ wp true 20 282 0 [(40, 0), (0, μ45 80 0 (i + 1))] [] μ45 (fun r46 μ46 => (r45 = r46 ∨ inR r45 ∧ inR r46) ∧ (r45 = r46 → wp true 21 322 18 [(6, l0), (11, 0), (40, 0), (0, (i + 6))] [] μ46 Q) ∧ (¬ (r45 = r46) → (0 : Int) ≤ 0 ∧ (0 : Int) ≤ 1 ∧ Q 0 μ46))) := by
  obtain ⟨hi, hL, hσ, hc⟩ := C
  have e := I.2.2.2.2
  have a1 := hσ (i + 1) (by omega) (by omega)
  simp only [e]
  rw [hL]
  refine ⟨by omega, by omega, c_left (d := 6) I.1.1 I.2.1.1 a1 (KC_of I.2.1 (fun ξ hC hf hs => ?_))⟩
  have hM := MA_fr I.1 I.2.2.1 hf
  have eξ : ∀ y k, ξ 80 y k = σ y k := fun y k => (hf _ _ _ (by omega)).trans (e y k)
  simp only [eξ]
  rw [hL]
  exact ⟨by omega, by omega, m_left (d := 7) I.1.1 hM.1 a1 (KM_of hM (fun ζ hM2 hf2 hs2 => ⟨Or.inl rfl, fun _ => nx _ _ (SI_nx I.1 hC hM2 hf2 hs hs2 rfl eξ), fun h => absurd rfl h⟩))⟩
theorem lw_25 {c l0 i L : Int} {s : SS} {σ : Int → Int → Int} {ν : JM} {Q : JQ} (C : SC L i c σ) (I : SI c s σ ν) (nx : NX c i σ l0 Q) : 0 ≤ (i + 1) ∧ (i + 1) < ν 80 1 0 ∧ wp true 20 153 0 [(11, 0), (0, ν 80 0 (i + 1))] [] ν (fun r47 μ47 => 0 ≤ (i + 1) ∧ (i + 1) < μ47 80 1 0 ∧ wp true 20 286 0 [(40, 0), (0, μ47 80 0 (i + 1))] [] μ47 (fun r48 μ48 => (r47 = r48 ∨ inR r47 ∧ inR r48) ∧ (r47 = r48 → wp true 21 322 18 [(6, l0), (11, 0), (40, 0), (0, (i + 6))] [] μ48 Q) ∧ (¬ (r47 = r48) → (0 : Int) ≤ 0 ∧ (0 : Int) ≤ 1 ∧ Q 0 μ48))) := by
  obtain ⟨hi, hL, hσ, hc⟩ := C
  have e := I.2.2.2.2
  have a1 := hσ (i + 1) (by omega) (by omega)
  simp only [e]
  rw [hL]
  refine ⟨by omega, by omega, c_cluster (d := 6) I.1.1 I.2.1.1 a1 (KC_of I.2.1 (fun ξ hC hf hs => ?_))⟩
  have hM := MA_fr I.1 I.2.2.1 hf
  have eξ : ∀ y k, ξ 80 y k = σ y k := fun y k => (hf _ _ _ (by omega)).trans (e y k)
  simp only [eξ]
  rw [hL]
  exact ⟨by omega, by omega, m_cluster (d := 7) I.1.1 hM.1 a1 (KM_of hM (fun ζ hM2 hf2 hs2 => ⟨Or.inl rfl, fun _ => nx _ _ (SI_nx I.1 hC hM2 hf2 hs hs2 rfl eξ), fun h => absurd rfl h⟩))⟩
theorem lw_26 {c l0 i L : Int} {s : SS} {σ : Int → Int → Int} {ν : JM} {Q : JQ} (C : SC L i c σ) (I : SI c s σ ν) (nx : NX c i σ l0 Q) : 0 ≤ (i + 1) ∧ (i + 1) < ν 80 1 0 ∧ wp true 20 154 0 [(11, 0), (0, ν 80 0 (i + 1))] [] ν (fun r49 μ49 => 0 ≤ (i + 1) ∧ (i + 1) < μ49 80 1 0 ∧ wp true 20 287 0 [(40, 0), (0, μ49 80 0 (i + 1)), (9, 0), (9, 0)] [] μ49 (fun r50 μ50 => (r49 = r50 ∨ inR r49 ∧ inR r50) ∧ (r49 = r50 → wp true 21 322 18 [(6, l0), (11, 0), (40, 0), (0, (i + 6))] [] μ50 Q) ∧ (¬ (r49 = r50) → (0 : Int) ≤ 0 ∧ (0 : Int) ≤ 1 ∧ Q 0 μ50))) := by
  obtain ⟨hi, hL, hσ, hc⟩ := C
  have e := I.2.2.2.2
  have a1 := hσ (i + 1) (by omega) (by omega)
  simp only [e]
  rw [hL]
  refine ⟨by omega, by omega, c_hinge (d := 6) I.1.1 I.2.1.1 a1 (KC_of I.2.1 (fun ξ hC hf hs => ?_))⟩
  have hM := MA_fr I.1 I.2.2.1 hf
  have eξ : ∀ y k, ξ 80 y k = σ y k := fun y k => (hf _ _ _ (by omega)).trans (e y k)
  simp only [eξ]
  rw [hL]
  exact ⟨by omega, by omega, m_hinge (d := 7) I.1.1 hM.1 a1 (KM_of hM (fun ζ hM2 hf2 hs2 => ⟨Or.inl rfl, fun _ => nx _ _ (SI_nx I.1 hC hM2 hf2 hs hs2 rfl eξ), fun h => absurd rfl h⟩))⟩
theorem lw_27 {c l0 i L : Int} {s : SS} {σ : Int → Int → Int} {ν : JM} {Q : JQ} (C : SC L i c σ) (I : SI c s σ ν) (nx : NX c i σ l0 Q) : 0 ≤ (i + 1) ∧ (i + 1) < ν 80 1 0 ∧ 0 ≤ (i + 2) ∧ (i + 2) < ν 80 1 0 ∧ wp true 20 155 0 [(11, 0), (0, ν 80 0 (i + 1)), (0, ν 80 0 (i + 2)), (9, 0), (9, 0)] [] ν (fun r51 μ51 => 0 ≤ (i + 1) ∧ (i + 1) < μ51 80 1 0 ∧ 0 ≤ (i + 2) ∧ (i + 2) < μ51 80 1 0 ∧ wp true 20 290 0 [(40, 0), (0, μ51 80 0 (i + 1)), (0, μ51 80 0 (i + 2))] [] μ51 (fun r52 μ52 => (r51 = r52 ∨ inR r51 ∧ inR r52) ∧ (r51 = r52 → wp true 21 322 18 [(6, l0), (11, 0), (40, 0), (0, (i + 6))] [] μ52 Q) ∧ (¬ (r51 = r52) → (0 : Int) ≤ 0 ∧ (0 : Int) ≤ 1 ∧ Q 0 μ52))) := by
  obtain ⟨hi, hL, hσ, hc⟩ := C
  have e := I.2.2.2.2
  have a1 := hσ (i + 1) (by omega) (by omega)
  have a2 := hσ (i + 2) (by omega) (by omega)
  simp only [e]
  rw [hL]
  refine ⟨by omega, by omega, by omega, by omega, c_standing (d := 6) I.1.1 I.2.1.1 (by omega) a1 a2 (KC_of I.2.1 (fun ξ hC hf hs => ?_))⟩
  have hM := MA_fr I.1 I.2.2.1 hf
  have eξ : ∀ y k, ξ 80 y k = σ y k := fun y k => (hf _ _ _ (by omega)).trans (e y k)
  simp only [eξ]
  rw [hL]
  exact ⟨by omega, by omega, by omega, by omega, m_standing (d := 7) I.1.1 hM.1 a1 a2 (KM_of hM (fun ζ hM2 hf2 hs2 => ⟨Or.inl rfl, fun _ => nx _ _ (SI_nx I.1 hC hM2 hf2 hs hs2 rfl eξ), fun h => absurd rfl h⟩))⟩
theorem lw_28 {c l0 i L : Int} {s : SS} {σ : Int → Int → Int} {ν : JM} {Q : JQ} (C : SC L i c σ) (I : SI c s σ ν) (nx : NX c i σ l0 Q) : 0 ≤ (i + 1) ∧ (i + 1) < ν 80 1 0 ∧ wp true 20 156 0 [(11, 0), (0, ν 80 0 (i + 1)), (9, 0), (9, 0)] [] ν (fun r53 μ53 => 0 ≤ (i + 1) ∧ (i + 1) < μ53 80 1 0 ∧ wp true 20 292 0 [(40, 0), (0, μ53 80 0 (i + 1)), (9, 0), (9, 0), (9, 0), (9, 0)] [] μ53 (fun r54 μ54 => (r53 = r54 ∨ inR r53 ∧ inR r54) ∧ (r53 = r54 → wp true 21 322 18 [(6, l0), (11, 0), (40, 0), (0, (i + 6))] [] μ54 Q) ∧ (¬ (r53 = r54) → (0 : Int) ≤ 0 ∧ (0 : Int) ≤ 1 ∧ Q 0 μ54))) := by
  obtain ⟨hi, hL, hσ, hc⟩ := C
  have e := I.2.2.2.2
  have a1 := hσ (i + 1) (by omega) (by omega)
  simp only [e]
  rw [hL]
  refine ⟨by omega, by omega, c_peak (d := 6) I.1.1 I.2.1.1 a1 (KC_of I.2.1 (fun ξ hC hf hs => ?_))⟩
  have hM := MA_fr I.1 I.2.2.1 hf
  have eξ : ∀ y k, ξ 80 y k = σ y k := fun y k => (hf _ _ _ (by omega)).trans (e y k)
  simp only [eξ]
  rw [hL]
  exact ⟨by omega, by omega, m_peak (d := 6) I.1.1 hM.1 a1 (KM_of hM (fun ζ hM2 hf2 hs2 => ⟨Or.inl rfl, fun _ => nx _ _ (SI_nx I.1 hC hM2 hf2 hs hs2 rfl eξ), fun h => absurd rfl h⟩))⟩
theorem lw_29 {c l0 i L : Int} {s : SS} {σ : Int → Int → Int} {ν : JM} {Q : JQ} (C : SC L i c σ) (I : SI c s σ ν) (nx : NX c i σ l0 Q) : 0 ≤ (i + 1) ∧ (i + 1) < ν 80 1 0 ∧ wp true 20 157 0 [(11, 0), (0, ν 80 0 (i + 1)), (9, 0), (9, 0)] [] ν (fun r55 μ55 => 0 ≤ (i + 1) ∧ (i + 1) < μ55 80 1 0 ∧ wp true 20 293 0 [(40, 0), (0, μ55 80 0 (i + 1)), (9, 0), (9, 0), (9, 0)] [] μ55 (fun r56 μ56 => (r55 = r56 ∨ inR r55 ∧ inR r56) ∧ (r55 = r56 → wp true 21 322 18 [(6, l0), (11, 0), (40, 0), (0, (i + 6))] [] μ56 Q) ∧ (¬ (r55 = r56) → (0 : Int) ≤ 0 ∧ (0 : Int) ≤ 1 ∧ Q 0 μ56))) := by
  obtain ⟨hi, hL, hσ, hc⟩ := C
  have e := I.2.2.2.2
  have a1 := hσ (i + 1) (by omega) (by omega)
  simp only [e]
  rw [hL]
  refine ⟨by omega, by omega, c_ranked (d := 6) I.1.1 I.2.1.1 a1 (KC_of I.2.1 (fun ξ hC hf hs => ?_))⟩
  have hM := MA_fr I.1 I.2.2.1 hf
  have eξ : ∀ y k, ξ 80 y k = σ y k := fun y k => (hf _ _ _ (by omega)).trans (e y k)
  simp only [eξ]
  rw [hL]
  exact ⟨by omega, by omega, m_ranked (d := 7) I.1.1 hM.1 a1 (KM_of hM (fun ζ hM2 hf2 hs2 => ⟨Or.inl rfl, fun _ => nx _ _ (SI_nx I.1 hC hM2 hf2 hs hs2 rfl eξ), fun h => absurd rfl h⟩))⟩
theorem lw_30 {c l0 i L : Int} {s : SS} {σ : Int → Int → Int} {ν : JM} {Q : JQ} (C : SC L i c σ) (I : SI c s σ ν) (nx : NX c i σ l0 Q) : 0 ≤ (i + 1) ∧ (i + 1) < ν 80 1 0 ∧ 0 ≤ (i + 2) ∧ (i + 2) < ν 80 1 0 ∧ 0 ≤ (i + 3) ∧ (i + 3) < ν 80 1 0 ∧ 0 ≤ (i + 4) ∧ (i + 4) < ν 80 1 0 ∧ wp true 20 158 0 [(11, 0), (0, ν 80 0 (i + 1)), (0, ν 80 0 (i + 2)), (0, ν 80 0 (i + 3)), (0, ν 80 0 (i + 4)), (9, 0)] [] ν (fun r57 μ57 => 0 ≤ (i + 1) ∧ (i + 1) < μ57 80 1 0 ∧ 0 ≤ (i + 2) ∧ (i + 2) < μ57 80 1 0 ∧ 0 ≤ (i + 3) ∧ (i + 3) < μ57 80 1 0 ∧ 0 ≤ (i + 4) ∧ (i + 4) < μ57 80 1 0 ∧ wp true 20 300 0 [(40, 0), (0, μ57 80 0 (i + 1)), (0, μ57 80 0 (i + 2)), (0, μ57 80 0 (i + 3)), (0, μ57 80 0 (i + 4)), (9, 0)] [] μ57 (fun r58 μ58 => (r57 = r58 ∨ inR r57 ∧ inR r58) ∧ (r57 = r58 → wp true 21 322 18 [(6, l0), (11, 0), (40, 0), (0, (i + 6))] [] μ58 Q) ∧ (¬ (r57 = r58) → (0 : Int) ≤ 0 ∧ (0 : Int) ≤ 1 ∧ Q 0 μ58))) := by
  obtain ⟨hi, hL, hσ, hc⟩ := C
  have e := I.2.2.2.2
  have a1 := hσ (i + 1) (by omega) (by omega)
  have a2 := hσ (i + 2) (by omega) (by omega)
  have a3 := hσ (i + 3) (by omega) (by omega)
  have a4 := hσ (i + 4) (by omega) (by omega)
  simp only [e]
  rw [hL]
  refine ⟨by omega, by omega, by omega, by omega, by omega, by omega, by omega, by omega, c_soonest (d := 4) I.1.1 I.2.1.1 a1 a2 a3 a4 (KC_of I.2.1 (fun ξ hC hf hs => ?_))⟩
  have hM := MA_fr I.1 I.2.2.1 hf
  have eξ : ∀ y k, ξ 80 y k = σ y k := fun y k => (hf _ _ _ (by omega)).trans (e y k)
  simp only [eξ]
  rw [hL]
  exact ⟨by omega, by omega, by omega, by omega, by omega, by omega, by omega, by omega, m_soonest (d := 0) I.1.1 hM.1 a1 a2 a3 a4 (KM_of hM (fun ζ hM2 hf2 hs2 => ⟨Or.inl rfl, fun _ => nx _ _ (SI_nx I.1 hC hM2 hf2 hs hs2 rfl eξ), fun h => absurd rfl h⟩))⟩
theorem lw_31 {c l0 i L : Int} {s : SS} {σ : Int → Int → Int} {ν : JM} {Q : JQ} (C : SC L i c σ) (I : SI c s σ ν) (nx : NX c i σ l0 Q) : 0 ≤ (i + 1) ∧ (i + 1) < ν 80 1 0 ∧ 0 ≤ (i + 2) ∧ (i + 2) < ν 80 1 0 ∧ 0 ≤ (i + 3) ∧ (i + 3) < ν 80 1 0 ∧ 0 ≤ (i + 4) ∧ (i + 4) < ν 80 1 0 ∧ wp true 20 159 0 [(11, 0), (0, ν 80 0 (i + 1)), (0, ν 80 0 (i + 2)), (0, ν 80 0 (i + 3)), (0, ν 80 0 (i + 4)), (9, 0)] [] ν (fun r59 μ59 => 0 ≤ (i + 1) ∧ (i + 1) < μ59 80 1 0 ∧ 0 ≤ (i + 2) ∧ (i + 2) < μ59 80 1 0 ∧ 0 ≤ (i + 3) ∧ (i + 3) < μ59 80 1 0 ∧ 0 ≤ (i + 4) ∧ (i + 4) < μ59 80 1 0 ∧ wp true 20 301 0 [(40, 0), (0, μ59 80 0 (i + 1)), (0, μ59 80 0 (i + 2)), (0, μ59 80 0 (i + 3)), (0, μ59 80 0 (i + 4)), (9, 0)] [] μ59 (fun r60 μ60 => (r59 = r60 ∨ inR r59 ∧ inR r60) ∧ (r59 = r60 → wp true 21 322 18 [(6, l0), (11, 0), (40, 0), (0, (i + 6))] [] μ60 Q) ∧ (¬ (r59 = r60) → (0 : Int) ≤ 0 ∧ (0 : Int) ≤ 1 ∧ Q 0 μ60))) := by
  obtain ⟨hi, hL, hσ, hc⟩ := C
  have e := I.2.2.2.2
  have a1 := hσ (i + 1) (by omega) (by omega)
  have a2 := hσ (i + 2) (by omega) (by omega)
  have a3 := hσ (i + 3) (by omega) (by omega)
  have a4 := hσ (i + 4) (by omega) (by omega)
  simp only [e]
  rw [hL]
  refine ⟨by omega, by omega, by omega, by omega, by omega, by omega, by omega, by omega, c_step (d := 4) I.1.1 I.2.1.1 a1 a2 a3 a4 (KC_of I.2.1 (fun ξ hC hf hs => ?_))⟩
  have hM := MA_fr I.1 I.2.2.1 hf
  have eξ : ∀ y k, ξ 80 y k = σ y k := fun y k => (hf _ _ _ (by omega)).trans (e y k)
  simp only [eξ]
  rw [hL]
  exact ⟨by omega, by omega, by omega, by omega, by omega, by omega, by omega, by omega, m_step (d := 0) I.1.1 hM.1 a1 a2 a3 a4 (KM_of hM (fun ζ hM2 hf2 hs2 => ⟨Or.inl rfl, fun _ => nx _ _ (SI_nx I.1 hC hM2 hf2 hs hs2 rfl eξ), fun h => absurd rfl h⟩))⟩
theorem lw_32 {c l0 i L : Int} {s : SS} {σ : Int → Int → Int} {ν : JM} {Q : JQ} (C : SC L i c σ) (I : SI c s σ ν) (nx : NX c i σ l0 Q) : 0 ≤ (i + 1) ∧ (i + 1) < ν 80 1 0 ∧ 0 ≤ (i + 2) ∧ (i + 2) < ν 80 1 0 ∧ 0 ≤ (i + 3) ∧ (i + 3) < ν 80 1 0 ∧ wp true 20 160 0 [(11, 0), (0, ν 80 0 (i + 1)), (0, ν 80 0 (i + 2)), (0, ν 80 0 (i + 3)), (9, 0)] [] ν (fun r61 μ61 => 0 ≤ (i + 1) ∧ (i + 1) < μ61 80 1 0 ∧ 0 ≤ (i + 2) ∧ (i + 2) < μ61 80 1 0 ∧ 0 ≤ (i + 3) ∧ (i + 3) < μ61 80 1 0 ∧ wp true 20 302 0 [(40, 0), (0, μ61 80 0 (i + 1)), (0, μ61 80 0 (i + 2)), (0, μ61 80 0 (i + 3)), (9, 0)] [] μ61 (fun r62 μ62 => (r61 = r62 ∨ inR r61 ∧ inR r62) ∧ (r61 = r62 → wp true 21 322 18 [(6, l0), (11, 0), (40, 0), (0, (i + 6))] [] μ62 Q) ∧ (¬ (r61 = r62) → (0 : Int) ≤ 0 ∧ (0 : Int) ≤ 1 ∧ Q 0 μ62))) := by
  obtain ⟨hi, hL, hσ, hc⟩ := C
  have e := I.2.2.2.2
  have a1 := hσ (i + 1) (by omega) (by omega)
  have a2 := hσ (i + 2) (by omega) (by omega)
  have a3 := hσ (i + 3) (by omega) (by omega)
  simp only [e]
  rw [hL]
  refine ⟨by omega, by omega, by omega, by omega, by omega, by omega, c_most (d := 4) I.1.1 I.2.1.1 a1 a2 a3 (KC_of I.2.1 (fun ξ hC hf hs => ?_))⟩
  have hM := MA_fr I.1 I.2.2.1 hf
  have eξ : ∀ y k, ξ 80 y k = σ y k := fun y k => (hf _ _ _ (by omega)).trans (e y k)
  simp only [eξ]
  rw [hL]
  exact ⟨by omega, by omega, by omega, by omega, by omega, by omega, m_most (d := 0) I.1.1 hM.1 a1 a2 a3 (KM_of hM (fun ζ hM2 hf2 hs2 => ⟨Or.inl rfl, fun _ => nx _ _ (SI_nx I.1 hC hM2 hf2 hs hs2 rfl eξ), fun h => absurd rfl h⟩))⟩
theorem lw_33 {c l0 i L : Int} {s : SS} {σ : Int → Int → Int} {ν : JM} {Q : JQ} (C : SC L i c σ) (I : SI c s σ ν) (nx : NX c i σ l0 Q) : 0 ≤ (i + 1) ∧ (i + 1) < ν 80 1 0 ∧ 0 ≤ (i + 2) ∧ (i + 2) < ν 80 1 0 ∧ wp true 20 161 0 [(11, 0), (0, ν 80 0 (i + 1)), (0, ν 80 0 (i + 2)), (9, 0)] [] ν (fun r63 μ63 => 0 ≤ (i + 1) ∧ (i + 1) < μ63 80 1 0 ∧ 0 ≤ (i + 2) ∧ (i + 2) < μ63 80 1 0 ∧ wp true 20 303 0 [(40, 0), (0, μ63 80 0 (i + 1)), (0, μ63 80 0 (i + 2))] [] μ63 (fun r64 μ64 => (r63 = r64 ∨ inR r63 ∧ inR r64) ∧ (r63 = r64 → wp true 21 322 18 [(6, l0), (11, 0), (40, 0), (0, (i + 6))] [] μ64 Q) ∧ (¬ (r63 = r64) → (0 : Int) ≤ 0 ∧ (0 : Int) ≤ 1 ∧ Q 0 μ64))) := by
  obtain ⟨hi, hL, hσ, hc⟩ := C
  have e := I.2.2.2.2
  have a1 := hσ (i + 1) (by omega) (by omega)
  have a2 := hσ (i + 2) (by omega) (by omega)
  simp only [e]
  rw [hL]
  refine ⟨by omega, by omega, by omega, by omega, c_reach (d := 4) I.1.1 I.2.1.1 a1 a2 (KC_of I.2.1 (fun ξ hC hf hs => ?_))⟩
  have hM := MA_fr I.1 I.2.2.1 hf
  have eξ : ∀ y k, ξ 80 y k = σ y k := fun y k => (hf _ _ _ (by omega)).trans (e y k)
  simp only [eξ]
  rw [hL]
  exact ⟨by omega, by omega, by omega, by omega, m_reach (d := 1) I.1.1 hM.1 a1 a2 (KM_of hM (fun ζ hM2 hf2 hs2 => ⟨Or.inl rfl, fun _ => nx _ _ (SI_nx I.1 hC hM2 hf2 hs hs2 rfl eξ), fun h => absurd rfl h⟩))⟩
theorem lw_34 {c l0 i L : Int} {s : SS} {σ : Int → Int → Int} {ν : JM} {Q : JQ} (C : SC L i c σ) (I : SI c s σ ν) (nx : NX c i σ l0 Q) : 0 ≤ (i + 1) ∧ (i + 1) < ν 80 1 0 ∧ 0 ≤ (i + 2) ∧ (i + 2) < ν 80 1 0 ∧ wp true 20 162 0 [(11, 0), (0, ν 80 0 (i + 1)), (0, ν 80 0 (i + 2)), (9, 0)] [] ν (fun r65 μ65 => 0 ≤ (i + 1) ∧ (i + 1) < μ65 80 1 0 ∧ 0 ≤ (i + 2) ∧ (i + 2) < μ65 80 1 0 ∧ wp true 20 304 0 [(40, 0), (0, μ65 80 0 (i + 1)), (0, μ65 80 0 (i + 2))] [] μ65 (fun r66 μ66 => (r65 = r66 ∨ inR r65 ∧ inR r66) ∧ (r65 = r66 → wp true 21 322 18 [(6, l0), (11, 0), (40, 0), (0, (i + 6))] [] μ66 Q) ∧ (¬ (r65 = r66) → (0 : Int) ≤ 0 ∧ (0 : Int) ≤ 1 ∧ Q 0 μ66))) := by
  obtain ⟨hi, hL, hσ, hc⟩ := C
  have e := I.2.2.2.2
  have a1 := hσ (i + 1) (by omega) (by omega)
  have a2 := hσ (i + 2) (by omega) (by omega)
  simp only [e]
  rw [hL]
  refine ⟨by omega, by omega, by omega, by omega, c_chain (d := 4) I.1.1 I.2.1.1 a1 a2 (KC_of I.2.1 (fun ξ hC hf hs => ?_))⟩
  have hM := MA_fr I.1 I.2.2.1 hf
  have eξ : ∀ y k, ξ 80 y k = σ y k := fun y k => (hf _ _ _ (by omega)).trans (e y k)
  simp only [eξ]
  rw [hL]
  exact ⟨by omega, by omega, by omega, by omega, m_chain (d := 1) I.1.1 hM.1 a1 a2 (KM_of hM (fun ζ hM2 hf2 hs2 => ⟨Or.inl rfl, fun _ => nx _ _ (SI_nx I.1 hC hM2 hf2 hs hs2 rfl eξ), fun h => absurd rfl h⟩))⟩
theorem lw_35 {c l0 i L : Int} {s : SS} {σ : Int → Int → Int} {ν : JM} {Q : JQ} (C : SC L i c σ) (I : SI c s σ ν) (nx : NX c i σ l0 Q) : 0 ≤ (i + 1) ∧ (i + 1) < ν 80 1 0 ∧ 0 ≤ (i + 2) ∧ (i + 2) < ν 80 1 0 ∧ 0 ≤ (i + 3) ∧ (i + 3) < ν 80 1 0 ∧ wp true 20 163 0 [(11, 0), (0, ν 80 0 (i + 1)), (0, ν 80 0 (i + 2)), (0, ν 80 0 (i + 3))] [] ν (fun r67 μ67 => 0 ≤ (i + 1) ∧ (i + 1) < μ67 80 1 0 ∧ 0 ≤ (i + 2) ∧ (i + 2) < μ67 80 1 0 ∧ 0 ≤ (i + 3) ∧ (i + 3) < μ67 80 1 0 ∧ wp true 20 308 0 [(40, 0), (0, μ67 80 0 (i + 1)), (0, μ67 80 0 (i + 2)), (0, μ67 80 0 (i + 3))] [] μ67 (fun r68 μ68 => (r67 = r68 ∨ inR r67 ∧ inR r68) ∧ (r67 = r68 → wp true 21 322 18 [(6, l0), (11, 0), (40, 0), (0, (i + 6))] [] μ68 Q) ∧ (¬ (r67 = r68) → (0 : Int) ≤ 0 ∧ (0 : Int) ≤ 1 ∧ Q 0 μ68))) := by
  obtain ⟨hi, hL, hσ, hc⟩ := C
  have e := I.2.2.2.2
  have a1 := hσ (i + 1) (by omega) (by omega)
  have a2 := hσ (i + 2) (by omega) (by omega)
  have a3 := hσ (i + 3) (by omega) (by omega)
  simp only [e]
  rw [hL]
  refine ⟨by omega, by omega, by omega, by omega, by omega, by omega, c_part (d := 6) I.1.1 I.2.1.1 a1 a2 a3 (KCS_of I.2.1 (fun ξ hC hf hs => ?_))⟩
  have hM := MA_fr I.1 I.2.2.1 hf
  have eξ : ∀ y k, ξ 80 y k = σ y k := fun y k => (hf _ _ _ (by omega)).trans (e y k)
  simp only [eξ]
  rw [hL]
  exact ⟨by omega, by omega, by omega, by omega, by omega, by omega, m_part (d := 7) I.1.1 hM.1 a1 a2 a3 (KM_of hM (fun ζ hM2 hf2 hs2 => ⟨Or.inl rfl, fun _ => nx _ _ (SI_nx I.1 hC hM2 hf2 hs hs2 rfl eξ), fun h => absurd rfl h⟩))⟩
theorem lw_36 {c l0 i L : Int} {s : SS} {σ : Int → Int → Int} {ν : JM} {Q : JQ} (C : SC L i c σ) (I : SI c s σ ν) (nx : NX c i σ l0 Q) : 0 ≤ (i + 1) ∧ (i + 1) < ν 80 1 0 ∧ 0 ≤ (i + 2) ∧ (i + 2) < ν 80 1 0 ∧ 0 ≤ (i + 3) ∧ (i + 3) < ν 80 1 0 ∧ wp true 20 164 0 [(11, 0), (0, ν 80 0 (i + 1)), (0, ν 80 0 (i + 2)), (0, ν 80 0 (i + 3))] [] ν (fun r69 μ69 => 0 ≤ (i + 1) ∧ (i + 1) < μ69 80 1 0 ∧ 0 ≤ (i + 2) ∧ (i + 2) < μ69 80 1 0 ∧ 0 ≤ (i + 3) ∧ (i + 3) < μ69 80 1 0 ∧ wp true 20 309 0 [(40, 0), (0, μ69 80 0 (i + 1)), (0, μ69 80 0 (i + 2)), (0, μ69 80 0 (i + 3)), (9, 0), (9, 0), (9, 0), (9, 0), (9, 0), (9, 0)] [] μ69 (fun r70 μ70 => (r69 = r70 ∨ inR r69 ∧ inR r70) ∧ (r69 = r70 → wp true 21 322 18 [(6, l0), (11, 0), (40, 0), (0, (i + 6))] [] μ70 Q) ∧ (¬ (r69 = r70) → (0 : Int) ≤ 0 ∧ (0 : Int) ≤ 1 ∧ Q 0 μ70))) := by
  obtain ⟨hi, hL, hσ, hc⟩ := C
  have e := I.2.2.2.2
  have a1 := hσ (i + 1) (by omega) (by omega)
  have a2 := hσ (i + 2) (by omega) (by omega)
  have a3 := hσ (i + 3) (by omega) (by omega)
  simp only [e]
  rw [hL]
  refine ⟨by omega, by omega, by omega, by omega, by omega, by omega, c_parts (d := 6) I.1.1 I.2.1.1 a1 a2 a3 (KCS_of I.2.1 (fun ξ hC hf hs => ?_))⟩
  have hM := MA_fr I.1 I.2.2.1 hf
  have eξ : ∀ y k, ξ 80 y k = σ y k := fun y k => (hf _ _ _ (by omega)).trans (e y k)
  simp only [eξ]
  rw [hL]
  exact ⟨by omega, by omega, by omega, by omega, by omega, by omega, m_parts (d := 7) I.1.1 hM.1 a1 a2 a3 (KM_of hM (fun ζ hM2 hf2 hs2 => ⟨Or.inl rfl, fun _ => nx _ _ (SI_nx I.1 hC hM2 hf2 hs hs2 rfl eξ), fun h => absurd rfl h⟩))⟩
theorem lw_37 {c l0 i L : Int} {s : SS} {σ : Int → Int → Int} {ν : JM} {Q : JQ} (C : SC L i c σ) (I : SI c s σ ν) (nx : NX c i σ l0 Q) : wp true 20 165 0 [(11, 0)] [] ν (fun r71 μ71 => wp true 20 311 0 [(40, 0), (9, 0), (9, 0)] [] μ71 (fun r72 μ72 => (r71 = r72 ∨ inR r71 ∧ inR r72) ∧ (r71 = r72 → wp true 21 322 18 [(6, l0), (11, 0), (40, 0), (0, (i + 6))] [] μ72 Q) ∧ (¬ (r71 = r72) → (0 : Int) ≤ 0 ∧ (0 : Int) ≤ 1 ∧ Q 0 μ72))) := by
  obtain ⟨hi, hL, hσ, hc⟩ := C
  have e := I.2.2.2.2
  refine c_freeze (d := 6) I.1.1 I.2.1.1  (KC_of I.2.1 (fun ξ hC hf hs => ?_))
  have hM := MA_fr I.1 I.2.2.1 hf
  have eξ : ∀ y k, ξ 80 y k = σ y k := fun y k => (hf _ _ _ (by omega)).trans (e y k)
  exact m_freeze (d := 7) I.1.1 hM.1  (KM_of hM (fun ζ hM2 hf2 hs2 => ⟨Or.inl rfl, fun _ => nx _ _ (SI_nx I.1 hC hM2 hf2 hs hs2 rfl eξ), fun h => absurd rfl h⟩))
theorem lw_38 {c l0 i L : Int} {s : SS} {σ : Int → Int → Int} {ν : JM} {Q : JQ} (C : SC L i c σ) (I : SI c s σ ν) (nx : NX c i σ l0 Q) : 0 ≤ (i + 1) ∧ (i + 1) < ν 80 1 0 ∧ wp true 20 166 0 [(11, 0), (0, ν 80 0 (i + 1))] [] ν (fun r73 μ73 => 0 ≤ (i + 1) ∧ (i + 1) < μ73 80 1 0 ∧ wp true 20 313 0 [(40, 0), (0, μ73 80 0 (i + 1))] [] μ73 (fun r74 μ74 => (r73 = r74 ∨ inR r73 ∧ inR r74) ∧ (r73 = r74 → wp true 21 322 18 [(6, l0), (11, 0), (40, 0), (0, (i + 6))] [] μ74 Q) ∧ (¬ (r73 = r74) → (0 : Int) ≤ 0 ∧ (0 : Int) ≤ 1 ∧ Q 0 μ74))) := by
  obtain ⟨hi, hL, hσ, hc⟩ := C
  have e := I.2.2.2.2
  have a1 := hσ (i + 1) (by omega) (by omega)
  simp only [e]
  rw [hL]
  refine ⟨by omega, by omega, c_without (d := 6) I.1.1 I.2.1.1 a1 (KC_of I.2.1 (fun ξ hC hf hs => ?_))⟩
  have hM := MA_fr I.1 I.2.2.1 hf
  have eξ : ∀ y k, ξ 80 y k = σ y k := fun y k => (hf _ _ _ (by omega)).trans (e y k)
  simp only [eξ]
  rw [hL]
  exact ⟨by omega, by omega, m_without (d := 7) I.1.1 hM.1 a1 (KM_of hM (fun ζ hM2 hf2 hs2 => ⟨Or.inl rfl, fun _ => nx _ _ (SI_nx I.1 hC hM2 hf2 hs hs2 rfl eξ), fun h => absurd rfl h⟩))⟩
theorem lw_39 {c l0 i L : Int} {s : SS} {σ : Int → Int → Int} {ν : JM} {Q : JQ} (C : SC L i c σ) (I : SI c s σ ν) (nx : NX c i σ l0 Q) : 0 ≤ (i + 1) ∧ (i + 1) < ν 80 1 0 ∧ wp true 20 167 0 [(11, 0), (0, ν 80 0 (i + 1))] [] ν (fun r75 μ75 => 0 ≤ (i + 1) ∧ (i + 1) < μ75 80 1 0 ∧ wp true 20 294 0 [(40, 0), (0, μ75 80 0 (i + 1))] [] μ75 (fun r76 μ76 => (r75 = r76 ∨ inR r75 ∧ inR r76) ∧ (r75 = r76 → wp true 21 322 18 [(6, l0), (11, 0), (40, 0), (0, (i + 6))] [] μ76 Q) ∧ (¬ (r75 = r76) → (0 : Int) ≤ 0 ∧ (0 : Int) ≤ 1 ∧ Q 0 μ76))) := by
  obtain ⟨hi, hL, hσ, hc⟩ := C
  have e := I.2.2.2.2
  have a1 := hσ (i + 1) (by omega) (by omega)
  simp only [e]
  rw [hL]
  refine ⟨by omega, by omega, c_heat (d := 6) I.1.1 I.2.1.1 a1 (KC_of I.2.1 (fun ξ hC hf hs => ?_))⟩
  have hM := MA_fr I.1 I.2.2.1 hf
  have eξ : ∀ y k, ξ 80 y k = σ y k := fun y k => (hf _ _ _ (by omega)).trans (e y k)
  simp only [eξ]
  rw [hL]
  exact ⟨by omega, by omega, m_heat (d := 7) I.1.1 hM.1 a1 (KM_of hM (fun ζ hM2 hf2 hs2 => ⟨Or.inl rfl, fun _ => nx _ _ (SI_nx I.1 hC hM2 hf2 hs hs2 rfl eξ), fun h => absurd rfl h⟩))⟩
theorem lw_40 {c l0 i L : Int} {s : SS} {σ : Int → Int → Int} {ν : JM} {Q : JQ} (C : SC L i c σ) (I : SI c s σ ν) (nx : NX c i σ l0 Q) : 0 ≤ (i + 1) ∧ (i + 1) < ν 80 1 0 ∧ 0 ≤ (i + 2) ∧ (i + 2) < ν 80 1 0 ∧ 0 ≤ (i + 3) ∧ (i + 3) < ν 80 1 0 ∧ wp true 20 168 0 [(11, 0), (0, ν 80 0 (i + 1)), (0, ν 80 0 (i + 2)), (0, ν 80 0 (i + 3)), (9, 0)] [] ν (fun r77 μ77 => 0 ≤ (i + 1) ∧ (i + 1) < μ77 80 1 0 ∧ 0 ≤ (i + 2) ∧ (i + 2) < μ77 80 1 0 ∧ 0 ≤ (i + 3) ∧ (i + 3) < μ77 80 1 0 ∧ wp true 20 315 0 [(40, 0), (0, μ77 80 0 (i + 1)), (0, μ77 80 0 (i + 2)), (0, μ77 80 0 (i + 3)), (9, 0)] [] μ77 (fun r78 μ78 => (r77 = r78 ∨ inR r77 ∧ inR r78) ∧ (r77 = r78 → wp true 21 322 18 [(6, l0), (11, 0), (40, 0), (0, (i + 6))] [] μ78 Q) ∧ (¬ (r77 = r78) → (0 : Int) ≤ 0 ∧ (0 : Int) ≤ 1 ∧ Q 0 μ78))) := by
  obtain ⟨hi, hL, hσ, hc⟩ := C
  have e := I.2.2.2.2
  have a1 := hσ (i + 1) (by omega) (by omega)
  have a2 := hσ (i + 2) (by omega) (by omega)
  have a3 := hσ (i + 3) (by omega) (by omega)
  simp only [e]
  rw [hL]
  refine ⟨by omega, by omega, by omega, by omega, by omega, by omega, c_funnel (d := 6) I.1.1 I.2.1.1 a1 a2 a3 (KC_of I.2.1 (fun ξ hC hf hs => ?_))⟩
  have hM := MA_fr I.1 I.2.2.1 hf
  have eξ : ∀ y k, ξ 80 y k = σ y k := fun y k => (hf _ _ _ (by omega)).trans (e y k)
  simp only [eξ]
  rw [hL]
  exact ⟨by omega, by omega, by omega, by omega, by omega, by omega, m_funnel (d := 7) I.1.1 hM.1 a1 a2 a3 (KM_of hM (fun ζ hM2 hf2 hs2 => ⟨Or.inl rfl, fun _ => nx _ _ (SI_nx I.1 hC hM2 hf2 hs hs2 rfl eξ), fun h => absurd rfl h⟩))⟩
theorem lw_41 {c l0 i L : Int} {s : SS} {σ : Int → Int → Int} {ν : JM} {Q : JQ} (C : SC L i c σ) (I : SI c s σ ν) (nx : NX c i σ l0 Q) : 0 ≤ (i + 1) ∧ (i + 1) < ν 80 1 0 ∧ 0 ≤ (i + 2) ∧ (i + 2) < ν 80 1 0 ∧ (ν 80 0 (i + 2) = 0 ∨ inR (ν 80 0 (i + 2)) ∧ inR 0) ∧ (ν 80 0 (i + 2) = 0 → wp true 21 322 1512 [(6, l0), (11, 0), (40, 0), (0, i)] [(0, 0), (0, ν 80 0 (i + 1)), (11, 0)] ν Q) ∧ (¬ (ν 80 0 (i + 2) = 0) → wp true 21 322 1512 [(6, l0), (11, 0), (40, 0), (0, i)] [(0, 1), (0, ν 80 0 (i + 1)), (11, 0)] ν Q) := by
  obtain ⟨hi, hL, hσ, hc⟩ := C
  have e := I.2.2.2.2
  have a1 := hσ (i + 1) (by omega) (by omega)
  have a2 := hσ (i + 2) (by omega) (by omega)
  simp only [e]
  rw [hL]
  refine ⟨by omega, by omega, by omega, by omega, Or.inr ⟨a2, by omega, by omega⟩, fun z => ?_, fun z => ?_⟩
  · refine s_L_law_1512 20 _ _ _ _ _ _ _ _ _ (c_funnels (d := 6) I.1.1 I.2.1.1 a1 (Or.inl rfl) (KC_of I.2.1 (fun ξ hC hf hs => ?_)))
    have hM := MA_fr I.1 I.2.2.1 hf
    have eξ : ∀ y k, ξ 80 y k = σ y k := fun y k => (hf _ _ _ (by omega)).trans (e y k)
    simp only [eξ]
    rw [hL]
    exact ⟨by omega, by omega, by omega, by omega, Or.inr ⟨a2, by omega, by omega⟩, fun _ => (m_funnels (d := 7) I.1.1 hM.1 a1 (Or.inl rfl) (KM_of hM (fun ζ hM2 hf2 hs2 => ⟨Or.inl rfl, fun _ => nx _ _ (SI_nx I.1 hC hM2 hf2 hs hs2 rfl eξ), fun h => absurd rfl h⟩))), fun h => absurd z h⟩
  · refine s_L_law_1512 20 _ _ _ _ _ _ _ _ _ (c_funnels (d := 6) I.1.1 I.2.1.1 a1 (Or.inr rfl) (KC_of I.2.1 (fun ξ hC hf hs => ?_)))
    have hM := MA_fr I.1 I.2.2.1 hf
    have eξ : ∀ y k, ξ 80 y k = σ y k := fun y k => (hf _ _ _ (by omega)).trans (e y k)
    simp only [eξ]
    rw [hL]
    exact ⟨by omega, by omega, by omega, by omega, Or.inr ⟨a2, by omega, by omega⟩, fun h => absurd h z, fun _ => (m_funnels (d := 7) I.1.1 hM.1 a1 (Or.inr rfl) (KM_of hM (fun ζ hM2 hf2 hs2 => ⟨Or.inl rfl, fun _ => nx _ _ (SI_nx I.1 hC hM2 hf2 hs hs2 rfl eξ), fun h => absurd rfl h⟩)))⟩
theorem lw_42 {c l0 i L : Int} {s : SS} {σ : Int → Int → Int} {ν : JM} {Q : JQ} (C : SC L i c σ) (I : SI c s σ ν) (nx : NX c i σ l0 Q) : 0 ≤ (i + 1) ∧ (i + 1) < ν 80 1 0 ∧ 0 ≤ (i + 2) ∧ (i + 2) < ν 80 1 0 ∧ wp true 20 170 0 [(11, 0), (0, ν 80 0 (i + 1)), (0, ν 80 0 (i + 2))] [] ν (fun r79 μ79 => 0 ≤ (i + 1) ∧ (i + 1) < μ79 80 1 0 ∧ 0 ≤ (i + 2) ∧ (i + 2) < μ79 80 1 0 ∧ wp true 20 295 0 [(40, 0), (0, μ79 80 0 (i + 1)), (0, μ79 80 0 (i + 2)), (9, 0), (9, 0)] [] μ79 (fun r80 μ80 => (r79 = r80 ∨ inR r79 ∧ inR r80) ∧ (r79 = r80 → wp true 21 322 18 [(6, l0), (11, 0), (40, 0), (0, (i + 6))] [] μ80 Q) ∧ (¬ (r79 = r80) → (0 : Int) ≤ 0 ∧ (0 : Int) ≤ 1 ∧ Q 0 μ80))) := by
  obtain ⟨hi, hL, hσ, hc⟩ := C
  have e := I.2.2.2.2
  have a1 := hσ (i + 1) (by omega) (by omega)
  have a2 := hσ (i + 2) (by omega) (by omega)
  simp only [e]
  rw [hL]
  refine ⟨by omega, by omega, by omega, by omega, c_until (d := 6) I.1.1 I.2.1.1 (by omega) a1 a2 (KC_of I.2.1 (fun ξ hC hf hs => ?_))⟩
  have hM := MA_fr I.1 I.2.2.1 hf
  have eξ : ∀ y k, ξ 80 y k = σ y k := fun y k => (hf _ _ _ (by omega)).trans (e y k)
  simp only [eξ]
  rw [hL]
  exact ⟨by omega, by omega, by omega, by omega, m_until (d := 6) I.1.1 hM.1 a1 a2 (KM_of hM (fun ζ hM2 hf2 hs2 => ⟨Or.inl rfl, fun _ => nx _ _ (SI_nx I.1 hC hM2 hf2 hs hs2 rfl eξ), fun h => absurd rfl h⟩))⟩
theorem lw_43 {c l0 i L : Int} {s : SS} {σ : Int → Int → Int} {ν : JM} {Q : JQ} (C : SC L i c σ) (I : SI c s σ ν) (nx : NX c i σ l0 Q) : 0 ≤ (i + 1) ∧ (i + 1) < ν 80 1 0 ∧ wp true 20 171 0 [(11, 0), (0, ν 80 0 (i + 1))] [] ν (fun r81 μ81 => 0 ≤ (i + 1) ∧ (i + 1) < μ81 80 1 0 ∧ wp true 20 317 0 [(40, 0), (0, μ81 80 0 (i + 1)), (9, 0), (9, 0), (9, 0)] [] μ81 (fun r82 μ82 => (r81 = r82 ∨ inR r81 ∧ inR r82) ∧ (r81 = r82 → wp true 21 322 18 [(6, l0), (11, 0), (40, 0), (0, (i + 6))] [] μ82 Q) ∧ (¬ (r81 = r82) → (0 : Int) ≤ 0 ∧ (0 : Int) ≤ 1 ∧ Q 0 μ82))) := by
  obtain ⟨hi, hL, hσ, hc⟩ := C
  have e := I.2.2.2.2
  have a1 := hσ (i + 1) (by omega) (by omega)
  simp only [e]
  rw [hL]
  refine ⟨by omega, by omega, c_need (d := 5) I.1.1 I.2.1.1 a1 (KCS_of I.2.1 (fun ξ hC hf hs => ?_))⟩
  have hM := MA_fr I.1 I.2.2.1 hf
  have eξ : ∀ y k, ξ 80 y k = σ y k := fun y k => (hf _ _ _ (by omega)).trans (e y k)
  simp only [eξ]
  rw [hL]
  exact ⟨by omega, by omega, m_need (d := 7) I.1.1 hM.1 a1 (KMS_of hM (fun ζ hM2 hf2 hs2 => ⟨Or.inl rfl, fun _ => nx _ _ (SI_nx I.1 hC hM2 hf2 hs hs2 rfl eξ), fun h => absurd rfl h⟩))⟩
set_option maxRecDepth 20000 in
theorem law_step {c l0 i L : Int} {s : SS} {σ : Int → Int → Int} {ν : JM} {Q : JQ} (hi0 : 0 ≤ i) (hL0 : 0 ≤ L ∧ L ≤ 3072) (hLσ : σ 1 0 = L) (hσ : ∀ k, 0 ≤ k → k < L → inR (σ 0 k)) (hc : i = 6 * c ∧ i ≤ 3072) (I : SI c s σ ν) (stop : Q 1 ν) (nx : i + 6 ≤ L → NX c i σ l0 Q) : wp true 21 322 18 [(6, l0), (11, 0), (40, 0), (0, i)] [] ν Q := by
  have e := I.2.2.2.2
  have eL : ν 80 1 0 = L := (e 1 0).trans hLσ
  refine s_L_law_18 20 l0 0 0 i ν Q ⟨⟨⟨by omega, by omega⟩, ⟨by omega, by omega⟩⟩, fun h => ⟨by decide, by decide, stop⟩, fun h => ?_⟩
  have C : SC L i c σ := ⟨⟨by omega, by omega⟩, hLσ, hσ, by omega, by omega⟩
  have nx := nx (by omega)
  exact ⟨by omega, by omega, inR_and _ _, ⟨fun _ => lw_0 C I nx, fun _ => ⟨fun _ => lw_1 C I nx, fun _ => ⟨fun _ => lw_2 C I nx, fun _ => ⟨fun _ => lw_3 C I nx, fun _ => ⟨fun _ => lw_4 C I nx, fun _ => ⟨fun _ => lw_5 C I nx, fun _ => ⟨fun _ => lw_6 C I nx, fun _ => ⟨fun _ => lw_7 C I nx, fun _ => ⟨fun _ => lw_8 C I nx, fun _ => ⟨fun _ => lw_9 C I nx, fun _ => ⟨fun _ => lw_10 C I nx, fun _ => ⟨fun _ => lw_11 C I nx, fun _ => ⟨fun _ => lw_12 C I nx, fun _ => ⟨fun _ => lw_13 C I nx, fun _ => ⟨fun _ => lw_14 C I nx, fun _ => ⟨fun _ => lw_15 C I nx, fun _ => ⟨fun _ => lw_16 C I nx, fun _ => ⟨fun _ => lw_17 C I nx, fun _ => ⟨fun _ => lw_18 C I nx, fun _ => ⟨fun _ => lw_19 C I nx, fun _ => ⟨fun _ => lw_20 C I nx, fun _ => ⟨fun _ => lw_21 C I nx, fun _ => ⟨fun _ => lw_22 C I nx, fun _ => ⟨fun _ => lw_23 C I nx, fun _ => ⟨fun _ => lw_24 C I nx, fun _ => ⟨fun _ => lw_25 C I nx, fun _ => ⟨fun _ => lw_26 C I nx, fun _ => ⟨fun _ => lw_27 C I nx, fun _ => ⟨fun _ => lw_28 C I nx, fun _ => ⟨fun _ => lw_29 C I nx, fun _ => ⟨fun _ => lw_30 C I nx, fun _ => ⟨fun _ => lw_31 C I nx, fun _ => ⟨fun _ => lw_32 C I nx, fun _ => ⟨fun _ => lw_33 C I nx, fun _ => ⟨fun _ => lw_34 C I nx, fun _ => ⟨fun _ => lw_35 C I nx, fun _ => ⟨fun _ => lw_36 C I nx, fun _ => ⟨fun _ => lw_37 C I nx, fun _ => ⟨fun _ => lw_38 C I nx, fun _ => ⟨fun _ => lw_39 C I nx, fun _ => ⟨fun _ => lw_40 C I nx, fun _ => ⟨fun _ => lw_41 C I nx, fun _ => ⟨fun _ => lw_42 C I nx, fun _ => ⟨fun _ => lw_43 C I nx, fun _ => nx s ν (SI_up I)⟩⟩⟩⟩⟩⟩⟩⟩⟩⟩⟩⟩⟩⟩⟩⟩⟩⟩⟩⟩⟩⟩⟩⟩⟩⟩⟩⟩⟩⟩⟩⟩⟩⟩⟩⟩⟩⟩⟩⟩⟩⟩⟩⟩⟩
theorem SI_room {s : SS} {c : Int} {σ : Int → Int → Int} {ν : JM} (I : SI c s σ ν) : ν 53 0 0 ≤ 600000 ∧ ν 54 0 0 ≤ 7302250 := by
  obtain ⟨cp, ca, _, h1, h2, h3, h4⟩ := I.2.1.1.2.2.2.1
  omega
theorem law_loop {l0 L : Int} {σ : Int → Int → Int} (hL0 : 0 ≤ L ∧ L ≤ 3072) (hLσ : σ 1 0 = L) (hσ : ∀ k, 0 ≤ k → k < L → inR (σ 0 k)) : ∀ (k : Nat) (c i : Int) (s : SS) (ν : JM), L < i + 6 * k + 6 → 0 ≤ i → i = 6 * c → i ≤ 3072 → SI c s σ ν → wp true 21 322 18 [(6, l0), (11, 0), (40, 0), (0, i)] [] ν (fun r ζ => r = 1 ∧ ζ 53 0 0 ≤ 600000 ∧ ζ 54 0 0 ≤ 7302250)
  | 0, c, i, s, ν, hk, hi, hc, h3, I => law_step hi hL0 hLσ hσ ⟨hc, h3⟩ I ⟨rfl, SI_room I⟩ (fun h => absurd h (by omega))
  | k + 1, c, i, s, ν, hk, hi, hc, h3, I => law_step hi hL0 hLσ hσ ⟨hc, h3⟩ I ⟨rfl, SI_room I⟩ (fun h s ζ I2 => law_loop hL0 hLσ hσ k (c + 1) (i + 6) s ζ (by omega) (by omega) (by omega) (by omega) I2)
