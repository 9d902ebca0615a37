/-! the ten rows that grow -/
/-- which row: 0 the packed rounds, 1 their alarms, 2..9 those of the alarms -/
def qp (ν : JM) (k : Nat) : Int := if k = 0 then ν 22 0 5 - 1 else if k = 1 then ν 22 0 6 - 1 else ν 27 0 (k : Int) - 1
def qT (k : Nat) : Nat := if k < 2 then 22 else 27
def qF (k : Nat) : Int := if k = 0 then 5 else if k = 1 then 6 else (k : Int)
abbrev arr (ν : JM) (k : Nat) (i : Int) : Int := ν 50 (qp ν k) i
/-- rows as they can be, each with its own place, of the lengths that cap tells; room for more -/
def JA (ν : JM) (cap : Nat → Int) : Prop := 169 ≤ ν 53 0 0 ∧ 0 ≤ ν 54 0 0 ∧ (∀ k, k < 10 → 0 ≤ qp ν k ∧ qp ν k < ν 53 0 0 - 159 ∧ ν 51 (qp ν k) 0 = cap k ∧ 0 ≤ cap k) ∧ ∀ j k, j < 10 → k < 10 → j ≠ k → qp ν j ≠ qp ν k
theorem qp_eq (ν : JM) {k : Nat} (h : k < 10) : qp ν k = ν (qT k) 0 (qF k) - 1 := by
  have h10 : k = 0 ∨ k = 1 ∨ 2 ≤ k := by omega
  unfold qp qT qF
  rcases h10 with rfl | rfl | h2
  · rfl
  · rfl
  · rw [if_neg (by omega), if_neg (by omega), if_neg (by omega), if_neg (by omega), if_neg (by omega)]
theorem qTF {j k : Nat} (hj : j < 10) (hk : k < 10) (h : j ≠ k) : ¬ (qT j = qT k ∧ qF j = qF k) := by
  unfold qT qF
  rintro ⟨h1, h2⟩
  by_cases a : j < 2 <;> by_cases c : k < 2
  · rw [if_pos a, if_pos c] at h1
    by_cases j0 : j = 0 <;> by_cases k0 : k = 0
    · omega
    · rw [if_pos j0, if_neg k0, if_pos (by omega)] at h2; omega
    · rw [if_neg j0, if_pos (by omega), if_pos k0] at h2; omega
    · omega
  · rw [if_pos a, if_neg c] at h1; omega
  · rw [if_neg a, if_pos c] at h1; omega
  · rw [if_neg (by omega), if_neg (by omega), if_neg (by omega), if_neg (by omega)] at h2; omega
theorem qT_ne (k : Nat) : qT k ≠ 50 ∧ qT k ≠ 51 ∧ qT k ≠ 53 ∧ qT k ≠ 54 ∧ (qT k = 22 ∨ qT k = 27) := by
  unfold qT
  split <;> omega
theorem c_copyOf {d : Nat} {a n : Int} {ν : JM} {Q : JQ} (hne : n ≠ ν 51 a 0) (h53 : 169 ≤ ν 53 0 0 ∧ ν 53 0 0 < 600000) (h54 : 0 ≤ ν 54 0 0 ∧ ν 54 0 0 + n ≤ 7302250) (hl : 0 ≤ ν 51 a 0 ∧ ν 51 a 0 ≤ n) (ha : a ≠ ν 53 0 0 - 159) (k : ∀ ξ, jfr (fun t y _ => ((t = 50 ∨ t = 51) ∧ y = ν 53 0 0 - 159) ∨ t = 53 ∨ t = 54) ν ξ → (∀ i, 0 ≤ i → i < ν 51 a 0 → ξ 50 (ν 53 0 0 - 159) i = ν 50 a i) → ξ 51 (ν 53 0 0 - 159) 0 = n → ξ 53 0 0 = ν 53 0 0 + 1 → ξ 54 0 0 = ν 54 0 0 + n → Q (ν 53 0 0 - 159) ξ) : wp true d 321 0 [(50, a), (0, n), (9, 0)] [] ν Q := by
  have hj : jlab (ν 53 0 0) = (50, ν 53 0 0 - 159) := by
    unfold jlab
    rw [decide_eq_false (by omega)]
    rfl
  refine s_J7_copyOf_59c91_0 _ _ _ _ _ ?_
  rw [hj]
  have e51 : (jw (jw (jw (jz ν 50 (ν 53 0 0 - 159)) 51 (ν 53 0 0 - 159) 0 n) 53 0 0 (ν 53 0 0 + 1)) 54 0 0 (ν 54 0 0 + n)) 51 a 0 = ν 51 a 0 := by
    rw [jw_t (by omega), jw_t (by omega), jw_x ha]
    unfold jz
    rw [if_neg (by omega)]
  have e51n : (jw (jw (jw (jz ν 50 (ν 53 0 0 - 159)) 51 (ν 53 0 0 - 159) 0 n) 53 0 0 (ν 53 0 0 + 1)) 54 0 0 (ν 54 0 0 + n)) 51 (ν 53 0 0 - 159) 0 = n := by
    rw [jw_t (by omega), jw_t (by omega), jw_eq]
  have hmin : jmin (ν 51 a 0) n = ν 51 a 0 := by
    unfold jmin
    rw [if_neg (by omega)]
  dsimp only
  rw [e51, e51n, hmin]
  refine ⟨Or.inr ⟨⟨by omega, by omega⟩, ⟨by omega, by omega⟩⟩, fun _ => ⟨rfl, by omega, by omega, by omega, by omega, by omega, ⟨by omega, by omega⟩, ⟨by omega, by omega⟩, by omega, by omega, by omega, by omega, by omega, k _ ?_ ?_ ?_ ?_ ?_⟩, fun h => (h hne).elim⟩
  · intro t y i hp
    have c1 : ¬ (t = 50 ∧ y = ν 53 0 0 - 159) := fun h => hp (Or.inl ⟨Or.inl h.1, h.2⟩)
    have c2 : ¬ (t = 51 ∧ y = ν 53 0 0 - 159) := fun h => hp (Or.inl ⟨Or.inr h.1, h.2⟩)
    have c3 : t ≠ 53 := fun h => hp (Or.inr (Or.inl h))
    have c4 : t ≠ 54 := fun h => hp (Or.inr (Or.inr h))
    unfold jcp
    rw [if_neg (fun h => c1 ⟨h.1, h.2.1⟩), jw_t c4, jw_t c3]
    unfold jw
    rw [if_neg (fun h => c2 ⟨h.1, h.2.1⟩)]
    unfold jz
    rw [if_neg c1]
  · intro i h0 h1
    unfold jcp
    rw [if_pos ⟨rfl, rfl, h0, by omega⟩, jw_t (by omega), jw_t (by omega), jw_t (by omega)]
    unfold jz
    rw [if_neg (fun h => ha h.2)]
    congr 1
    omega
  · unfold jcp
    rw [if_neg (by omega)]
    exact e51n
  · unfold jcp
    rw [if_neg (by omega), jw_t (by omega), jw_eq]
  · unfold jcp
    rw [if_neg (by omega), jw_eq]
/-- one row grown: its new place, all that lay there, the other rows as they were -/
theorem JA_grow {ν ξ ζ : JM} {cap : Nat → Int} {k : Nat} {n : Int} (hk : k < 10) (hJ : JA ν cap) (hn : 0 ≤ n) (f1 : jfr (fun t y _ => ((t = 50 ∨ t = 51) ∧ y = ν 53 0 0 - 159) ∨ t = 53 ∨ t = 54) ν ξ) (f2 : ∀ i, 0 ≤ i → i < cap k → ξ 50 (ν 53 0 0 - 159) i = ν 50 (qp ν k) i) (f3 : ξ 51 (ν 53 0 0 - 159) 0 = n) (f4 : ξ 53 0 0 = ν 53 0 0 + 1) (f5 : ξ 54 0 0 = ν 54 0 0 + n) (hz : ζ = jw ξ (qT k) 0 (qF k) (ν 53 0 0 - 159 + 1)) : JA ζ (fun j => if j = k then n else cap j) ∧ (∀ j, j < 10 → ∀ i, 0 ≤ i → i < cap j → arr ζ j i = arr ν j i) ∧ ζ 53 0 0 = ν 53 0 0 + 1 ∧ ζ 54 0 0 = ν 54 0 0 + n ∧ jfr (fun t y i => ((t = 50 ∨ t = 51) ∧ y = ν 53 0 0 - 159) ∨ t = 53 ∨ t = 54 ∨ (t = qT k ∧ y = 0 ∧ i = qF k)) ν ζ := by
  have hq : ∀ j, j < 10 → qp ζ j = if j = k then ν 53 0 0 - 159 else qp ν j := by
    intro j hj
    have nt := qT_ne j
    rw [qp_eq ζ hj, hz]
    by_cases e : j = k
    · subst e
      rw [if_pos rfl, jw_eq]
      omega
    · rw [if_neg e, qp_eq ν hj]
      have := qTF hj hk e
      unfold jw
      rw [if_neg (fun h => this ⟨h.1, h.2.2⟩), f1 _ _ _ (by omega)]
  have nt := qT_ne k
  have z53 : ζ 53 0 0 = ν 53 0 0 + 1 := by rw [hz, jw_t (by omega), f4]
  have z54 : ζ 54 0 0 = ν 54 0 0 + n := by rw [hz, jw_t (by omega), f5]
  refine ⟨⟨by have := hJ.1; omega, by have := hJ.2.1; omega, fun j hj => ?_, fun i j hi hj hij => ?_⟩, fun j hj i h0 h1 => ?_, z53, z54, ?_⟩
  · have q := hJ.2.2.1 j hj
    rw [hq j hj, z53]
    by_cases e : j = k
    · rw [if_pos e]
      have := hJ.1
      refine ⟨by omega, by omega, ?_, ?_⟩
      · show ζ 51 (ν 53 0 0 - 159) 0 = if j = k then n else cap j
        rw [if_pos e, hz, jw_t (by omega), f3]
      · show 0 ≤ if j = k then n else cap j
        rw [if_pos e]
        exact hn
    · rw [if_neg e]
      refine ⟨q.1, by omega, ?_, ?_⟩
      · show ζ 51 (qp ν j) 0 = if j = k then n else cap j
        rw [if_neg e, hz, jw_t (by omega), f1 _ _ _ (by omega)]
        exact q.2.2.1
      · show 0 ≤ if j = k then n else cap j
        rw [if_neg e]
        exact q.2.2.2
  · have qi := hJ.2.2.1 i hi
    have qj := hJ.2.2.1 j hj
    have := hJ.2.2.2 i j hi hj hij
    rw [hq i hi, hq j hj]
    split <;> split <;> omega
  · have q := hJ.2.2.1 j hj
    show ζ 50 (qp ζ j) i = ν 50 (qp ν j) i
    rw [hq j hj, hz, jw_t (by omega)]
    by_cases e : j = k
    · subst e
      rw [if_pos rfl]
      exact f2 i h0 h1
    · rw [if_neg e]
      exact f1 _ _ _ (by omega)
  · rw [hz]
    refine jfr_jw (jfr_mono f1 (fun t y i h => ?_)) ?_
    · rcases h with h | h | h
      · exact Or.inl h
      · exact Or.inr (Or.inl h)
      · exact Or.inr (Or.inr (Or.inl h))
    · exact Or.inr (Or.inr (Or.inr ⟨rfl, rfl, rfl⟩))
/-- what the rows and the room are, all in all: cp for the rounds, ca for the alarms -/
abbrev cpa (cp ca : Int) : Nat → Int := fun k => if k < 2 then cp else ca
def JN (cp ca : Int) (ν : JM) : Prop := JA ν (cpa cp ca) ∧ (64 ≤ cp ∧ cp ≤ 24000) ∧ (16 ≤ ca ∧ ca ≤ 24000) ∧ ν 53 0 0 ≤ 169 + cp + ca ∧ ν 54 0 0 ≤ 500000 + 4 * cp + 16 * ca
/-- what may change when rows grow -/
abbrev PGw (c : Int) : Nat → Int → Int → Prop := fun t y i => ((t = 50 ∨ t = 51) ∧ c - 159 ≤ y) ∨ t = 53 ∨ t = 54 ∨ (t = 22 ∧ y = 0 ∧ (i = 5 ∨ i = 6)) ∨ (t = 27 ∧ y = 0 ∧ 2 ≤ i ∧ i ≤ 9)
theorem jfr_gw {ν ξ : JM} {c c' : Int} {k : Nat} (hk : k < 10) (hc : c ≤ c') (h : jfr (fun t y i => ((t = 50 ∨ t = 51) ∧ y = c' - 159) ∨ t = 53 ∨ t = 54 ∨ (t = qT k ∧ y = 0 ∧ i = qF k)) ν ξ) : jfr (PGw c) ν ξ := by
  refine jfr_mono h (fun t y i h => ?_)
  rcases h with h | h | h | h
  · exact Or.inl ⟨h.1, by omega⟩
  · exact Or.inr (Or.inl h)
  · exact Or.inr (Or.inr (Or.inl h))
  · refine Or.inr (Or.inr (Or.inr ?_))
    unfold qT qF at h
    have h3 : k = 0 ∨ k = 1 ∨ 2 ≤ k := by omega
    rcases h3 with rfl | rfl | h3
    · exact Or.inl ⟨h.1, h.2.1, Or.inl h.2.2⟩
    · exact Or.inl ⟨h.1, h.2.1, Or.inr h.2.2⟩
    · rw [if_neg (by omega), if_neg (by omega), if_neg (by omega)] at h
      exact Or.inr ⟨h.1, h.2.1, by omega, by omega⟩
theorem c_widenR {d : Nat} {cp ca : Int} {ν : JM} {Q : JQ} (hN : JN cp ca ν) (hcp : cp ≤ 12000) (k : ∀ ξ, JN (2 * cp) ca ξ → jfr (PGw (ν 53 0 0)) ν ξ → (∀ j, j < 10 → ∀ i, 0 ≤ i → i < cpa cp ca j → arr ξ j i = arr ν j i) → Q 1 ξ) : wp true (d + 1) 95 0 [(22, 0)] [] ν Q := by
  have q0 := hN.1.2.2.1 0 (by omega)
  have q1 := hN.1.2.2.1 1 (by omega)
  have d01 := hN.1.2.2.2 0 1 (by omega) (by omega) (by omega)
  have h53 := hN.1.1
  have h54 := hN.1.2.1
  have b1 := hN.2.1
  have b2 := hN.2.2.1
  have b3 := hN.2.2.2.1
  have b4 := hN.2.2.2.2
  have e0 : qp ν 0 = ν 22 0 5 - 1 := rfl
  have e1 : qp ν 1 = ν 22 0 6 - 1 := rfl
  rw [e0] at q0
  rw [e1] at q1
  have l0 : ν 51 (ν 22 0 5 - 1) 0 = cp := q0.2.2.1
  have l1 : ν 51 (ν 22 0 6 - 1) 0 = cp := q1.2.2.1
  refine s_X8_widen_0 _ _ _ ?_
  rw [l0]
  refine ⟨by omega, ⟨⟨by omega, by omega⟩, ⟨by omega, by omega⟩⟩, fun _ => ⟨by omega, by omega, ?_⟩, fun h => absurd (by omega) h⟩
  refine c_copyOf (by omega) ⟨by omega, by omega⟩ ⟨by omega, by omega⟩ ⟨by omega, by omega⟩ (by omega) (fun ξ f1 f2 f3 f4 f5 => ?_)
  rw [l0] at f2
  have g := JA_grow (k := 0) (n := cp * 2) (by omega) hN.1 (by omega) f1 f2 f3 f4 f5 rfl
  generalize hζ : jw ξ (qT 0) 0 (qF 0) (ν 53 0 0 - 159 + 1) = ζ at g
  have hζ' : jw ξ 22 0 5 (ν 53 0 0 - 159 + 1) = ζ := hζ
  rw [hζ']
  have y0 := g.1.2.2.1 0 (by omega)
  have y1 := g.1.2.2.1 1 (by omega)
  have y01 := g.1.2.2.2 0 1 (by omega) (by omega) (by omega)
  have z0 : qp ζ 0 = ζ 22 0 5 - 1 := rfl
  have z1 : qp ζ 1 = ζ 22 0 6 - 1 := rfl
  rw [z0] at y0
  rw [z1] at y1
  have m0 : ζ 51 (ζ 22 0 5 - 1) 0 = cp * 2 := y0.2.2.1
  have m1 : ζ 51 (ζ 22 0 6 - 1) 0 = cp := y1.2.2.1
  have g3 := g.2.2.1
  have g4 := g.2.2.2.1
  rw [m0]
  refine ⟨by omega, by omega, by omega, ?_⟩
  refine c_copyOf (by omega) ⟨by omega, by omega⟩ ⟨by omega, by omega⟩ ⟨by omega, by omega⟩ (by omega) (fun ω w1 w2 w3 w4 w5 => ⟨by omega, by omega, by omega, ?_⟩)
  rw [m1] at w2
  have v := JA_grow (k := 1) (n := cp * 2) (by omega) g.1 (by omega) w1 w2 w3 w4 w5 rfl
  refine k _ ⟨?_, ⟨by omega, by omega⟩, b2, ?_, ?_⟩ (jfr_trans (jfr_gw (by omega) (Int.le_refl _) g.2.2.2.2) (jfr_gw (by omega) (by omega) v.2.2.2.2)) (fun j hj i h0 h1 => ?_)
  · refine ⟨v.1.1, v.1.2.1, fun j hj => ?_, v.1.2.2.2⟩
    have := v.1.2.2.1 j hj
    have ec : cpa (2 * cp) ca j = if j = 1 then cp * 2 else if j = 0 then cp * 2 else cpa cp ca j := by
      unfold cpa
      split <;> split <;> (try split) <;> omega
    rw [ec]
    exact this
  · have := v.2.2.1
    show (jw ω 22 0 6 (ζ 53 0 0 - 159 + 1)) 53 0 0 ≤ _
    have e : (jw ω 22 0 6 (ζ 53 0 0 - 159 + 1)) 53 0 0 = ζ 53 0 0 + 1 := this
    rw [e]
    omega
  · have e : (jw ω 22 0 6 (ζ 53 0 0 - 159 + 1)) 54 0 0 = ζ 54 0 0 + cp * 2 := v.2.2.2.1
    rw [e]
    omega
  · have a1 := g.2.1 j hj i h0 h1
    have a2 := v.2.1 j hj i h0 (by
      show i < if j = 0 then cp * 2 else cpa cp ca j
      split
      · rename_i h
        subst h
        have : i < cp := h1
        omega
      · exact h1)
    exact a2.trans a1
