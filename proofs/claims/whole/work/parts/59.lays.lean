/-! the reference's laying, all in all -/
theorem LM_row {b : BK} {F : LL} {ν : JM} (h : LM b F ν) {r : Int} (hr : 0 ≤ r ∧ r < (F.length : Int)) : ν 61 0 r = ((F.getD r.toNat []).length : Int) ∧ inR (ν 62 0 r) ∧ (∀ j : Nat, j < 32 → (bt (ν 62 0 r) j = true ↔ ∃ t ∈ F.getD r.toNat [], b 0 t = (j : Int))) ∧ ∀ k : Int, 0 ≤ k → k < ((F.getD r.toNat []).length : Int) → ν 60 0 (5 * r + k) = (F.getD r.toNat []).getD k.toNat 0 := by
  have q := h.2 r.toNat (by omega)
  rw [show ((r.toNat : Nat) : Int) = r by omega] at q
  refine ⟨q.2.1, q.2.2.1, q.2.2.2.1, fun k k0 k1 => ?_⟩
  have := q.2.2.2.2 k.toNat (by omega)
  rw [show ((k.toNat : Nat) : Int) = k by omega] at this
  exact this
theorem m_ringOf {d : Nat} {b : BK} {F : LL} {ν : JM} {Q : JQ} (hv : vb b) (hM : isM ν b) (hL : LM b F ν) (hF : F.length ≤ 12000) (hg : gd b F) {r i : Int} (hr : 0 ≤ r ∧ r < (F.length : Int)) (hi : 0 ≤ i ∧ i ≤ 5) (k : Q (pent b (F.getD r.toNat []) i) ν) : wp true (d + 2) 227 0 [(40, 0), (0, r), (0, i), (9, 0), (9, 0), (9, 0)] [] ν Q := by
  have g := gd_get hg (r := r.toNat) (by omega)
  have gl := gr_len g
  have hm := vb_m hv
  have hn := vb_n hv
  have ld := lead_in b (r := F.getD r.toNat []) (by omega)
  have row := LM_row hL hr
  have acc : ∀ j : Int, 0 ≤ j → j < ((F.getD r.toNat []).length : Int) → ν 60 0 (5 * r + j) = (F.getD r.toNat []).getD j.toNat 0 ∧ (0 ≤ (F.getD r.toNat []).getD j.toNat 0 ∧ (F.getD r.toNat []).getD j.toNat 0 < b 5 1) ∧ ν 41 0 (8 + 4 * (F.getD r.toNat []).getD j.toNat 0 + 0) = b 0 ((F.getD r.toNat []).getD j.toNat 0) ∧ 0 ≤ b 0 ((F.getD r.toNat []).getD j.toNat 0) ∧ b 0 ((F.getD r.toNat []).getD j.toNat 0) < 12 := by
    intro j j0 j1
    have t := gr_get g (i := j.toNat) (by omega)
    have tt := vb_t hv t.1 t.2
    exact ⟨row.2.2.2 j j0 j1, t, (isM_t hM t.1 t.2).1, by omega, by omega⟩
  refine s_X11_ringOf_0 _ _ _ _ _ ⟨by omega, by omega, ?_⟩
  rw [row.1]
  refine fup_loop (W := fun j (l : Int) => wp true (d + 2) 227 13 [(40, 0), (0, r), (0, i), (0, ((F.getD r.toNat []).length : Int)), (0, l), (0, j)] [] ν Q) (g := fun l k => if b 0 ((F.getD r.toNat []).getD k.toNat 0) < b 0 ((F.getD r.toNat []).getD l.toNat 0) then k else l) (fun i l => 0 ≤ l ∧ l < i) (lo := 1) (n := ((F.getD r.toNat []).length : Int)) (fun i l h0 h1 h2 => by split <;> omega) (fun j l h0 h1 hI hW => ?_) ((F.getD r.toNat []).length - 1) 1 0 (by omega) (by omega) (by omega) (fun _ => ?_)
  · have aj := acc j (by omega) h1
    have al := acc l (by omega) (by omega)
    refine s_X11_ringOf_13 _ _ _ _ _ _ _ _ ?_
    rw [aj.1, al.1, aj.2.2.1, al.2.2.1]
    refine ⟨⟨⟨by omega, by omega⟩, ⟨by omega, by omega⟩⟩, fun h => absurd h (by omega), fun _ => ⟨by omega, by omega, by omega, by omega, by omega, by omega, by omega, by omega, ⟨⟨by omega, by omega⟩, ⟨by omega, by omega⟩⟩, fun h => ?_, fun h => ?_⟩⟩
    · rw [if_neg (by omega)] at hW
      exact hW
    · rw [if_pos (by omega)] at hW
      exact hW
  · have mr : 0 ≤ (lead b (F.getD r.toNat []) + i) % ((F.getD r.toNat []).length : Int) ∧ (lead b (F.getD r.toNat []) + i) % ((F.getD r.toNat []).length : Int) < ((F.getD r.toNat []).length : Int) := ⟨Int.emod_nonneg _ (by omega), Int.emod_lt_of_pos _ (by omega)⟩
    have am := acc _ mr.1 mr.2
    show wp true (d + 2) 227 13 [(40, 0), (0, r), (0, i), (0, ((F.getD r.toNat []).length : Int)), (0, lead b (F.getD r.toNat [])), (0, ((F.getD r.toNat []).length : Int))] [] ν Q
    refine s_X11_ringOf_13 _ _ _ _ _ _ _ _ ?_
    rw [am.1, am.2.2.1]
    refine ⟨⟨⟨by omega, by omega⟩, ⟨by omega, by omega⟩⟩, fun _ => ⟨by omega, by omega, by omega, by omega, by omega, by omega, by omega, by omega, k⟩, fun h => absurd (Int.le_refl _) h⟩
theorem m_isLike {d : Nat} {b : BK} {F : LL} {ν : JM} {Q : JQ} (hv : vb b) (hM : isM ν b) (hL : LM b F ν) (hF : F.length ≤ 12000) (hg : gd b F) {r o : Nat} (hr : r < F.length) (ho : o < F.length) (k1 : rgn b F r = rgn b F o → Q 1 ν) (k0 : rgn b F r ≠ rgn b F o → Q 0 ν) : wp true (d + 3) 228 0 [(40, 0), (0, (r : Int)), (0, (o : Int)), (9, 0)] [] ν Q := by
  have gr0 := gd_get hg hr
  have go0 := gd_get hg ho
  have lr := gr_len gr0
  have hn := vb_n hv
  have rr := LM_row hL (r := (r : Int)) (by omega)
  have ro := LM_row hL (r := (o : Int)) (by omega)
  rw [show ((r : Int)).toNat = r by omega] at rr
  rw [show ((o : Int)).toNat = o by omega] at ro
  have like := like_iff hv gr0 go0
  have hin : ∀ {x : Nat}, x < F.length → ∀ i : Int, 0 ≤ i → 0 ≤ pent b (F.getD x []) i ∧ pent b (F.getD x []) i < 12 := by
    intro x hx i i0
    have gx := gd_get hg hx
    have lx := gr_len gx
    have mr : 0 ≤ (lead b (F.getD x []) + i) % ((F.getD x []).length : Int) ∧ (lead b (F.getD x []) + i) % ((F.getD x []).length : Int) < ((F.getD x []).length : Int) := ⟨Int.emod_nonneg _ (by omega), Int.emod_lt_of_pos _ (by omega)⟩
    have t := gr_get gx (i := ((lead b (F.getD x []) + i) % ((F.getD x []).length : Int)).toNat) (by omega)
    have tt := vb_t hv t.1 t.2
    show 0 ≤ b 0 _ ∧ b 0 _ < 12
    omega
  have sets : ν 62 0 (r : Int) = ν 62 0 (o : Int) ↔ ∀ a, (∃ t ∈ F.getD r [], b 0 t = a) ↔ ∃ t ∈ F.getD o [], b 0 t = a := by
    constructor
    · intro e a
      have rng : ∀ {x : Nat}, x < F.length → (∃ t ∈ F.getD x [], b 0 t = a) → 0 ≤ a ∧ a < 12 := by
        rintro x hx ⟨t, ht, e2⟩
        have ti := gr_in (gd_get hg hx) ht
        have tt := vb_t hv ti.1 ti.2
        omega
      constructor
      · intro h
        have ra := rng hr h
        have h1 := (rr.2.2.1 a.toNat (by omega)).mpr (by rw [show ((a.toNat : Nat) : Int) = a by omega]; exact h)
        rw [e] at h1
        have h2 := (ro.2.2.1 a.toNat (by omega)).mp h1
        rw [show ((a.toNat : Nat) : Int) = a by omega] at h2
        exact h2
      · intro h
        have ra := rng ho h
        have h1 := (ro.2.2.1 a.toNat (by omega)).mpr (by rw [show ((a.toNat : Nat) : Int) = a by omega]; exact h)
        rw [← e] at h1
        have h2 := (rr.2.2.1 a.toNat (by omega)).mp h1
        rw [show ((a.toNat : Nat) : Int) = a by omega] at h2
        exact h2
    · intro h
      refine bt_ext rr.2.1 ro.2.1 (fun j hj => ?_)
      have h1 := rr.2.2.1 j hj
      have h2 := ro.2.2.1 j hj
      have h3 := h (j : Int)
      cases e1 : bt (ν 62 0 (r : Int)) j <;> cases e2 : bt (ν 62 0 (o : Int)) j
      · rfl
      · exact absurd (h1.mpr (h3.mpr (h2.mp e2))) (by rw [e1]; decide)
      · exact absurd (h2.mpr (h3.mp (h1.mp e1))) (by rw [e2]; decide)
      · rfl
  refine s_X11_isLike_0 _ _ _ _ _ ⟨by omega, by omega, by omega, by omega, Or.inr ⟨rr.2.1, ro.2.1⟩, fun he => ?_, fun hne => ⟨by omega, by omega, k0 (fun h => hne (sets.mpr (like.mpr h).1))⟩⟩
  have key : ∀ (q : Nat) (i : Int), i + q = ((F.getD r []).length : Int) → 1 ≤ i → (∀ j, 1 ≤ j → j < i → pent b (F.getD r []) j = pent b (F.getD o []) j) → wp true (d + 3) 228 19 [(40, 0), (0, (r : Int)), (0, (o : Int)), (0, i)] [] ν Q := by
    intro q
    induction q with
    | zero =>
      intro i h1 h2 h3
      refine s_X11_isLike_19 _ _ _ _ _ _ ?_
      rw [rr.1]
      exact ⟨by omega, by omega, ⟨⟨by omega, by omega⟩, ⟨by omega, by omega⟩⟩, fun _ => ⟨by omega, by omega, k1 (like.mp ⟨sets.mp he, fun j j0 j1 => h3 j j0 (by omega)⟩)⟩, fun h => absurd h (by omega)⟩
    | succ q ih =>
      intro i h1 h2 h3
      refine s_X11_isLike_19 _ _ _ _ _ _ ?_
      rw [rr.1]
      refine ⟨by omega, by omega, ⟨⟨by omega, by omega⟩, ⟨by omega, by omega⟩⟩, fun h => absurd h (by omega), fun _ => m_ringOf hv hM hL hF hg ⟨by omega, by omega⟩ ⟨by omega, by omega⟩ (m_ringOf hv hM hL hF hg ⟨by omega, by omega⟩ ⟨by omega, by omega⟩ ?_)⟩
      rw [show ((r : Int)).toNat = r by omega, show ((o : Int)).toNat = o by omega]
      have i1 := hin hr i (by omega)
      have i2 := hin ho i (by omega)
      refine ⟨Or.inr ⟨⟨by omega, by omega⟩, ⟨by omega, by omega⟩⟩, fun h => ih (i + 1) (by omega) (by omega) (fun j j0 j1 => ?_), fun h => ⟨by omega, by omega, k0 (fun e => h ((like.mpr e).2 i h2 (by omega)))⟩⟩
      by_cases hj : j = i
      · subst hj; exact h
      · exact h3 j j0 (by omega)
  exact key ((F.getD r []).length - 1) 1 (by omega) (by omega) (fun j j0 j1 => by omega)
