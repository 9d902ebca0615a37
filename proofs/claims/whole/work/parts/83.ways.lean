/-! ways: the pure side; a way's last transfer comes first -/
def so (b : BK) (f : Int) : List Int → Int
  | [] => jshl 1 f
  | t :: w => jor (so b f w) (jshl 1 (b 1 t))
def wy (b : BK) (f T : Int) : List Int → Prop
  | [] => False
  | t :: w => (0 ≤ t ∧ t < b 5 1) ∧ bt (so b f w) (b 1 t).toNat = false ∧ ((w = [] ∧ b 0 t = f ∧ T ≤ b 2 t) ∨ (w ≠ [] ∧ pstep b (hd w) t ∧ wy b f T w))
theorem wy_ne {b : BK} {f T : Int} {w : List Int} (h : wy b f T w) : w ≠ [] := fun e => by
  subst e
  exact h
theorem wy_hd {b : BK} {f T : Int} : ∀ {w : List Int}, wy b f T w → 0 ≤ hd w ∧ hd w < b 5 1
  | [], h => absurd rfl (wy_ne h)
  | _ :: _, h => h.1
theorem wy_so {b : BK} (hv : vb b) {f T : Int} (hf : 0 ≤ f ∧ f < b 5 0) : ∀ (w : List Int), wy b f T w ∨ w = [] → s12 (so b f w) ∧ (∀ j : Nat, bt (so b f w) j = true → (j : Int) < b 5 0) ∧ pop12 (so b f w).toNat = w.length + 1
  | [], _ => by
    have nb := vb_n hv
    refine ⟨s12_bit (by omega), fun j hj => ?_, ?_⟩
    · rw [show so b f [] = jshl 1 f from rfl, bt_bitz hf.1 (by omega)] at hj
      have := of_decide_eq_true hj
      omega
    · have e : jor 0 (jshl 1 f) = jshl 1 f := bt_ext (inR_or _ _) (inR_shl _ _) (fun k _ => by rw [bt_or, bt_zero, Bool.false_or])
      have := pop_new (s := 0) (k := f) ⟨by omega, by omega⟩ (by omega) (bt_zero _)
      rw [e] at this
      rw [show so b f [] = jshl 1 f from rfl, this]
      rfl
  | t :: w, h => by
    have nb := vb_n hv
    have h' : wy b f T (t :: w) := h.resolve_right (by intro e; cases e)
    have ih := wy_so hv hf w (by
      rcases h'.2.2 with h2 | h2
      · exact Or.inr h2.1
      · exact Or.inl h2.2.2)
    have tt := vb_t hv h'.1.1 h'.1.2
    refine ⟨or12 ih.1 (s12_bit (by omega)), fun j hj => ?_, ?_⟩
    · rw [show so b f (t :: w) = jor (so b f w) (jshl 1 (b 1 t)) from rfl, bt_or, bt_bitz tt.2.1.1 (by omega), Bool.or_eq_true] at hj
      rcases hj with hj | hj
      · exact ih.2.1 j hj
      · have := of_decide_eq_true hj
        omega
    · rw [show so b f (t :: w) = jor (so b f w) (jshl 1 (b 1 t)) from rfl, pop_new ih.1 ⟨tt.2.1.1, by omega⟩ h'.2.1, ih.2.2]
      rfl
theorem wy_len {b : BK} (hv : vb b) {f T : Int} (hf : 0 ≤ f ∧ f < b 5 0) {w : List Int} (h : wy b f T w) : w.length ≤ 11 := by
  have s := wy_so hv hf w (Or.inl h)
  have := pop_in (n := (so b f w).toNat) (by omega)
  omega
theorem so_app {b : BK} {f : Int} {w w0 : List Int} (h : so b f w0 = so b f w) : ∀ e : List Int, so b f (e ++ w0) = so b f (e ++ w)
  | [] => h
  | r :: e => by
    show jor (so b f (e ++ w0)) _ = jor (so b f (e ++ w)) _
    rw [so_app h e]
theorem hd_app {w w0 : List Int} (h : hd w0 = hd w) : ∀ e : List Int, hd (e ++ w0) = hd (e ++ w)
  | [] => h
  | _ :: _ => rfl
theorem app_ne {w : List Int} (h : w ≠ []) (e : List Int) : e ++ w ≠ [] := fun h2 => h (List.append_eq_nil_iff.mp h2).2
/-- what goes on from a way goes on from another that ends so with the same accounts -/
theorem wy_sw {b : BK} {f T : Int} {w w0 : List Int} (h0 : wy b f T w0) (hw : w ≠ []) (hs : so b f w0 = so b f w) (hh : hd w0 = hd w) : ∀ e : List Int, wy b f T (e ++ w) → wy b f T (e ++ w0)
  | [], _ => h0
  | r :: e, h => by
    have h' : wy b f T (r :: (e ++ w)) := h
    show wy b f T (r :: (e ++ w0))
    have a1 : bt (so b f (e ++ w0)) (b 1 r).toNat = false := by rw [so_app hs e]; exact h'.2.1
    refine ⟨h'.1, a1, Or.inr ⟨app_ne (wy_ne h0) e, ?_⟩⟩
    show pstep b (hd (e ++ w0)) r ∧ wy b f T (e ++ w0)
    rcases h'.2.2 with h2 | h2
    · exact absurd h2.1 (app_ne hw e)
    · rw [hd_app hh e]
      exact ⟨h2.2.1, wy_sw h0 hw hs hh e h2.2.2⟩
theorem wy_suf {b : BK} {f T : Int} {w : List Int} (hw : w ≠ []) : ∀ e : List Int, wy b f T (e ++ w) → wy b f T w
  | [], h => h
  | r :: e, h => by
    have h' : wy b f T (r :: (e ++ w)) := h
    rcases h'.2.2 with h2 | h2
    · exact absurd h2.1 (app_ne hw e)
    · exact wy_suf hw e h2.2.2
theorem so_mono {b : BK} {f : Int} {w : List Int} : ∀ (e : List Int) (j : Nat), bt (so b f w) j = true → bt (so b f (e ++ w)) j = true
  | [], _, h => h
  | r :: e, j, h => by
    show bt (jor (so b f (e ++ w)) _) j = true
    rw [bt_or, so_mono e j h]
    rfl
/-- the order of ways of one length -/
def lr : List Int → List Int → Prop
  | x :: u, y :: v => lr u v ∨ (u = v ∧ x < y)
  | _, _ => False
theorem lr_nil (u : List Int) : ¬ lr u [] := by
  cases u <;> exact id
theorem lr_len : ∀ {u v : List Int}, lr u v → u.length = v.length
  | [], [], h => rfl
  | [], _ :: _, h => absurd h id
  | _ :: _, [], h => absurd h id
  | x :: u, y :: v, h => by
    rw [List.length_cons, List.length_cons]
    rcases h with h | h
    · rw [lr_len h]
    · rw [h.1]
theorem lr_app {u v : List Int} (h : lr u v) : ∀ e : List Int, lr (e ++ u) (e ++ v)
  | [] => h
  | _ :: e => Or.inl (lr_app h e)
theorem lr_irr : ∀ u : List Int, ¬ lr u u
  | [], h => h
  | x :: u, h => by
    rcases h with h | h
    · exact lr_irr u h
    · omega
theorem lr_trans : ∀ {u v w : List Int}, lr u v → lr v w → lr u w
  | [], [], _, h, _ => absurd h id
  | [], _ :: _, _, h, _ => absurd h id
  | _ :: _, [], _, h, _ => absurd h id
  | _ :: _, _ :: _, [], _, h => absurd h id
  | x :: u, y :: v, z :: w, h, k => by
    rcases h with h | h
    · rcases k with k | k
      · exact Or.inl (lr_trans h k)
      · rw [← k.1]
        exact Or.inl h
    · rcases k with k | k
      · rw [h.1]
        exact Or.inl k
      · exact Or.inr ⟨h.1.trans k.1, by omega⟩
theorem lr_tot : ∀ {u v : List Int}, u.length = v.length → lr u v ∨ u = v ∨ lr v u
  | [], [], _ => Or.inr (Or.inl rfl)
  | [], _ :: _, h => by cases h
  | _ :: _, [], h => by cases h
  | x :: u, y :: v, h => by
    rcases lr_tot (u := u) (v := v) (by simpa using h) with k | k | k
    · exact Or.inl (Or.inl k)
    · subst k
      by_cases h1 : x < y
      · exact Or.inl (Or.inr ⟨rfl, h1⟩)
      · by_cases h2 : x = y
        · subst h2
          exact Or.inr (Or.inl rfl)
        · exact Or.inr (Or.inr (Or.inr ⟨rfl, by omega⟩))
    · exact Or.inr (Or.inr (Or.inl k))
/-- sooner, shorter, then by numbers -/
def kle (b : BK) (u v : List Int) : Prop := b 2 (hd u) < b 2 (hd v) ∨ (b 2 (hd u) = b 2 (hd v) ∧ (u.length < v.length ∨ (u.length = v.length ∧ (u = v ∨ lr u v))))
theorem kle_refl (b : BK) (u : List Int) : kle b u u := Or.inr ⟨rfl, Or.inr ⟨rfl, Or.inl rfl⟩⟩
theorem kle_trans {b : BK} {u v w : List Int} (h : kle b u v) (k : kle b v w) : kle b u w := by
  rcases h with h | ⟨h1, h2⟩
  · rcases k with k | ⟨k1, _⟩
    · exact Or.inl (by omega)
    · exact Or.inl (by omega)
  · rcases k with k | ⟨k1, k2⟩
    · exact Or.inl (by omega)
    · refine Or.inr ⟨h1.trans k1, ?_⟩
      rcases h2 with h2 | ⟨h2, h3⟩
      · rcases k2 with k2 | ⟨k2, _⟩
        · exact Or.inl (by omega)
        · exact Or.inl (by omega)
      · rcases k2 with k2 | ⟨k2, k3⟩
        · exact Or.inl (by omega)
        · refine Or.inr ⟨h2.trans k2, ?_⟩
          rcases h3 with rfl | h3
          · exact k3
          · rcases k3 with rfl | k3
            · exact Or.inr h3
            · exact Or.inr (lr_trans h3 k3)
theorem kle_anti {b : BK} {u v : List Int} (h : kle b u v) (k : kle b v u) : u = v := by
  rcases h with h | ⟨h1, h2⟩
  · rcases k with k | ⟨k1, _⟩ <;> omega
  · rcases k with k | ⟨k1, k2⟩
    · omega
    · rcases h2 with h2 | ⟨h2, h3⟩
      · rcases k2 with k2 | ⟨k2, _⟩ <;> omega
      · rcases k2 with k2 | ⟨k2, k3⟩
        · omega
        · rcases h3 with h3 | h3
          · exact h3
          · rcases k3 with k3 | k3
            · exact k3.symm
            · exact absurd (lr_trans h3 k3) (lr_irr u)
/-- what has been found: the best way, the most, the accounts reached, the longest -/
abbrev WR : Type := List Int × Int × Int × Int
def cov (b : BK) (g : Int) (w : List Int) (R : WR) : Prop := (b 1 (hd w) = g → R.1 ≠ [] ∧ kle b R.1 w ∧ b 3 (hd w) ≤ R.2.1) ∧ bt R.2.2.1 (b 1 (hd w)).toNat = true ∧ (w.length : Int) ≤ R.2.2.2
def wsd (b : BK) (f T g : Int) (R : WR) : Prop := (R.1 = [] ∨ (wy b f T R.1 ∧ b 1 (hd R.1) = g)) ∧ (R.2.1 = 0 ∨ ∃ w, wy b f T w ∧ b 1 (hd w) = g ∧ b 3 (hd w) = R.2.1) ∧ s12 R.2.2.1 ∧ (∀ j : Nat, bt R.2.2.1 j = true → ∃ w, wy b f T w ∧ b 1 (hd w) = (j : Int)) ∧ (R.2.2.2 = 0 ∨ ∃ w, wy b f T w ∧ (w.length : Int) = R.2.2.2)
def wmo (b : BK) (g : Int) (R R' : WR) : Prop := ∀ w, cov b g w R → cov b g w R'
theorem wmo_refl (b : BK) (g : Int) (R : WR) : wmo b g R R := fun _ h => h
theorem wmo_trans {b : BK} {g : Int} {R R' R'' : WR} (h : wmo b g R R') (k : wmo b g R' R'') : wmo b g R R'' := fun w q => k w (h w q)
def ar (b : BK) (g : Int) (c : Bool) (w : List Int) (R : WR) : WR := (if b 1 (hd w) = g ∧ c = true then w else R.1, if b 1 (hd w) = g then jmax R.2.1 (b 3 (hd w)) else R.2.1, jor R.2.2.1 (jshl 1 (b 1 (hd w))), jmax R.2.2.2 (w.length : Int))
theorem jmax_eq (x y : Int) : jmax x y = if x < y then y else x := rfl
theorem jmax_ge (x y : Int) : x ≤ jmax x y ∧ y ≤ jmax x y ∧ (jmax x y = x ∨ jmax x y = y) := by
  rw [jmax_eq]
  split <;> omega
theorem ar_ok {b : BK} (hv : vb b) {f T g : Int} {c : Bool} {w : List Int} {R : WR} (hR : wsd b f T g R) (hw : wy b f T w) (h1 : b 1 (hd w) = g → c = true → R.1 = [] ∨ kle b w R.1) (h0 : b 1 (hd w) = g → c = false → R.1 ≠ [] ∧ kle b R.1 w) : wsd b f T g (ar b g c w R) ∧ cov b g w (ar b g c w R) ∧ wmo b g R (ar b g c w R) := by
  have nb := vb_n hv
  have hh := wy_hd hw
  have tt := vb_t hv hh.1 hh.2
  have m1 := jmax_ge R.2.2.2 (w.length : Int)
  have m2 := jmax_ge R.2.1 (b 3 (hd w))
  obtain ⟨r1, r2, r3, r4, r5⟩ := hR
  refine ⟨⟨?_, ?_, or12 r3 (s12_bit (by omega)), fun j hj => ?_, ?_⟩, ⟨fun hg => ?_, ?_, m1.2.1⟩, fun v hc => ⟨fun hg => ?_, ?_, Int.le_trans hc.2.2 m1.1⟩⟩
  · show (if b 1 (hd w) = g ∧ c = true then w else R.1) = [] ∨ _
    unfold ar
    dsimp only
    split
    · rename_i h
      exact Or.inr ⟨hw, h.1⟩
    · exact r1
  · unfold ar
    dsimp only
    split
    · rename_i h
      rcases m2.2.2 with e | e
      · rw [e]; exact r2
      · rw [e]; exact Or.inr ⟨w, hw, h, rfl⟩
    · exact r2
  · have hj' : bt (jor R.2.2.1 (jshl 1 (b 1 (hd w)))) j = true := hj
    rw [bt_or, bt_bitz tt.2.1.1 (by omega), Bool.or_eq_true] at hj'
    rcases hj' with hj' | hj'
    · exact r4 j hj'
    · have := of_decide_eq_true hj'
      exact ⟨w, hw, by omega⟩
  · unfold ar
    dsimp only
    rcases m1.2.2 with e | e
    · rw [e]; exact r5
    · rw [e]; exact Or.inr ⟨w, hw, rfl⟩
  · unfold ar
    dsimp only
    rw [if_pos hg]
    cases hc : c with
    | true =>
      rw [if_pos ⟨hg, rfl⟩]
      exact ⟨wy_ne hw, kle_refl _ _, m2.2.1⟩
    | false =>
      rw [if_neg (fun h => by cases h.2)]
      have := h0 hg hc
      exact ⟨this.1, this.2, m2.2.1⟩
  · show bt (jor R.2.2.1 (jshl 1 (b 1 (hd w)))) _ = true
    rw [bt_or, bt_bitz tt.2.1.1 (by omega), decide_eq_true rfl, Bool.or_true]
  · have q := hc.1 hg
    unfold ar
    dsimp only
    refine ⟨?_, ?_, ?_⟩
    · split
      · exact wy_ne hw
      · exact q.1
    · split
      · rename_i h
        rcases h1 h.1 h.2 with e | e
        · exact absurd e q.1
        · exact kle_trans e q.2.1
      · exact q.2.1
    · split
      · exact Int.le_trans q.2.2 m2.1
      · exact q.2.2
  · show bt (jor R.2.2.1 (jshl 1 (b 1 (hd w)))) _ = true
    rw [bt_or, hc.2.1]
    rfl
/-- all has been looked at -/
def wfi (b : BK) (f T g : Int) (R : WR) : Prop := wsd b f T g R ∧ ∀ w, wy b f T w → (g = -1 ∨ b 1 (hd w) = g) → cov b g w R
theorem wfi_half {b : BK} (hv : vb b) {f T g : Int} {R R' : WR} (h : wfi b f T g R) (h' : wfi b f T g R') : (R.1 ≠ [] → R'.1 ≠ [] ∧ kle b R'.1 R.1) ∧ R.2.1 ≤ R'.2.1 ∧ (g = -1 → sub R.2.2.1 R'.2.2.1 ∧ R.2.2.2 ≤ R'.2.2.2) := by
  have nb := vb_n hv
  have z1 : 0 ≤ R'.2.1 := by
    rcases h'.1.2.1 with e | ⟨w, hw, _, e⟩
    · omega
    · have hh := wy_hd hw
      have := vb_t hv hh.1 hh.2
      omega
  have z2 : 0 ≤ R'.2.2.2 := by
    rcases h'.1.2.2.2.2 with e | ⟨w, hw, e⟩ <;> omega
  refine ⟨fun hne => ?_, ?_, fun hg => ⟨fun j hj => ?_, ?_⟩⟩
  · rcases h.1.1 with e | ⟨hw, hg⟩
    · exact absurd e hne
    · have q := (h'.2 _ hw (Or.inr hg)).1 hg
      exact ⟨q.1, q.2.1⟩
  · rcases h.1.2.1 with e | ⟨w, hw, hg, e⟩
    · omega
    · have q := (h'.2 _ hw (Or.inr hg)).1 hg
      omega
  · obtain ⟨w, hw, e⟩ := h.1.2.2.2.1 j hj
    have q := (h'.2 _ hw (Or.inl hg)).2.1
    rw [e] at q
    exact q
  · rcases h.1.2.2.2.2 with e | ⟨w, hw, e⟩
    · omega
    · have q := (h'.2 _ hw (Or.inl hg)).2.2
      omega
theorem wfi_uniq {b : BK} (hv : vb b) {f T g : Int} {R R' : WR} (h : wfi b f T g R) (h' : wfi b f T g R') : R.1 = R'.1 ∧ R.2.1 = R'.2.1 ∧ (g = -1 → R.2.2.1 = R'.2.2.1 ∧ R.2.2.2 = R'.2.2.2) := by
  have q := wfi_half hv h h'
  have p := wfi_half hv h' h
  refine ⟨?_, by omega, fun hg => ⟨?_, by have := (q.2.2 hg).2; have := (p.2.2 hg).2; omega⟩⟩
  · by_cases e : R.1 = []
    · by_cases e' : R'.1 = []
      · rw [e, e']
      · exact absurd e (p.1 e').1
    · exact kle_anti (p.1 (q.1 e).1).2 (q.1 e).2
  · have r := h.1.2.2.1
    have r' := h'.1.2.2.1
    refine bt_ext ⟨by omega, by omega⟩ ⟨by omega, by omega⟩ (fun j _ => ?_)
    have a1 := (q.2.2 hg).1 j
    have a2 := (p.2.2 hg).1 j
    cases e1 : bt R.2.2.1 j <;> cases e2 : bt R'.2.2.1 j
    · rfl
    · rw [e1, e2] at a2; exact absurd (a2 rfl) (by decide)
    · rw [e1, e2] at a1; exact absurd (a1 rfl) (by decide)
    · rfl
/-- what both find -/
noncomputable def wrs (b : BK) (f T g : Int) : WR := Classical.epsilon (wfi b f T g)
theorem wrs_eq {b : BK} (hv : vb b) {f T g : Int} {R : WR} (h : wfi b f T g R) : R.1 = (wrs b f T g).1 ∧ R.2.1 = (wrs b f T g).2.1 ∧ (g = -1 → R.2.2.1 = (wrs b f T g).2.2.1 ∧ R.2.2.2 = (wrs b f T g).2.2.2) := wfi_uniq hv h (Classical.epsilon_spec (p := wfi b f T g) ⟨R, h⟩)
