/-! the class: the code of a round's ring; what a round counts; what it nets -/
theorem RC_fr {F : LL} {μ ν : JM} (h : RC F μ) (e4 : ν 22 0 4 = μ 22 0 4) (e5 : ν 22 0 5 = μ 22 0 5) (e51 : ν 51 (μ 22 0 5 - 1) 0 = μ 51 (μ 22 0 5 - 1) 0) (e50 : ∀ r : Nat, r < F.length → ν 50 (μ 22 0 5 - 1) (r : Int) = μ 50 (μ 22 0 5 - 1) (r : Int)) : RC F ν := by
  unfold RC
  rw [e4, e5, e51]
  exact ⟨h.1, h.2.1, h.2.2.1, h.2.2.2.1, fun r hr => (e50 r hr).trans (h.2.2.2.2 r hr)⟩
theorem w_ringOf {d : Nat} {b : BK} {F : LL} {ν : JM} {Q : JQ} (hv : vb b) (hC : isC ν 2 b) (hR : RC F ν) (hg : gd b F) {r : Int} (hr : 0 ≤ r ∧ r < (F.length : Int)) (k : Q (pcode (rgn b F r.toNat)) ν) : wp true (d + 1) 98 0 [(22, 0), (0, r), (9, 0), (9, 0), (9, 0), (9, 0), (9, 0)] [] ν Q := by
  have g := gd_get hg (r := r.toNat) (by omega)
  have gl := gr_len g
  have hm := vb_m hv
  have hn := vb_n hv
  have ld := lead_in b (r := F.getD r.toNat []) (by omega)
  have sm := pring_small hv g
  refine s_X8_ringOf_0 _ _ _ _ (w_lengthOf hv hR hg hr ?_)
  have second : wp true (d + 1) 98 66 [(22, 0), (0, r), (0, ((F.getD r.toNat []).length : Int)), (0, lead b (F.getD r.toNat [])), (0, 0), (0, ((F.getD r.toNat []).length : Int) - 1), (9, 0)] [] ν Q := by
    have key : ∀ (n : Nat) (u : JV), n ≤ (F.getD r.toNat []).length → wp true (d + 1) 98 66 [(22, 0), (0, r), (0, ((F.getD r.toNat []).length : Int)), (0, lead b (F.getD r.toNat [])), (0, pcode ((rgn b F r.toNat).drop n)), (0, (n : Int) - 1), u] [] ν Q := by
      intro n
      induction n with
      | zero =>
        intro u _
        refine s_X8_ringOf_66 _ _ _ _ _ _ _ _ _ ⟨⟨⟨by omega, by omega⟩, ⟨by omega, by omega⟩⟩, fun _ => ?_, fun h => absurd (by omega) h⟩
        rw [List.drop_zero]
        exact k
      | succ n ih =>
        intro u hn1
        have en : ((n + 1 : Nat) : Int) - 1 = (n : Int) := by omega
        rw [en]
        have hidx : ∀ s0 : Int, s0 = (lead b (F.getD r.toNat []) + (n : Int)) % ((F.getD r.toNat []).length : Int) → wp true (d + 1) 98 92 [(22, 0), (0, r), (0, ((F.getD r.toNat []).length : Int)), (0, lead b (F.getD r.toNat [])), (0, pcode ((rgn b F r.toNat).drop (n + 1))), (0, (n : Int)), u] [(0, s0)] ν Q := by
          intro s0 hs
          have s0r : 0 ≤ s0 ∧ s0 < ((F.getD r.toNat []).length : Int) := by
            rw [hs]
            exact ⟨Int.emod_nonneg _ (by omega), Int.emod_lt_of_pos _ (by omega)⟩
          have t := gr_get g (i := s0.toNat) (by omega)
          have tt := vb_t hv t.1 t.2
          refine s_X8_ringOf_92 _ _ _ _ _ _ _ _ _ _ (w_transferAt hv hR hg hr s0r ?_)
          rw [(isC_t hC t.1 t.2).1]
          refine ⟨by omega, by omega, ?_⟩
          have ee : b 0 ((F.getD r.toNat []).getD s0.toNat 0) = pent b (F.getD r.toNat []) (n : Int) := by
            unfold pent
            rw [← hs]
          have dl : ((rgn b F r.toNat).drop (n + 1)).length = (F.getD r.toNat []).length - (n + 1) := by rw [List.length_drop, pring_len]
          have dsm : small ((rgn b F r.toNat).drop (n + 1)) := fun a ha => sm a (List.mem_of_mem_drop ha)
          have dlt := pcode_le dsm
          have dp := pcode_pos dsm
          have d16 : pcode ((rgn b F r.toNat).drop (n + 1)) < 65536 := by
            have h5 : ((rgn b F r.toNat).drop (n + 1)).length = 0 ∨ ((rgn b F r.toNat).drop (n + 1)).length = 1 ∨ ((rgn b F r.toNat).drop (n + 1)).length = 2 ∨ ((rgn b F r.toNat).drop (n + 1)).length = 3 ∨ ((rgn b F r.toNat).drop (n + 1)).length = 4 := by omega
            rcases h5 with h5 | h5 | h5 | h5 | h5
            · have := dlt.1 h5; omega
            · have := dlt.2.1 h5; omega
            · have := dlt.2.2.1 h5; omega
            · have := dlt.2.2.2.1 h5; omega
            · exact dlt.2.2.2.2.1 h5
          rw [code_step ⟨dp, d16⟩ ⟨by omega, by omega⟩, ee]
          have ed : (rgn b F r.toNat).drop n = pent b (F.getD r.toNat []) (n : Int) :: (rgn b F r.toNat).drop (n + 1) := by
            have hlt : n < (rgn b F r.toNat).length := by rw [pring_len]; omega
            rw [List.drop_eq_getElem_cons hlt]
            congr 1
            have := pring_get b (F.getD r.toNat []) (i := n) (by omega)
            rw [List.getD_eq_getElem?_getD, List.getElem?_eq_getElem hlt] at this
            exact this
          have := ih (0, s0) (by omega)
          rw [ed] at this
          exact this
        refine s_X8_ringOf_66 _ _ _ _ _ _ _ _ _ ⟨⟨⟨by omega, by omega⟩, ⟨by omega, by omega⟩⟩, fun h => absurd h (by omega), fun _ => ⟨⟨⟨by omega, by omega⟩, ⟨by omega, by omega⟩⟩, fun h => hidx _ ?_, fun h => hidx _ ?_⟩⟩
        · have h5 : (F.getD r.toNat []).length = 2 ∨ (F.getD r.toNat []).length = 3 ∨ (F.getD r.toNat []).length = 4 ∨ (F.getD r.toNat []).length = 5 := by omega
          rcases h5 with h5 | h5 | h5 | h5 <;> rw [h5] at h ld hn1 ⊢ <;> omega
        · have h5 : (F.getD r.toNat []).length = 2 ∨ (F.getD r.toNat []).length = 3 ∨ (F.getD r.toNat []).length = 4 ∨ (F.getD r.toNat []).length = 5 := by omega
          rcases h5 with h5 | h5 | h5 | h5 <;> rw [h5] at h ld hn1 ⊢ <;> omega
    have := key (F.getD r.toNat []).length (9, 0) (Nat.le_refl _)
    rw [List.drop_of_length_le (by rw [pring_len]; exact Nat.le_refl _)] at this
    exact this
  refine fup_loop (W := fun i (l : Int) => wp true (d + 1) 98 11 [(22, 0), (0, r), (0, ((F.getD r.toNat []).length : Int)), (0, l), (0, i), (9, 0), (9, 0)] [] ν Q) (g := fun l k => if b 0 ((F.getD r.toNat []).getD k.toNat 0) < b 0 ((F.getD r.toNat []).getD l.toNat 0) then k else l) (fun i l => 0 ≤ l ∧ l < i) (lo := 1) (n := ((F.getD r.toNat []).length : Int)) (fun i l h0 h1 h2 => by split <;> omega) (fun i l h0 h1 hI hW => ?_) ((F.getD r.toNat []).length - 1) 1 0 (by omega) (by omega) (by omega) (fun _ => ?_)
  · have t1 := gr_get g (i := i.toNat) (by omega)
    have t2 := gr_get g (i := l.toNat) (by omega)
    have tt1 := vb_t hv t1.1 t1.2
    have tt2 := vb_t hv t2.1 t2.2
    refine s_X8_ringOf_11 _ _ _ _ _ _ _ ⟨⟨⟨by omega, by omega⟩, ⟨by omega, by omega⟩⟩, fun h => absurd h (by omega), fun _ => w_transferAt hv hR hg hr ⟨by omega, h1⟩ ⟨by omega, by omega, w_transferAt hv hR hg hr ⟨by omega, by omega⟩ ?_⟩⟩
    rw [(isC_t hC t1.1 t1.2).1, (isC_t hC t2.1 t2.2).1]
    refine ⟨by omega, by omega, ⟨⟨by omega, by omega⟩, ⟨by omega, by omega⟩⟩, fun h => ?_, fun h => ?_⟩
    · rw [if_neg (by omega)] at hW
      exact hW
    · rw [if_pos (by omega)] at hW
      exact hW
  · refine s_X8_ringOf_11 _ _ _ _ _ _ _ ⟨⟨⟨by omega, by omega⟩, ⟨by omega, by omega⟩⟩, fun _ => second, fun h => absurd h (by omega)⟩
/-- in how many of the first n rounds a transfer is; how many it closes -/
def pus (F : LL) (t : Int) : Nat → Int
  | 0 => 0
  | n + 1 => if t ∈ F.getD n [] then pus F t n + 1 else pus F t n
def pcl (F : LL) (t : Int) : Nat → Int
  | 0 => 0
  | n + 1 => if rls (F.getD n []) = t then pcl F t n + 1 else pcl F t n
theorem mem_take {l : List Int} {n : Nat} (hn : n < l.length) (t : Int) : t ∈ l.take (n + 1) ↔ t ∈ l.take n ∨ t = l.getD n 0 := by
  have e : l.take (n + 1) = l.take n ++ [l.getD n 0] := by
    rw [List.take_add_one, List.getD_eq_getElem?_getD, List.getElem?_eq_getElem hn]
    rfl
  rw [e, List.mem_append, List.mem_singleton]
theorem asc_fresh {l : List Int} (h : l.Pairwise (· < ·)) {n : Nat} (hn : n < l.length) : ¬ l.getD n 0 ∈ l.take n := by
  intro hm
  obtain ⟨i, hi, e⟩ := mem_get hm
  rw [List.length_take] at hi
  have e2 : (l.take n).getD i 0 = l.getD i 0 := by
    rw [List.getD_eq_getElem?_getD, List.getD_eq_getElem?_getD, List.getElem?_take, if_pos (by omega)]
  rw [e2] at e
  have := asc_get h (i := i) (j := n) (by omega) hn
  omega
theorem c_countIn {d : Nat} {b : BK} {F : LL} {ν : JM} {Q : JQ} {n : Nat} (hv : vb b) (hR : RC F ν) (hg : gd b F) (hn : n < F.length) (hu : ∀ t, 0 ≤ t → t < 32 → ν 34 0 t = pus F t n ∧ ν 35 0 t = pcl F t n) (k : ∀ ξ, jfr (fun t y i => (t = 34 ∨ t = 35) ∧ y = 0) ν ξ → (∀ t, 0 ≤ t → t < 32 → ξ 34 0 t = pus F t (n + 1) ∧ ξ 35 0 t = pcl F t (n + 1)) → Q 0 ξ) : wp true (d + 2) 96 0 [(22, 0), (0, (n : Int)), (9, 0), (9, 0)] [] ν Q := by
  have g := gd_get hg hn
  have gl := gr_len g
  have hm := vb_m hv
  have asc := gr_asc hv g
  have nn : ((n : Int)).toNat = n := by omega
  refine s_X8_countIn_0 _ _ _ _ (w_lengthOf hv hR hg ⟨by omega, by omega⟩ ?_)
  rw [nn]
  have key : ∀ (q i : Nat) (ξ : JM), i + q = (F.getD n []).length → jfr (fun t y _ => t = 34 ∧ y = 0) ν ξ → (∀ t, 0 ≤ t → t < 32 → ξ 34 0 t = pus F t n + if t ∈ (F.getD n []).take i then 1 else 0) → wp true (d + 2) 96 8 [(22, 0), (0, (n : Int)), (0, ((F.getD n []).length : Int)), (0, (i : Int))] [] ξ Q := by
    intro q
    induction q with
    | zero =>
      intro i ξ h1 h2 h3
      have hR' : RC F ξ := RC_fr hR (h2 _ _ _ (by omega)) (h2 _ _ _ (by omega)) (h2 _ _ _ (by omega)) (fun r _ => h2 _ _ _ (by omega))
      have ri := rls_in g
      refine s_X8_countIn_8 _ _ _ _ _ _ ⟨⟨⟨by omega, by omega⟩, ⟨by omega, by omega⟩⟩, fun _ => w_lastOf hv hR' hg ⟨by omega, by omega⟩ ?_, fun h => absurd (by omega) h⟩
      rw [nn]
      refine ⟨by omega, by omega, by omega, by omega, k _ (jfr_jw (jfr_mono h2 (fun t y i h => ⟨Or.inl h.1, h.2⟩)) ⟨Or.inr rfl, rfl⟩) (fun t t0 t1 => ?_)⟩
      have ei : i = (F.getD n []).length := by omega
      subst ei
      rw [List.take_length] at h3
      refine ⟨?_, ?_⟩
      · rw [jw_t (by omega), h3 t t0 t1]
        show _ = if t ∈ F.getD n [] then pus F t n + 1 else pus F t n
        split <;> omega
      · show _ = if rls (F.getD n []) = t then pcl F t n + 1 else pcl F t n
        by_cases e : rls (F.getD n []) = t
        · rw [if_pos e, ← e, jw_eq, h2 _ _ _ (by omega), (hu _ (by omega) (by omega)).2]
        · rw [if_neg e, jw_i (fun h => e h.symm), h2 _ _ _ (by omega), (hu t t0 t1).2]
    | succ q ih =>
      intro i ξ h1 h2 h3
      have hR' : RC F ξ := RC_fr hR (h2 _ _ _ (by omega)) (h2 _ _ _ (by omega)) (h2 _ _ _ (by omega)) (fun r _ => h2 _ _ _ (by omega))
      have ti := gr_get g (i := i) (by omega)
      refine s_X8_countIn_8 _ _ _ _ _ _ ⟨⟨⟨by omega, by omega⟩, ⟨by omega, by omega⟩⟩, fun h => absurd h (by omega), fun _ => w_transferAt hv hR' hg ⟨by omega, by omega⟩ ⟨by omega, by rw [nn]; omega⟩ ?_⟩
      rw [nn, show ((i : Int)).toNat = i by omega]
      refine ⟨by omega, by omega, by omega, by omega, ?_⟩
      rw [show (i : Int) + 1 = ((i + 1 : Nat) : Int) by omega]
      refine ih (i + 1) _ (by omega) (jfr_jw h2 ⟨rfl, rfl⟩) (fun t t0 t1 => ?_)
      have fresh := asc_fresh asc (n := i) (by omega)
      by_cases e : t = (F.getD n []).getD i 0
      · rw [e, jw_eq, h3 _ (by omega) (by omega), if_neg fresh, if_pos ((mem_take (by omega) _).mpr (Or.inr rfl))]
        omega
      · rw [jw_i e, h3 t t0 t1]
        congr 1
        by_cases hm2 : t ∈ (F.getD n []).take i
        · rw [if_pos hm2, if_pos ((mem_take (by omega) _).mpr (Or.inl hm2))]
        · rw [if_neg hm2, if_neg (fun h => by rcases (mem_take (by omega) _).mp h with h | h; exact hm2 h; exact e h)]
  exact key (F.getD n []).length 0 ν (by omega) (jfr_refl _ _) (fun t t0 t1 => by rw [(hu t t0 t1).1]; simp)
