/-! what is left unspent: rounds net one behind the other -/
def pmn (U : Int → Int) (r : List Int) : Int := fup (fun m k => jmin m (U (r.getD k.toNat 0))) r.length 0 9999
def pun (b : BK) (F : LL) : Nat → (Int → Int) × Int
  | 0 => (fun t => b 3 t, 0)
  | n + 1 => (fun t => if t ∈ F.getD n [] then (pun b F n).1 t - pmn (pun b F n).1 (F.getD n []) else (pun b F n).1 t, (pun b F n).2 + pmn (pun b F n).1 (F.getD n []))
theorem pmn_step {m : Int} {U : Int → Int} (hU : ∀ t, 0 ≤ t → t < m → 0 ≤ U t ∧ U t ≤ 9999) {r : List Int} (hr : ∀ t ∈ r, 0 ≤ t ∧ t < m) : ∀ i c, (0 : Int) ≤ i → i < (r.length : Int) → (fun (_ : Int) (c : Int) => 0 ≤ c ∧ c ≤ 9999) i c → (fun (_ : Int) (c : Int) => 0 ≤ c ∧ c ≤ 9999) (i + 1) ((fun m k => jmin m (U (r.getD (Int.toNat k) 0))) c i) := by
  intro i c h0 h1 hc
  have t := hr _ (getD_mem (l := r) (i := i.toNat) (by omega))
  have tt := hU _ t.1 t.2
  show 0 ≤ jmin c (U (r.getD i.toNat 0)) ∧ jmin c (U (r.getD i.toNat 0)) ≤ 9999
  have hc' : 0 ≤ c ∧ c ≤ 9999 := hc
  unfold jmin
  split <;> omega
theorem pmn_in {m : Int} {U : Int → Int} (hU : ∀ t, 0 ≤ t → t < m → 0 ≤ U t ∧ U t ≤ 9999) {r : List Int} (hr : ∀ t ∈ r, 0 ≤ t ∧ t < m) : 0 ≤ pmn U r ∧ pmn U r ≤ 9999 :=
  fup_inv (fun (_ : Int) (c : Int) => 0 ≤ c ∧ c ≤ 9999) (lo := 0) (n := (r.length : Int)) (pmn_step hU hr) r.length 0 9999 (by omega) (by omega) (by omega)
theorem pmn_le {U : Int → Int} {r : List Int} : ∀ t ∈ r, pmn U r ≤ U t := by
  intro t ht
  obtain ⟨j, hj, e⟩ := mem_get ht
  have := fup_inv (g := fun m k => jmin m (U (r.getD (Int.toNat k) 0))) (fun (i : Int) (c : Int) => ∀ j : Nat, (j : Int) < i → c ≤ U (r.getD j 0)) (lo := 0) (n := (r.length : Int)) (fun i c h0 h1 hc j hji => by
    by_cases hjl : (j : Int) = i
    · have e2 : i.toNat = j := by omega
      rw [e2]
      unfold jmin
      split <;> omega
    · have := hc j (by omega)
      unfold jmin
      split <;> omega) r.length 0 9999 (by omega) (by omega) (fun j hj => by omega) j (by omega)
  rw [e] at this
  exact this
theorem pun_in {b : BK} (hv : vb b) {F : LL} (hg : gd b F) : ∀ n, n ≤ F.length → (∀ t, 0 ≤ t → t < b 5 1 → 0 ≤ (pun b F n).1 t ∧ (pun b F n).1 t ≤ 9999) ∧ 0 ≤ (pun b F n).2 ∧ (pun b F n).2 ≤ 9999 * (n : Int)
  | 0, _ => ⟨fun t h0 h1 => by have := vb_t hv h0 h1; show 0 ≤ b 3 t ∧ b 3 t ≤ 9999; omega, by show (0 : Int) ≤ 0; omega, by show (0 : Int) ≤ _; omega⟩
  | n + 1, hn => by
    have ih := pun_in hv hg n (by omega)
    have hr : ∀ t ∈ F.getD n [], 0 ≤ t ∧ t < b 5 1 := fun t ht => gr_in (gd_get hg (by omega)) ht
    have mi := pmn_in ih.1 hr
    refine ⟨fun t h0 h1 => ?_, ?_, ?_⟩
    · have ih1 := ih.1 t h0 h1
      have e : (pun b F (n + 1)).1 t = if t ∈ F.getD n [] then (pun b F n).1 t - pmn (pun b F n).1 (F.getD n []) else (pun b F n).1 t := rfl
      rw [e]
      split
      · rename_i h
        have := pmn_le (U := (pun b F n).1) t h
        omega
      · exact ih1
    · show 0 ≤ (pun b F n).2 + pmn (pun b F n).1 (F.getD n [])
      omega
    · show (pun b F n).2 + pmn (pun b F n).1 (F.getD n []) ≤ _
      omega
theorem c_net {d : Nat} {b : BK} {F : LL} {ν : JM} {Q : JQ} {n : Nat} (hv : vb b) (hR : RC F ν) (hg : gd b F) (hn : n < F.length) (hu : ∀ t, 0 ≤ t → t < b 5 1 → ν 37 0 t = (pun b F n).1 t) (h12 : ν 22 0 12 = (pun b F n).2) (k : ∀ ξ, jfr (fun t y i => y = 0 ∧ (t = 37 ∨ (t = 22 ∧ i = 12))) ν ξ → (∀ t, 0 ≤ t → t < b 5 1 → ξ 37 0 t = (pun b F (n + 1)).1 t) → ξ 22 0 12 = (pun b F (n + 1)).2 → Q 0 ξ) : wp true (d + 1) 97 0 [(22, 0), (0, (n : Int)), (9, 0), (9, 0), (9, 0)] [] ν Q := by
  have g := gd_get hg hn
  have gl := gr_len g
  have hm := vb_m hv
  have asc := gr_asc hv g
  have nn : ((n : Int)).toNat = n := by omega
  have pu := pun_in hv hg n (by omega)
  have hr : ∀ t ∈ F.getD n [], 0 ≤ t ∧ t < b 5 1 := fun t ht => gr_in g ht
  have mi := pmn_in pu.1 hr
  refine s_X8_net_0 _ _ _ _ (w_lengthOf hv hR hg ⟨by omega, by omega⟩ ?_)
  rw [nn]
  have key : ∀ (q i : Nat) (ξ : JM), i + q = (F.getD n []).length → jfr (fun t y _ => t = 37 ∧ y = 0) ν ξ → (∀ t, 0 ≤ t → t < b 5 1 → ξ 37 0 t = if t ∈ (F.getD n []).take i then (pun b F n).1 t - pmn (pun b F n).1 (F.getD n []) else (pun b F n).1 t) → wp true (d + 1) 97 45 [(22, 0), (0, (n : Int)), (0, ((F.getD n []).length : Int)), (0, pmn (pun b F n).1 (F.getD n [])), (0, (i : Int))] [] ξ Q := by
    intro q
    induction q with
    | zero =>
      intro i ξ h1 h2 h3
      have ei : i = (F.getD n []).length := by omega
      subst ei
      rw [List.take_length] at h3
      refine s_X8_net_45 _ _ _ _ _ _ _ ⟨⟨⟨by omega, by omega⟩, ⟨by omega, by omega⟩⟩, fun _ => k _ (jfr_jw (jfr_mono h2 (fun t y i h => ⟨h.2, Or.inl h.1⟩)) ⟨rfl, Or.inr ⟨rfl, rfl⟩⟩) (fun t t0 t1 => ?_) ?_, fun h => absurd (Int.le_refl _) h⟩
      · rw [jw_t (by omega)]
        exact h3 t t0 t1
      · rw [jw_eq, h2 _ _ _ (by omega), h12]
        rfl
    | succ q ih =>
      intro i ξ h1 h2 h3
      have hR' : RC F ξ := RC_fr hR (h2 _ _ _ (by omega)) (h2 _ _ _ (by omega)) (h2 _ _ _ (by omega)) (fun r _ => h2 _ _ _ (by omega))
      have ti := gr_get g (i := i) (by omega)
      have fresh := asc_fresh asc (n := i) (by omega)
      refine s_X8_net_45 _ _ _ _ _ _ _ ⟨⟨⟨by omega, by omega⟩, ⟨by omega, by omega⟩⟩, fun h => absurd h (by omega), fun _ => w_transferAt hv hR' hg ⟨by omega, by omega⟩ ⟨by omega, by rw [nn]; omega⟩ ?_⟩
      rw [nn, show ((i : Int)).toNat = i by omega]
      refine ⟨by omega, by omega, by omega, by omega, ?_⟩
      rw [show (i : Int) + 1 = ((i + 1 : Nat) : Int) by omega]
      refine ih (i + 1) _ (by omega) (jfr_jw h2 ⟨rfl, rfl⟩) (fun t t0 t1 => ?_)
      by_cases e : t = (F.getD n []).getD i 0
      · rw [e, jw_eq, h3 _ ti.1 ti.2, if_neg fresh, if_pos ((mem_take (by omega) _).mpr (Or.inr rfl))]
      · rw [jw_i e, h3 t t0 t1]
        by_cases hm2 : t ∈ (F.getD n []).take i
        · rw [if_pos hm2, if_pos ((mem_take (by omega) _).mpr (Or.inl hm2))]
        · rw [if_neg hm2, if_neg (fun h => by rcases (mem_take (by omega) _).mp h with h | h; exact hm2 h; exact e h)]
  refine fup_loop (W := fun i (c : Int) => wp true (d + 1) 97 13 [(22, 0), (0, (n : Int)), (0, ((F.getD n []).length : Int)), (0, c), (0, i)] [] ν Q) (fun (_ : Int) (c : Int) => 0 ≤ c ∧ c ≤ 9999) (lo := 0) (n := ((F.getD n []).length : Int)) (pmn_step pu.1 hr) (fun i c h0 h1 hI hW => ?_) (F.getD n []).length 0 9999 (by omega) (by omega) (by omega) (fun _ => ?_)
  · have ti := gr_get g (i := i.toNat) (by omega)
    have ui := pu.1 _ ti.1 ti.2
    have hI' : 0 ≤ c ∧ c ≤ 9999 := hI
    refine s_X8_net_13 _ _ _ _ _ _ _ ⟨⟨⟨by omega, by omega⟩, ⟨by omega, by omega⟩⟩, fun h => absurd h (by omega), fun _ => w_transferAt hv hR hg ⟨by omega, by omega⟩ ⟨h0, by rw [nn]; exact h1⟩ ?_⟩
    rw [nn, hu _ ti.1 ti.2]
    exact ⟨by omega, by omega, ⟨by omega, by omega⟩, ⟨by omega, by omega⟩, hW⟩
  · refine s_X8_net_13 _ _ _ _ _ _ _ ⟨⟨⟨by omega, by omega⟩, ⟨by omega, by omega⟩⟩, fun _ => ?_, fun h => absurd (Int.le_refl _) h⟩
    exact key (F.getD n []).length 0 ν (by omega) (jfr_refl _ _) (fun t t0 t1 => by rw [hu t t0 t1]; simp)
