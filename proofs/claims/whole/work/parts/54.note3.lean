/-! the alarms of the first n rounds, and of one more -/
abbrev cnF (b : BK) (F : LL) (n : Nat) : Nat → Int := fun a => pcn b F ((pal b F n).getD a []) n
abbrev wiF (b : BK) (F : LL) (n : Nat) : Nat → Int := fun a => pwi b F ((pal b F n).getD a []) n
abbrev spF (b : BK) (F : LL) (n : Nat) : Nat → Int := fun a => spn b F (pwi b F ((pal b F n).getD a []) n)
abbrev flF (b : BK) (F : LL) (n : Nat) : Nat → Int := fun a => pfl b F ((pal b F n).getD a []) n
abbrev ASn (b : BK) (F : LL) (n : Nat) (ν : JM) : Prop := AS (pal b F n) (cnF b F n) (wiF b F n) (spF b F n) (flF b F n) ν
theorem pcn_s (b : BK) (F : LL) (g : List Int) (n : Nat) : pcn b F g (n + 1) = if rgn b F n = g then pcn b F g n + 1 else pcn b F g n := rfl
theorem pfl_s (b : BK) (F : LL) (g : List Int) (n : Nat) : pfl b F g (n + 1) = if rgn b F n = g then pfl b F g n + pflow b (F.getD n []) else pfl b F g n := rfl
theorem pwi_s (b : BK) (F : LL) (g : List Int) (n : Nat) : pwi b F g (n + 1) = if rgn b F n = g ∧ (pwi b F g n = -1 ∨ spn b F n < spn b F (pwi b F g n)) then (n : Int) else pwi b F g n := rfl
theorem pfl_0 (b : BK) (F : LL) (g : List Int) : ∀ n, pcn b F g n = 0 → pfl b F g n = 0
  | 0, _ => rfl
  | n + 1, h => by
    have := pcn_le b F g n
    unfold pcn at h
    unfold pfl
    by_cases hc : rgn b F n = g
    · rw [if_pos hc] at h
      omega
    · rw [if_neg hc] at h ⊢
      exact pfl_0 b F g n h
theorem spn_in {b : BK} (hv : vb b) {F : LL} (hg : gd b F) {r : Int} (hr : 0 ≤ r ∧ r < (F.length : Int)) : -9999 ≤ spn b F r ∧ spn b F r ≤ 9999 := by
  have g := gd_get hg (r := r.toNat) (by omega)
  have i1 := rls_in g
  have i2 := rst_in g
  have t1 := vb_t hv i1.1 i1.2
  have t2 := vb_t hv i2.1 i2.2
  show -9999 ≤ b 2 (rls (F.getD r.toNat [])) - b 2 (rst (F.getD r.toNat [])) ∧ b 2 (rls (F.getD r.toNat [])) - b 2 (rst (F.getD r.toNat [])) ≤ 9999
  omega
theorem pal_sml {b : BK} (hv : vb b) {F : LL} (hg : gd b F) {n : Nat} (hn : n ≤ F.length) : sml (pal b F n) := by
  intro g hgm
  obtain ⟨r, hr, e⟩ := pal_of b F n g hgm
  have gr0 := gd_get hg (r := r) (by omega)
  rw [← e]
  exact ⟨pring_small hv gr0, by rw [pring_len]; exact (gr_len gr0).2⟩
theorem pwi_rg (b : BK) (F : LL) (g : List Int) (n : Nat) (h : pcn b F g n ≠ 0) : 0 ≤ pwi b F g n ∧ pwi b F g n < n := by
  have := pwi_le b F g n
  have h2 : pwi b F g n ≠ -1 := fun e => h (this.2.2.mp e)
  omega
theorem c_note {d : Nat} {b : BK} {F : LL} {n : Nat} {cp ca : Int} {ν : JM} {Q : JQ} (hv : vb b) (hg : gd b F) (hF : F.length ≤ 12000) (hn : n < F.length) (hN : JN cp ca ν) (hA : ASn b F n ν) (hc : ((pal b F n).length : Int) ≤ ca) (k : ∀ ξ ca', JN cp ca' ξ → ((pal b F (n + 1)).length : Int) ≤ ca' → jfr (fun t y i => PAl t y i ∨ PGA (ν 53 0 0) t y i) ν ξ → (∀ i, 0 ≤ i → i < cp → arr ξ 0 i = arr ν 0 i ∧ arr ξ 1 i = arr ν 1 i) → ASn b F (n + 1) ξ → Q (aix b F n : Int) ξ) : wp true (d + 3) 3 0 [(27, 0), (0, pcode (rgn b F n)), (0, (n : Int)), (0, spn b F (n : Int)), (0, pflow b (F.getD n [])), (9, 0)] [] ν Q := by
  have g0 := gd_get hg hn
  have gl := gr_len g0
  have hgs : small (rgn b F n) ∧ (rgn b F n).length ≤ 5 := ⟨pring_small hv g0, by rw [pring_len]; exact gl.2⟩
  have pl := pal_len b F n
  have sn := spn_in hv hg (r := (n : Int)) (by omega)
  have hcn : ∀ x, 0 ≤ cnF b F n x ∧ cnF b F n x ≤ 20000 := fun x => by
    have := pcn_le b F ((pal b F n).getD x []) n
    show 0 ≤ pcn b F ((pal b F n).getD x []) n ∧ pcn b F ((pal b F n).getD x []) n ≤ 20000
    omega
  refine s_X0_note_0 _ _ _ _ _ _ _ (c_find hN hA hc (by omega) (pal_nodup b F n) (pal_sml hv hg (by omega)) hgs (fun hm => ?_) (fun hm => ?_))
  · have q := ixo_lt hm
    have ep : pal b F (n + 1) = pal b F n := by
      conv => lhs; unfold pal
      rw [if_pos hm]
    have ea : aix b F n = ixo (rgn b F n) (pal b F n) := by
      unfold aix
      rw [ep]
    rw [← ea] at q ⊢
    refine ⟨by omega, fun _ => ?_, fun h => absurd (by omega) h⟩
    refine c_note20 hN hA hc (by omega) q.1 (fun x _ => hcn x) (fun h => ?_) ⟨by omega, by omega⟩ (fun ξ h1 h2 h3 h4 h5 => k ξ ca h1 (by rw [ep]; exact hc) (jfr_mono h2 (fun t y i h => Or.inl h)) (fun i _ _ => ⟨h3 i, h4 i⟩) ?_)
    · have hw := pwi_rg b F _ n h
      have := spn_in hv hg (r := pwi b F ((pal b F n).getD (aix b F n) []) n) (by omega)
      exact ⟨by show _ ≤ spn b F (pwi b F ((pal b F n).getD (aix b F n) []) n); omega, by show spn b F (pwi b F ((pal b F n).getD (aix b F n) []) n) < _; omega⟩
    · unfold ASn
      rw [ep]
      refine AS_congr h5 (fun x hx => ?_)
      have inj : x ≠ aix b F n → rgn b F n ≠ (pal b F n).getD x [] := fun hne e => hne (by
        rw [ea]
        exact (ixo_uniq (pal_nodup b F n) hx e.symm).symm)
      have e1 : cnF b F (n + 1) x = if x = aix b F n then cnF b F n (aix b F n) + 1 else cnF b F n x := by
        show pcn b F ((pal b F (n + 1)).getD x []) (n + 1) = _
        rw [ep]
        rw [pcn_s]
        by_cases hxa : x = aix b F n
        · rw [if_pos hxa, hxa, if_pos q.2.symm]
        · rw [if_neg hxa, if_neg (inj hxa)]
      have e2 : flF b F (n + 1) x = if x = aix b F n then flF b F n (aix b F n) + pflow b (F.getD n []) else flF b F n x := by
        show pfl b F ((pal b F (n + 1)).getD x []) (n + 1) = _
        rw [ep]
        rw [pfl_s]
        by_cases hxa : x = aix b F n
        · rw [if_pos hxa, hxa, if_pos q.2.symm]
        · rw [if_neg hxa, if_neg (inj hxa)]
      have e3 : wiF b F (n + 1) x = if x = aix b F n ∧ (cnF b F n (aix b F n) = 0 ∨ spn b F (n : Int) < spF b F n (aix b F n)) then (n : Int) else wiF b F n x := by
        show pwi b F ((pal b F (n + 1)).getD x []) (n + 1) = _
        rw [ep]
        rw [pwi_s]
        by_cases hxa : x = aix b F n
        · rw [hxa]
          have hz := (pwi_le b F ((pal b F n).getD (aix b F n) []) n).2.2
          by_cases hu : pcn b F ((pal b F n).getD (aix b F n) []) n = 0 ∨ spn b F (n : Int) < spn b F (pwi b F ((pal b F n).getD (aix b F n) []) n)
          · rw [if_pos ⟨q.2.symm, hu.imp hz.mpr id⟩, if_pos ⟨rfl, hu⟩]
          · rw [if_neg (fun h => hu (h.2.imp hz.mp id)), if_neg (fun h => hu h.2)]
        · rw [if_neg (fun h => inj hxa h.1), if_neg (fun h => hxa h.1)]
      refine ⟨by rw [e1], by rw [e2], fun _ => ⟨by rw [e3], ?_⟩⟩
      show _ = spn b F (wiF b F (n + 1) x)
      rw [e3]
      by_cases hu : x = aix b F n ∧ (cnF b F n (aix b F n) = 0 ∨ spn b F (n : Int) < spF b F n (aix b F n))
      · rw [if_pos hu, if_pos hu]
      · rw [if_neg hu, if_neg hu]
  · have ep : pal b F (n + 1) = pal b F n ++ [rgn b F n] := by
      conv => lhs; unfold pal
      rw [if_neg hm]
    have ea : aix b F n = (pal b F n).length := by
      unfold aix
      rw [ep]
      exact ixo_uniq (by rw [← ep]; exact pal_nodup b F (n + 1)) (by simp) (by rw [gda_r (Nat.le_refl _)]; simp)
    have z := (pcn_le b F (rgn b F n) n).2.2
    have z0 : pcn b F (rgn b F n) n = 0 := by
      have h0 := (pcn_le b F (rgn b F n) n).1
      have h1 : ¬ 1 ≤ pcn b F (rgn b F n) n := fun h => hm (z.mpr h)
      omega
    have zw := (pwi_le b F (rgn b F n) n).2.2.mpr z0
    have zf := pfl_0 b F (rgn b F n) n z0
    refine ⟨by decide, fun h => absurd rfl h, fun _ => c_begin hN hA hc (by omega) hgs (fun ξ ca' h1 h2 h3 h4 _ h5 => ?_)⟩
    have hlen : ((pal b F n ++ [rgn b F n]).length : Int) = ((pal b F n).length : Int) + 1 := by simp
    refine c_note20 (a := (pal b F n).length) h1 h5 (by rw [hlen]; omega) (by simp; omega) (by simp) (fun x _ => ?_) (fun h => absurd (if_pos rfl) h) ⟨by omega, by omega⟩ (fun ζ y1 y2 y3 y4 y5 => ?_)
    · have := hcn x
      split
      · omega
      · exact this
    · have hk := k ζ ca' y1 (by rw [ep, hlen]; omega) (jfr_trans h3 (jfr_mono y2 (fun t y i h => Or.inl h))) (fun i i0 i1 => ⟨(y3 i).trans (h4 i i0 i1).1, (y4 i).trans (h4 i i0 i1).2⟩) ?_
      · rw [ea] at hk
        exact hk
      · unfold ASn
        rw [ep]
        refine AS_congr y5 (fun x hx => ?_)
        have hx' : x < (pal b F n).length + 1 := by simpa using hx
        by_cases hxl : x = (pal b F n).length
        · subst hxl
          have gx : (pal b F (n + 1)).getD (pal b F n).length [] = rgn b F n := by
            rw [ep, gda_r (Nat.le_refl _)]
            simp
          have w1 : pwi b F (rgn b F n) (n + 1) = (n : Int) := by
            rw [pwi_s]
            rw [if_pos ⟨rfl, Or.inl zw⟩]
          have e1 : cnF b F (n + 1) (pal b F n).length = 1 := by
            show pcn b F ((pal b F (n + 1)).getD (pal b F n).length []) (n + 1) = 1
            rw [gx]
            rw [pcn_s]
            rw [if_pos rfl, z0]
            rfl
          have e2 : flF b F (n + 1) (pal b F n).length = pflow b (F.getD n []) := by
            show pfl b F ((pal b F (n + 1)).getD (pal b F n).length []) (n + 1) = _
            rw [gx]
            rw [pfl_s]
            rw [if_pos rfl, zf, Int.zero_add]
          have e3 : wiF b F (n + 1) (pal b F n).length = (n : Int) := by
            show pwi b F ((pal b F (n + 1)).getD (pal b F n).length []) (n + 1) = _
            rw [gx]
            exact w1
          refine ⟨?_, ?_, fun _ => ⟨?_, ?_⟩⟩
          · rw [e1]; simp
          · rw [e2]; simp
          · rw [e3]; simp
          · show _ = spn b F (wiF b F (n + 1) (pal b F n).length)
            rw [e3]; simp
        · have gx : (pal b F (n + 1)).getD x [] = (pal b F n).getD x [] := by rw [ep, gda_l (by omega)]
          have hne : rgn b F n ≠ (pal b F n).getD x [] := fun e => hm (e ▸ gdl_mem (by omega))
          have e1 : cnF b F (n + 1) x = cnF b F n x := by
            show pcn b F ((pal b F (n + 1)).getD x []) (n + 1) = _
            rw [gx]
            rw [pcn_s]
            rw [if_neg hne]
          have e2 : flF b F (n + 1) x = flF b F n x := by
            show pfl b F ((pal b F (n + 1)).getD x []) (n + 1) = _
            rw [gx]
            rw [pfl_s]
            rw [if_neg hne]
          have e3 : wiF b F (n + 1) x = wiF b F n x := by
            show pwi b F ((pal b F (n + 1)).getD x []) (n + 1) = _
            rw [gx]
            rw [pwi_s]
            rw [if_neg (fun h => hne h.1)]
          refine ⟨?_, ?_, fun _ => ⟨?_, ?_⟩⟩
          · rw [e1]; simp [hxl]
          · rw [e2]; simp [hxl]
          · rw [e3]; simp [hxl]
          · show _ = spn b F (wiF b F (n + 1) x)
            rw [e3]; simp [hxl]
