/-! freeze -/
theorem pop_full : ∀ n : Nat, n < 13 → pop12 (2 ^ n - 1) = n := by decide
theorem pop_less0 : ((List.range 13).all fun n => (List.range (2 ^ n - 1)).all fun s => decide (pop12 s < n)) = true := by decide +kernel
theorem pop_less {n s : Nat} (hn : n < 13) (hs : s < 2 ^ n - 1) : pop12 s < n :=
  of_decide_eq_true (List.all_eq_true.mp (List.all_eq_true.mp pop_less0 n (List.mem_range.mpr hn)) s (List.mem_range.mpr hs))
theorem pow_lt13 : ∀ n : Nat, n < 13 → 1 ≤ 2 ^ n ∧ 2 ^ n ≤ 4096 := by decide
abbrev fc (b : BK) (F : LL) : Int → Int → Int := fun best s => if pop12 s.toNat < pop12 best.toNat ∧ pht b F s = true then s else best
abbrev fm (b : BK) (F : LL) : Int → Int → Int := fun best s => if (best = -1 ∨ pop12 s.toNat < pop12 best.toNat) ∧ pht b F s = true then s else best
abbrev sall (b : BK) : Nat := 2 ^ (b 5 0).toNat - 1
theorem sall_in {b : BK} (hv : vb b) : sall b < 4096 ∧ sall b + 1 = 2 ^ (b 5 0).toNat := by
  have hn := vb_n hv
  have p := pow_lt13 (b 5 0).toNat (by omega)
  show 2 ^ (b 5 0).toNat - 1 < 4096 ∧ 2 ^ (b 5 0).toNat - 1 + 1 = 2 ^ (b 5 0).toNat
  omega
def frz (b : BK) (F : LL) : Int := fup (fc b F) (sall b) 0 (sall b : Int)
theorem sall_shl {b : BK} (hv : vb b) : jshl 1 (b 5 0) = (sall b : Int) + 1 := by
  have hn := vb_n hv
  have s := sall_in hv
  have e : b 5 0 = (((b 5 0).toNat : Nat) : Int) := by omega
  rw [e]
  have := shl_n (n := 1) (k := (b 5 0).toNat) (by omega) (by rw [Nat.one_mul, ← s.2]; omega)
  rw [show ((1 : Nat) : Int) = 1 from rfl, Nat.one_mul, ← s.2] at this
  rw [this]
  have e2 : sall b = 2 ^ (((((b 5 0).toNat : Nat) : Int)).toNat) - 1 := rfl
  omega
theorem f_rel {b : BK} (hv : vb b) (F : LL) : ∀ j : Nat, j ≤ sall b → (fup (fc b F) j 0 (sall b : Int) = (sall b : Int) ∧ fup (fm b F) j 0 (-1) = -1) ∨ (fup (fm b F) j 0 (-1) = fup (fc b F) j 0 (sall b : Int) ∧ 0 ≤ fup (fc b F) j 0 (sall b : Int) ∧ fup (fc b F) j 0 (sall b : Int) < j)
  | 0, _ => Or.inl ⟨rfl, rfl⟩
  | j + 1, hj => by
    have hn := vb_n hv
    have sl := sall_in hv
    have pf := pop_full (b 5 0).toNat (by omega)
    have pl := pop_less (n := (b 5 0).toNat) (s := j) (by omega) (by show j < sall b; omega)
    have ih := f_rel hv F j (by omega)
    rw [fup_succ, fup_succ, show (0 : Int) + (j : Int) = (j : Int) by omega]
    rcases ih with ⟨h1, h2⟩ | ⟨h1, h2, h3⟩
    · rw [h1, h2]
      by_cases hp : pht b F (j : Int) = true
      · right
        have e1 : fc b F (sall b : Int) (j : Int) = (j : Int) := if_pos ⟨by rw [Int.toNat_natCast, Int.toNat_natCast]; show _ < pop12 (2 ^ (b 5 0).toNat - 1); omega, hp⟩
        have e2 : fm b F (-1) (j : Int) = (j : Int) := if_pos ⟨Or.inl rfl, hp⟩
        rw [e1, e2]
        exact ⟨rfl, by omega, by omega⟩
      · left
        have e1 : fc b F (sall b : Int) (j : Int) = (sall b : Int) := if_neg (fun h => hp h.2)
        have e2 : fm b F (-1) (j : Int) = -1 := if_neg (fun h => hp h.2)
        exact ⟨e1, e2⟩
    · right
      rw [h1]
      generalize fup (fc b F) j 0 (sall b : Int) = x at h2 h3 ⊢
      have e1 : fm b F x (j : Int) = fc b F x (j : Int) := by
        show (if (x = -1 ∨ pop12 (j : Int).toNat < pop12 x.toNat) ∧ pht b F (j : Int) = true then (j : Int) else x) = (if pop12 (j : Int).toNat < pop12 x.toNat ∧ pht b F (j : Int) = true then (j : Int) else x)
        by_cases hc : pop12 (j : Int).toNat < pop12 x.toNat ∧ pht b F (j : Int) = true
        · rw [if_pos ⟨Or.inr hc.1, hc.2⟩, if_pos hc]
        · rw [if_neg hc, if_neg (fun h => hc ⟨h.1.resolve_left (by omega), h.2⟩)]
      rw [e1]
      refine ⟨rfl, ?_⟩
      show 0 ≤ (if pop12 (j : Int).toNat < pop12 x.toNat ∧ pht b F (j : Int) = true then (j : Int) else x) ∧ (if pop12 (j : Int).toNat < pop12 x.toNat ∧ pht b F (j : Int) = true then (j : Int) else x) < ((j + 1 : Nat) : Int)
      split
      · omega
      · omega
theorem pht_all {b : BK} (hv : vb b) {F : LL} (hg : gd b F) : pht b F (sall b : Int) = true := by
  refine pht_ok (fun j h0 h1 => decide_eq_false (fun he => ?_))
  have hn := vb_n hv
  have sl := sall_in hv
  have q := ral_mem hv hg ⟨h0, h1⟩
  have sm := (ral_sm hv hg ⟨h0, h1⟩).1
  have hx := getD_mem (l := ral b F j) (i := 0) (by omega)
  generalize (ral b F j).getD 0 0 = x at hx
  have hx2 := q.2 x hx
  have b1 : bt (pmk (ral b F j)) x.toNat = true := ((pmk_bt sm).2 x.toNat (by omega)).2 (by rw [show ((x.toNat : Nat) : Int) = x by omega]; exact hx)
  have b2 : bt (sall b : Int) x.toNat = true := by
    rw [bt_nat x.toNat (by omega)]
    show (2 ^ (b 5 0).toNat - 1).testBit x.toNat = true
    rw [Nat.testBit_two_pow_sub_one]
    exact decide_eq_true (by omega)
  have b3 := bt_and (pmk (ral b F j)) (sall b : Int) x.toNat
  rw [he, bt_zero, b1, b2] at b3
  cases b3
theorem fm_end {b : BK} (hv : vb b) {F : LL} (hg : gd b F) : fup (fm b F) (sall b + 1) 0 (-1) = frz b F := by
  have hn := vb_n hv
  have sl := sall_in hv
  have pf := pop_full (b 5 0).toNat (by omega)
  rw [fup_succ, show (0 : Int) + (sall b : Int) = (sall b : Int) by omega]
  unfold frz
  rcases f_rel hv F (sall b) (Nat.le_refl _) with ⟨h1, h2⟩ | ⟨h1, h2, h3⟩
  · rw [h1, h2]
    exact if_pos ⟨Or.inl rfl, pht_all hv hg⟩
  · rw [h1]
    have pl := pop_less (n := (b 5 0).toNat) (s := (fup (fc b F) (sall b) 0 (sall b : Int)).toNat) (by omega) (by show _ < sall b; omega)
    refine if_neg (fun h => ?_)
    rcases h.1 with h | h
    · omega
    · rw [Int.toNat_natCast] at h
      have e : pop12 (sall b) = (b 5 0).toNat := pf
      omega
def oFreeze (b : BK) : Int × Int := (frz b (FR b), 0)
theorem pop_in {n : Nat} (h : n < 4096) : pop12 n ≤ 12 := by
  have := List.length_filter_le (fun k => n.testBit k) (List.range 12)
  rw [List.length_range] at this
  exact this
theorem fc_in {b : BK} (hv : vb b) {F : LL} : ∀ i x, (0 : Int) ≤ i → i < (sall b : Int) → (0 ≤ x ∧ x < 4096) → (fun (_ : Int) (x : Int) => 0 ≤ x ∧ x < 4096) (i + 1) (fc b F x i) := by
  intro i x h0 h1 h2
  have sl := sall_in hv
  show 0 ≤ (if pop12 i.toNat < pop12 x.toNat ∧ pht b F i = true then i else x) ∧ (if pop12 i.toNat < pop12 x.toNat ∧ pht b F i = true then i else x) < 4096
  split
  · omega
  · exact h2
theorem fm_in {b : BK} (hv : vb b) {F : LL} : ∀ i x, (0 : Int) ≤ i → i < (sall b : Int) + 1 → (-1 ≤ x ∧ x < 4096) → (fun (_ : Int) (x : Int) => -1 ≤ x ∧ x < 4096) (i + 1) (fm b F x i) := by
  intro i x h0 h1 h2
  have sl := sall_in hv
  show -1 ≤ (if (x = -1 ∨ pop12 i.toNat < pop12 x.toNat) ∧ pht b F i = true then i else x) ∧ (if (x = -1 ∨ pop12 i.toNat < pop12 x.toNat) ∧ pht b F i = true then i else x) < 4096
  split
  · omega
  · exact h2
theorem jpop_z {x : Int} (h : 0 ≤ x ∧ x < 4096) : jpop x = (pop12 x.toNat : Int) := by
  have := jpop_set x.toNat (by omega)
  rw [show ((x.toNat : Nat) : Int) = x by omega] at this
  exact this
theorem c_freeze {d : Nat} {b : BK} {A K : List BK} {c : Int} {ν : JM} {Q : JQ} (hV : VS b A K) (h : CI b A K c ν) (k : KC b A K c ν Q (oFreeze b)) : wp true (d + 14) 165 0 [(11, 0)] [] ν Q := by
  unfold oFreeze at k
  have hn := vb_n hV.1
  have sl := sall_in hV.1
  refine s_X10_freeze_0 (d + 13) _ _ (c_fresh hV h (fun ξ h' hR _ hf => ?_))
  rw [isC_n h'.1]
  refine s_X0_fewestInAll_0 _ _ _ _ ?_
  rw [show jmin (b 5 0) 12 = b 5 0 by rw [jmin_eq]; split <;> omega, sall_shl hV.1, Int.add_sub_cancel]
  refine ⟨⟨by omega, by omega⟩, ⟨by omega, by omega⟩, fup_loop (W := fun i (x : Int) => wp true (d + 13) 21 16 [(27, 0), (0, b 5 0), (0, (sall b : Int)), (0, x), (0, i)] [] ξ _) (g := fc b (FR b)) (fun _ x => 0 ≤ x ∧ x < 4096) (lo := 0) (n := (sall b : Int)) (fc_in hV.1) (fun i x i0 i1 hx hW => ?_) (sall b) 0 (sall b : Int) (by omega) (by omega) ⟨by omega, by omega⟩ (fun hx => ?_)⟩
  · have hx' : 0 ≤ x ∧ x < 4096 := hx
    have pi := pop_in (n := i.toNat) (by omega)
    have px := pop_in (n := x.toNat) (by omega)
    refine s_X0_fewestInAll_16 (d + 12) _ _ _ _ _ _ ⟨⟨⟨by omega, by omega⟩, ⟨by omega, by omega⟩⟩, fun h => absurd h (by omega), fun _ => w_bitCount (w_bitCount ?_)⟩
    rw [jpop_z ⟨i0, by omega⟩, jpop_z hx']
    refine ⟨⟨⟨by omega, by omega⟩, ⟨by omega, by omega⟩⟩, fun hle => ?_, fun hlt => c_allMeet hV.1 (FR_gd hV.1) hR (fun hp => ⟨by decide, fun h => absurd h (by decide), fun _ => ?_⟩) (fun hp => ⟨by decide, fun _ => ?_, fun h => absurd rfl h⟩)⟩
    · rw [show fc b (FR b) x i = x from if_neg (fun h => by omega)] at hW
      exact hW
    · rw [show fc b (FR b) x i = i from if_pos ⟨by omega, hp⟩] at hW
      exact hW
    · rw [show fc b (FR b) x i = x from if_neg (fun h => by rw [hp] at h; cases h.2)] at hW
      exact hW
  · exact s_X0_fewestInAll_16 (d + 12) _ _ _ _ _ _ ⟨⟨⟨by omega, by omega⟩, ⟨by omega, by omega⟩⟩, fun _ => KC_fin k h' hf, fun h => absurd (Int.le_refl _) h⟩
theorem m_freeze {d : Nat} {b : BK} {A K : List BK} {ν : JM} {Q : JQ} (hV : VS b A K) (h : MI b A K ν) (k : KM b A K ν Q (oFreeze b)) : wp true (d + 13) 311 0 [(40, 0), (9, 0), (9, 0)] [] ν Q := by
  unfold oFreeze at k
  rw [← fm_end hV.1 (FR_gd hV.1)] at k
  have hn := vb_n hV.1
  have sl := sall_in hV.1
  refine s_X11_freeze_0 (d + 12) _ _ (m_layI hV h (fun ξ h' hL hf _ => ?_))
  refine fup_loop (W := fun i (x : Int) => wp true (d + 13) 311 8 [(40, 0), (0, x), (0, i)] [] ξ _) (g := fm b (FR b)) (fun _ x => -1 ≤ x ∧ x < 4096) (lo := 0) (n := (sall b : Int) + 1) (fm_in hV.1) (fun i x i0 i1 hx hW => ?_) (sall b + 1) 0 (-1) (by omega) (by omega) ⟨by omega, by omega⟩ (fun hx => ?_)
  · have hx' : -1 ≤ x ∧ x < 4096 := hx
    refine s_X11_freeze_8 (d + 12) _ _ _ _ ?_
    rw [isM_n h'.1, sall_shl hV.1]
    refine ⟨by omega, by omega, ⟨⟨by omega, by omega⟩, ⟨by omega, by omega⟩⟩, fun h => absurd h (by omega), fun _ => ⟨Or.inr ⟨⟨by omega, by omega⟩, ⟨by omega, by omega⟩⟩, fun e => m_isHit hV.1 (FR_gd hV.1) hL (FR_le hV.1) (fun hp => ⟨by decide, fun h => absurd h (by decide), fun _ => ?_⟩) (fun hp => ⟨by decide, fun _ => ?_, fun h => absurd rfl h⟩), fun hne => ?_⟩⟩
    · rw [show fm b (FR b) x i = i from if_pos ⟨Or.inl e, hp⟩] at hW
      exact hW
    · rw [show fm b (FR b) x i = x from if_neg (fun h => by rw [hp] at h; cases h.2)] at hW
      exact hW
    · have pi := pop_in (n := i.toNat) (by omega)
      have px := pop_in (n := x.toNat) (by omega)
      have bi := m_bits (d := d + 12) (n := i.toNat) (μ := ξ) (by omega) (Q := fun r2 μ2 => wp true (d + 12) 195 0 [(0, x), (9, 0), (9, 0)] [] μ2 (fun r3 μ3 => (inR r2 ∧ inR r3) ∧ (r3 ≤ r2 → wp true (d + 12 + 1) 311 8 [(40, 0), (0, x), (0, (i + 1))] [] μ3 Q) ∧ (¬ (r3 ≤ r2) → wp true (d + 12) 312 0 [(40, 0), (0, i), (9, 0)] [] μ3 (fun r4 μ4 => (r4 = 0 ∨ inR r4 ∧ inR 0) ∧ (r4 = 0 → wp true (d + 12 + 1) 311 8 [(40, 0), (0, x), (0, (i + 1))] [] μ4 Q) ∧ (¬ (r4 = 0) → wp true (d + 12 + 1) 311 8 [(40, 0), (0, i), (0, (i + 1))] [] μ4 Q)))))
      rw [show ((i.toNat : Nat) : Int) = i by omega] at bi
      refine bi ?_
      have bx := m_bits (d := d + 12) (n := x.toNat) (μ := ξ) (by omega) (Q := fun r3 μ3 => (inR (pop12 i.toNat : Int) ∧ inR r3) ∧ (r3 ≤ (pop12 i.toNat : Int) → wp true (d + 12 + 1) 311 8 [(40, 0), (0, x), (0, (i + 1))] [] μ3 Q) ∧ (¬ (r3 ≤ (pop12 i.toNat : Int)) → wp true (d + 12) 312 0 [(40, 0), (0, i), (9, 0)] [] μ3 (fun r4 μ4 => (r4 = 0 ∨ inR r4 ∧ inR 0) ∧ (r4 = 0 → wp true (d + 12 + 1) 311 8 [(40, 0), (0, x), (0, (i + 1))] [] μ4 Q) ∧ (¬ (r4 = 0) → wp true (d + 12 + 1) 311 8 [(40, 0), (0, i), (0, (i + 1))] [] μ4 Q))))
      rw [show ((x.toNat : Nat) : Int) = x by omega] at bx
      refine bx ⟨⟨⟨by omega, by omega⟩, ⟨by omega, by omega⟩⟩, fun hle => ?_, fun hlt => m_isHit hV.1 (FR_gd hV.1) hL (FR_le hV.1) (fun hp => ⟨by decide, fun h => absurd h (by decide), fun _ => ?_⟩) (fun hp => ⟨by decide, fun _ => ?_, fun h => absurd rfl h⟩)⟩
      · rw [show fm b (FR b) x i = x from if_neg (fun h => by rcases h.1 with h | h <;> omega)] at hW
        exact hW
      · rw [show fm b (FR b) x i = i from if_pos ⟨Or.inr (by omega), hp⟩] at hW
        exact hW
      · rw [show fm b (FR b) x i = x from if_neg (fun h => by rw [hp] at h; cases h.2)] at hW
        exact hW
  · refine s_X11_freeze_8 (d + 12) _ _ _ _ ?_
    rw [isM_n h'.1, sall_shl hV.1]
    exact ⟨by omega, by omega, ⟨⟨by omega, by omega⟩, ⟨by omega, by omega⟩⟩, fun _ => KM_fin hV k h' hf, fun h => absurd (Int.le_refl _) h⟩
