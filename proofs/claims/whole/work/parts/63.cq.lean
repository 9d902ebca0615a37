/-! the class's answers about rounds and alarms -/
theorem nlp {α : Type} {W : Int → α → Prop} {f : Nat → α} {N : Nat} (step : ∀ n : Nat, n < N → W ((n : Int) + 1) (f (n + 1)) → W (n : Int) (f n)) (fin : W (N : Int) (f N)) : W 0 (f 0) := by
  have key : ∀ (q n : Nat), n + q = N → W (n : Int) (f n) := by
    intro q
    induction q with
    | zero =>
      intro n h
      have : n = N := by omega
      subst this
      exact fin
    | succ q ih =>
      intro n h
      refine step n (by omega) ?_
      rw [show (n : Int) + 1 = ((n + 1 : Nat) : Int) by omega]
      exact ih (n + 1) (by omega)
  exact key N 0 (by omega)
theorem fup_sh (f : Int → Int) : ∀ (k : Nat) (i a : Int), fup (fun a t => a + f t) k i a = a + fup (fun a t => a + f t) k i 0
  | 0, i, a => by show a = a + 0; omega
  | k + 1, i, a => by
    show fup (fun a t => a + f t) k (i + 1) (a + f i) = a + fup (fun a t => a + f t) k (i + 1) (0 + f i)
    rw [fup_sh f k (i + 1) (a + f i), fup_sh f k (i + 1) (0 + f i)]
    omega
theorem fup_at {f f' : Int → Int} {t0 c : Int} : ∀ (k : Nat) (i : Int), i ≤ t0 → t0 < i + k → f' t0 = f t0 + c → (∀ t, t ≠ t0 → f' t = f t) → fup (fun a t => a + f' t) k i 0 = fup (fun a t => a + f t) k i 0 + c
  | 0, i, h1, h2, _, _ => by omega
  | k + 1, i, h1, h2, h3, h4 => by
    show fup (fun a t => a + f' t) k (i + 1) (0 + f' i) = fup (fun a t => a + f t) k (i + 1) (0 + f i) + c
    rw [fup_sh f' k (i + 1) (0 + f' i), fup_sh f k (i + 1) (0 + f i)]
    by_cases e : i = t0
    · subst e
      rw [h3, fup_congr (g := fun a t => a + f' t) (g' := fun a t => a + f t) (lo := i + 1) (n := i + 1 + k) (fun a t l1 l2 => by rw [h4 t (by omega)]) k (i + 1) 0 (by omega) rfl]
      omega
    · rw [h4 i e, fup_at k (i + 1) (by omega) (by omega) h3 h4]
      omega
/-- of the first n rounds, those whose last transfer's time lies between -/
def pst (b : BK) (F : LL) (lo hi : Int) : Nat → Int
  | 0 => 0
  | n + 1 => pst b F lo hi n + if lo ≤ b 2 (rls (F.getD n [])) ∧ b 2 (rls (F.getD n [])) ≤ hi then 1 else 0
theorem pst_in (b : BK) (F : LL) (lo hi : Int) : ∀ n, 0 ≤ pst b F lo hi n ∧ pst b F lo hi n ≤ n
  | 0 => by show (0 : Int) ≤ 0 ∧ (0 : Int) ≤ ((0 : Nat) : Int); omega
  | n + 1 => by
    have := pst_in b F lo hi n
    have e : pst b F lo hi (n + 1) = pst b F lo hi n + if lo ≤ b 2 (rls (F.getD n [])) ∧ b 2 (rls (F.getD n [])) ≤ hi then 1 else 0 := rfl
    rw [e]
    split <;> omega
/-- by transfers as by rounds -/
theorem pst_ex {b : BK} {F : LL} (hg : gd b F) (lo hi : Int) : ∀ n, n ≤ F.length → fup (fun c t => c + if lo ≤ b 2 t ∧ b 2 t ≤ hi then pcl F t n else 0) (nm b) 0 0 = pst b F lo hi n
  | 0, _ => by
    refine fup_skip (nm b) 0 (fun t _ _ => ?_)
    have e : pcl F t 0 = 0 := rfl
    rw [e]
    split <;> rfl
  | n + 1, hn => by
    have ih := pst_ex hg lo hi n (by omega)
    have ri := rls_in (gd_get hg (r := n) (by omega))
    have e : pst b F lo hi (n + 1) = pst b F lo hi n + if lo ≤ b 2 (rls (F.getD n [])) ∧ b 2 (rls (F.getD n [])) ≤ hi then 1 else 0 := rfl
    rw [e, ← ih]
    refine fup_at (t0 := rls (F.getD n [])) (nm b) 0 ri.1 (by have : (nm b : Int) = ((b 5 1).toNat : Int) := rfl; omega) ?_ (fun t ht => ?_)
    · show (if lo ≤ b 2 (rls (F.getD n [])) ∧ b 2 (rls (F.getD n [])) ≤ hi then (if rls (F.getD n []) = rls (F.getD n []) then pcl F (rls (F.getD n [])) n + 1 else pcl F (rls (F.getD n [])) n) else 0) = _
      rw [if_pos rfl]
      split <;> omega
    · show (if lo ≤ b 2 t ∧ b 2 t ≤ hi then (if rls (F.getD n []) = t then pcl F t n + 1 else pcl F t n) else 0) = _
      rw [if_neg (show ¬ rls (F.getD n []) = t from fun e => ht e.symm)]
theorem c_closedBetween {d : Nat} {b : BK} {F : LL} {ν : JM} {Q : JQ} {lo hi : Int} (hv : vb b) (hg : gd b F) (hR : RS b F ν) (hlo : inR lo) (hhi : inR hi) (k : Q (pst b F lo hi F.length) ν) : wp true d 115 0 [(22, 0), (0, lo), (0, hi), (9, 0), (9, 0)] [] ν Q := by
  have hm := vb_m hv
  have hC := hR.1
  have hu := hR.2.2.2.2.2.1
  rw [← pst_ex hg lo hi F.length (Nat.le_refl _)] at k
  refine s_X8_closedBetween_0 _ _ _ _ _ (fup_lp (W := fun i (c : Int) => wp true d 115 5 [(22, 0), (0, lo), (0, hi), (0, c), (0, i)] [] ν Q) (g := fun c t => c + if lo ≤ b 2 t ∧ b 2 t ≤ hi then pcl F t F.length else 0) (lo := 0) (n := b 5 1) (fun i c h0 h1 hW => ?_) (nm b) 0 0 (by omega) (nm_eq hv) ?_)
  · have t := isC_t hC h0 h1
    have tt := vb_t hv h0 h1
    refine s_X8_closedBetween_5 _ _ _ _ _ _ _ ?_
    rw [isC_m hC, t.2.2.1, (hu i h0 (by omega)).2]
    refine ⟨⟨⟨by omega, by omega⟩, ⟨by omega, by omega⟩⟩, fun h => absurd h (by omega), fun _ => ⟨by omega, by omega, ⟨⟨by omega, by omega⟩, hlo⟩, fun h => ?_, fun h => ⟨by omega, by omega, ⟨⟨by omega, by omega⟩, hhi⟩, fun h2 => ?_, fun h2 => ⟨by omega, by omega, ?_⟩⟩⟩⟩
    · rw [if_neg (fun h => by omega), Int.add_zero] at hW
      exact hW
    · rw [if_neg (fun h => by omega), Int.add_zero] at hW
      exact hW
    · rw [if_pos (by omega)] at hW
      exact hW
  · refine s_X8_closedBetween_5 _ _ _ _ _ _ _ ?_
    rw [isC_m hC]
    exact ⟨⟨⟨by omega, by omega⟩, ⟨by omega, by omega⟩⟩, fun _ => k, fun h => absurd h (by omega)⟩
/-- the round that is the i-th that a transfer closes, of those from n on; -1: there is none -/
def pcb (F : LL) (t : Int) : Nat → Nat → Int → Int
  | 0, _, _ => -1
  | q + 1, n, i => if rls (F.getD n []) = t then (if i = 0 then (n : Int) else pcb F t q (n + 1) (i - 1)) else pcb F t q (n + 1) i
theorem c_closedBy {d : Nat} {b : BK} {F : LL} {ν : JM} {Q : JQ} {t i : Int} (hv : vb b) (hg : gd b F) (hR : RS b F ν) (ht : inR t) (hi : 0 ≤ i ∧ inR i) (k : Q (pcb F t F.length 0 i) ν) : wp true (d + 2) 114 0 [(22, 0), (0, t), (0, i), (9, 0), (9, 0)] [] ν Q := by
  have hm := vb_m hv
  have hRC := hR.2.1
  have hF := hRC.2.1
  have key : ∀ (q n : Nat) (s : Int), n + q = F.length → 0 ≤ s → s ≤ n → s ≤ i → Q (pcb F t q n (i - s)) ν → wp true (d + 2) 114 5 [(22, 0), (0, t), (0, i), (0, s), (0, (n : Int))] [] ν Q := by
    intro q
    induction q with
    | zero =>
      intro n s h1 h2 h3 h4 h5
      refine s_X8_closedBy_5 (d + 1) _ _ _ _ _ _ ?_
      rw [hRC.1]
      exact ⟨⟨⟨by omega, by omega⟩, ⟨by omega, by omega⟩⟩, fun _ => h5, fun h => absurd (by omega) h⟩
    | succ q ih =>
      intro n s h1 h2 h3 h4 h5
      have nn : ((n : Int)).toNat = n := by omega
      have ri := rls_in (gd_get hg (r := n) (by omega))
      refine s_X8_closedBy_5 (d + 1) _ _ _ _ _ _ ?_
      rw [hRC.1]
      refine ⟨⟨⟨by omega, by omega⟩, ⟨by omega, by omega⟩⟩, fun h => absurd h (by omega), fun _ => w_lastOf hv hRC hg ⟨by omega, by omega⟩ ?_⟩
      rw [nn, show (n : Int) + 1 = ((n + 1 : Nat) : Int) by omega]
      unfold pcb at h5
      refine ⟨Or.inr ⟨⟨by omega, by omega⟩, ht⟩, fun h => ?_, fun h => ⟨Or.inr ⟨⟨by omega, by omega⟩, hi.2⟩, fun h6 => ?_, fun h6 => ?_⟩⟩
      · rw [if_neg h] at h5
        exact ih (n + 1) s (by omega) h2 (by omega) h4 h5
      · rw [if_pos (by omega), if_neg (by omega)] at h5
        exact ih (n + 1) (s + 1) (by omega) (by omega) (by omega) (by omega) (by rw [show i - (s + 1) = i - s - 1 by omega]; exact h5)
      · rw [if_pos (by omega), if_pos (by omega)] at h5
        exact h5
  refine s_X8_closedBy_0 _ _ _ _ _ (key F.length 0 0 (by omega) (by omega) (by omega) hi.1 ?_)
  rw [Int.sub_zero]
  exact k
/-- of an alarm, its rounds that go through a transfer -/
def ptl (b : BK) (F : LL) (a t : Int) : Nat → Int
  | 0 => 0
  | n + 1 => if (aix b F n : Int) = a ∧ t ∈ F.getD n [] then ptl b F a t n + 1 else ptl b F a t n
theorem ptl_in (b : BK) (F : LL) (a t : Int) : ∀ n, 0 ≤ ptl b F a t n ∧ ptl b F a t n ≤ n
  | 0 => by show (0 : Int) ≤ 0 ∧ (0 : Int) ≤ ((0 : Nat) : Int); omega
  | n + 1 => by
    have := ptl_in b F a t n
    have e : ptl b F a t (n + 1) = if (aix b F n : Int) = a ∧ t ∈ F.getD n [] then ptl b F a t n + 1 else ptl b F a t n := rfl
    rw [e]
    split <;> omega
/-- which alarm a round is of, as the class has it -/
theorem RS_of {b : BK} {F : LL} {ν : JM} (h : RS b F ν) {n : Nat} (hn : n < F.length) : 1 ≤ ν 22 0 6 ∧ (n : Int) < ν 51 (ν 22 0 6 - 1) 0 ∧ ν 50 (ν 22 0 6 - 1) (n : Int) = (aix b F n : Int) := by
  obtain ⟨_, _, ⟨cp, ca, hN, hc, _⟩, _, ha, _⟩ := h
  have q1 := hN.1.2.2.1 1 (by omega)
  have e1 : qp ν 1 = ν 22 0 6 - 1 := rfl
  rw [e1] at q1
  have l1 : ν 51 (ν 22 0 6 - 1) 0 = cp := q1.2.2.1
  exact ⟨by omega, by rw [l1]; omega, ha n hn⟩
theorem aix_in (b : BK) (F : LL) {n : Nat} (hn : n < F.length) : 0 ≤ (aix b F n : Int) ∧ (aix b F n : Int) < nal b F := by
  have := (aix_lt b F hn).1
  have e : nal b F = ((pal b F F.length).length : Int) := rfl
  omega
abbrev P38 : Nat → Int → Int → Prop := fun t y _ => t = 38 ∧ y = 0
theorem c_tally {d : Nat} {b : BK} {F : LL} {ν : JM} {Q : JQ} {a : Int} (hv : vb b) (hg : gd b F) (hR : RS b F ν) (ha : inR a) (k : ∀ ξ, jfr P38 ν ξ → (∀ t, 0 ≤ t → t < 32 → ξ 38 0 t = ptl b F a t F.length) → Q 0 ξ) : wp true (d + 2) 118 0 [(22, 0), (0, a), (9, 0), (9, 0), (9, 0)] [] ν Q := by
  have hm := vb_m hv
  have hF := hR.2.1.2.1
  have second : ∀ (q n : Nat) (ξ : JM) (u3 u4 : JV), n + q = F.length → jfr P38 ν ξ → (∀ t, 0 ≤ t → t < 32 → ξ 38 0 t = ptl b F a t n) → wp true (d + 2) 118 23 [(22, 0), (0, a), (0, (n : Int)), u3, u4] [] ξ Q := by
    intro q
    induction q with
    | zero =>
      intro n ξ u3 u4 h1 h2 h3
      have en : n = F.length := by omega
      subst en
      have hRx : RS b F ξ := RS_fr hR (fun t y i h => h2 _ _ _ (by omega))
      refine s_X8_tallyAlarm_23 (d + 1) _ _ _ _ _ _ ?_
      rw [hRx.2.1.1]
      exact ⟨⟨⟨by omega, by omega⟩, ⟨by omega, by omega⟩⟩, fun _ => k ξ h2 h3, fun h => absurd (Int.le_refl _) h⟩
    | succ q ih =>
      intro n ξ u3 u4 h1 h2 h3
      have nn : ((n : Int)).toNat = n := by omega
      have hn : n < F.length := by omega
      have hRx : RS b F ξ := RS_fr hR (fun t y i h => h2 _ _ _ (by omega))
      have ao := RS_of hRx hn
      have ai := aix_in b F hn
      have na := nal_in b F hF
      have g := gd_get hg hn
      have gl := gr_len g
      have asc := gr_asc hv g
      refine s_X8_tallyAlarm_23 (d + 1) _ _ _ _ _ _ ?_
      rw [hRx.2.1.1, ao.2.2]
      refine ⟨⟨⟨by omega, by omega⟩, ⟨by omega, by omega⟩⟩, fun h => absurd h (by omega), fun _ => ⟨ao.1, by omega, ao.2.1, Or.inr ⟨⟨by omega, by omega⟩, ha⟩, fun hne => ?_, fun he => w_lengthOf hv hRx.2.1 hg ⟨by omega, by omega⟩ ?_⟩⟩
      · refine s_X8_tallyAlarm_54 (d + 1) _ _ _ _ _ _ ⟨⟨⟨by omega, by omega⟩, ⟨by omega, by omega⟩⟩, fun _ => ?_, fun h => absurd (Int.le_refl _) h⟩
        rw [show (n : Int) + 1 = ((n + 1 : Nat) : Int) by omega]
        refine ih (n + 1) ξ _ _ (by omega) h2 (fun t t0 t1 => ?_)
        rw [h3 t t0 t1]
        show _ = if (aix b F n : Int) = a ∧ t ∈ F.getD n [] then ptl b F a t n + 1 else ptl b F a t n
        rw [if_neg (fun h => hne h.1)]
      · rw [nn]
        have he' : (aix b F n : Int) = a := by omega
        have inner : ∀ (p i : Nat) (ζ : JM), i + p = (F.getD n []).length → jfr P38 ν ζ → (∀ t, 0 ≤ t → t < 32 → ζ 38 0 t = ptl b F a t n + if t ∈ (F.getD n []).take i then 1 else 0) → wp true (d + 2) 118 54 [(22, 0), (0, a), (0, (n : Int)), (0, ((F.getD n []).length : Int)), (0, (i : Int))] [] ζ Q := by
          intro p
          induction p with
          | zero =>
            intro i ζ y1 y2 y3
            have ei : i = (F.getD n []).length := by omega
            subst ei
            rw [List.take_length] at y3
            refine s_X8_tallyAlarm_54 (d + 1) _ _ _ _ _ _ ⟨⟨⟨by omega, by omega⟩, ⟨by omega, by omega⟩⟩, fun _ => ?_, fun h => absurd (Int.le_refl _) h⟩
            rw [show (n : Int) + 1 = ((n + 1 : Nat) : Int) by omega]
            refine ih (n + 1) ζ _ _ (by omega) y2 (fun t t0 t1 => ?_)
            rw [y3 t t0 t1]
            show _ = if (aix b F n : Int) = a ∧ t ∈ F.getD n [] then ptl b F a t n + 1 else ptl b F a t n
            by_cases hm2 : t ∈ F.getD n []
            · rw [if_pos hm2, if_pos ⟨he', hm2⟩]
            · rw [if_neg hm2, if_neg (fun h => hm2 h.2)]
              omega
          | succ p ihp =>
            intro i ζ y1 y2 y3
            have hRz : RS b F ζ := RS_fr hR (fun t y i h => y2 _ _ _ (by omega))
            have ti := gr_get g (i := i) (by omega)
            have fresh := asc_fresh asc (n := i) (by omega)
            refine s_X8_tallyAlarm_54 (d + 1) _ _ _ _ _ _ ⟨⟨⟨by omega, by omega⟩, ⟨by omega, by omega⟩⟩, fun h => absurd h (by omega), fun _ => w_transferAt hv hRz.2.1 hg ⟨by omega, by omega⟩ ⟨by omega, by rw [nn]; omega⟩ ?_⟩
            rw [nn, show ((i : Int)).toNat = i by omega]
            refine ⟨by omega, by omega, by omega, by omega, ?_⟩
            rw [show (i : Int) + 1 = ((i + 1 : Nat) : Int) by omega]
            refine ihp (i + 1) _ (by omega) (jfr_jw y2 ⟨rfl, rfl⟩) (fun t t0 t1 => ?_)
            by_cases e : t = (F.getD n []).getD i 0
            · rw [e, jw_eq, y3 _ (by omega) (by omega), if_neg fresh, if_pos ((mem_take (by omega) _).mpr (Or.inr rfl))]
              omega
            · rw [jw_i e, y3 t t0 t1]
              congr 1
              by_cases hm2 : t ∈ (F.getD n []).take i
              · rw [if_pos hm2, if_pos ((mem_take (by omega) _).mpr (Or.inl hm2))]
              · rw [if_neg hm2, if_neg (fun h => by rcases (mem_take (by omega) _).mp h with h | h; exact hm2 h; exact e h)]
        exact inner (F.getD n []).length 0 ξ (by omega) h2 (fun t t0 t1 => by rw [h3 t t0 t1]; simp)
  have first : ∀ (q : Nat) (i : Int) (ξ : JM), i + q = 32 → 0 ≤ i → jfr P38 ν ξ → (∀ t, 0 ≤ t → t < i → ξ 38 0 t = 0) → wp true (d + 2) 118 2 [(22, 0), (0, a), (0, i), (9, 0), (9, 0)] [] ξ Q := by
    intro q
    induction q with
    | zero =>
      intro i ξ h1 h2 h3 h4
      exact s_X8_tallyAlarm_2 _ _ _ _ _ ⟨⟨⟨by omega, by omega⟩, ⟨by omega, by omega⟩⟩, fun _ => second F.length 0 ξ _ _ (by omega) h3 (fun t t0 t1 => by rw [h4 t t0 (by omega)]; rfl), fun h => absurd h (by omega)⟩
    | succ q ih =>
      intro i ξ h1 h2 h3 h4
      refine s_X8_tallyAlarm_2 _ _ _ _ _ ⟨⟨⟨by omega, by omega⟩, ⟨by omega, by omega⟩⟩, fun h => absurd h (by omega), fun _ => ⟨by omega, by omega, ih (i + 1) _ (by omega) (by omega) (jfr_jw h3 ⟨rfl, rfl⟩) (fun t t0 t1 => ?_)⟩⟩
      by_cases e : t = i
      · subst e; rw [jw_eq]
      · rw [jw_i e]; exact h4 t t0 (by omega)
  exact s_X8_tallyAlarm_0 _ _ _ _ (first 32 0 ν (by omega) (by omega) (jfr_refl _ _) (fun t t0 t1 => by omega))
