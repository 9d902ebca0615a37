/-! need -/
theorem spr_rev {b : BK} {p : List Int} (h : p ≠ []) : spr b p.reverse = b 2 (hd p) - b 2 (lst p) := by
  have e0 : rst p.reverse = lst p := (round_ends (b := b) h List.prefix_rfl).1
  have e1 : rls p.reverse = hd p := by
    cases p with
    | nil => exact absurd rfl h
    | cons a l =>
      show (a :: l).reverse.getD ((a :: l).reverse.length - 1) 0 = a
      rw [List.reverse_cons, List.length_append, List.length_singleton, Nat.add_sub_cancel, gda_r (Nat.le_refl _), Nat.sub_self]
      rfl
  show b 2 (rls p.reverse) - b 2 (rst p.reverse) = _
  rw [e0, e1]
theorem lsp_app (b : BK) (L : LL) (r : List Int) : lsp b (L ++ [r]) = spr b r := by
  unfold lsp
  rw [if_neg (by simp)]
  simp [List.getLastD_eq_getLast?]
abbrev PIn : Nat → Int → Int → Prop := fun x y i => y = 2 ∧ ((x = 22 ∧ (i = 2 ∨ i = 4)) ∨ x = 32 ∨ x = 33)
def INr (b : BK) (ν1 : JM) (L : LL) (ν : JM) : Prop := jfr PIn ν1 ν ∧ isC ν 4 b ∧ nextC b ν 2 ∧ ν 22 2 2 = wnr b (b 4 0) L ∧ ν 22 2 4 = lsp b L ∧ (-20000 ≤ wnr b (b 4 0) L ∧ wnr b (b 4 0) L ≤ 20000)
theorem INr_HI {b : BK} {ν1 : JM} : HI 2 b (wnr b (b 4 0)) (INr b ν1) := by
  intro L ν h
  exact ⟨h.2.2.2.1, ⟨by have := h.2.2.2.2.2; omega, by have := h.2.2.2.2.2; omega⟩, h.2.1, h.2.2.1⟩
theorem INr_HF {b : BK} {ν1 : JM} : HF 2 (INr b ν1) := by
  intro L ν ξ h hf
  obtain ⟨h1, h2, h3, h4, h5, h6⟩ := h
  exact ⟨jfr_trans h1 (jfr_mono hf (fun t y i h => by omega)), isC_fr h2 (fun t _ _ i => hf _ _ _ (by omega)), nextC_fr h3 (fun i => hf _ _ _ (by omega)), by rw [hf _ _ _ (by omega)]; exact h4, by rw [hf _ _ _ (by omega)]; exact h5, h6⟩
theorem INr_HM {b : BK} (hv : vb b) {F : LL} {ν1 : JM} : HMt 2 b F (INr b ν1) := by
  intro d L p ν R h hpa hp hp2 hcl hpre k
  refine ⟨fun h => absurd h (by decide), fun h => absurd h (by decide), fun _ => ?_⟩
  obtain ⟨h1, h2, h3, h4, h5, h6⟩ := h
  have hm := vb_m hv
  have hh := pin_hd hp
  have hl := pin_lst hp
  have hl5 := hp.2.1
  have th := vb_t hv hh.1 hh.2
  have tl := vb_t hv hl.1 hl.2
  have q1 := isC_t h2 hh.1 hh.2
  have q2 := isC_t h2 hl.1 hl.2
  have es := spr_rev (b := b) hp.1
  refine s_X5_meet_0 _ _ _ _ ?_
  rw [pathC_l hpa hp.1, pathC_0 hpa hp.1, q1.2.2.1, q2.2.2.1, jw_eq]
  refine ⟨by omega, by omega, by omega, by omega, by omega, by omega, by omega, by omega, ?_⟩
  have e : ∀ x y i, ¬ (x = 22 ∧ y = 2 ∧ (i = 4 ∨ i = 2)) → jw (jw ν 22 2 4 (b 2 (hd p) - b 2 (lst p))) 22 2 2 (b 2 (hd p) - b 2 (lst p) - 1) x y i = ν x y i := fun x y i h => by
    unfold jw
    rw [if_neg (by omega), if_neg (by omega)]
  refine k _ ⟨jfr_jw (jfr_jw h1 (by omega)) (by omega), isC_fr h2 (fun t _ _ i => e _ _ _ (by omega)), nextC_fr h3 (fun i => e _ _ _ (by omega)), ?_, ?_, ?_⟩ (fun i => e _ _ _ (by omega))
  · rw [jw_eq, wnr_app, es]
  · rw [jw_i (by omega), jw_eq, lsp_app, es]
  · rw [wnr_app, es]
    omega
theorem nmn_0 {b : BK} (hv : vb b) {F : LL} (hg : gd b F) : (nmn b F = -1 ↔ F = []) ∧ -1 ≤ nmn b F ∧ nmn b F ≤ 9999 := by
  rcases nmn_spec F (fun r hr => (spr_nn hv (hg r hr)).1) with ⟨h1, h2⟩ | ⟨h1, ⟨r, hr, h2⟩, h3⟩
  · exact ⟨⟨fun _ => h1, fun _ => h2⟩, by omega, by omega⟩
  · have := (spr_nn hv (hg r hr)).2
    exact ⟨⟨fun h => by omega, fun h => by rw [h] at hr; cases hr⟩, by omega, by omega⟩
abbrev bw (b : BK) (w v : Int) : BK := pone b 4 w v
abbrev Pnr : Nat → Int → Int → Prop := fun t y _ => ((12 ≤ t ∧ t ≤ 17) ∧ y = 4) ∨ (y = 2 ∧ (t = 22 ∨ t = 32 ∨ t = 33))
theorem c_leastBy {d : Nat} {b : BK} {ν : JM} {Q : JQ} {w v : Int} (hC : isC ν 0 b) (hv : vb b) (hb : pbound w v) (k : ∀ ξ, jfr Pnr ν ξ → Q (nmn (bw b w v) (FR (bw b w v))) ξ) : wp true (d + 12) 58 0 [(22, 2), (12, 0), (0, w), (0, v)] [] ν Q := by
  have hv' : vb (bw b w v) := vb_bound hv hb
  have h4 : 0 ≤ w ∧ w < 4 := by omega
  have hvw := vb_w hv'
  refine s_X5_leastBy_0 (d + 11) _ _ _ _ _ (c_copy hC hv (by omega) (fun ξ hf1 h1 => w_boundCanBe ⟨by omega, by omega⟩ ⟨by omega, by omega⟩ (fun _ => ⟨by decide, fun h => absurd h (by decide), fun _ => ⟨h4.1, h4.2, ?_⟩⟩) (fun h => absurd hb h)))
  have e : ∀ x y i, ¬ (x = 17 ∧ y = 4 ∧ i = w) → ¬ (x = 22 ∧ y = 2 ∧ i = 4) → jw (jw ξ 17 4 w v) 22 2 4 (-1) x y i = ξ x y i := fun x y i h h2 => by
    unfold jw
    rw [if_neg (by omega), if_neg (by omega)]
  have h2 : isC (jw (jw ξ 17 4 w v) 22 2 4 (-1)) 4 (bw b w v) := isC_one (x0 := w) (Or.inr (Or.inr ⟨rfl, h4, rfl, rfl⟩)) h1 (by rw [jw_t (by omega), jw_eq]) (fun t _ _ i hh => e _ _ _ (by omega) (by omega))
  have e4 : jw (jw ξ 17 4 w v) 22 2 4 (-1) 22 2 4 = -1 := jw_eq _ _ _ _ _
  generalize jw (jw ξ 17 4 w v) 22 2 4 (-1) = ζ at e h2 e4 ⊢
  refine c_hunt (F := pro (bw b w v) (wnr (bw b w v) (bw b w v 4 0))) (win := wnr (bw b w v) (bw b w v 4 0)) (I := INr (bw b w v) ζ) (Or.inr (Or.inr rfl)) hv' h2 INr_HI INr_HF (INr_HM hv') List.prefix_rfl (fun η hf3 g1 g2 g3 => ?_) (fun η g => ?_)
  · exact ⟨jfr_mono hf3 (fun t y i h => by omega), g3, g2, g1, by rw [hf3 _ _ _ (by omega)]; exact e4, by show -20000 ≤ bw b w v 4 0 ∧ bw b w v 4 0 ≤ 20000; omega⟩
  · rw [g.2.2.2.2.1, (lsp_nmn hv' (bw b w v 4 0)).1]
    exact k η (fun t y i h => by rw [g.1 _ _ _ (by omega), e _ _ _ (by omega) (by omega), hf1 _ _ _ (by omega)])
/-- greater rates leave every round -/
theorem mem_fup {g : LL → Int → LL} (h : ∀ L y, g L y = L ++ g [] y) {r : List Int} : ∀ (k : Nat) (i : Int), r ∈ fup g k i [] ↔ ∃ y, i ≤ y ∧ y < i + (k : Int) ∧ r ∈ g [] y
  | 0, i => ⟨fun h => (by cases h), fun ⟨y, h1, h2, _⟩ => (by omega)⟩
  | k + 1, i => by
    show r ∈ fup g k (i + 1) (g [] i) ↔ _
    rw [fup_app h k (i + 1) (g [] i), List.mem_append, mem_fup h k (i + 1)]
    constructor
    · rintro (h1 | ⟨y, h1, h2, h3⟩)
      · exact ⟨i, by omega, by omega, h1⟩
      · exact ⟨y, by omega, by omega, h3⟩
    · rintro ⟨y, h1, h2, h3⟩
      by_cases e : y = i
      · subst e
        exact Or.inl h3
      · exact Or.inr ⟨y, by omega, by omega, h3⟩
theorem pexg_app (b : BK) (w : Int) (k : Nat) (p : List Int) : ∀ L y, pexg b (fun _ => w) k p L y = L ++ pexg b (fun _ => w) k p [] y := by
  intro L y
  unfold pexg
  split
  · split
    · rfl
    · split
      · exact (List.append_nil L).symm
      · exact pex_app b w k (y :: p) L
  · exact (List.append_nil L).symm
theorem prog_app (b : BK) (w : Int) : ∀ L y, prog b (fun _ => w) L y = L ++ prog b (fun _ => w) [] y := by
  intro L y
  unfold prog
  split
  · exact (List.append_nil L).symm
  · exact pex_app b w _ [y] L
/-- two books that differ in their rates alone -/
def looser (b c : BK) : Prop := (∀ j, j < 4 → ∀ i, b j i = c j i) ∧ (∀ i, b 5 i = c 5 i) ∧ b 4 0 = c 4 0 ∧ b 4 1 = c 4 1 ∧ b 4 2 ≤ c 4 2 ∧ b 4 3 ≤ c 4 3
theorem looser_fits {b c : BK} (h : looser b c) {x y : Int} (hx : 0 ≤ x) (hf : pfits b x y) : pfits c x y := by
  have h1 := Int.mul_le_mul_of_nonneg_right (show 100 - c 4 2 ≤ 100 - b 4 2 by have := h.2.2.2.2.1; omega) hx
  have h2 := Int.mul_le_mul_of_nonneg_right (show 100 + b 4 3 ≤ 100 + c 4 3 by have := h.2.2.2.2.2; omega) hx
  exact ⟨Int.le_trans h1 hf.1, Int.le_trans hf.2 h2⟩
theorem looser_step {b c : BK} (hv : vb b) (h : looser b c) {x y : Int} (hx : 0 ≤ x ∧ x < b 5 1) (hs : pstep b x y) : pstep c x y := by
  have t := vb_t hv hx.1 hx.2
  refine ⟨?_, ?_, ?_⟩
  · rw [← h.1 0 (by omega), ← h.1 1 (by omega)]
    exact hs.1
  · rw [← h.1 2 (by omega), ← h.1 2 (by omega)]
    exact hs.2.1
  · rw [← h.1 3 (by omega), ← h.1 3 (by omega)]
    exact looser_fits h (by omega) hs.2.2
theorem looser_pex {b c : BK} (hv : vb b) (h : looser b c) (w : Int) : ∀ (k : Nat) (p : List Int), p ≠ [] → (∀ t ∈ p, 0 ≤ t ∧ t < b 5 1) → ∀ r ∈ pex b (fun _ => w) k p [], r ∈ pex c (fun _ => w) k p []
  | 0, _, _, _, r, hr => hr
  | k + 1, p, hp, hin, r, hr => by
    have em : nm c = nm b := by unfold nm; rw [h.2.1]
    rw [pex_succ, em]
    rw [pex_succ] at hr
    obtain ⟨y, y0, y1, hy⟩ := (mem_fup (pexg_app b w k p) (nm b) 0).1 hr
    refine (mem_fup (pexg_app c w k p) (nm b) 0).2 ⟨y, y0, y1, ?_⟩
    have hm : (nm b : Int) = ((b 5 1).toNat : Int) := rfl
    have hhd : 0 ≤ hd p ∧ hd p < b 5 1 := by
      cases p with
      | nil => exact absurd rfl hp
      | cons a l => exact hin a (List.mem_cons_self ..)
    unfold pexg at hy ⊢
    by_cases hc : pcan b w p y
    · have hc2 : pcan c w p y := ⟨looser_step hv h hhd hc.1, by rw [← h.1 2 (by omega), ← h.1 2 (by omega)]; exact hc.2⟩
      rw [if_pos hc] at hy
      rw [if_pos hc2]
      by_cases h2 : b 1 y = b 0 (lst p)
      · rw [if_pos h2] at hy
        rw [if_pos (by rw [← h.1 1 (by omega), ← h.1 0 (by omega)]; exact h2)]
        exact hy
      · rw [if_neg h2] at hy
        rw [if_neg (by rw [← h.1 1 (by omega), ← h.1 0 (by omega)]; exact h2)]
        by_cases h3 : ptst b (b 1 y) ∨ (∃ t ∈ y :: p, b 0 t = b 1 y)
        · rw [if_pos h3] at hy
          cases hy
        · rw [if_neg h3] at hy
          rw [if_neg (fun h4 => h3 (by
            rcases h4 with h4 | ⟨t, ht, h4⟩
            · left
              show bt (b 5 2) (b 1 y).toNat = true
              rw [h.2.1, h.1 1 (by omega)]
              exact h4
            · right
              exact ⟨t, ht, by rw [h.1 0 (by omega), h.1 1 (by omega)]; exact h4⟩))]
          exact looser_pex hv h w k (y :: p) (by simp) (fun t ht => by
            rcases List.mem_cons.mp ht with rfl | ht
            · omega
            · exact hin t ht) r hy
    · rw [if_neg hc] at hy
      cases hy
theorem looser_pro {b c : BK} (hv : vb b) (h : looser b c) : ∀ r ∈ FR b, r ∈ FR c := by
  intro r hr
  have em : nm c = nm b := by unfold nm; rw [h.2.1]
  unfold FR pro at hr ⊢
  rw [em]
  obtain ⟨y, y0, y1, hy⟩ := (mem_fup (prog_app b (b 4 0)) (nm b) 0).1 hr
  refine (mem_fup (prog_app c (c 4 0)) (nm b) 0).2 ⟨y, y0, y1, ?_⟩
  have hm : (nm b : Int) = ((b 5 1).toNat : Int) := rfl
  unfold prog at hy ⊢
  by_cases h3 : ptst b (b 0 y) ∨ ptst b (b 1 y)
  · rw [if_pos h3] at hy
    cases hy
  · rw [if_neg h3] at hy
    rw [if_neg (fun h4 => h3 (by
      show bt (b 5 2) (b 0 y).toNat = true ∨ bt (b 5 2) (b 1 y).toNat = true
      rw [h.2.1, h.1 0 (by omega), h.1 1 (by omega)]
      exact h4)), ← h.2.2.1, ← h.2.2.2.1]
    exact looser_pex hv h (b 4 0) _ [y] (by simp) (fun t ht => by rw [List.mem_singleton.mp ht]; omega) r hy
abbrev Nr (b : BK) (w v : Int) : Prop := FR (bw b w v) ≠ []
theorem Nr_mono {b : BK} (hv : vb b) {w v v' : Int} (hw : w = 2 ∨ w = 3) (h0 : 0 ≤ v ∧ v ≤ v' ∧ v' ≤ 90) (h : Nr b w v) : Nr b w v' := by
  have hv1 : vb (bw b w v) := vb_bound hv (by omega)
  have lo : looser (bw b w v) (bw b w v') := by
    refine ⟨fun j hj i => ?_, fun i => ?_, ?_, ?_, ?_, ?_⟩
    · show pone b 4 w v j i = pone b 4 w v' j i
      rw [pone_ne (by omega), pone_ne (by omega)]
    · show pone b 4 w v 5 i = pone b 4 w v' 5 i
      rw [pone_ne (by omega), pone_ne (by omega)]
    · show pone b 4 w v 4 0 = pone b 4 w v' 4 0
      rw [pone_ne (by omega), pone_ne (by omega)]
    · show pone b 4 w v 4 1 = pone b 4 w v' 4 1
      rw [pone_ne (by omega), pone_ne (by omega)]
    · show pone b 4 w v 4 2 ≤ pone b 4 w v' 4 2
      unfold pone
      split <;> omega
    · show pone b 4 w v 4 3 ≤ pone b 4 w v' 4 3
      unfold pone
      split <;> omega
  intro e
  cases hF : FR (bw b w v) with
  | nil => exact h hF
  | cons r l =>
    have := looser_pro hv1 lo r (by rw [hF]; exact List.mem_cons_self ..)
    rw [e] at this
    cases this
abbrev Nb (b : BK) (w : Int) : Int → Bool := fun v => decide (nmn (bw b w v) (FR (bw b w v)) ≠ -1)
def rate (b : BK) (w : Int) : Int := if ffst (Nb b w) 91 0 < 91 then ffst (Nb b w) 91 0 else -1
theorem Nb_iff {b : BK} (hv : vb b) {w v : Int} (hp : pbound w v) : Nb b w v = true ↔ Nr b w v := by
  have hv1 : vb (bw b w v) := vb_bound hv hp
  have q := (nmn_0 hv1 (FR_gd hv1)).1
  rw [decide_eq_true_iff]
  exact ⟨fun h e => h (q.2 e), fun h e => h (q.1 e)⟩
def aNeed (b : BK) (A K : List BK) (w : Int) : (Int × Int) × ST := (if w = 0 then okn (nmn (bw b 0 9999) (FR (bw b 0 9999))) else if w = 2 ∨ w = 3 then okn (rate b w) else (-1, 1), b, A, K)
theorem w_knownS {d : Nat} {b : BK} {A K : List BK} {c v : Int} {ν ξ : JM} {Q : JQ} (hv : inR v) (h : CI b A K c ξ) (hf : jfr PAc ν ξ) (k : KCS c ν Q (okn v, b, A, K)) : wp true (d + 1) 175 0 [(11, 0), (0, v)] [] ξ (fun r3 μ3 => Q r3 μ3) := by
  refine w_known hv (fun e => ?_) (fun e => ?_)
  · rw [okn, if_pos e] at k
    exact KCS_fin k h hf
  · rw [okn, if_neg e] at k
    exact KCS_fin k h hf
theorem rate_at {b : BK} {w x : Int} (h0 : 0 ≤ x ∧ x ≤ 90) (h1 : Nb b w x = true) (h2 : ∀ j, 0 ≤ j → j < x → Nb b w j = false) : rate b w = x := by
  have e := ffst_eq (p := Nb b w) (k := 91) (lo := 0) h0.1 (by omega) h1 h2
  unfold rate
  rw [e, if_pos (by omega)]
theorem rate_no {b : BK} {w : Int} (h2 : ∀ j, 0 ≤ j → j < 91 → Nb b w j = false) : rate b w = -1 := by
  have e := ffst_no (p := Nb b w) (k := 91) (lo := 0) (fun j h0 h1 => h2 j h0 (by omega))
  unfold rate
  rw [e, if_neg (by omega)]
theorem c_rate28 {d : Nat} {b : BK} {A K : List BK} {c w : Int} {ν : JM} {R : JQ} (hV : VS b A K) (hw : w = 2 ∨ w = 3) (k : ∀ ξ, CI b A K c ξ → jfr Pnr ν ξ → R (rate b w) ξ) : ∀ (n : Nat) (lo hi t : Int) (u : JV) (ζ : JM), CI b A K c ζ → jfr Pnr ν ζ → 0 ≤ lo ∧ lo ≤ hi ∧ hi ≤ 90 → Nb b w hi = true → (∀ j, 0 ≤ j → j < lo → Nb b w j = false) → hi - lo ≤ n → 0 ≤ t ∧ t + n ≤ 90 → wp true (d + 13) 185 28 [(11, 0), (0, w), (0, lo), (0, hi), (0, t), u] [] ζ R
  | 0, lo, hi, t, u, ζ, h, hf, hb, h1, h2, hn, ht => by
    obtain rfl : lo = hi := by omega
    have e := rate_at (w := w) ⟨by omega, by omega⟩ h1 h2
    refine s_X10_leastRate_28 (d + 12) _ _ _ _ _ _ _ ⟨⟨⟨by omega, by omega⟩, ⟨by omega, by omega⟩⟩, fun h => absurd h (by omega), fun _ => ⟨⟨⟨by omega, by omega⟩, ⟨by omega, by omega⟩⟩, fun _ => ?_, fun h => absurd (Int.le_refl _) h⟩⟩
    rw [← e]
    exact k ζ h hf
  | n + 1, lo, hi, t, u, ζ, h, hf, hb, h1, h2, hn, ht => by
    refine s_X10_leastRate_28 (d + 12) _ _ _ _ _ _ _ ⟨⟨⟨by omega, by omega⟩, ⟨by omega, by omega⟩⟩, fun h => absurd h (by omega), fun _ => ⟨⟨⟨by omega, by omega⟩, ⟨by omega, by omega⟩⟩, fun hle => ?_, fun hlt => ?_⟩⟩
    · obtain rfl : lo = hi := by omega
      have e := rate_at (w := w) ⟨by omega, by omega⟩ h1 h2
      rw [← e]
      exact k ζ h hf
    · have hp : pbound w ((lo + hi) / 2) := by omega
      have hv1 : vb (bw b w ((lo + hi) / 2)) := vb_bound hV.1 hp
      have q := (nmn_0 hv1 (FR_gd hv1)).2
      refine ⟨by omega, by omega, by omega, by omega, c_leastBy h.1 hV.1 hp (fun ξ hf2 => ⟨Or.inr ⟨⟨by omega, by omega⟩, ⟨by omega, by omega⟩⟩, fun he => ?_, fun hne => ?_⟩)⟩
      · have hN : ¬ Nr b w ((lo + hi) / 2) := fun hN => of_decide_eq_true ((Nb_iff hV.1 hp).2 hN) he
        refine c_rate28 hV hw k n _ _ _ _ ξ (CI_fr h (Int.le_refl _) (fun t y i h => hf2 _ _ _ (by omega))) (jfr_trans hf hf2) (by omega) h1 (fun j j0 j1 => ?_) (by omega) (by omega)
        cases hj : Nb b w j with
        | false => rfl
        | true => exact absurd (Nr_mono hV.1 hw ⟨j0, by omega, by omega⟩ ((Nb_iff hV.1 (by omega)).1 hj)) hN
      · exact c_rate28 hV hw k n _ _ _ _ ξ (CI_fr h (Int.le_refl _) (fun t y i h => hf2 _ _ _ (by omega))) (jfr_trans hf hf2) (by omega) (decide_eq_true hne) h2 (by omega) (by omega)
theorem rate_in (b : BK) (w : Int) : -1 ≤ rate b w ∧ rate b w ≤ 90 := by
  have s := ffst_spec (Nb b w) 91 0
  unfold rate
  split <;> omega
theorem c_need {d : Nat} {b : BK} {A K : List BK} {c : Int} {ν : JM} {Q : JQ} (hV : VS b A K) (h : CI b A K c ν) {w : Int} (hw : inR w) (k : KCS c ν Q (aNeed b A K w)) : wp true (d + 15) 171 0 [(11, 0), (0, w)] [] ν Q := by
  unfold aNeed at k
  have go : w = 0 ∨ w = 2 ∨ w = 3 → wp true (d + 15) 171 20 [(11, 0), (0, w)] [] ν Q := by
    intro h3
    refine s_X10_need_20 (d + 14) _ _ _ ⟨Or.inr ⟨hw, ⟨by omega, by omega⟩⟩, fun hne => ?_, fun he => ?_⟩
    · rw [if_neg hne, if_pos (by omega)] at k
      have hp : pbound w 90 := by omega
      have hv1 : vb (bw b w 90) := vb_bound hV.1 hp
      have q := (nmn_0 hv1 (FR_gd hv1)).2
      have ri := rate_in b w
      have fin : ∀ ξ, CI b A K c ξ → jfr Pnr ν ξ → wp true (d + 14) 175 0 [(11, 0), (0, rate b w)] [] ξ (fun r2 μ2 => Q r2 μ2) := fun ξ h' hf => w_knownS (d := d + 13) ⟨by omega, by omega⟩ h' (jfr_mono hf (fun t y i h => by omega)) k
      refine s_X10_leastRate_0 (d + 13) _ _ _ (c_leastBy (d := d + 1) h.1 hV.1 hp (fun ξ hf => ⟨Or.inr ⟨⟨by omega, by omega⟩, ⟨by omega, by omega⟩⟩, fun hn => ?_, fun hn => ?_⟩))
      · exact c_rate28 (d := d + 1) hV (by omega) (fun ζ h' hf' => fin ζ h' hf') 90 0 90 0 _ ξ (CI_fr h (Int.le_refl _) (fun t y i h => hf _ _ _ (by omega))) hf (by omega) (decide_eq_true hn) (fun j j0 j1 => by omega) (by omega) (by omega)
      · have hN : ¬ Nr b w 90 := fun hN => of_decide_eq_true ((Nb_iff hV.1 hp).2 hN) (Decidable.byContradiction hn)
        have e : rate b w = -1 := rate_no (fun j j0 j1 => by
          cases hj : Nb b w j with
          | false => rfl
          | true => exact absurd (Nr_mono hV.1 (by omega) ⟨j0, by omega, by omega⟩ ((Nb_iff hV.1 (by omega)).1 hj)) hN)
        rw [e] at fin
        exact fin ξ (CI_fr h (Int.le_refl _) (fun t y i h => hf _ _ _ (by omega))) hf
    · have he' : w = 0 := Decidable.byContradiction he
      subst he'
      rw [if_pos rfl] at k
      have hv1 : vb (bw b 0 9999) := vb_bound hV.1 (by omega)
      have q := (nmn_0 hv1 (FR_gd hv1)).2
      exact c_leastBy (d := d + 2) h.1 hV.1 (by omega) (fun ξ hf => w_knownS (d := d + 13) ⟨by omega, by omega⟩ (CI_fr h (Int.le_refl _) (fun t y i h => hf _ _ _ (by omega))) (jfr_mono hf (fun t y i h => by omega)) k)
  refine s_X10_need_0 (d + 14) _ _ _ ⟨Or.inr ⟨hw, ⟨by omega, by omega⟩⟩, fun e => go (by omega), fun n0 => ⟨Or.inr ⟨hw, ⟨by omega, by omega⟩⟩, fun e => go (by omega), fun n2 => ⟨Or.inr ⟨hw, ⟨by omega, by omega⟩⟩, fun e => go (by omega), fun n3 => ?_⟩⟩⟩
  rw [if_neg n0, if_neg (by omega)] at k
  exact KCS_fin k h (jfr_refl _ _)
/-- the reference -/
def nml (b : BK) (F : LL) : Nat → Int
  | 0 => -1
  | n + 1 => if nml b F n = -1 ∨ spr b (F.getD n []) < nml b F n then spr b (F.getD n []) else nml b F n
theorem nml_spec {b : BK} (hv : vb b) {F : LL} (hg : gd b F) : ∀ n, n ≤ F.length → (n = 0 ∧ nml b F n = -1) ∨ ((0 ≤ nml b F n ∧ nml b F n ≤ 9999) ∧ (∃ r, r < n ∧ nml b F n = spr b (F.getD r [])) ∧ ∀ r, r < n → nml b F n ≤ spr b (F.getD r []))
  | 0, _ => Or.inl ⟨rfl, rfl⟩
  | n + 1, h => by
    have e : nml b F (n + 1) = if nml b F n = -1 ∨ spr b (F.getD n []) < nml b F n then spr b (F.getD n []) else nml b F n := rfl
    have hs := spr_nn hv (gd_get hg (r := n) (by omega))
    right
    rw [e]
    rcases nml_spec hv hg n (by omega) with ⟨h1, h2⟩ | ⟨h1, ⟨r, hr, h2⟩, h3⟩
    · rw [if_pos (Or.inl h2)]
      exact ⟨hs, ⟨n, by omega, rfl⟩, fun r hr => by rw [show r = n by omega]; exact Int.le_refl _⟩
    · by_cases hc : nml b F n = -1 ∨ spr b (F.getD n []) < nml b F n
      · rw [if_pos hc]
        refine ⟨hs, ⟨n, by omega, rfl⟩, fun x hx => ?_⟩
        by_cases ex : x = n
        · rw [ex]
          exact Int.le_refl _
        · have := h3 x (by omega)
          omega
      · rw [if_neg hc]
        refine ⟨h1, ⟨r, by omega, h2⟩, fun x hx => ?_⟩
        by_cases ex : x = n
        · rw [ex]
          omega
        · exact h3 x (by omega)
theorem nml_nmn {b : BK} (hv : vb b) {F : LL} (hg : gd b F) : nml b F F.length = nmn b F := by
  rcases nml_spec hv hg F.length (Nat.le_refl _) with ⟨h1, h2⟩ | ⟨h1, ⟨r, hr, h2⟩, h3⟩
  · have e : F = [] := List.length_eq_zero_iff.mp h1
    rw [h2, e]
    rfl
  · rcases nmn_spec F (fun r hr => (spr_nn hv (hg r hr)).1) with ⟨q1, _⟩ | ⟨q1, ⟨x, hx, q2⟩, q3⟩
    · rw [q1] at hr
      exact absurd hr (Nat.not_lt_zero _)
    · have a := q3 _ (gdl_mem hr)
      obtain ⟨i, hi, e⟩ : ∃ i, i < F.length ∧ F.getD i [] = x := by
        obtain ⟨i, hi, e⟩ := List.getElem_of_mem hx
        exact ⟨i, hi, by rw [List.getD_eq_getElem?_getD, List.getElem?_eq_getElem hi]; exact e⟩
      have b2 := h3 i hi
      rw [e] at b2
      omega
theorem pone_pone (b : BK) (j : Nat) (i v v' : Int) : pone (pone b j i v) j i v' = pone b j i v' := by
  funext j' i'
  unfold pone
  split <;> rfl
theorem pone_own (b : BK) (j : Nat) (i : Int) : pone b j i (b j i) = b := by
  funext j' i'
  unfold pone
  split
  · rename_i h
    rw [h.1, h.2]
  · rfl
theorem m_n152 {d : Nat} {b : BK} {A K : List BK} {ν ζ : JM} {Q : JQ} {w v x l4 : Int} (hV : VS b A K) (hw : 0 ≤ w ∧ w < 4) (h1 : isM ζ (bw b w v)) (h2 : hM ζ A) (h3 : kM ζ K) (hf : jfr PAm ν ζ) (hx : inR x) (k : KMS ν Q (okn x, b, A, K)) : wp true (d + 1) 317 152 [(40, 0), (0, w), (0, b 4 w), (0, x), (0, l4)] [] ζ Q := by
  have e : ∀ t y i, ¬ (t = 41 ∧ y = 0 ∧ i = 3 + w) → ¬ (t = 40 ∧ y = 0 ∧ i = 12) → jw (jw ζ 41 0 (3 + w) (b 4 w)) 40 0 12 0 t y i = ζ t y i := fun t y i h h2 => by
    unfold jw
    rw [if_neg (by omega), if_neg (by omega)]
  have e1 : jw (jw ζ 41 0 (3 + w) (b 4 w)) 40 0 12 0 41 0 (3 + w) = b 4 w := by rw [jw_t (by omega), jw_eq]
  have e2 : jw (jw ζ 41 0 (3 + w) (b 4 w)) 40 0 12 0 40 0 12 = 0 := jw_eq _ _ _ _ _
  refine s_X11_need_152 _ _ _ _ _ _ _ ?_
  generalize jw (jw ζ 41 0 (3 + w) (b 4 w)) 40 0 12 0 = ξ at e e1 e2 ⊢
  have hMx := isM_one (x0 := 3 + w) (v := b 4 w) (Or.inr (Or.inr ⟨rfl, hw, rfl⟩)) h1 e1 (fun i hh => e _ _ _ (by omega) (by omega))
  rw [pone_pone, pone_own] at hMx
  have hI : MI b A K ξ := MI_act hMx (hM_fr hV.2.1 h2 (fun t x i h => e _ _ _ (by omega) (by omega))) (kM_fr hV.2.2 h3 (fun t x i h => e _ _ _ (by omega) (by omega))) e2
  have hff : jfr PAm ν ξ := fun t y i h => by rw [e _ _ _ (by omega) (by omega), hf _ _ _ h]
  refine ⟨by omega, by omega, by omega, by omega, Or.inr ⟨hx, ⟨by omega, by omega⟩⟩, fun hne => ?_, fun he => ?_⟩
  · rw [okn, if_neg hne] at k
    exact KMS_fin hV.2.1 hV.2.2 k hI hff
  · rw [okn, if_pos (Decidable.byContradiction he)] at k
    exact KMS_fin hV.2.1 hV.2.2 k hI hff
theorem m_n97 {d : Nat} {b : BK} {A K : List BK} {ν : JM} {Q : JQ} {w : Int} (hV : VS b A K) (hw : w = 2 ∨ w = 3) (k : KMS ν Q (okn (rate b w), b, A, K)) : ∀ (n : Nat) (v u : Int) (ζ : JM), v + (n : Int) = 91 → 0 ≤ v → (∀ j, 0 ≤ j → j < v → Nb b w j = false) → isM ζ (bw b w u) → hM ζ A → kM ζ K → jfr PAm ν ζ → wp true (d + 13) 317 97 [(40, 0), (0, w), (0, b 4 w), (0, -1), (0, v)] [] ζ Q
  | 0, v, u, ζ, hn, hv, hb, h1, h2, h3, hf => by
    have e := rate_no (b := b) (w := w) (fun j j0 j1 => hb j j0 (by omega))
    rw [e] at k
    exact s_X11_need_97 (d + 12) _ _ _ _ _ _ ⟨⟨⟨by omega, by omega⟩, ⟨by omega, by omega⟩⟩, fun _ => m_n152 (d := d + 12) hV ⟨by omega, by omega⟩ h1 h2 h3 hf ⟨by omega, by omega⟩ k, fun h => absurd (by omega) h⟩
  | n + 1, v, u, ζ, hn, hv, hb, h1, h2, h3, hf => by
    have hp : pbound w v := by omega
    have hv1 : vb (bw b w v) := vb_bound hV.1 hp
    refine s_X11_need_97 (d + 12) _ _ _ _ _ _ ⟨⟨⟨by omega, by omega⟩, ⟨by omega, by omega⟩⟩, fun h => absurd h (by omega), fun _ => ⟨Or.inr ⟨⟨by omega, by omega⟩, ⟨by omega, by omega⟩⟩, fun h => absurd h (by omega), fun _ => ⟨Or.inl rfl, fun h => absurd rfl h, fun _ => ⟨by omega, by omega, by omega, by omega, ?_⟩⟩⟩⟩
    have e : ∀ t y i, ¬ (t = 41 ∧ y = 0 ∧ i = 3 + w) → ¬ (t = 40 ∧ y = 0 ∧ i = 12) → jw (jw ζ 41 0 (3 + w) v) 40 0 12 0 t y i = ζ t y i := fun t y i h h2 => by
      unfold jw
      rw [if_neg (by omega), if_neg (by omega)]
    have e1 : jw (jw ζ 41 0 (3 + w) v) 40 0 12 0 41 0 (3 + w) = v := by rw [jw_t (by omega), jw_eq]
    have e2 : jw (jw ζ 41 0 (3 + w) v) 40 0 12 0 40 0 12 = 0 := jw_eq _ _ _ _ _
    generalize jw (jw ζ 41 0 (3 + w) v) 40 0 12 0 = ξ at e e1 e2 ⊢
    have hMx := isM_one (x0 := 3 + w) (v := v) (Or.inr (Or.inr ⟨rfl, ⟨by omega, by omega⟩, rfl⟩)) h1 e1 (fun i hh => e _ _ _ (by omega) (by omega))
    rw [pone_pone] at hMx
    have hI : MI (bw b w v) A K ξ := MI_act hMx (hM_fr hV.2.1 h2 (fun t x i h => e _ _ _ (by omega) (by omega))) (kM_fr hV.2.2 h3 (fun t x i h => e _ _ _ (by omega) (by omega))) e2
    refine m_layI ⟨hv1, hV.2.1, hV.2.2⟩ hI (fun η h' hL hf3 _ => ?_)
    have hF := FR_le hv1
    have hff : jfr PAm ν η := fun t y i h => by rw [hf3 _ _ _ (by omega), e _ _ _ (by omega) (by omega), hf _ _ _ h]
    rw [hL.1.1]
    refine ⟨⟨⟨by omega, by omega⟩, ⟨by omega, by omega⟩⟩, fun hle => ?_, fun hgt => ?_⟩
    · refine m_n97 hV hw k n (v + 1) v η (by omega) (by omega) (fun j j0 j1 => ?_) h'.1 h'.2.1 h'.2.2.1 hff
      by_cases ej : j = v
      · subst ej
        cases hj : Nb b w j with
        | false => rfl
        | true => exact absurd (List.length_eq_zero_iff.mp (by omega)) ((Nb_iff hV.1 hp).1 hj)
      · exact hb j j0 (by omega)
    · have hN : Nb b w v = true := (Nb_iff hV.1 hp).2 (fun e => by
        have e' : FR (bw b w v) = [] := e
        rw [e'] at hgt
        exact hgt (Int.le_refl _))
      rw [rate_at ⟨hv, by omega⟩ hN hb] at k
      refine s_X11_need_97 (d + 12) _ _ _ _ _ _ ⟨⟨⟨by omega, by omega⟩, ⟨by omega, by omega⟩⟩, fun _ => m_n152 (d := d + 12) hV ⟨by omega, by omega⟩ h'.1 h'.2.1 h'.2.2.1 hff ⟨by omega, by omega⟩ k, fun _ => ⟨Or.inr ⟨⟨by omega, by omega⟩, ⟨by omega, by omega⟩⟩, fun h => absurd h (by omega), fun _ => ⟨Or.inr ⟨⟨by omega, by omega⟩, ⟨by omega, by omega⟩⟩, fun _ => m_n152 (d := d + 12) hV ⟨by omega, by omega⟩ h'.1 h'.2.1 h'.2.2.1 hff ⟨by omega, by omega⟩ k, fun h => absurd (by omega) h⟩⟩⟩
theorem m_need {d : Nat} {b : BK} {A K : List BK} {ν : JM} {Q : JQ} (hV : VS b A K) (h : MI b A K ν) {w : Int} (hw : inR w) (k : KMS ν Q (aNeed b A K w)) : wp true (d + 13) 317 0 [(40, 0), (0, w), (9, 0), (9, 0), (9, 0)] [] ν Q := by
  unfold aNeed at k
  have go : w = 0 ∨ w = 2 ∨ w = 3 → wp true (d + 13) 317 20 [(40, 0), (0, w), (9, 0), (9, 0), (9, 0)] [] ν Q := by
    intro h3
    refine s_X11_need_20 (d + 11) _ _ _ ?_
    rw [isM_b h.1 (show 0 ≤ w by omega) (by omega)]
    refine ⟨by omega, by omega, Or.inr ⟨hw, ⟨by omega, by omega⟩⟩, fun hne => ?_, fun he => ⟨by omega, by omega, by omega, by omega, ?_⟩⟩
    · rw [if_neg hne, if_pos (by omega)] at k
      exact m_n97 hV (by omega) k 91 0 (b 4 w) ν (by omega) (by omega) (fun j j0 j1 => by omega) (by rw [show bw b w (b 4 w) = b from pone_own b 4 w]; exact h.1) h.2.1 h.2.2.1 (jfr_refl _ _)
    · have he' : w = 0 := Decidable.byContradiction he
      subst he'
      rw [if_pos rfl] at k
      have hv1 : vb (bw b 0 9999) := vb_bound hV.1 (by omega)
      have e : ∀ t y i, ¬ (t = 41 ∧ y = 0 ∧ i = 3) → ¬ (t = 40 ∧ y = 0 ∧ i = 12) → jw (jw ν 41 0 3 9999) 40 0 12 0 t y i = ν t y i := fun t y i h h2 => by
        unfold jw
        rw [if_neg (by omega), if_neg (by omega)]
      have e1 : jw (jw ν 41 0 3 9999) 40 0 12 0 41 0 3 = 9999 := by rw [jw_t (by omega), jw_eq]
      have e2 : jw (jw ν 41 0 3 9999) 40 0 12 0 40 0 12 = 0 := jw_eq _ _ _ _ _
      generalize jw (jw ν 41 0 3 9999) 40 0 12 0 = ξ at e e1 e2 ⊢
      have hMx := isM_one (x0 := 3) (v := 9999) (i0 := 0) (j0 := 4) (by omega) h.1 e1 (fun i hh => e _ _ _ (by omega) (by omega))
      have hI : MI (bw b 0 9999) A K ξ := MI_act hMx (hM_fr hV.2.1 h.2.1 (fun t x i h => e _ _ _ (by omega) (by omega))) (kM_fr hV.2.2 h.2.2.1 (fun t x i h => e _ _ _ (by omega) (by omega))) e2
      refine m_layI ⟨hv1, hV.2.1, hV.2.2⟩ hI (fun η h' hL hf3 _ => ?_)
      have hF := FR_le hv1
      have hg := FR_gd hv1
      have hm := vb_m hv1
      have hff : jfr PAm ν η := fun t y i h => by rw [hf3 _ _ _ (by omega), e _ _ _ (by omega) (by omega)]
      generalize hb' : bw b 0 9999 = b' at *
      refine nlp (W := fun i x => wp true (d + 13) 317 53 [(40, 0), (0, 0), (0, b 4 0), (0, x), (0, i)] [] η Q) (f := nml b' (FR b')) (N := (FR b').length) (fun n hn hW => ?_) ?_
      · have row := ML_row hv1 h'.1 hg hL (r := (n : Int)) ⟨by omega, by omega⟩
        rw [show ((n : Int)).toNat = n from rfl] at row
        have t1 := vb_t hv1 row.2.2.2.2.1.1 row.2.2.2.2.1.2
        have t2 := vb_t hv1 row.2.2.2.2.2.1.1 row.2.2.2.2.2.1.2
        have sp := nml_spec hv1 hg n (by omega)
        have en : nml b' (FR b') (n + 1) = if nml b' (FR b') n = -1 ∨ spr b' ((FR b').getD n []) < nml b' (FR b') n then spr b' ((FR b').getD n []) else nml b' (FR b') n := rfl
        have es : b' 2 (rls ((FR b').getD n [])) - b' 2 (rst ((FR b').getD n [])) = spr b' ((FR b').getD n []) := rfl
        have hr : -1 ≤ nml b' (FR b') n ∧ nml b' (FR b') n ≤ 9999 := by
          rcases sp with ⟨_, h2⟩ | ⟨h1, _⟩ <;> omega
        rw [en] at hW
        refine s_X11_need_53 (d + 10) _ _ _ _ _ _ ?_
        rw [hL.1.1, row.1, row.2.2.1, row.2.2.2.1, row.2.2.2.2.2.2.1, row.2.2.2.2.2.2.2.1, es]
        refine ⟨⟨⟨by omega, by omega⟩, ⟨by omega, by omega⟩⟩, fun h => absurd h (by omega), fun _ => ⟨Or.inr ⟨⟨by omega, by omega⟩, ⟨by omega, by omega⟩⟩, fun e1 => ⟨by omega, by omega, by omega, by omega, by omega, by omega, by omega, by omega, by omega, by omega, ?_⟩, fun n1 => ⟨by omega, by omega, by omega, by omega, by omega, by omega, by omega, by omega, by omega, by omega, ⟨⟨by omega, by omega⟩, ⟨by omega, by omega⟩⟩, fun hle => ?_, fun hgt => ⟨by omega, by omega, by omega, by omega, by omega, by omega, by omega, by omega, by omega, by omega, ?_⟩⟩⟩⟩
        · rw [if_pos (Or.inl e1)] at hW
          exact hW
        · rw [if_neg (by omega)] at hW
          exact hW
        · rw [if_pos (Or.inr (by omega))] at hW
          exact hW
      · refine s_X11_need_53 (d + 10) _ _ _ _ _ _ ?_
        rw [hL.1.1]
        refine ⟨⟨⟨by omega, by omega⟩, ⟨by omega, by omega⟩⟩, fun _ => s_X11_need_97 (d + 12) _ _ _ _ _ _ ⟨⟨⟨by omega, by omega⟩, ⟨by omega, by omega⟩⟩, fun h => absurd h (by omega), fun _ => ⟨Or.inl rfl, fun _ => ?_, fun h => absurd rfl h⟩⟩, fun h => absurd (Int.le_refl _) h⟩
        rw [nml_nmn hv1 hg]
        have nr := nmn_0 hv1 hg
        refine m_n152 (d := d + 12) (v := 9999) hV ⟨by omega, by omega⟩ ?_ h'.2.1 h'.2.2.1 hff ⟨by omega, by omega⟩ k
        rw [hb']
        exact h'.1
  refine s_X11_need_0 (d + 12) _ _ _ ⟨Or.inr ⟨hw, ⟨by omega, by omega⟩⟩, fun e => go (by omega), fun n0 => ⟨Or.inr ⟨hw, ⟨by omega, by omega⟩⟩, fun e => go (by omega), fun n2 => ⟨Or.inr ⟨hw, ⟨by omega, by omega⟩⟩, fun e => go (by omega), fun n3 => ?_⟩⟩⟩
  rw [if_neg n0, if_neg (by omega)] at k
  exact KMS_fin hV.2.1 hV.2.2 k h (jfr_refl _ _)
