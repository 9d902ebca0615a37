/-! what is counted in a book: the class and the reference -/
abbrev nm (b : BK) : Nat := (b 5 1).toNat
def pcount (b : BK) (s : Nat) (a : Int) : Int := fup (fun c t => c + if b s t = a then 1 else 0) (nm b) 0 0
def pamount (b : BK) (s : Nat) (a : Int) : Int := fup (fun c t => c + if b s t = a then b 3 t else 0) (nm b) 0 0
def pall (b : BK) : Int := fup (fun c t => c + b 3 t) (nm b) 0 0
def puntil (b : BK) (w : Int) : Int := fup (fun c t => c + if b 2 t ≤ w then 1 else 0) (nm b) 0 0
def pleast (b : BK) (a : Int) : Int × Int := fup (fun c t => (c.1 + ((if b 1 t = a then b 3 t else 0) - (if b 0 t = a then b 3 t else 0)), jmin c.2 (c.1 + ((if b 1 t = a then b 3 t else 0) - (if b 0 t = a then b 3 t else 0))))) (nm b) 0 (0, 0)
/-- does x join the funnel of t -/
abbrev pjoin (b : BK) (t w : Int) (s : Bool) (x : Int) : Prop := (if s = true then b 0 x = b 1 t else b 1 x = b 0 t) ∧ 1 ≤ (if s = true then b 2 x - b 2 t else b 2 t - b 2 x) ∧ (if s = true then b 2 x - b 2 t else b 2 t - b 2 x) ≤ w
def pfc (b : BK) (t w : Int) (s : Bool) : Int := fup (fun c x => c + if pjoin b t w s x then 1 else 0) (nm b) 0 0
def pfa (b : BK) (t w : Int) (s : Bool) : Int := fup (fun c x => c + if pjoin b t w s x then b 3 x else 0) (nm b) 0 0
abbrev pfun (b : BK) (t w : Int) (s : Bool) : Prop := 2 ≤ pfc b t w s ∧ (if s = true then pfits b (b 3 t) (pfa b t w s) else pfits b (pfa b t w s) (b 3 t))
def pfuns (b : BK) (w : Int) (s : Bool) : Int := fup (fun c t => c + if pfun b t w s then 1 else 0) (nm b) 0 0
theorem nm_eq {b : BK} (h : vb b) : (0 : Int) + (nm b : Int) = b 5 1 := by
  have := vb_m h
  show (0 : Int) + ((b 5 1).toNat : Int) = b 5 1
  omega
theorem sum_le {b : BK} (hv : vb b) (p : Int → Int) (hp : ∀ t, 0 ≤ t → t < b 5 1 → 0 ≤ p t ∧ p t ≤ 9999) : 0 ≤ fup (fun c t => c + p t) (nm b) 0 0 ∧ fup (fun c t => c + p t) (nm b) 0 0 ≤ 9999 * b 5 1 :=
  fup_inv (fun i c => 0 ≤ c ∧ c ≤ 9999 * i) (lo := 0) (n := b 5 1) (fun i a h0 h1 h => by
    have := hp i h0 h1
    omega) (nm b) 0 0 (by omega) (nm_eq hv) (by omega)
theorem pfa_le {b : BK} (hv : vb b) (t w : Int) (s : Bool) : 0 ≤ pfa b t w s ∧ pfa b t w s ≤ 400000 := by
  have h := sum_le hv (fun x => if pjoin b t w s x then b 3 x else 0) (fun x h0 h1 => by
    have := vb_t hv h0 h1
    split <;> omega)
  have hm := vb_m hv
  unfold pfa
  omega
theorem pfc_le {b : BK} (hv : vb b) (t w : Int) (s : Bool) : 0 ≤ pfc b t w s ∧ pfc b t w s ≤ 400000 := by
  have h := sum_le hv (fun x => if pjoin b t w s x then 1 else 0) (fun x h0 h1 => by
    split <;> omega)
  have hm := vb_m hv
  unfold pfc
  omega
theorem c_allAmounts {d : Nat} {x : Int} {b : BK} {μ : JM} {Q : JQ} (hC : isC μ x b) (hv : vb b) (h : Q (pall b) μ) : wp true d 36 0 [(12, x), (9, 0), (9, 0)] [] μ Q := by
  have hm := vb_m hv
  refine s_X1_allAmounts_0 _ _ _ _ (fup_lp (W := fun i c => wp true d 36 4 [(12, x), (0, c), (0, i)] [] μ Q) (g := fun c t => c + b 3 t) (lo := 0) (n := b 5 1) (fun i c h0 h1 hW => ?_) (nm b) 0 0 (by omega) (nm_eq hv) ?_)
  · refine s_X1_allAmounts_4 _ _ _ _ _ _ ?_
    rw [isC_m hC, (isC_t hC h0 h1).2.2.2]
    exact ⟨⟨⟨by omega, by omega⟩, ⟨by omega, by omega⟩⟩, fun h => absurd h (by omega), fun _ => ⟨by omega, by omega, hW⟩⟩
  · refine s_X1_allAmounts_4 _ _ _ _ _ _ ?_
    rw [isC_m hC]
    exact ⟨⟨⟨by omega, by omega⟩, ⟨by omega, by omega⟩⟩, fun _ => h, fun h => absurd h (by omega)⟩
theorem m_amounts {d : Nat} {b : BK} {μ : JM} {Q : JQ} (hM : isM μ b) (hv : vb b) (h : Q (pall b) μ) : wp true (d + 2) 257 0 [(40, 0), (9, 0), (9, 0)] [] μ Q := by
  have hm := vb_m hv
  refine s_X11_amounts_0 _ _ _ (fup_lp (W := fun i c => wp true (d + 2) 257 4 [(40, 0), (0, c), (0, i)] [] μ Q) (g := fun c t => c + b 3 t) (lo := 0) (n := b 5 1) (fun i c h0 h1 hW => ?_) (nm b) 0 0 (by omega) (nm_eq hv) ?_)
  · refine s_X11_amounts_4 _ _ _ _ _ ?_
    rw [isM_m hM, (isM_t hM h0 h1).2.2.2]
    exact ⟨by omega, by omega, ⟨⟨by omega, by omega⟩, ⟨by omega, by omega⟩⟩, fun h => absurd h (by omega), fun _ => ⟨by omega, by omega, hW⟩⟩
  · refine s_X11_amounts_4 _ _ _ _ _ ?_
    rw [isM_m hM]
    exact ⟨by omega, by omega, ⟨⟨by omega, by omega⟩, ⟨by omega, by omega⟩⟩, fun _ => h, fun h => absurd h (by omega)⟩
/-- a row of one book, by its side -/
theorem w_isAt {d : Nat} {x t a o : Int} {b : BK} {μ : JM} {Q : JQ} (hC : isC μ x b) (hv : vb b) (h0 : 0 ≤ t) (h1 : t < b 5 1) (ha : inR a) (ho : o = 0 ∨ o = 1) (k1 : b (if o = 1 then 0 else 1) t = a → Q 1 μ) (k0 : ¬ b (if o = 1 then 0 else 1) t = a → Q 0 μ) : wp true d 37 0 [(12, x), (0, t), (0, a), (0, o)] [] μ Q := by
  have hm := vb_m hv
  have hn := vb_n hv
  have bt := vb_t hv h0 h1
  have tt := isC_t hC h0 h1
  refine s_X1_isAt_0 _ _ _ _ _ _ _ ?_
  rw [tt.1, tt.2.1]
  rcases ho with rfl | rfl
  · rw [if_neg (by omega)] at k1 k0
    exact ⟨by decide, fun _ => ⟨by omega, by omega, Or.inr ⟨⟨by omega, by omega⟩, ha⟩, fun h => ⟨by omega, by omega, k0 h⟩, fun h => ⟨by omega, by omega, k1 (by omega)⟩⟩, fun h => absurd rfl h⟩
  · rw [if_pos rfl] at k1 k0
    exact ⟨by decide, fun h => absurd h (by omega), fun _ => ⟨by omega, by omega, Or.inr ⟨⟨by omega, by omega⟩, ha⟩, fun h => ⟨by omega, by omega, k0 h⟩, fun h => ⟨by omega, by omega, k1 (by omega)⟩⟩⟩
theorem c_countAt {d : Nat} {x a o : Int} {b : BK} {μ : JM} {Q : JQ} (hC : isC μ x b) (hv : vb b) (ha : inR a) (ho : o = 0 ∨ o = 1) (h : Q (pcount b (if o = 1 then 0 else 1) a) μ) : wp true (d + 1) 38 0 [(12, x), (0, a), (0, o), (9, 0), (9, 0)] [] μ Q := by
  have hm := vb_m hv
  refine s_X1_countAt_0 _ _ _ _ _ _ (fup_lp (W := fun i c => wp true (d + 1) 38 5 [(12, x), (0, a), (0, o), (0, c), (0, i)] [] μ Q) (g := fun c t => c + if b (if o = 1 then 0 else 1) t = a then 1 else 0) (lo := 0) (n := b 5 1) (fun i c h0 h1 hW => ?_) (nm b) 0 0 (by omega) (nm_eq hv) ?_)
  · refine s_X1_countAt_5 _ _ _ _ _ _ _ _ ?_
    rw [isC_m hC]
    refine ⟨⟨⟨by omega, by omega⟩, ⟨by omega, by omega⟩⟩, fun h => absurd h (by omega), fun _ => ?_⟩
    refine w_isAt hC hv h0 h1 ha ho (fun k => ?_) (fun k => ?_)
    · rw [if_pos k] at hW
      exact ⟨by decide, fun h => absurd h (by decide), fun _ => hW⟩
    · rw [if_neg k] at hW
      exact ⟨by decide, fun _ => hW, fun h => absurd rfl h⟩
  · refine s_X1_countAt_5 _ _ _ _ _ _ _ _ ?_
    rw [isC_m hC]
    exact ⟨⟨⟨by omega, by omega⟩, ⟨by omega, by omega⟩⟩, fun _ => h, fun h => absurd h (by omega)⟩
theorem c_amountAt {d : Nat} {x a o : Int} {b : BK} {μ : JM} {Q : JQ} (hC : isC μ x b) (hv : vb b) (ha : inR a) (ho : o = 0 ∨ o = 1) (h : Q (pamount b (if o = 1 then 0 else 1) a) μ) : wp true (d + 1) 39 0 [(12, x), (0, a), (0, o), (9, 0), (9, 0)] [] μ Q := by
  have hm := vb_m hv
  refine s_X1_amountAt_0 _ _ _ _ _ _ (fup_lp (W := fun i c => wp true (d + 1) 39 5 [(12, x), (0, a), (0, o), (0, c), (0, i)] [] μ Q) (g := fun c t => c + if b (if o = 1 then 0 else 1) t = a then b 3 t else 0) (lo := 0) (n := b 5 1) (fun i c h0 h1 hW => ?_) (nm b) 0 0 (by omega) (nm_eq hv) ?_)
  · refine s_X1_amountAt_5 _ _ _ _ _ _ _ _ ?_
    rw [isC_m hC]
    refine ⟨⟨⟨by omega, by omega⟩, ⟨by omega, by omega⟩⟩, fun h => absurd h (by omega), fun _ => ?_⟩
    refine w_isAt hC hv h0 h1 ha ho (fun k => ?_) (fun k => ?_)
    · rw [if_pos k] at hW
      refine ⟨by decide, fun h => absurd h (by decide), fun _ => ⟨by omega, by omega, ?_⟩⟩
      rw [(isC_t hC h0 h1).2.2.2]
      exact hW
    · rw [if_neg k] at hW
      exact ⟨by decide, fun _ => hW, fun h => absurd rfl h⟩
  · refine s_X1_amountAt_5 _ _ _ _ _ _ _ _ ?_
    rw [isC_m hC]
    exact ⟨⟨⟨by omega, by omega⟩, ⟨by omega, by omega⟩⟩, fun _ => h, fun h => absurd h (by omega)⟩
theorem m_sideOf {d : Nat} {a s u : Int} {b : BK} {μ : JM} {Q : JQ} (hM : isM μ b) (hv : vb b) (ha : inR a) (hs : s = 0 ∨ s = 1) (hu : u = 0 ∨ u = 1) (h : Q (if u = 1 then pamount b s.toNat a else pcount b s.toNat a) μ) : wp true (d + 2) 267 0 [(40, 0), (0, a), (0, s), (0, u), (9, 0), (9, 0)] [] μ Q := by
  have hm := vb_m hv
  have hn := vb_n hv
  have h' : Q (fup (fun c t => c + if b s.toNat t = a then (if u = 1 then b 3 t else 1) else 0) (nm b) 0 0) μ := by
    rcases hu with rfl | rfl
    · rw [if_neg (by omega)] at h
      exact h
    · rw [if_pos rfl] at h
      exact h
  refine s_X11_sideOf_0 _ _ _ _ _ _ (fup_lp (W := fun i c => wp true (d + 2) 267 6 [(40, 0), (0, a), (0, s), (0, u), (0, c), (0, i)] [] μ Q) (g := fun c t => c + if b s.toNat t = a then (if u = 1 then b 3 t else 1) else 0) (lo := 0) (n := b 5 1) (fun i c h0 h1 hW => ?_) (nm b) 0 0 (by omega) (nm_eq hv) ?_)
  · have tt := isM_t hM h0 h1
    have bt := vb_t hv h0 h1
    refine s_X11_sideOf_6 _ _ _ _ _ _ _ _ ?_
    have e : μ 41 0 ((8 + (4 * i)) + s) = b s.toNat i := by
      rcases hs with rfl | rfl
      · exact tt.1
      · exact tt.2.1
    have e2 : inR (b s.toNat i) := by
      rcases hs with rfl | rfl
      · exact ⟨by have := bt.1; simp; omega, by have := bt.1; simp; omega⟩
      · exact ⟨by have := bt.2.1; simp; omega, by have := bt.2.1; simp; omega⟩
    rw [isM_m hM, e, tt.2.2.2]
    refine ⟨by omega, by omega, ⟨⟨by omega, by omega⟩, ⟨by omega, by omega⟩⟩, fun h => absurd h (by omega), fun _ => ⟨by omega, by omega, Or.inr ⟨e2, ha⟩, fun k => ?_, fun k => ?_⟩⟩
    · rw [if_neg k, Int.add_zero] at hW
      exact hW
    · rw [if_pos (by omega)] at hW
      rcases hu with rfl | rfl
      · exact ⟨by decide, fun _ => hW, fun h => absurd rfl h⟩
      · exact ⟨by decide, fun h => absurd h (by omega), fun _ => ⟨by omega, by omega, hW⟩⟩
  · refine s_X11_sideOf_6 _ _ _ _ _ _ _ _ ?_
    rw [isM_m hM]
    exact ⟨by omega, by omega, ⟨⟨by omega, by omega⟩, ⟨by omega, by omega⟩⟩, fun _ => h', fun h => absurd h (by omega)⟩
theorem c_countUntil {d : Nat} {x w : Int} {b : BK} {μ : JM} {Q : JQ} (hC : isC μ x b) (hv : vb b) (ha : inR w) (h : Q (puntil b w) μ) : wp true d 41 0 [(12, x), (0, w), (9, 0), (9, 0)] [] μ Q := by
  have hm := vb_m hv
  refine s_X1_countUntil_0 _ _ _ _ _ (fup_lp (W := fun i c => wp true d 41 4 [(12, x), (0, w), (0, c), (0, i)] [] μ Q) (g := fun c t => c + if b 2 t ≤ w then 1 else 0) (lo := 0) (n := b 5 1) (fun i c h0 h1 hW => ?_) (nm b) 0 0 (by omega) (nm_eq hv) ?_)
  · have bt := vb_t hv h0 h1
    refine s_X1_countUntil_4 _ _ _ _ _ _ _ ?_
    rw [isC_m hC, (isC_t hC h0 h1).2.2.1]
    refine ⟨⟨⟨by omega, by omega⟩, ⟨by omega, by omega⟩⟩, fun h => absurd h (by omega), fun _ => ⟨by omega, by omega, ⟨⟨by omega, by omega⟩, ha⟩, fun k => ?_, fun k => ?_⟩⟩
    · rw [if_neg (by omega)] at hW
      exact hW
    · rw [if_pos (by omega)] at hW
      exact hW
  · refine s_X1_countUntil_4 _ _ _ _ _ _ _ ?_
    rw [isC_m hC]
    exact ⟨⟨⟨by omega, by omega⟩, ⟨by omega, by omega⟩⟩, fun _ => h, fun h => absurd h (by omega)⟩
theorem jmin_eq (x y : Int) : jmin x y = if y < x then y else x := rfl
theorem least_in {b : BK} (hv : vb b) (a : Int) : ∀ i c, (0 : Int) ≤ i → i < b 5 1 → (-9999 * i ≤ c.1 ∧ c.1 ≤ 9999 * i ∧ -9999 * i ≤ c.2 ∧ c.2 ≤ 0) → (fun (i : Int) (c : Int × Int) => -9999 * i ≤ c.1 ∧ c.1 ≤ 9999 * i ∧ -9999 * i ≤ c.2 ∧ c.2 ≤ 0) (i + 1) ((fun (c : Int × Int) t => (c.1 + ((if b 1 t = a then b 3 t else 0) - (if b 0 t = a then b 3 t else 0)), jmin c.2 (c.1 + ((if b 1 t = a then b 3 t else 0) - (if b 0 t = a then b 3 t else 0))))) c i) := by
  intro i c h0 h1 h
  have bt := vb_t hv h0 h1
  dsimp only [jmin]
  split <;> split <;> split <;> omega
theorem c_lowestHeld {d : Nat} {x a : Int} {b : BK} {μ : JM} {Q : JQ} (hC : isC μ x b) (hv : vb b) (ha : inR a) (h : Q (pleast b a).2 μ) : wp true d 40 0 [(12, x), (0, a), (9, 0), (9, 0), (9, 0)] [] μ Q := by
  have hm := vb_m hv
  have hn := vb_n hv
  refine s_X1_lowestHeld_0 _ _ _ _ _ (fup_loop (W := fun i (c : Int × Int) => wp true d 40 7 [(12, x), (0, a), (0, c.1), (0, c.2), (0, i)] [] μ Q) (fun (i : Int) (c : Int × Int) => -9999 * i ≤ c.1 ∧ c.1 ≤ 9999 * i ∧ -9999 * i ≤ c.2 ∧ c.2 ≤ 0) (lo := 0) (n := b 5 1) (least_in hv a) (fun i c h0 h1 hI hW => ?_) (nm b) 0 (0, 0) (by omega) (nm_eq hv) (by omega) (fun _ => ?_))
  · have bt := vb_t hv h0 h1
    have tt := isC_t hC h0 h1
    refine s_X1_lowestHeld_7 _ _ _ _ _ _ _ _ ?_
    rw [isC_m hC, tt.1, tt.2.1, tt.2.2.2]
    refine ⟨⟨⟨by omega, by omega⟩, ⟨by omega, by omega⟩⟩, fun h => absurd h (by omega), fun _ => ⟨by omega, by omega, Or.inr ⟨⟨by omega, by omega⟩, ha⟩, fun k => ⟨by omega, by omega, Or.inr ⟨⟨by omega, by omega⟩, ha⟩, fun k2 => ?_, fun k2 => ?_⟩, fun k => ?_⟩⟩
    · rw [if_neg k, if_neg k2, Int.sub_self, Int.add_zero] at hW
      exact ⟨⟨by omega, by omega⟩, ⟨by omega, by omega⟩, hW⟩
    · rw [if_neg k, if_pos (by omega), Int.sub_zero] at hW
      exact ⟨by omega, by omega, ⟨by omega, by omega⟩, ⟨by omega, by omega⟩, hW⟩
    · rw [if_neg (show ¬ b 1 i = a by omega), if_pos (show b 0 i = a by omega), Int.zero_sub] at hW
      exact ⟨by omega, by omega, ⟨by omega, by omega⟩, ⟨by omega, by omega⟩, hW⟩
  · refine s_X1_lowestHeld_7 _ _ _ _ _ _ _ _ ?_
    rw [isC_m hC]
    exact ⟨⟨⟨by omega, by omega⟩, ⟨by omega, by omega⟩⟩, fun _ => h, fun h => absurd h (by omega)⟩
theorem m_leastHad {d : Nat} {a : Int} {b : BK} {μ : JM} {Q : JQ} (hM : isM μ b) (hv : vb b) (ha : inR a) (h : Q (pleast b a).2 μ) : wp true (d + 2) 266 0 [(40, 0), (0, a), (9, 0), (9, 0), (9, 0)] [] μ Q := by
  have hm := vb_m hv
  have hn := vb_n hv
  refine s_X11_leastHad_0 _ _ _ _ (fup_loop (W := fun i (c : Int × Int) => wp true (d + 2) 266 7 [(40, 0), (0, a), (0, c.1), (0, c.2), (0, i)] [] μ Q) (fun (i : Int) (c : Int × Int) => -9999 * i ≤ c.1 ∧ c.1 ≤ 9999 * i ∧ -9999 * i ≤ c.2 ∧ c.2 ≤ 0) (lo := 0) (n := b 5 1) (least_in hv a) (fun i c h0 h1 hI hW => ?_) (nm b) 0 (0, 0) (by omega) (nm_eq hv) (by omega) (fun _ => ?_))
  · have bt := vb_t hv h0 h1
    have tt := isM_t hM h0 h1
    refine s_X11_leastHad_7 _ _ _ _ _ _ _ ?_
    have key : ∀ z, z = (if b 1 i = a then b 3 i else 0) → wp true (d + 2) 266 38 [(40, 0), (0, a), (0, c.1), (0, c.2), (0, i)] [(0, z), (0, c.1)] μ Q := by
      intro z hz
      refine s_X11_leastHad_38 _ _ _ _ _ _ _ _ _ ?_
      rw [tt.1, tt.2.2.2]
      have hz' : 0 ≤ z ∧ z ≤ 9999 := by
        rw [hz]
        split <;> omega
      rw [← hz] at hW
      refine ⟨by omega, by omega, Or.inr ⟨⟨by omega, by omega⟩, ha⟩, fun k => ?_, fun k => ?_⟩
      · rw [if_neg k] at hW
        exact ⟨⟨by omega, by omega⟩, ⟨by omega, by omega⟩, hW⟩
      · rw [if_pos (by omega)] at hW
        exact ⟨by omega, by omega, ⟨by omega, by omega⟩, ⟨by omega, by omega⟩, hW⟩
    rw [isM_m hM, tt.2.1, tt.2.2.2]
    refine ⟨by omega, by omega, ⟨⟨by omega, by omega⟩, ⟨by omega, by omega⟩⟩, fun h => absurd h (by omega), fun _ => ⟨by omega, by omega, Or.inr ⟨⟨by omega, by omega⟩, ha⟩, fun k => ?_, fun k => ⟨by omega, by omega, ?_⟩⟩⟩
    · exact key 0 (by rw [if_neg k])
    · exact key (b 3 i) (by rw [if_pos (by omega)])
  · refine s_X11_leastHad_7 _ _ _ _ _ _ _ ?_
    rw [isM_m hM]
    exact ⟨by omega, by omega, ⟨⟨by omega, by omega⟩, ⟨by omega, by omega⟩⟩, fun _ => h, fun h => absurd h (by omega)⟩
theorem w_joinsFunnel {d : Nat} {x t w o z : Int} {b : BK} {μ : JM} {Q : JQ} (hC : isC μ x b) (hv : vb b) (h0 : 0 ≤ t) (h1 : t < b 5 1) (h2 : 0 ≤ z) (h3 : z < b 5 1) (hw : 0 ≤ w ∧ w ≤ 9999) (ho : o = 0 ∨ o = 1) (k1 : pjoin b t w (decide (o = 1)) z → Q 1 μ) (k0 : ¬ pjoin b t w (decide (o = 1)) z → Q 0 μ) : wp true d 42 0 [(12, x), (0, z), (0, t), (0, w), (0, o), (9, 0), (9, 0)] [] μ Q := by
  have hm := vb_m hv
  have hn := vb_n hv
  have bt := vb_t hv h0 h1
  have bz := vb_t hv h2 h3
  have tt := isC_t hC h0 h1
  have tz := isC_t hC h2 h3
  refine s_X1_joinsFunnel_0 _ _ _ _ _ _ _ _ ?_
  rw [tt.2.2.1, tz.2.2.1]
  rcases ho with rfl | rfl
  · have k1' : b 1 z = b 0 t ∧ 1 ≤ b 2 t - b 2 z ∧ b 2 t - b 2 z ≤ w → Q 1 μ := k1
    have k0' : ¬ (b 1 z = b 0 t ∧ 1 ≤ b 2 t - b 2 z ∧ b 2 t - b 2 z ≤ w) → Q 0 μ := k0
    refine ⟨by decide, fun _ => ⟨by omega, by omega, by omega, by omega, ?_⟩, fun h => absurd rfl h⟩
    refine s_X1_joinsFunnel_34 _ _ _ _ _ _ _ _ _ ?_
    rw [tz.2.1, tt.1]
    refine ⟨by decide, fun _ => ⟨by omega, by omega, by omega, by omega, by omega, fun h => ⟨by decide, fun _ => ⟨by omega, by omega, k0' (fun j => h j.1)⟩, fun h => absurd rfl h⟩, fun h => ⟨by decide, fun h => absurd h (by decide), fun _ => ⟨⟨⟨by omega, by omega⟩, ⟨by omega, by omega⟩⟩, fun h => ⟨by omega, by omega, k0' (by omega)⟩, fun _ => ⟨⟨⟨by omega, by omega⟩, ⟨by omega, by omega⟩⟩, fun h => ⟨by omega, by omega, k0' (by omega)⟩, fun _ => ⟨by omega, by omega, k1' (by omega)⟩⟩⟩⟩⟩, fun h => absurd rfl h⟩
  · have k1' : b 0 z = b 1 t ∧ 1 ≤ b 2 z - b 2 t ∧ b 2 z - b 2 t ≤ w → Q 1 μ := k1
    have k0' : ¬ (b 0 z = b 1 t ∧ 1 ≤ b 2 z - b 2 t ∧ b 2 z - b 2 t ≤ w) → Q 0 μ := k0
    refine ⟨by decide, fun h => absurd h (by decide), fun _ => ⟨by omega, by omega, by omega, by omega, ?_⟩⟩
    refine s_X1_joinsFunnel_34 _ _ _ _ _ _ _ _ _ ?_
    rw [tz.1, tt.2.1]
    refine ⟨by decide, fun h => absurd h (by decide), fun _ => ⟨by omega, by omega, by omega, by omega, by omega, fun h => ⟨by decide, fun _ => ⟨by omega, by omega, k0' (fun j => h j.1)⟩, fun h => absurd rfl h⟩, fun h => ⟨by decide, fun h => absurd h (by decide), fun _ => ⟨⟨⟨by omega, by omega⟩, ⟨by omega, by omega⟩⟩, fun h => ⟨by omega, by omega, k0' (by omega)⟩, fun _ => ⟨⟨⟨by omega, by omega⟩, ⟨by omega, by omega⟩⟩, fun h => ⟨by omega, by omega, k0' (by omega)⟩, fun _ => ⟨by omega, by omega, k1' (by omega)⟩⟩⟩⟩⟩⟩
theorem c_funnelCount {d : Nat} {x t w o : Int} {b : BK} {μ : JM} {Q : JQ} (hC : isC μ x b) (hv : vb b) (h0 : 0 ≤ t) (h1 : t < b 5 1) (hw : 0 ≤ w ∧ w ≤ 9999) (ho : o = 0 ∨ o = 1) (h : Q (pfc b t w (decide (o = 1))) μ) : wp true (d + 1) 43 0 [(12, x), (0, t), (0, w), (0, o), (9, 0), (9, 0)] [] μ Q := by
  have hm := vb_m hv
  refine s_X1_funnelCount_0 _ _ _ _ _ _ _ (fup_lp (W := fun i c => wp true (d + 1) 43 6 [(12, x), (0, t), (0, w), (0, o), (0, c), (0, i)] [] μ Q) (g := fun c z => c + if pjoin b t w (decide (o = 1)) z then 1 else 0) (lo := 0) (n := b 5 1) (fun i c h2 h3 hW => ?_) (nm b) 0 0 (by omega) (nm_eq hv) ?_)
  · refine s_X1_funnelCount_6 _ _ _ _ _ _ _ _ _ ?_
    rw [isC_m hC]
    refine ⟨⟨⟨by omega, by omega⟩, ⟨by omega, by omega⟩⟩, fun h => absurd h (by omega), fun _ => ?_⟩
    refine w_joinsFunnel hC hv h0 h1 h2 h3 hw ho (fun k => ?_) (fun k => ?_)
    · rw [if_pos k] at hW
      exact ⟨by decide, fun h => absurd h (by decide), fun _ => hW⟩
    · rw [if_neg k] at hW
      exact ⟨by decide, fun _ => hW, fun h => absurd rfl h⟩
  · refine s_X1_funnelCount_6 _ _ _ _ _ _ _ _ _ ?_
    rw [isC_m hC]
    exact ⟨⟨⟨by omega, by omega⟩, ⟨by omega, by omega⟩⟩, fun _ => h, fun h => absurd h (by omega)⟩
theorem c_funnelAmount {d : Nat} {x t w o : Int} {b : BK} {μ : JM} {Q : JQ} (hC : isC μ x b) (hv : vb b) (h0 : 0 ≤ t) (h1 : t < b 5 1) (hw : 0 ≤ w ∧ w ≤ 9999) (ho : o = 0 ∨ o = 1) (h : Q (pfa b t w (decide (o = 1))) μ) : wp true (d + 1) 44 0 [(12, x), (0, t), (0, w), (0, o), (9, 0), (9, 0)] [] μ Q := by
  have hm := vb_m hv
  refine s_X1_funnelAmount_0 _ _ _ _ _ _ _ (fup_lp (W := fun i c => wp true (d + 1) 44 6 [(12, x), (0, t), (0, w), (0, o), (0, c), (0, i)] [] μ Q) (g := fun c z => c + if pjoin b t w (decide (o = 1)) z then b 3 z else 0) (lo := 0) (n := b 5 1) (fun i c h2 h3 hW => ?_) (nm b) 0 0 (by omega) (nm_eq hv) ?_)
  · refine s_X1_funnelAmount_6 _ _ _ _ _ _ _ _ _ ?_
    rw [isC_m hC]
    refine ⟨⟨⟨by omega, by omega⟩, ⟨by omega, by omega⟩⟩, fun h => absurd h (by omega), fun _ => ?_⟩
    refine w_joinsFunnel hC hv h0 h1 h2 h3 hw ho (fun k => ?_) (fun k => ?_)
    · rw [if_pos k] at hW
      refine ⟨by decide, fun h => absurd h (by decide), fun _ => ⟨by omega, by omega, ?_⟩⟩
      rw [(isC_t hC h2 h3).2.2.2]
      exact hW
    · rw [if_neg k] at hW
      exact ⟨by decide, fun _ => hW, fun h => absurd rfl h⟩
  · refine s_X1_funnelAmount_6 _ _ _ _ _ _ _ _ _ ?_
    rw [isC_m hC]
    exact ⟨⟨⟨by omega, by omega⟩, ⟨by omega, by omega⟩⟩, fun _ => h, fun h => absurd h (by omega)⟩
theorem c_isFunnel {d : Nat} {x t w o : Int} {b : BK} {μ : JM} {Q : JQ} (hC : isC μ x b) (hv : vb b) (h0 : 0 ≤ t) (h1 : t < b 5 1) (hw : 0 ≤ w ∧ w ≤ 9999) (ho : o = 0 ∨ o = 1) (k1 : pfun b t w (decide (o = 1)) → Q 1 μ) (k0 : ¬ pfun b t w (decide (o = 1)) → Q 0 μ) : wp true (d + 2) 45 0 [(12, x), (0, t), (0, w), (0, o), (9, 0), (9, 0), (9, 0)] [] μ Q := by
  have hm := vb_m hv
  have hb := vb_t hv h0 h1
  have tt := isC_t hC h0 h1
  have l1 := pfc_le hv t w (decide (o = 1))
  have l2 := pfa_le hv t w (decide (o = 1))
  refine s_X1_isFunnel_0 _ _ _ _ _ _ _ ?_
  refine c_funnelCount hC hv h0 h1 hw ho ⟨⟨⟨by omega, by omega⟩, ⟨by omega, by omega⟩⟩, fun k => ?_, fun k => ⟨by omega, by omega, k0 (fun j => k j.1)⟩⟩
  refine c_funnelAmount hC hv h0 h1 hw ho ?_
  rw [tt.2.2.2]
  rcases ho with rfl | rfl
  · refine ⟨by decide, fun _ => ?_, fun h => absurd rfl h⟩
    refine s_X1_isFunnel_37 _ _ _ _ _ _ _ _ _ ?_
    rw [tt.2.2.2]
    refine ⟨by decide, fun _ => ⟨by omega, by omega, ?_⟩, fun h => absurd rfl h⟩
    exact w_fits hC hv l2 (by omega) (fun j => ⟨by omega, by omega, k1 ⟨k, j⟩⟩) (fun j => ⟨by omega, by omega, k0 (fun q => j q.2)⟩)
  · refine ⟨by decide, fun h => absurd h (by decide), fun _ => ⟨by omega, by omega, ?_⟩⟩
    refine s_X1_isFunnel_37 _ _ _ _ _ _ _ _ _ ?_
    rw [tt.2.2.2]
    refine ⟨by decide, fun h => absurd h (by decide), fun _ => ?_⟩
    exact w_fits hC hv (by omega) l2 (fun j => ⟨by omega, by omega, k1 ⟨k, j⟩⟩) (fun j => ⟨by omega, by omega, k0 (fun q => j q.2)⟩)
/-- the reference's funnel: its two tellers -/
abbrev PFn : Nat → Int → Int → Prop := fun t x i => t = 40 ∧ x = 0 ∧ (i = 35 ∨ i = 36)
theorem m_isFunnel {d : Nat} {t w o : Int} {b : BK} {μ : JM} {Q : JQ} (hM : isM μ b) (hv : vb b) (h0 : 0 ≤ t) (h1 : t < b 5 1) (hw : 0 ≤ w ∧ w ≤ 9999) (ho : o = 0 ∨ o = 1) (k : ∀ ν, jfr PFn μ ν → ν 40 0 35 = pfc b t w (decide (o = 1)) → ν 40 0 36 = pfa b t w (decide (o = 1)) → (pfun b t w (decide (o = 1)) → Q 1 ν) ∧ (¬ pfun b t w (decide (o = 1)) → Q 0 ν)) : wp true (d + 4) 314 0 [(40, 0), (0, t), (0, w), (0, o), (9, 0), (9, 0), (9, 0)] [] μ Q := by
  have hm := vb_m hv
  have hn := vb_n hv
  have hb := vb_t hv h0 h1
  have l1 := pfc_le hv t w (decide (o = 1))
  have l2 := pfa_le hv t w (decide (o = 1))
  refine s_X11_isFunnel_0 _ _ _ _ _ _ ?_
  refine fup_lp (W := fun i (c : Int × Int) => ∀ (u5 u6 : JV) (ν : JM), jfr PFn μ ν → ν 40 0 35 = c.1 → ν 40 0 36 = c.2 → wp true (d + 4) 314 13 [(40, 0), (0, t), (0, w), (0, o), (0, i), u5, u6] [] ν Q) (g := fun c z => (c.1 + (if pjoin b t w (decide (o = 1)) z then 1 else 0), c.2 + (if pjoin b t w (decide (o = 1)) z then b 3 z else 0))) (lo := 0) (n := b 5 1) (fun i c h2 h3 hW u5 u6 ν hf e1 e2 => ?_) (nm b) 0 (0, 0) (by omega) (nm_eq hv) (fun u5 u6 ν hf e1 e2 => ?_) _ _ _ ?_ ?_ ?_
  · have hM' : isM ν b := isM_fr hM (fun i => hf _ _ _ (by simp))
    have bz := vb_t hv h2 h3
    have tt := isM_t hM' h0 h1
    have tz := isM_t hM' h2 h3
    refine s_X11_isFunnel_13 _ _ _ _ _ _ _ _ _ ?_
    have key : ∀ (z : Int) (u5 u6 : JV), z = (if decide (o = 1) = true then b 2 i - b 2 t else b 2 t - b 2 i) → wp true (d + 4) 314 54 [(40, 0), (0, t), (0, w), (0, o), (0, i), u5, u6] [(0, z)] ν Q := by
      intro z u5 u6 hz
      have key2 : ∀ (f : Int) (u6 : JV), f = (if (if decide (o = 1) = true then b 0 i = b 1 t else b 1 i = b 0 t) then 1 else 0) → wp true (d + 4) 314 101 [(40, 0), (0, t), (0, w), (0, o), (0, i), (0, z), u6] [(0, f)] ν Q := by
        intro f u6 hf2
        have hz2 : -9999 ≤ z ∧ z ≤ 9999 := by
          rw [hz]
          split <;> omega
        refine s_X11_isFunnel_101 _ _ _ _ _ _ _ _ _ _ ?_
        by_cases hc : (if decide (o = 1) = true then b 0 i = b 1 t else b 1 i = b 0 t)
        · rw [if_pos hc] at hf2
          subst hf2
          refine ⟨by decide, fun h => absurd h (by decide), fun _ => ?_⟩
          refine w_isFrom ⟨by omega, by omega⟩ ⟨by omega, by omega⟩ ⟨by omega, by omega⟩ (fun a1 a2 => ⟨by decide, fun _ => ⟨by omega, by omega, ?_⟩, fun h => (h (by decide)).elim⟩) (fun a1 => ⟨by decide, fun h => absurd rfl h, fun _ => ?_⟩)
          · have hj : pjoin b t w (decide (o = 1)) i := ⟨hc, by rw [← hz]; exact a1, by rw [← hz]; exact a2⟩
            dsimp only at hW
            rw [if_pos hj, if_pos hj] at hW
            refine hW _ _ _ (jfr_jw (jfr_jw hf ⟨rfl, rfl, Or.inl rfl⟩) ⟨rfl, rfl, Or.inr rfl⟩) ?_ ?_
            · rw [jw_i (by omega), jw_eq, e1]
            · rw [jw_eq, jw_i (by omega), jw_t (by omega), e2, tz.2.2.2]
          · have hj : ¬ pjoin b t w (decide (o = 1)) i := fun j => a1 ⟨by rw [hz]; exact j.2.1, by rw [hz]; exact j.2.2⟩
            dsimp only at hW
            rw [if_neg hj, if_neg hj, Int.add_zero, Int.add_zero] at hW
            exact hW _ _ _ hf e1 e2
        · rw [if_neg hc] at hf2
          subst hf2
          refine ⟨by decide, fun _ => ?_, fun h => absurd rfl h⟩
          have hj : ¬ pjoin b t w (decide (o = 1)) i := fun j => hc j.1
          dsimp only at hW
          rw [if_neg hj, if_neg hj, Int.add_zero, Int.add_zero] at hW
          exact hW _ _ _ hf e1 e2
      refine s_X11_isFunnel_54 _ _ _ _ _ _ _ _ _ _ ?_
      rw [tz.2.1, tt.1, tz.1, tt.2.1]
      rcases ho with rfl | rfl
      · refine ⟨by decide, fun _ => ⟨by omega, by omega, by omega, by omega, by omega, fun h => key2 0 _ ?_, fun h => key2 1 _ ?_⟩, fun h => absurd rfl h⟩
        · exact (if_neg h).symm
        · exact (if_pos (by omega : b 1 i = b 0 t)).symm
      · refine ⟨by decide, fun h => absurd h (by decide), fun _ => ⟨by omega, by omega, by omega, by omega, by omega, fun h => key2 0 _ ?_, fun h => key2 1 _ ?_⟩⟩
        · exact (if_neg h).symm
        · exact (if_pos (by omega : b 0 i = b 1 t)).symm
    rw [isM_m hM', tt.2.2.1, tz.2.2.1]
    refine ⟨by omega, by omega, ⟨⟨by omega, by omega⟩, ⟨by omega, by omega⟩⟩, fun h => absurd h (by omega), fun _ => ?_⟩
    rcases ho with rfl | rfl
    · exact ⟨by decide, fun _ => ⟨by omega, by omega, by omega, by omega, key _ _ _ rfl⟩, fun h => absurd rfl h⟩
    · exact ⟨by decide, fun h => absurd h (by decide), fun _ => ⟨by omega, by omega, by omega, by omega, key _ _ _ rfl⟩⟩
  · have hM' : isM ν b := isM_fr hM (fun i => hf _ _ _ (by simp))
    have tt := isM_t hM' h0 h1
    have p1 : ∀ (k : Nat) (i : Int) (c : Int × Int), (fup (fun (c : Int × Int) z => (c.1 + (if pjoin b t w (decide (o = 1)) z then 1 else 0), c.2 + (if pjoin b t w (decide (o = 1)) z then b 3 z else 0))) k i c).1 = fup (fun c z => c + if pjoin b t w (decide (o = 1)) z then 1 else 0) k i c.1 := by
      intro k
      induction k with
      | zero => intro i c; rfl
      | succ k ih => intro i c; exact ih _ _
    have p2 : ∀ (k : Nat) (i : Int) (c : Int × Int), (fup (fun (c : Int × Int) z => (c.1 + (if pjoin b t w (decide (o = 1)) z then 1 else 0), c.2 + (if pjoin b t w (decide (o = 1)) z then b 3 z else 0))) k i c).2 = fup (fun c z => c + if pjoin b t w (decide (o = 1)) z then b 3 z else 0) k i c.2 := by
      intro k
      induction k with
      | zero => intro i c; rfl
      | succ k ih => intro i c; exact ih _ _
    rw [p1] at e1
    rw [p2] at e2
    have e1' : ν 40 0 35 = pfc b t w (decide (o = 1)) := e1
    have e2' : ν 40 0 36 = pfa b t w (decide (o = 1)) := e2
    have kk := k ν hf e1' e2'
    refine s_X11_isFunnel_13 _ _ _ _ _ _ _ _ _ ?_
    rw [isM_m hM', tt.2.2.2, e1', e2']
    refine ⟨by omega, by omega, ⟨⟨by omega, by omega⟩, ⟨by omega, by omega⟩⟩, fun _ => ⟨⟨⟨by omega, by omega⟩, ⟨by omega, by omega⟩⟩, fun h => ⟨by omega, by omega, kk.2 (fun j => by omega)⟩, fun h => ?_⟩, fun h => absurd h (by omega)⟩
    rcases ho with rfl | rfl
    · refine ⟨by decide, fun _ => ⟨by omega, by omega, ?_⟩, fun h => absurd rfl h⟩
      exact w_isAs hM' hv l2 (by omega) (fun j => ⟨by decide, fun h => absurd h (by decide), fun _ => ⟨by omega, by omega, kk.1 ⟨by omega, j⟩⟩⟩) (fun j => ⟨by decide, fun _ => ⟨by omega, by omega, kk.2 (fun q => j q.2)⟩, fun h => absurd rfl h⟩)
    · refine ⟨by decide, fun h => absurd h (by decide), fun _ => ⟨by omega, by omega, ?_⟩⟩
      exact w_isAs hM' hv (by omega) l2 (fun j => ⟨by decide, fun h => absurd h (by decide), fun _ => ⟨by omega, by omega, kk.1 ⟨by omega, j⟩⟩⟩) (fun j => ⟨by decide, fun _ => ⟨by omega, by omega, kk.2 (fun q => j q.2)⟩, fun h => absurd rfl h⟩)
  · exact jfr_jw (jfr_jw (jfr_refl _ _) ⟨rfl, rfl, Or.inl rfl⟩) ⟨rfl, rfl, Or.inr rfl⟩
  · rw [jw_i (by omega), jw_eq]
  · rw [jw_eq]
