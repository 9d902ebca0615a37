/-! LEAVES: tests and small methods of both -/
theorem w_isFrom {d : Nat} {v lo hi : Int} {μ : JM} {Q : JQ} (hv : inR v) (hl : inR lo) (hh : inR hi) (h1 : lo ≤ v → v ≤ hi → Q 1 μ) (h0 : ¬ (lo ≤ v ∧ v ≤ hi) → Q 0 μ) : wp true d 193 0 [(0, v), (0, lo), (0, hi)] [] μ Q := by
  refine s_X11_isFrom_0 _ _ _ _ _ _ ?_
  (repeat' with_reducible first | refine And.intro ?_ ?_ | intro _)
  all_goals try first | assumption | omega | decide | (refine Or.inr ⟨⟨?_, ?_⟩, ⟨?_, ?_⟩⟩ <;> omega)
  all_goals first | exact h0 (by omega) | exact h1 (by omega) (by omega)
theorem w_outside {d : Nat} {v lo hi : Int} {μ : JM} {Q : JQ} (hv : inR v) (hl : inR lo) (hh : inR hi) (h0 : lo ≤ v → v ≤ hi → Q 0 μ) (h1 : ¬ (lo ≤ v ∧ v ≤ hi) → Q 1 μ) : wp true d 176 0 [(0, v), (0, lo), (0, hi)] [] μ Q := by
  refine s_X10_outside_0 _ _ _ _ _ _ ?_
  (repeat' with_reducible first | refine And.intro ?_ ?_ | intro _)
  all_goals try first | assumption | omega | decide | (refine Or.inr ⟨⟨?_, ?_⟩, ⟨?_, ?_⟩⟩ <;> omega)
  all_goals first | exact h1 (by omega) | exact h0 (by omega) (by omega)
theorem w_notTime {d : Nat} {v : Int} {μ : JM} {Q : JQ} (hv : inR v) (h0 : 0 ≤ v → v ≤ 9999 → Q 0 μ) (h1 : ¬ (0 ≤ v ∧ v ≤ 9999) → Q 1 μ) : wp true (d + 1) 177 0 [(0, v)] [] μ Q := by
  refine s_X10_notTime_0 _ _ _ _ ?_
  refine w_outside hv ⟨by omega, by omega⟩ ⟨by omega, by omega⟩ (fun a b => ?_) (fun a => ?_)
  · exact ⟨by omega, by omega, h0 a b⟩
  · exact ⟨by omega, by omega, h1 a⟩
theorem w_has {d : Nat} {s k : Int} {μ : JM} {Q : JQ} (hk : 0 ≤ k ∧ k < 32) (h1 : bt s k.toNat = true → Q 1 μ) (h0 : bt s k.toNat = false → Q 0 μ) : wp true d 194 0 [(0, s), (0, k)] [] μ Q := by
  refine s_X11_has_0 _ _ _ _ _ ?_
  rw [has_s s hk.1 hk.2]
  by_cases hc : bt s k.toNat = true
  · rw [if_pos hc]
    exact ⟨by decide, fun h => absurd rfl h, fun _ => ⟨by omega, by omega, h1 hc⟩⟩
  · rw [if_neg hc]
    exact ⟨by decide, fun _ => ⟨by omega, by omega, h0 (by simpa using hc)⟩, fun h => (h (by decide)).elim⟩
theorem w_isTrusted {d : Nat} {x k : Int} {b : BK} {μ : JM} {Q : JQ} (hC : isC μ x b) (hk : 0 ≤ k ∧ k < 32) (h1 : bt (b 5 2) k.toNat = true → Q 1 μ) (h0 : bt (b 5 2) k.toNat = false → Q 0 μ) : wp true d 28 0 [(12, x), (0, k)] [] μ Q := by
  refine s_X1_isTrusted_0 _ _ _ _ _ ?_
  rw [isC_tr hC, has_u _ hk.1 hk.2]
  by_cases hc : bt (b 5 2) k.toNat = true
  · rw [if_pos hc]
    exact ⟨by decide, fun h => absurd h (by decide), fun _ => ⟨by omega, by omega, h1 hc⟩⟩
  · rw [if_neg hc]
    exact ⟨by decide, fun _ => ⟨by omega, by omega, h0 (by simpa using hc)⟩, fun h => absurd rfl h⟩
theorem w_hasAccount {d : Nat} {x k : Int} {b : BK} {μ : JM} {Q : JQ} (hC : isC μ x b) (hv : vb b) (hk : inR k) (h1 : 0 ≤ k → k < b 5 0 → Q 1 μ) (h0 : ¬ (0 ≤ k ∧ k < b 5 0) → Q 0 μ) : wp true d 26 0 [(12, x), (0, k)] [] μ Q := by
  have hn := vb_n hv
  refine s_X1_hasAccount_0 _ _ _ _ _ ?_
  rw [isC_n hC]
  (repeat' with_reducible first | refine And.intro ?_ ?_ | intro _)
  all_goals try first | assumption | omega | decide | (refine Or.inr ⟨⟨?_, ?_⟩, ⟨?_, ?_⟩⟩ <;> omega)
  all_goals first | exact h0 (by omega) | exact h1 (by omega) (by omega)
theorem w_hasTransfer {d : Nat} {x k : Int} {b : BK} {μ : JM} {Q : JQ} (hC : isC μ x b) (hv : vb b) (hk : inR k) (h1 : 0 ≤ k → k < b 5 1 → Q 1 μ) (h0 : ¬ (0 ≤ k ∧ k < b 5 1) → Q 0 μ) : wp true d 27 0 [(12, x), (0, k)] [] μ Q := by
  have hn := vb_m hv
  refine s_X1_hasTransfer_0 _ _ _ _ _ ?_
  rw [isC_m hC]
  (repeat' with_reducible first | refine And.intro ?_ ?_ | intro _)
  all_goals try first | assumption | omega | decide | (refine Or.inr ⟨⟨?_, ?_⟩, ⟨?_, ?_⟩⟩ <;> omega)
  all_goals first | exact h0 (by omega) | exact h1 (by omega) (by omega)
theorem w_isAccount {d : Nat} {k : Int} {b : BK} {μ : JM} {Q : JQ} (hM : isM μ b) (hv : vb b) (hk : inR k) (h1 : 0 ≤ k → k < b 5 0 → Q 1 μ) (h0 : ¬ (0 ≤ k ∧ k < b 5 0) → Q 0 μ) : wp true (d + 1) 205 0 [(40, 0), (0, k)] [] μ Q := by
  have hn := vb_n hv
  refine s_X11_isAccount_0 _ _ _ _ ?_
  rw [isM_n hM]
  (repeat' with_reducible first | refine And.intro ?_ ?_ | intro _)
  all_goals try first | assumption | omega | decide | (refine Or.inr ⟨⟨?_, ?_⟩, ⟨?_, ?_⟩⟩ <;> omega)
  all_goals first | exact h0 (by omega) | exact h1 (by omega) (by omega)
theorem w_isTransfer {d : Nat} {k : Int} {b : BK} {μ : JM} {Q : JQ} (hM : isM μ b) (hv : vb b) (hk : inR k) (h1 : 0 ≤ k → k < b 5 1 → Q 1 μ) (h0 : ¬ (0 ≤ k ∧ k < b 5 1) → Q 0 μ) : wp true (d + 1) 206 0 [(40, 0), (0, k)] [] μ Q := by
  have hn := vb_m hv
  refine s_X11_isTransfer_0 _ _ _ _ ?_
  rw [isM_m hM]
  (repeat' with_reducible first | refine And.intro ?_ ?_ | intro _)
  all_goals try first | assumption | omega | decide | (refine Or.inr ⟨⟨?_, ?_⟩, ⟨?_, ?_⟩⟩ <;> omega)
  all_goals first | exact h0 (by omega) | exact h1 (by omega) (by omega)
/-- may a bound be so -/
abbrev pbound (w v : Int) : Prop := (w = 0 ∧ 0 ≤ v ∧ v ≤ 9999) ∨ (w = 1 ∧ 2 ≤ v ∧ v ≤ 5) ∨ ((w = 2 ∨ w = 3) ∧ 0 ≤ v ∧ v ≤ 90)
theorem w_boundCanBe {d : Nat} {w v : Int} {μ : JM} {Q : JQ} (hw : inR w) (hv : inR v) (h1 : pbound w v → Q 1 μ) (h0 : ¬ pbound w v → Q 0 μ) : wp true d 25 0 [(0, w), (0, v)] [] μ Q := by
  refine s_X1_boundCanBe_0 _ _ _ _ _ ?_
  (repeat' with_reducible first | refine And.intro ?_ ?_ | intro _)
  all_goals try first | assumption | omega | decide | (refine Or.inr ⟨⟨?_, ?_⟩, ⟨?_, ?_⟩⟩ <;> omega)
  all_goals first | exact h0 (by omega) | exact h1 (by omega)
theorem w_isBound {d : Nat} {w v : Int} {μ : JM} {Q : JQ} (hw : inR w) (hv : inR v) (h1 : pbound w v → Q 1 μ) (h0 : ¬ pbound w v → Q 0 μ) : wp true (d + 1) 215 0 [(0, w), (0, v)] [] μ Q := by
  refine s_X11_isBound_0 _ _ _ _ _ ?_
  (repeat' with_reducible first | refine And.intro ?_ ?_ | intro _)
  all_goals try first | assumption | omega | decide | (refine Or.inr ⟨⟨?_, ?_⟩, ⟨?_, ?_⟩⟩ <;> omega)
  · refine w_isFrom hw ⟨by omega, by omega⟩ ⟨by omega, by omega⟩ (fun a b => ⟨by decide, fun h => absurd h (by decide), fun _ => ?_⟩) (fun a => ⟨by decide, fun _ => ⟨by omega, by omega, h0 (by omega)⟩, fun h => absurd rfl h⟩)
    refine w_isFrom hv ⟨by omega, by omega⟩ ⟨by omega, by omega⟩ (fun a b => ⟨by decide, fun h => absurd h (by decide), fun _ => ⟨by omega, by omega, h1 (by omega)⟩⟩) (fun a => ⟨by decide, fun _ => ⟨by omega, by omega, h0 (by omega)⟩, fun h => absurd rfl h⟩)
  · exact w_isFrom hv ⟨by omega, by omega⟩ ⟨by omega, by omega⟩ (fun a b => ⟨by omega, by omega, h1 (by omega)⟩) (fun a => ⟨by omega, by omega, h0 (by omega)⟩)
  · exact w_isFrom hv ⟨by omega, by omega⟩ ⟨by omega, by omega⟩ (fun a b => ⟨by omega, by omega, h1 (by omega)⟩) (fun a => ⟨by omega, by omega, h0 (by omega)⟩)
theorem w_fits {d : Nat} {x u v : Int} {b : BK} {μ : JM} {Q : JQ} (hC : isC μ x b) (hv : vb b) (hu : 0 ≤ u ∧ u ≤ 400000) (hw : 0 ≤ v ∧ v ≤ 400000) (h1 : pfits b u v → Q 1 μ) (h0 : ¬ pfits b u v → Q 0 μ) : wp true d 34 0 [(12, x), (0, u), (0, v)] [] μ Q := by
  have hf := fit_in hv hu.1 hu.2
  refine s_X1_fits_0 _ _ _ _ _ _ ?_
  rw [isC_b hC (by omega) (by omega), isC_b hC (by omega) (by omega)]
  generalize e1 : (100 - b 4 2) * u = p at hf ⊢
  generalize e2 : (100 + b 4 3) * u = q at hf ⊢
  have h1' : p ≤ 100 * v ∧ 100 * v ≤ q → Q 1 μ := fun h => h1 (by rw [pfits, e1, e2]; exact h)
  have h0' : ¬ (p ≤ 100 * v ∧ 100 * v ≤ q) → Q 0 μ := fun h => h0 (by rw [pfits, e1, e2]; exact h)
  (repeat' with_reducible first | refine And.intro ?_ ?_ | intro _)
  all_goals try first | assumption | omega | decide | (refine Or.inr ⟨⟨?_, ?_⟩, ⟨?_, ?_⟩⟩ <;> omega)
  · exact h0' (by omega)
  · exact h0' (by omega)
  · exact h1' (by omega)
theorem w_isAs {d : Nat} {u v : Int} {b : BK} {μ : JM} {Q : JQ} (hM : isM μ b) (hv : vb b) (hu : 0 ≤ u ∧ u ≤ 400000) (hw : 0 ≤ v ∧ v ≤ 400000) (h1 : pfits b u v → Q 1 μ) (h0 : ¬ pfits b u v → Q 0 μ) : wp true (d + 2) 221 0 [(40, 0), (0, u), (0, v)] [] μ Q := by
  have hf := fit_in hv hu.1 hu.2
  refine s_X11_isAs_0 _ _ _ _ _ ?_
  rw [isM_b hM (by omega) (by omega), isM_b hM (by omega) (by omega)]
  generalize e1 : (100 - b 4 2) * u = p at hf ⊢
  generalize e2 : (100 + b 4 3) * u = q at hf ⊢
  have h1' : p ≤ 100 * v ∧ 100 * v ≤ q → Q 1 μ := fun h => h1 (by rw [pfits, e1, e2]; exact h)
  have h0' : ¬ (p ≤ 100 * v ∧ 100 * v ≤ q) → Q 0 μ := fun h => h0 (by rw [pfits, e1, e2]; exact h)
  (repeat' with_reducible first | refine And.intro ?_ ?_ | intro _)
  all_goals try first | assumption | omega | decide | (refine Or.inr ⟨⟨?_, ?_⟩, ⟨?_, ?_⟩⟩ <;> omega)
  · exact h0' (by omega)
  · exact h0' (by omega)
  · exact h1' (by omega)
theorem w_isStep {d : Nat} {u v : Int} {b : BK} {μ : JM} {Q : JQ} (hM : isM μ b) (hv : vb b) (hu : 0 ≤ u ∧ u < b 5 1) (hw : 0 ≤ v ∧ v < b 5 1) (h1 : pstep b u v → Q 1 μ) (h0 : ¬ pstep b u v → Q 0 μ) : wp true (d + 3) 222 0 [(40, 0), (0, u), (0, v)] [] μ Q := by
  have hm := vb_m hv
  have hn := vb_n hv
  have tu := isM_t hM hu.1 hu.2
  have tv := isM_t hM hw.1 hw.2
  have bu := vb_t hv hu.1 hu.2
  have bv := vb_t hv hw.1 hw.2
  refine s_X11_isStep_0 _ _ _ _ _ ?_
  rw [tv.1, tu.2.1, tv.2.2.1, tu.2.2.1, tu.2.2.2, tv.2.2.2]
  refine ⟨by omega, by omega, by omega, by omega, by omega, fun h => ⟨by omega, by omega, h0 (fun k => h k.1)⟩, fun h => ⟨by omega, by omega, by omega, by omega, ⟨⟨by omega, by omega⟩, ⟨by omega, by omega⟩⟩, fun h' => ⟨by omega, by omega, h0 (fun k => by omega)⟩, fun h' => ⟨by omega, by omega, by omega, by omega, ?_⟩⟩⟩
  refine w_isAs hM hv (by omega) (by omega) (fun k => ?_) (fun k => ?_)
  · exact ⟨by decide, fun h => absurd h (by decide), fun _ => ⟨by omega, by omega, h1 ⟨by omega, by omega, k⟩⟩⟩
  · exact ⟨by decide, fun _ => ⟨by omega, by omega, h0 (fun j => k j.2.2)⟩, fun h => absurd rfl h⟩
theorem w_isSo {d : Nat} {v : Int} {μ : JM} {Q : JQ} (hv : inR v) (h1 : v = 0 → Q 1 (jw μ 40 0 1 v)) (h0 : ¬ v = 0 → Q 0 (jw μ 40 0 1 v)) : wp true d 191 0 [(40, 0), (0, v)] [] μ Q := by
  refine s_X11_isSo_0 _ _ _ _ ?_
  (repeat' with_reducible first | refine And.intro ?_ ?_ | intro _)
  all_goals try first | assumption | omega | decide | (refine Or.inr ⟨⟨?_, ?_⟩, ⟨?_, ?_⟩⟩ <;> omega)
  · exact h0 (by assumption)
  · exact h1 (by omega)
theorem w_known {d : Nat} {v : Int} {μ : JM} {Q : JQ} (hv : inR v) (h1 : v = -1 → Q (-1) (jw μ 11 0 8 5)) (h0 : ¬ v = -1 → Q v (jw μ 11 0 8 0)) : wp true (d + 1) 175 0 [(11, 0), (0, v)] [] μ Q := by
  refine s_X10_known_0 _ _ _ _ ?_
  (repeat' with_reducible first | refine And.intro ?_ ?_ | intro _)
  all_goals try first | assumption | omega | decide | (refine Or.inr ⟨⟨?_, ?_⟩, ⟨?_, ?_⟩⟩ <;> omega)
  · exact h0 (by assumption)
  · exact h1 (by omega)
