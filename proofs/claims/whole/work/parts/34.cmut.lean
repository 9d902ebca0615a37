/-! the class's books as they change -/
abbrev PBk (x : Int) : Nat → Int → Int → Prop := fun t y _ => (12 ≤ t ∧ t ≤ 17) ∧ y = x
abbrev PRw (x s : Int) : Nat → Int → Int → Prop := fun t y i => (13 ≤ t ∧ t ≤ 16) ∧ y = x ∧ i = s
abbrev rowC (μ : JM) (x t : Int) (b : BK) (s : Int) : Prop := μ 13 x t = b 0 s ∧ μ 14 x t = b 1 s ∧ μ 15 x t = b 2 s ∧ μ 16 x t = b 3 s
def bk0 : BK := fun j i => if j = 4 then (if i = 0 then 100 else if i = 1 then 4 else if i = 2 then 10 else 0) else 0
def pins (b : BK) (p f t a w : Int) : BK := fun j i => if j = 5 then (if i = 1 then b 5 1 + 1 else b 5 i) else if j = 4 then b 4 i else if i < p then b j i else if i = p then (if j = 0 then f else if j = 1 then t else if j = 2 then w else a) else b j (i - 1)
def prem (b : BK) (s : Int) : BK := fun j i => if j = 5 then (if i = 1 then b 5 1 - 1 else b 5 i) else if j = 4 then b 4 i else if i < s then b j i else b j (i + 1)
def pdn (b : BK) (w : Int) : Nat → Int
  | 0 => 0
  | k + 1 => if w < b 2 k then pdn b w k else (k : Int) + 1
theorem pdn_le (b : BK) (w : Int) : ∀ k, 0 ≤ pdn b w k ∧ pdn b w k ≤ k
  | 0 => ⟨by unfold pdn; omega, by unfold pdn; omega⟩
  | k + 1 => by
    have := pdn_le b w k
    unfold pdn
    split <;> omega
theorem c_copy {d : Nat} {x y : Int} {b : BK} {μ : JM} {Q : JQ} (hC : isC μ y b) (hv : vb b) (hxy : x ≠ y) (k : ∀ ν, jfr (PBk x) μ ν → isC ν x b → Q 0 ν) : wp true d 24 0 [(12, x), (12, y)] [] μ Q := by
  have hm := vb_m hv
  refine s_X1_copy_0 _ _ _ _ _ ⟨by omega, by omega, by omega, by omega, by omega, by omega, by omega, by omega, by omega, by omega, by omega, by omega, by omega, by omega, by omega, by omega, by omega, by omega, by omega, by omega, by omega, by omega, by omega, by omega, by omega, k _ ?_ ?_⟩
  · refine jfr_jcp (jfr_jcp (jfr_jcp (jfr_jcp (jfr_jcp (jfr_jw (jfr_jw (jfr_jw (jfr_refl _ _) ?_) ?_) ?_) ?_) ?_) ?_) ?_) ?_ <;> first | exact ⟨⟨by omega, by omega⟩, rfl⟩ | exact fun _ => ⟨⟨by omega, by omega⟩, rfl⟩
  · have hyx : y ≠ x := fun h => hxy h.symm
    refine ⟨?_, ?_, ?_, ?_, ?_⟩
    · rw [← isC_n hC]
      simp [jcp, jw, hxy, hyx]
    · rw [← isC_m hC]
      simp [jcp, jw, hxy, hyx]
    · rw [← isC_tr hC]
      simp [jcp, jw, hxy, hyx]
    · intro i h0 h1
      rw [← isC_b hC h0 h1]
      simp [jcp, jw, hxy, hyx, h0, h1]
    · intro t h0 h1
      have h2 : t < 32 := by omega
      have tt := isC_t hC h0 h1
      rw [← tt.1, ← tt.2.1, ← tt.2.2.1, ← tt.2.2.2]
      simp [jcp, jw, hxy, hyx, h0, h2]
theorem c_wipe {d : Nat} {x : Int} {μ : JM} {Q : JQ} (k : ∀ ν, jfr (PBk x) μ ν → isC ν x bk0 → Q 0 ν) : wp true d 23 0 [(12, x)] [] μ Q := by
  refine s_X1_wipe_0 _ _ _ _ ⟨by omega, by omega, by omega, by omega, by omega, by omega, by omega, by omega, k _ ?_ ?_⟩
  · refine jfr_jw (jfr_jw (jfr_jw (jfr_jw (jfr_jw (jfr_jw (jfr_jw (jfr_refl _ _) ?_) ?_) ?_) ?_) ?_) ?_) ?_ <;> exact ⟨⟨by omega, by omega⟩, rfl⟩
  · refine ⟨?_, ?_, ?_, ?_, ?_⟩
    · simp [jw, bk0]
    · simp [jw, bk0]
    · simp [jw, bk0]
    · intro i h0 h1
      have h : i = 0 ∨ i = 1 ∨ i = 2 ∨ i = 3 := by omega
      rcases h with rfl | rfl | rfl | rfl <;> simp [jw, bk0]
    · intro t h0 h1
      have : bk0 5 1 = 0 := rfl
      omega
theorem w_move {d : Nat} {x s t : Int} {μ : JM} {Q : JQ} (hs : 0 ≤ s ∧ s < 32) (ht : 0 ≤ t ∧ t < 32) (k : ∀ ν, jfr (PRw x t) μ ν → (ν 13 x t = μ 13 x s ∧ ν 14 x t = μ 14 x s ∧ ν 15 x t = μ 15 x s ∧ ν 16 x t = μ 16 x s) → Q 0 ν) : wp true d 33 0 [(12, x), (0, s), (0, t)] [] μ Q := by
  refine s_X1_moveTransfer_0 _ _ _ _ _ _ ⟨by omega, by omega, by omega, by omega, by omega, by omega, by omega, by omega, by omega, by omega, by omega, by omega, by omega, by omega, by omega, by omega, k _ ?_ ?_⟩
  · refine jfr_jw (jfr_jw (jfr_jw (jfr_jw (jfr_refl _ _) ?_) ?_) ?_) ?_ <;> exact ⟨⟨by omega, by omega⟩, rfl, rfl⟩
  · simp [jw]
theorem c_insert {d : Nat} {x f t a w : Int} {b : BK} {μ : JM} {Q : JQ} (hC : isC μ x b) (hv : vb b) (hm32 : b 5 1 < 32) (hw : inR w) (k : ∀ ν, jfr (PBk x) μ ν → isC ν x (pins b (pdn b w (nm b)) f t a w) → Q (pdn b w (nm b)) ν) : wp true (d + 1) 29 0 [(12, x), (0, f), (0, t), (0, a), (0, w), (9, 0)] [] μ Q := by
  have hm := vb_m hv
  have hnm : (nm b : Int) = b 5 1 := by have := nm_eq hv; omega
  have done : ∀ (n : Nat) (ν : JM), (n : Int) ≤ b 5 1 → pdn b w (nm b) = n → jfr (PBk x) μ ν → ν 12 x 0 = b 5 0 ∧ ν 12 x 2 = b 5 1 ∧ ν 12 x 1 = b 5 2 ∧ (∀ k, 0 ≤ k → k < 4 → ν 17 x k = b 4 k) → (∀ s : Int, 0 ≤ s → s < n → rowC ν x s b s) → (∀ s : Int, (n : Int) < s → s ≤ b 5 1 → rowC ν x s b (s - 1)) → wp true (d + 1) 29 59 [(12, x), (0, f), (0, t), (0, a), (0, w), (0, (n : Int))] [] ν Q := by
    intro n ν h1 h2 h3 h4 h5 h6
    rw [h2] at k
    refine s_X1_insert_59 _ _ _ _ _ _ _ _ _ ⟨by omega, by omega, by omega, by omega, by omega, by omega, by omega, by omega, k _ ?_ ?_⟩
    · refine jfr_jw (jfr_jw (jfr_jw (jfr_jw (jfr_jw h3 ?_) ?_) ?_) ?_) ?_ <;> exact ⟨⟨by omega, by omega⟩, rfl⟩
    · refine ⟨?_, ?_, ?_, ?_, ?_⟩
      · simp [jw, pins, h4.1]
      · simp [jw, pins, h4.2.1]
      · simp [jw, pins, h4.2.2.1]
      · intro i h0 h1
        simp [jw, pins, h4.2.2.2 i h0 h1]
      · intro s h0 hs
        have hs' : s < b 5 1 + 1 := hs
        rcases Int.lt_trichotomy s n with hc | hc | hc
        · have hne : s ≠ n := by omega
          simpa [jw, pins, hc, hne] using h5 s h0 hc
        · subst hc
          simp [jw, pins]
        · have hne : s ≠ n := by omega
          have hlt : ¬ s < n := by omega
          simpa [jw, pins, hlt, hne] using h6 s hc (by omega)
  have key : ∀ (n : Nat) (ν : JM), (n : Int) ≤ b 5 1 → pdn b w (nm b) = pdn b w n → jfr (PBk x) μ ν → ν 12 x 0 = b 5 0 ∧ ν 12 x 2 = b 5 1 ∧ ν 12 x 1 = b 5 2 ∧ (∀ k, 0 ≤ k → k < 4 → ν 17 x k = b 4 k) → (∀ s : Int, 0 ≤ s → s < n → rowC ν x s b s) → (∀ s : Int, (n : Int) < s → s ≤ b 5 1 → rowC ν x s b (s - 1)) → wp true (d + 1) 29 24 [(12, x), (0, f), (0, t), (0, a), (0, w), (0, (n : Int))] [] ν Q := by
    intro n
    induction n with
    | zero =>
      intro ν h1 h2 h3 h4 h5 h6
      exact s_X1_insert_24 _ _ _ _ _ _ _ _ _ ⟨⟨⟨by omega, by omega⟩, ⟨by omega, by omega⟩⟩, fun _ => done 0 ν h1 h2 h3 h4 h5 h6, fun h => absurd h (by omega)⟩
    | succ n ih =>
      intro ν h1 h2 h3 h4 h5 h6
      have hn1 : ((n + 1 : Nat) : Int) - 1 = (n : Int) := by omega
      have hn2 : ((n + 1 : Nat) : Int) + -1 = (n : Int) := by omega
      have r := h5 n (by omega) (by omega)
      have hb := vb_t hv (t := (n : Int)) (by omega) (by omega)
      refine s_X1_insert_24 _ _ _ _ _ _ _ _ _ ?_
      rw [hn1, hn2, r.2.2.1]
      refine ⟨⟨⟨by omega, by omega⟩, ⟨by omega, by omega⟩⟩, fun h => absurd h (by omega), fun _ => ⟨by omega, by omega, ⟨⟨by omega, by omega⟩, hw⟩, fun hc => ?_, fun hc => ?_⟩⟩
      · refine done (n + 1) ν h1 ?_ h3 h4 h5 h6
        rw [h2]
        unfold pdn
        rw [if_neg (by omega)]
        omega
      · refine w_move ⟨by omega, by omega⟩ ⟨by omega, by omega⟩ (fun ξ hf hr => ?_)
        refine ih ξ (by omega) ?_ (jfr_trans h3 (jfr_mono hf (fun t y i h => ⟨⟨by omega, by omega⟩, h.2.1⟩))) ⟨?_, ?_, ?_, ?_⟩ ?_ ?_
        · rw [h2]
          conv => lhs; unfold pdn
          rw [if_pos (by omega)]
        · rw [hf _ _ _ (fun h => by omega)]; exact h4.1
        · rw [hf _ _ _ (fun h => by omega)]; exact h4.2.1
        · rw [hf _ _ _ (fun h => by omega)]; exact h4.2.2.1
        · intro i h0 h1
          rw [hf _ _ _ (fun h => by omega)]; exact h4.2.2.2 i h0 h1
        · intro s h0 hs
          have hq : ∀ t, ¬ PRw x ((n + 1 : Nat) : Int) t x s := fun t h => by omega
          have := h5 s h0 (by omega)
          refine ⟨?_, ?_, ?_, ?_⟩ <;> rw [hf _ _ _ (hq _)]
          · exact this.1
          · exact this.2.1
          · exact this.2.2.1
          · exact this.2.2.2
        · intro s h0 hs
          by_cases he : s = ((n + 1 : Nat) : Int)
          · subst he
            rw [hn1]
            exact ⟨hr.1.trans r.1, hr.2.1.trans r.2.1, hr.2.2.1.trans r.2.2.1, hr.2.2.2.trans r.2.2.2⟩
          · have hq : ∀ t, ¬ PRw x ((n + 1 : Nat) : Int) t x s := fun t h => by omega
            have := h6 s (by omega) hs
            refine ⟨?_, ?_, ?_, ?_⟩ <;> rw [hf _ _ _ (hq _)]
            · exact this.1
            · exact this.2.1
            · exact this.2.2.1
            · exact this.2.2.2
  refine s_X1_insert_0 _ _ _ _ _ _ _ _ ?_
  rw [isC_m hC]
  refine ⟨⟨⟨by omega, by omega⟩, ⟨by omega, by omega⟩⟩, fun h => absurd h (by omega), fun _ => ⟨⟨⟨by omega, by omega⟩, ⟨by omega, by omega⟩⟩, fun _ => ?_, fun h => absurd h (by omega)⟩⟩
  rw [← hnm]
  exact key (nm b) μ (by omega) rfl (jfr_refl _ _) ⟨isC_n hC, isC_m hC, isC_tr hC, fun k h0 h1 => isC_b hC h0 h1⟩ (fun s h0 h1 => isC_t hC h0 (by omega)) (fun s h0 h1 => absurd h1 (by omega))
theorem c_removeAt {d : Nat} {x s : Int} {b : BK} {μ : JM} {Q : JQ} (hC : isC μ x b) (hv : vb b) (h0 : 0 ≤ s) (h1 : s < b 5 1) (k : ∀ ν, jfr (PBk x) μ ν → isC ν x (prem b s) → Q 0 ν) : wp true (d + 1) 30 0 [(12, x), (0, s), (9, 0)] [] μ Q := by
  have hm := vb_m hv
  have key : ∀ (n : Nat) (i : Int) (ν : JM), i + n = b 5 1 → s < i → jfr (PBk x) μ ν → ν 12 x 0 = b 5 0 ∧ ν 12 x 2 = b 5 1 ∧ ν 12 x 1 = b 5 2 ∧ (∀ k, 0 ≤ k → k < 4 → ν 17 x k = b 4 k) → (∀ t, 0 ≤ t → t < s → rowC ν x t b t) → (∀ t, s ≤ t → t < i - 1 → rowC ν x t b (t + 1)) → (∀ t, i ≤ t → t < b 5 1 → rowC ν x t b t) → wp true (d + 1) 30 4 [(12, x), (0, s), (0, i)] [] ν Q := by
    intro n
    induction n with
    | zero =>
      intro i ν h2 h3 h4 h5 h6 h7 h8
      refine s_X1_removeAt_4 _ _ _ _ _ _ ?_
      rw [h5.2.1]
      refine ⟨⟨⟨by omega, by omega⟩, ⟨by omega, by omega⟩⟩, fun _ => k _ ?_ ?_, fun h => absurd h (by omega)⟩
      · exact jfr_jw h4 ⟨⟨by omega, by omega⟩, rfl⟩
      · refine ⟨?_, ?_, ?_, ?_, ?_⟩
        · simp [jw, prem, h5.1]
        · simp [jw, prem]
        · simp [jw, prem, h5.2.2.1]
        · intro i h0 h1
          simp [jw, prem, h5.2.2.2 i h0 h1]
        · intro t g0 g1
          have g1' : t < b 5 1 - 1 := g1
          by_cases hc : t < s
          · simpa [jw, prem, hc] using h6 t g0 hc
          · simpa [jw, prem, hc] using h7 t (by omega) (by omega)
    | succ n ih =>
      intro i ν h2 h3 h4 h5 h6 h7 h8
      refine s_X1_removeAt_4 _ _ _ _ _ _ ?_
      rw [h5.2.1]
      refine ⟨⟨⟨by omega, by omega⟩, ⟨by omega, by omega⟩⟩, fun h => absurd h (by omega), fun _ => ?_⟩
      refine w_move ⟨by omega, by omega⟩ ⟨by omega, by omega⟩ (fun ξ hf hr => ?_)
      have mv : ∀ t u, t ≠ i - 1 → rowC ν x t b u → rowC ξ x t b u := by
        intro t u ht hr
        have hq : ∀ u, ¬ PRw x (i - 1) u x t := fun u h => ht h.2.2
        refine ⟨?_, ?_, ?_, ?_⟩ <;> rw [hf _ _ _ (hq _)]
        · exact hr.1
        · exact hr.2.1
        · exact hr.2.2.1
        · exact hr.2.2.2
      have r := h8 i (by omega) (by omega)
      refine ih (i + 1) ξ (by omega) (by omega) (jfr_trans h4 (jfr_mono hf (fun t y i h => ⟨⟨by omega, by omega⟩, h.2.1⟩))) ⟨?_, ?_, ?_, ?_⟩ ?_ ?_ ?_
      · rw [hf _ _ _ (fun h => by omega)]; exact h5.1
      · rw [hf _ _ _ (fun h => by omega)]; exact h5.2.1
      · rw [hf _ _ _ (fun h => by omega)]; exact h5.2.2.1
      · intro i h0 h1
        rw [hf _ _ _ (fun h => by omega)]; exact h5.2.2.2 i h0 h1
      · exact fun t g0 g1 => mv t t (by omega) (h6 t g0 g1)
      · intro t g0 g1
        by_cases he : t = i - 1
        · subst he
          rw [Int.sub_add_cancel]
          exact ⟨hr.1.trans r.1, hr.2.1.trans r.2.1, hr.2.2.1.trans r.2.2.1, hr.2.2.2.trans r.2.2.2⟩
        · exact mv t (t + 1) he (h7 t g0 (by omega))
      · exact fun t g0 g1 => mv t t (by omega) (h8 t (by omega) g1)
  refine s_X1_removeAt_0 _ _ _ _ _ ?_
  exact key (b 5 1 - (s + 1)).toNat (s + 1) μ (by omega) (by omega) (jfr_refl _ _) ⟨isC_n hC, isC_m hC, isC_tr hC, fun k h0 h1 => isC_b hC h0 h1⟩ (fun t g0 g1 => isC_t hC g0 (by omega)) (fun t g0 g1 => absurd g1 (by omega)) (fun t g0 g1 => isC_t hC (by omega) g1)
def ren (l g a : Int) : Int := if a = g then l else if g < a then a - 1 else a
def fk (P : Int → Bool) : Nat → Int → List Int
  | 0, _ => []
  | k + 1, i => if P i = true then i :: fk P k (i + 1) else fk P k (i + 1)
theorem fk_mem {P : Int → Bool} : ∀ (k : Nat) (i : Int) (t : Int), t ∈ fk P k i → i ≤ t ∧ t < i + k ∧ P t = true
  | 0, i, t, h => by cases h
  | k + 1, i, t, h => by
    unfold fk at h
    split at h
    · rename_i hp
      rcases List.mem_cons.mp h with rfl | h
      · exact ⟨by omega, by omega, hp⟩
      · have := fk_mem k (i + 1) t h
        exact ⟨by omega, by omega, this.2.2⟩
    · have := fk_mem k (i + 1) t h
      exact ⟨by omega, by omega, this.2.2⟩
theorem fk_len {P : Int → Bool} : ∀ (k : Nat) (i : Int), (fk P k i).length ≤ k
  | 0, i => Nat.le_refl _
  | k + 1, i => by
    unfold fk
    have := fk_len (P := P) k (i + 1)
    split
    · simp
      omega
    · omega
theorem gda_l {α : Type} {l k : List α} {d : α} {i : Nat} (h : i < l.length) : (l ++ k).getD i d = l.getD i d := by
  rw [List.getD_eq_getElem?_getD, List.getD_eq_getElem?_getD, List.getElem?_append_left h]
theorem gda_r {α : Type} {l k : List α} {d : α} {i : Nat} (h : l.length ≤ i) : (l ++ k).getD i d = k.getD (i - l.length) d := by
  rw [List.getD_eq_getElem?_getD, List.getD_eq_getElem?_getD, List.getElem?_append_right h]
theorem getD_mem {l : List Int} {i : Nat} (h : i < l.length) : l.getD i 0 ∈ l := by
  rw [List.getD_eq_getElem?_getD, List.getElem?_eq_getElem h]
  exact List.getElem_mem h
theorem fk_mono {P : Int → Bool} : ∀ (k : Nat) (i : Int) (s t : Nat), s < t → t < (fk P k i).length → (fk P k i).getD s 0 < (fk P k i).getD t 0
  | 0, i, s, t, h, h2 => by cases h2
  | k + 1, i, s, t, h, h2 => by
    unfold fk at h2 ⊢
    split at h2
    · rename_i hp
      rw [if_pos hp]
      cases t with
      | zero => cases h
      | succ t =>
        have ht : t < (fk P k (i + 1)).length := by simpa using h2
        cases s with
        | zero =>
          have := fk_mem k (i + 1) _ (getD_mem ht)
          simp only [List.getD_cons_zero, List.getD_cons_succ]
          omega
        | succ s =>
          simp only [List.getD_cons_succ]
          exact fk_mono k (i + 1) s t (by omega) ht
    · rename_i hp
      rw [if_neg hp]
      exact fk_mono k (i + 1) s t h h2
abbrev pkp (b : BK) (l g : Int) : Int → Bool := fun t => decide (ren l g (b 0 t) ≠ ren l g (b 1 t))
def pkl (b : BK) (l g : Int) : List Int := fk (pkp b l g) (nm b) 0
def ptr (tr g : Int) : Int := jor (jand tr (jshl 1 g - 1)) (jshl (jushr tr (g + 1)) g)
def pmrg (b : BK) (l g : Int) : BK := fun j i => if j = 5 then (if i = 0 then b 5 0 - 1 else if i = 1 then ((pkl b l g).length : Int) else ptr (b 5 2) g) else if j = 4 then b 4 i else if j = 0 ∨ j = 1 then ren l g (b j ((pkl b l g).getD i.toNat 0)) else b j ((pkl b l g).getD i.toNat 0)
abbrev rowG (μ : JM) (x s : Int) (b : BK) (l g t : Int) : Prop := μ 13 x s = ren l g (b 0 t) ∧ μ 14 x s = ren l g (b 1 t) ∧ μ 15 x s = b 2 t ∧ μ 16 x s = b 3 t
theorem w_mergedName {d : Nat} {a l g : Int} {μ : JM} {Q : JQ} (ha : inR a) (hg : inR g) (h : Q (ren l g a) μ) : wp true d 32 0 [(0, a), (0, l), (0, g)] [] μ Q := by
  refine s_X1_mergedName_0 _ _ _ _ _ _ ?_
  unfold ren at h
  refine ⟨Or.inr ⟨ha, hg⟩, fun k => ⟨⟨ha, hg⟩, fun k2 => ?_, fun k2 => ?_⟩, fun k => ?_⟩
  · rw [if_neg k, if_neg (by omega)] at h; exact h
  · rw [if_neg k, if_pos (by omega)] at h; exact h
  · rw [if_pos (by omega)] at h; exact h
theorem c_merge {d : Nat} {x l g : Int} {b : BK} {μ : JM} {Q : JQ} (hC : isC μ x b) (hv : vb b) (hl : 0 ≤ l) (hlg : l < g) (hg : g < b 5 0) (k : ∀ ν, jfr (PBk x) μ ν → isC ν x (pmrg b l g) → Q (b 5 1 - ((pkl b l g).length : Int)) ν) : wp true (d + 1) 31 0 [(12, x), (0, l), (0, g), (9, 0), (9, 0), (9, 0), (9, 0)] [] μ Q := by
  have hm := vb_m hv
  have hn := vb_n hv
  have key : ∀ (n : Nat) (i : Int) (acc : List Int) (u5 u6 : JV) (ν : JM), i + n = b 5 1 → 0 ≤ i → acc ++ fk (pkp b l g) n i = pkl b l g → (acc.length : Int) ≤ i → jfr (PBk x) μ ν → ν 12 x 0 = b 5 0 ∧ ν 12 x 2 = b 5 1 ∧ ν 12 x 1 = b 5 2 ∧ (∀ k, 0 ≤ k → k < 4 → ν 17 x k = b 4 k) → (∀ s, 0 ≤ s → s < (acc.length : Int) → rowG ν x s b l g (acc.getD s.toNat 0)) → (∀ t, i ≤ t → t < b 5 1 → rowC ν x t b t) → wp true (d + 1) 31 5 [(12, x), (0, l), (0, g), (0, (acc.length : Int)), (0, i), u5, u6] [] ν Q := by
    intro n
    induction n with
    | zero =>
      intro i acc u5 u6 ν h2 h3 h4 hl4 h5 h6 h7 h8
      have ea : acc = pkl b l g := by simpa [fk] using h4
      refine s_X1_merge_5 _ _ _ _ _ _ _ _ _ _ ?_
      rw [h6.2.1]
      refine ⟨⟨⟨by omega, by omega⟩, ⟨by omega, by omega⟩⟩, fun _ => ?_, fun h => absurd h (by omega)⟩
      rw [ea]
      refine k _ ?_ ?_
      · refine jfr_jw (jfr_jw (jfr_jw h5 ?_) ?_) ?_ <;> exact ⟨⟨by omega, by omega⟩, rfl⟩
      · refine ⟨?_, ?_, ?_, ?_, ?_⟩
        · simp [jw, pmrg, h6.1]
        · simp [jw, pmrg]
        · simp [jw, pmrg, ptr, h6.2.2.1]
        · intro i h0 h1
          simp [jw, pmrg, h6.2.2.2 i h0 h1]
        · intro t g0 g1
          have g1' : t < ((pkl b l g).length : Int) := g1
          rw [← ea] at g1'
          simpa [jw, pmrg, ea] using h7 t g0 g1'
    | succ n ih =>
      intro i acc u5 u6 ν h2 h3 h4 hl4 h5 h6 h7 h8
      have r := h8 i (by omega) (by omega)
      have hb := vb_t hv (t := i) (by omega) (by omega)
      refine s_X1_merge_5 _ _ _ _ _ _ _ _ _ _ ?_
      rw [h6.2.1]
      refine ⟨⟨⟨by omega, by omega⟩, ⟨by omega, by omega⟩⟩, fun h => absurd h (by omega), fun _ => ⟨by omega, by omega, ?_⟩⟩
      rw [r.1]
      refine w_mergedName ⟨by omega, by omega⟩ ⟨by omega, by omega⟩ ⟨by omega, by omega, ?_⟩
      rw [r.2.1]
      have i0 : inR (ren l g (b 0 i)) := by unfold ren; constructor <;> split <;> first | omega | (split <;> omega)
      have i1 : inR (ren l g (b 1 i)) := by unfold ren; constructor <;> split <;> first | omega | (split <;> omega)
      refine w_mergedName ⟨by omega, by omega⟩ ⟨by omega, by omega⟩ ⟨Or.inr ⟨i0, i1⟩, fun hc => ?_, fun hc => ?_⟩
      · refine ih (i + 1) acc _ _ ν (by omega) (by omega) ?_ (by omega) h5 h6 h7 (fun t g0 g1 => h8 t (by omega) g1)
        rw [← h4]
        conv => rhs; unfold fk
        rw [if_neg (by simp [hc])]
      · refine w_move ⟨by omega, by omega⟩ ⟨by omega, by omega⟩ (fun ξ hf hr => ⟨by omega, by omega, by omega, by omega, ?_⟩)
        have e1 : ((acc.length : Int) + 1) = ((acc ++ [i]).length : Int) := by simp
        rw [e1]
        have fr : ∀ t i', i' ≠ (acc.length : Int) ∨ t = 12 ∨ t = 17 → jw (jw ξ 13 x (acc.length : Int) (ren l g (b 0 i))) 14 x (acc.length : Int) (ren l g (b 1 i)) t x i' = ν t x i' := by
          intro t i' hh
          have hz : ξ t x i' = ν t x i' := hf _ _ _ (fun h => by omega)
          rcases hh with hh | rfl | rfl
          · rw [jw_i hh, jw_i hh, hz]
          · rw [jw_t (by omega), jw_t (by omega), hz]
          · rw [jw_t (by omega), jw_t (by omega), hz]
        refine ih (i + 1) (acc ++ [i]) _ _ _ (by omega) (by omega) ?_ (by simp; omega) ?_ ⟨?_, ?_, ?_, ?_⟩ ?_ ?_
        · rw [← h4]
          conv => rhs; unfold fk
          rw [if_pos (by simp [hc])]
          simp
        · refine jfr_jw (jfr_jw (jfr_trans h5 (jfr_mono hf (fun t y i h => ⟨⟨by omega, by omega⟩, h.2.1⟩))) ?_) ?_ <;> exact ⟨⟨by omega, by omega⟩, rfl⟩
        · rw [fr _ _ (by omega)]; exact h6.1
        · rw [fr _ _ (by omega)]; exact h6.2.1
        · rw [fr _ _ (by omega)]; exact h6.2.2.1
        · intro i h0 h1
          rw [fr _ _ (by omega)]; exact h6.2.2.2 i h0 h1
        · intro s g0 g1
          by_cases hs : s = (acc.length : Int)
          · subst hs
            have : (acc ++ [i]).getD ((acc.length : Int)).toNat 0 = i := by simp
            rw [this]
            refine ⟨?_, ?_, ?_, ?_⟩
            · rw [jw_t (by omega), jw_eq]
            · rw [jw_eq]
            · rw [jw_t (by omega), jw_t (by omega), hr.2.2.1, r.2.2.1]
            · rw [jw_t (by omega), jw_t (by omega), hr.2.2.2, r.2.2.2]
          · have hs' : s < (acc.length : Int) := by simp at g1; omega
            have : (acc ++ [i]).getD s.toNat 0 = acc.getD s.toNat 0 := by
              exact gda_l (by omega)
            rw [this]
            have q := h7 s g0 hs'
            refine ⟨?_, ?_, ?_, ?_⟩ <;> rw [fr _ _ (by omega)]
            · exact q.1
            · exact q.2.1
            · exact q.2.2.1
            · exact q.2.2.2
        · intro t g0 g1
          have q := h8 t (by omega) g1
          refine ⟨?_, ?_, ?_, ?_⟩ <;> rw [fr _ _ (by omega)]
          · exact q.1
          · exact q.2.1
          · exact q.2.2.1
          · exact q.2.2.2
  refine s_X1_merge_0 _ _ _ _ _ _ ?_
  exact key (nm b) 0 [] _ _ μ (nm_eq hv) (by omega) rfl (by simp) (jfr_refl _ _) ⟨isC_n hC, isC_m hC, isC_tr hC, fun k h0 h1 => isC_b hC h0 h1⟩ (fun s g0 g1 => absurd g1 (by simp; omega)) (fun t g0 g1 => isC_t hC g0 g1)
