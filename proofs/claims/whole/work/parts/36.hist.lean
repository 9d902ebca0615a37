/-! the books as they were: newest first -/
def hC (μ : JM) (A : List BK) : Prop := μ 21 0 3 = (A.length : Int) ∧ A.length ≤ 10 ∧ (0 ≤ μ 21 0 2 ∧ μ 21 0 2 < 10) ∧ ∀ j, j < A.length → isC μ (6 + (μ 21 0 2 - (j : Int)) % 10) (A.getD j bk0)
def hM (μ : JM) (A : List BK) : Prop := μ 40 0 2 = (A.length : Int) ∧ A.length ≤ 10 ∧ ∀ j, j < A.length → isF (fun i => μ 41 0 (272 + 136 * ((A.length : Int) - 1 - (j : Int)) + i)) (A.getD j bk0)
def kC (μ : JM) (K : List BK) : Prop := μ 21 0 4 = (K.length : Int) ∧ K.length ≤ 3 ∧ ∀ j, j < K.length → isC μ (16 + ((K.length : Int) - 1 - (j : Int))) (K.getD j bk0)
def kM (μ : JM) (K : List BK) : Prop := μ 40 0 3 = (K.length : Int) ∧ K.length ≤ 3 ∧ ∀ j, j < K.length → isF (fun i => μ 41 0 (1632 + 136 * ((K.length : Int) - 1 - (j : Int)) + i)) (K.getD j bk0)
abbrev vbs (A : List BK) : Prop := ∀ b, b ∈ A → vb b
theorem hC_fr {μ ν : JM} {A : List BK} (h : hC μ A) (e : ∀ t x i, (t = 21 ∧ (i = 2 ∨ i = 3)) ∨ ((12 ≤ t ∧ t ≤ 17) ∧ 6 ≤ x ∧ x < 16) → ν t x i = μ t x i) : hC ν A := by
  unfold hC
  rw [e 21 0 3 (by omega), e 21 0 2 (by omega)]
  exact ⟨h.1, h.2.1, h.2.2.1, fun j hj => isC_fr (h.2.2.2 j hj) (fun t h1 h2 i => e t _ i (by omega))⟩
theorem kC_fr {μ ν : JM} {A : List BK} (h : kC μ A) (e : ∀ t x i, (t = 21 ∧ i = 4) ∨ ((12 ≤ t ∧ t ≤ 17) ∧ 16 ≤ x) → ν t x i = μ t x i) : kC ν A := by
  unfold kC
  rw [e 21 0 4 (by omega)]
  exact ⟨h.1, h.2.1, fun j hj => isC_fr (h.2.2 j hj) (fun t h1 h2 i => e t _ i (by omega))⟩
theorem hM_fr {μ ν : JM} {A : List BK} (hv : vbs A) (h : hM μ A) (e : ∀ t x i, (t = 40 ∧ x = 0 ∧ i = 2) ∨ (t = 41 ∧ x = 0 ∧ 272 ≤ i ∧ i < 1632) → ν t x i = μ t x i) : hM ν A := by
  unfold hM
  rw [e 40 0 2 (by omega)]
  have h2 := h.2.1
  refine ⟨h.1, h.2.1, fun j hj => isF_fr (h.2.2 j hj) (vb_m (hv _ (List.getD_eq_getElem?_getD ▸ by rw [List.getElem?_eq_getElem hj]; exact List.getElem_mem hj))).2 (fun i h0 h1 => e 41 0 _ (by omega))⟩
theorem kM_fr {μ ν : JM} {A : List BK} (hv : vbs A) (h : kM μ A) (e : ∀ t x i, (t = 40 ∧ x = 0 ∧ i = 3) ∨ (t = 41 ∧ x = 0 ∧ 1632 ≤ i) → ν t x i = μ t x i) : kM ν A := by
  unfold kM
  rw [e 40 0 3 (by omega)]
  have h2 := h.2.1
  refine ⟨h.1, h.2.1, fun j hj => isF_fr (h.2.2 j hj) (vb_m (hv _ (List.getD_eq_getElem?_getD ▸ by rw [List.getElem?_eq_getElem hj]; exact List.getElem_mem hj))).2 (fun i h0 h1 => e 41 0 _ (by omega))⟩
theorem gd_mem {A : List BK} {j : Nat} (hj : j < A.length) : A.getD j bk0 ∈ A := by
  rw [List.getD_eq_getElem?_getD, List.getElem?_eq_getElem hj]
  exact List.getElem_mem hj
/-- a book kept: the newest of at most ten -/
abbrev keep (b : BK) (A : List BK) : List BK := (b :: A).take 10
theorem keep_len (b : BK) (A : List BK) (h : A.length ≤ 10) : ((keep b A).length : Int) = jmin ((A.length : Int) + 1) 10 := by
  unfold jmin
  simp only [keep, List.length_take, List.length_cons]
  split <;> omega
theorem keep_get (b : BK) (A : List BK) (j : Nat) (hj : j + 1 < (keep b A).length) : (keep b A).getD (j + 1) bk0 = A.getD j bk0 := by
  simp only [keep, List.length_take, List.length_cons] at hj
  simp only [keep, List.getD_eq_getElem?_getD]
  rw [List.getElem?_take]
  rw [if_pos (by omega)]
  simp
theorem keep_get0 (b : BK) (A : List BK) : (keep b A).getD 0 bk0 = b := by
  simp [keep]
abbrev PHc : Nat → Int → Int → Prop := fun t x i => (t = 21 ∧ (i = 2 ∨ i = 3)) ∨ ((12 ≤ t ∧ t ≤ 17) ∧ 6 ≤ x ∧ x < 16)
theorem c_keepAct {d : Nat} {b : BK} {A : List BK} {μ : JM} {Q : JQ} (hB : isC μ 0 b) (hv : vb b) (hA : hC μ A) (k : ∀ ν, jfr PHc μ ν → hC ν (keep b A) → Q 0 ν) : wp true (d + 1) 50 0 [(21, 0), (12, 0)] [] μ Q := by
  have h1 := hA.1
  have h2 := hA.2.1
  have h3 := hA.2.2.1
  refine s_X3_keepAct_0 _ _ _ _ ?_
  rw [jw_eq]
  refine ⟨by omega, by omega, by omega, by omega, by omega, by omega, ?_⟩
  refine c_copy (isC_fr hB (fun t _ _ i => jw_t (by omega))) hv (by omega) (fun ν hf hn => ?_)
  have e3 : ν 21 0 3 = (A.length : Int) := by rw [hf _ _ _ (fun h => by omega), jw_i (by omega), h1]
  have e2 : ν 21 0 2 = (μ 21 0 2 + 1) % 10 := by rw [hf _ _ _ (fun h => by omega), jw_eq]
  rw [e3]
  refine ⟨⟨by omega, by omega⟩, ⟨by omega, by omega⟩, k _ ?_ ?_⟩
  · refine jfr_jw (jfr_trans (jfr_jw (jfr_refl _ _) (Or.inl ⟨rfl, Or.inl rfl⟩)) (jfr_mono hf (fun t y i h => Or.inr ⟨h.1, by omega, by omega⟩))) (Or.inl ⟨rfl, Or.inr rfl⟩)
  · unfold hC
    rw [jw_eq, jw_i (by omega), e2]
    refine ⟨(keep_len b A h2).symm, ?_, ⟨by omega, by omega⟩, fun j hj => ?_⟩
    · have := keep_len b A h2
      unfold jmin at this
      split at this <;> omega
    · have hl := keep_len b A h2
      have hl10 : (keep b A).length ≤ 10 := by simp only [keep, List.length_take]; omega
      have hla : (keep b A).length ≤ A.length + 1 := by simp only [keep, List.length_take, List.length_cons]; omega
      cases j with
      | zero =>
        rw [keep_get0]
        refine isC_fr hn (fun t h1 h2 i => ?_)
        rw [jw_t (by omega)]
        congr 1
        omega
      | succ j =>
        rw [keep_get b A j hj]
        refine isC_fr (hA.2.2.2 j (by omega)) (fun t h1 h2 i => ?_)
        rw [jw_t (by omega)]
        have e : 6 + ((μ 21 0 2 + 1) % 10 - ((j + 1 : Nat) : Int)) % 10 = 6 + (μ 21 0 2 - (j : Int)) % 10 := by omega
        rw [e, hf _ _ _ (fun h => by omega), jw_t (by omega)]
theorem c_undoLatest {d : Nat} {b : BK} {A : List BK} {μ : JM} {Q : JQ} (hA : hC μ (b :: A)) (hv : vb b) (k : ∀ ν, jfr (fun t x i => (t = 21 ∧ (i = 2 ∨ i = 3)) ∨ ((12 ≤ t ∧ t ≤ 17) ∧ x = 0)) μ ν → isC ν 0 b → hC ν A → Q 0 ν) : wp true (d + 1) 51 0 [(21, 0), (12, 0)] [] μ Q := by
  have h1 := hA.1
  have h2 := hA.2.1
  have h3 := hA.2.2.1
  simp only [List.length_cons] at h1 h2
  have hb : isC μ (6 + μ 21 0 2) b := by
    have := hA.2.2.2 0 (by simp)
    have e : 6 + (μ 21 0 2 - ((0 : Nat) : Int)) % 10 = 6 + μ 21 0 2 := by omega
    rw [e] at this
    exact this
  refine s_X3_undoLatest_0 _ _ _ _ ⟨⟨⟨by omega, by omega⟩, ⟨by omega, by omega⟩⟩, fun _ => ⟨by omega, by omega, ?_⟩, fun h => absurd h (by omega)⟩
  refine c_copy hb hv (by omega) (fun ν hf hn => ?_)
  have e3 : ν 21 0 3 = ((A.length + 1 : Nat) : Int) := by rw [hf _ _ _ (fun h => by omega), h1]
  have e2 : ν 21 0 2 = μ 21 0 2 := hf _ _ _ (fun h => by omega)
  refine ⟨by omega, by omega, by omega, by omega, k _ ?_ ?_ ?_⟩
  · refine jfr_jw (jfr_jw (jfr_mono hf (fun t y i h => Or.inr ⟨h.1, h.2⟩)) (Or.inl ⟨rfl, Or.inl rfl⟩)) (Or.inl ⟨rfl, Or.inr rfl⟩)
  · exact isC_fr hn (fun t h1 h2 i => by rw [jw_t (by omega), jw_t (by omega)])
  · unfold hC
    rw [jw_eq, jw_i (by omega), jw_i (by omega), jw_eq, e3, e2]
    refine ⟨by omega, by omega, ⟨by omega, by omega⟩, fun j hj => ?_⟩
    have := hA.2.2.2 (j + 1) (by simp; omega)
    rw [List.getD_cons_succ] at this
    refine isC_fr this (fun t h1 h2 i => ?_)
    rw [jw_t (by omega), jw_t (by omega)]
    have e : 6 + ((μ 21 0 2 + 10 - 1) % 10 - (j : Int)) % 10 = 6 + (μ 21 0 2 - ((j + 1 : Nat) : Int)) % 10 := by omega
    rw [e]
    exact hf _ _ _ (fun h => by omega)
theorem c_keepMark {d : Nat} {b : BK} {K : List BK} {μ : JM} {Q : JQ} (hB : isC μ 0 b) (hv : vb b) (hK : kC μ K) (hl : K.length < 3) (k : ∀ ν, jfr (fun t x i => (t = 21 ∧ i = 4) ∨ ((12 ≤ t ∧ t ≤ 17) ∧ 16 ≤ x)) μ ν → kC ν (b :: K) → Q 0 ν) : wp true (d + 1) 52 0 [(21, 0), (12, 0)] [] μ Q := by
  have h1 := hK.1
  refine s_X3_keepMark_0 _ _ _ _ ⟨⟨⟨by omega, by omega⟩, ⟨by omega, by omega⟩⟩, fun h => absurd h (by omega), fun _ => ⟨⟨⟨by omega, by omega⟩, ⟨by omega, by omega⟩⟩, fun _ => ⟨by omega, by omega, ?_⟩, fun h => absurd h (by omega)⟩⟩
  refine c_copy hB hv (by omega) (fun ν hf hn => ?_)
  have e4 : ν 21 0 4 = (K.length : Int) := by rw [hf _ _ _ (fun h => by omega), h1]
  refine k _ ?_ ?_
  · exact jfr_jw (jfr_mono hf (fun t y i h => Or.inr ⟨h.1, by omega⟩)) (Or.inl ⟨rfl, rfl⟩)
  · unfold kC
    rw [jw_eq, e4]
    refine ⟨by simp, by simp; omega, fun j hj => ?_⟩
    cases j with
    | zero =>
      refine isC_fr hn (fun t h1 h2 i => ?_)
      rw [jw_t (by omega)]
      congr 1
      simp
      omega
    | succ j =>
      have hj' : j < K.length := by simpa using hj
      rw [List.getD_cons_succ]
      refine isC_fr (hK.2.2 j hj') (fun t h1 h2 i => ?_)
      rw [jw_t (by omega)]
      have e : 16 + (((b :: K).length : Int) - 1 - ((j + 1 : Nat) : Int)) = 16 + ((K.length : Int) - 1 - (j : Int)) := by simp; omega
      rw [e]
      exact hf _ _ _ (fun h => by omega)
theorem c_takeMark {d : Nat} {b : BK} {K : List BK} {μ : JM} {Q : JQ} (hK : kC μ (b :: K)) (hv : vb b) (k : ∀ ν, jfr (fun t x i => (t = 21 ∧ i = 4) ∨ ((12 ≤ t ∧ t ≤ 17) ∧ x = 0)) μ ν → isC ν 0 b → kC ν K → Q 0 ν) : wp true (d + 1) 53 0 [(21, 0), (12, 0)] [] μ Q := by
  have h1 := hK.1
  have h2 := hK.2.1
  simp only [List.length_cons] at h1 h2
  refine s_X3_takeMark_0 _ _ _ _ ⟨⟨⟨by omega, by omega⟩, ⟨by omega, by omega⟩⟩, fun h => absurd h (by omega), fun _ => ⟨⟨⟨by omega, by omega⟩, ⟨by omega, by omega⟩⟩, fun _ => ?_, fun h => absurd h (by omega)⟩⟩
  rw [jw_eq]
  refine ⟨by omega, by omega, ?_⟩
  have hb : isC (jw μ 21 0 4 (μ 21 0 4 - 1)) (16 + (μ 21 0 4 - 1)) b := by
    refine isC_fr (hK.2.2 0 (by simp)) (fun t h1 h2 i => ?_)
    rw [jw_t (by omega)]
    congr 1
    simp
    omega
  refine c_copy hb hv (by omega) (fun ν hf hn => k _ ?_ hn ?_)
  · exact jfr_trans (jfr_jw (jfr_refl _ _) (Or.inl ⟨rfl, rfl⟩)) (jfr_mono hf (fun t y i h => Or.inr ⟨h.1, h.2⟩))
  · have e4 : ν 21 0 4 = μ 21 0 4 - 1 := by rw [hf _ _ _ (fun h => by omega), jw_eq]
    unfold kC
    rw [e4]
    refine ⟨by omega, by omega, fun j hj => ?_⟩
    have := hK.2.2 (j + 1) (by simp; omega)
    rw [List.getD_cons_succ] at this
    refine isC_fr this (fun t h1 h2 i => ?_)
    have e : 16 + ((K.length : Int) - 1 - (j : Int)) = 16 + (((b :: K).length : Int) - 1 - ((j + 1 : Nat) : Int)) := by simp; omega
    rw [e, hf _ _ _ (fun h => by simp at h; omega), jw_t (by omega)]
abbrev PHm : Nat → Int → Int → Prop := fun t x i => (t = 40 ∧ x = 0 ∧ (i = 2 ∨ i = 12)) ∨ (t = 41 ∧ x = 0 ∧ 272 ≤ i ∧ i < 1632)
theorem m_acted {d : Nat} {b : BK} {A : List BK} {μ : JM} {Q : JQ} (hB : isM μ b) (hv : vb b) (hA : hM μ A) (hvA : vbs A) (k : ∀ ν, jfr PHm μ ν → hM ν (keep b A) → ν 40 0 12 = 0 → Q 0 ν) : wp true (d + 1) 207 0 [(40, 0), (9, 0)] [] μ Q := by
  have h1 := hA.1
  have h2 := hA.2.1
  have hm := vb_m hv
  have fin : ∀ (B : List BK) (u : JV) (ν : JM), B.length < 10 → keep b A = b :: B → jfr PHm μ ν → hM ν B → vbs B → wp true (d + 1) 207 57 [(40, 0), u] [] ν Q := by
    intro B u ν g1 g2 g3 g4 g5
    have g6 := g4.1
    refine s_X11_acted_57 _ _ _ _ ?_
    refine m_copies ⟨by omega, by omega⟩ ⟨by omega, by omega⟩ (by omega) ⟨by omega, by omega, k _ ?_ ?_ (by rw [jw_eq])⟩
    · refine jfr_jw (jfr_jw (jfr_trans g3 ?_) (Or.inl ⟨rfl, rfl, Or.inl rfl⟩)) (Or.inl ⟨rfl, rfl, Or.inr rfl⟩)
      intro t x i hp
      exact jcp_out (fun h => hp (Or.inr ⟨h.1, h.2.1, by omega, by omega⟩))
    · rw [g2]
      unfold hM
      rw [jw_i (by omega), jw_eq, jcp_out (by omega), g6]
      refine ⟨by simp, by simp; omega, fun j hj => ?_⟩
      cases j with
      | zero =>
        refine isF_fr hB hm.2 (fun i a1 a2 => ?_)
        simp only [List.length_cons]
        rw [jw_t (by omega), jw_t (by omega), jcp_in (by omega) (by omega)]
        rw [g3 _ _ _ (fun h => by omega)]
        congr 1
        omega
      | succ j =>
        have hj' : j < B.length := by simpa using hj
        rw [List.getD_cons_succ]
        refine isF_fr (g4.2.2 j hj') (vb_m (g5 _ (gd_mem hj'))).2 (fun i a1 a2 => ?_)
        simp only [List.length_cons]
        rw [jw_t (by omega), jw_t (by omega), jcp_out (by omega)]
        congr 1
        omega
  refine s_X11_acted_0 _ _ _ ⟨by omega, fun hc => fin A _ μ (by omega) (by rw [keep, List.take_of_length_le (by simp; omega)]) (jfr_refl _ _) hA hvA, fun hc => ?_⟩
  have e10 : A.length = 10 := by omega
  have key : ∀ (n : Nat) (i : Int) (ν : JM), i + n = 10 → 1 ≤ i → jfr (fun t x i => t = 41 ∧ x = 0 ∧ 272 ≤ i ∧ i < 1632) μ ν → (∀ j, 0 ≤ j → j < i - 1 → ∀ q, 0 ≤ q → q < 136 → ν 41 0 (272 + 136 * j + q) = μ 41 0 (272 + 136 * (j + 1) + q)) → (∀ j, i - 1 ≤ j → j < 10 → ∀ q, 0 ≤ q → q < 136 → ν 41 0 (272 + 136 * j + q) = μ 41 0 (272 + 136 * j + q)) → wp true (d + 1) 207 11 [(40, 0), (0, i)] [] ν Q := by
    intro n
    induction n with
    | zero =>
      intro i ν g1 g2 g3 g4 g5
      have e2 : ν 40 0 2 = 10 := by rw [g3 _ _ _ (fun h => by omega), h1]; omega
      refine s_X11_acted_11 _ _ _ _ ⟨⟨⟨by omega, by omega⟩, ⟨by omega, by omega⟩⟩, fun _ => ?_, fun h => absurd h (by omega)⟩
      rw [e2]
      have hlen : (A.take 9).length = 9 := by simp; omega
      refine fin (A.take 9) _ _ (by omega) ?_ ?_ ?_ (fun b hb => hvA b (List.mem_of_mem_take hb))
      · rw [keep, List.take_succ_cons]
      · refine jfr_jw (jfr_mono g3 (fun t x i h => Or.inr h)) (Or.inl ⟨rfl, rfl, Or.inl rfl⟩)
      · unfold hM
        rw [jw_eq, hlen]
        refine ⟨by omega, by omega, fun j hj => ?_⟩
        have ej : (A.take 9).getD j bk0 = A.getD j bk0 := by
          simp only [List.getD_eq_getElem?_getD]
          rw [List.getElem?_take, if_pos hj]
        rw [ej]
        refine isF_fr (hA.2.2 j (by omega)) (vb_m (hvA _ (gd_mem (by omega)))).2 (fun q a1 a2 => ?_)
        rw [jw_t (by omega), g4 _ (by omega) (by omega) q a1 a2]
        congr 1
        omega
    | succ n ih =>
      intro i ν g1 g2 g3 g4 g5
      refine s_X11_acted_11 _ _ _ _ ⟨⟨⟨by omega, by omega⟩, ⟨by omega, by omega⟩⟩, fun h => absurd h (by omega), fun _ => ?_⟩
      refine m_copies ⟨by omega, by omega⟩ ⟨by omega, by omega⟩ (by omega) ?_
      refine ih (i + 1) _ (by omega) (by omega) ?_ ?_ ?_
      · refine jfr_trans g3 ?_
        intro t x q hp
        exact jcp_out (fun h => hp ⟨h.1, h.2.1, by omega, by omega⟩)
      · intro j a1 a2 q a3 a4
        by_cases hj : j = i - 1
        · subst hj
          rw [jcp_in (by omega) (by omega)]
          have := g5 i (by omega) (by omega) q a3 a4
          have e : 272 + 136 * i + (272 + 136 * (i - 1) + q - (272 + 136 * (i - 1))) = 272 + 136 * i + q := by omega
          rw [e, this]
          congr 1
          omega
        · rw [jcp_out (by omega)]
          exact g4 j a1 (by omega) q a3 a4
      · intro j a1 a2 q a3 a4
        rw [jcp_out (by omega)]
        exact g5 j (by omega) a2 q a3 a4
  exact key 9 1 μ (by omega) (by omega) (jfr_refl _ _) (fun j a1 a2 => absurd a2 (by omega)) (fun j a1 a2 q a3 a4 => rfl)
