/-! BOOKS: what a book says; where it lies in the class's cells and in the reference's row -/
abbrev BK : Type := Nat → Int → Int
/-- the class's book in the cells x -/
def isC (μ : JM) (x : Int) (b : BK) : Prop := μ 12 x 0 = b 5 0 ∧ μ 12 x 2 = b 5 1 ∧ μ 12 x 1 = b 5 2 ∧ (∀ k, 0 ≤ k → k < 4 → μ 17 x k = b 4 k) ∧ ∀ t, 0 ≤ t → t < b 5 1 → μ 13 x t = b 0 t ∧ μ 14 x t = b 1 t ∧ μ 15 x t = b 2 t ∧ μ 16 x t = b 3 t
/-- the reference's book, read by f -/
def isF (f : Int → Int) (b : BK) : Prop := f 0 = b 5 0 ∧ f 1 = b 5 1 ∧ f 2 = b 5 2 ∧ (∀ k, 0 ≤ k → k < 4 → f (3 + k) = b 4 k) ∧ ∀ t, 0 ≤ t → t < b 5 1 → f (8 + 4 * t + 0) = b 0 t ∧ f (8 + 4 * t + 1) = b 1 t ∧ f (8 + 4 * t + 2) = b 2 t ∧ f (8 + 4 * t + 3) = b 3 t
abbrev isM (μ : JM) (b : BK) : Prop := isF (μ 41 0) b
/-- a book that can be -/
def vb (b : BK) : Prop := (0 ≤ b 5 0 ∧ b 5 0 ≤ 12) ∧ (0 ≤ b 5 1 ∧ b 5 1 ≤ 32) ∧ (0 ≤ b 5 2 ∧ b 5 2 < 4096) ∧ (0 ≤ b 4 0 ∧ b 4 0 ≤ 9999) ∧ (2 ≤ b 4 1 ∧ b 4 1 ≤ 5) ∧ (0 ≤ b 4 2 ∧ b 4 2 ≤ 90) ∧ (0 ≤ b 4 3 ∧ b 4 3 ≤ 90) ∧ (∀ t, 0 ≤ t → t < b 5 1 → (0 ≤ b 0 t ∧ b 0 t < b 5 0) ∧ (0 ≤ b 1 t ∧ b 1 t < b 5 0) ∧ b 0 t ≠ b 1 t ∧ (0 ≤ b 2 t ∧ b 2 t ≤ 9999) ∧ (1 ≤ b 3 t ∧ b 3 t ≤ 9999)) ∧ ∀ s t, 0 ≤ s → s ≤ t → t < b 5 1 → b 2 s ≤ b 2 t
theorem vb_n {b : BK} (h : vb b) : 0 ≤ b 5 0 ∧ b 5 0 ≤ 12 := h.1
theorem vb_m {b : BK} (h : vb b) : 0 ≤ b 5 1 ∧ b 5 1 ≤ 32 := h.2.1
theorem vb_tr {b : BK} (h : vb b) : 0 ≤ b 5 2 ∧ b 5 2 < 4096 := h.2.2.1
theorem vb_w {b : BK} (h : vb b) : 0 ≤ b 4 0 ∧ b 4 0 ≤ 9999 := h.2.2.2.1
theorem vb_lo {b : BK} (h : vb b) : 2 ≤ b 4 1 ∧ b 4 1 ≤ 5 := h.2.2.2.2.1
theorem vb_ls {b : BK} (h : vb b) : 0 ≤ b 4 2 ∧ b 4 2 ≤ 90 := h.2.2.2.2.2.1
theorem vb_ga {b : BK} (h : vb b) : 0 ≤ b 4 3 ∧ b 4 3 ≤ 90 := h.2.2.2.2.2.2.1
theorem vb_t {b : BK} (h : vb b) {t : Int} (h0 : 0 ≤ t) (h1 : t < b 5 1) : (0 ≤ b 0 t ∧ b 0 t < b 5 0) ∧ (0 ≤ b 1 t ∧ b 1 t < b 5 0) ∧ b 0 t ≠ b 1 t ∧ (0 ≤ b 2 t ∧ b 2 t ≤ 9999) ∧ (1 ≤ b 3 t ∧ b 3 t ≤ 9999) := h.2.2.2.2.2.2.2.1 t h0 h1
theorem vb_so {b : BK} (h : vb b) {s t : Int} (h0 : 0 ≤ s) (h1 : s ≤ t) (h2 : t < b 5 1) : b 2 s ≤ b 2 t := h.2.2.2.2.2.2.2.2 s t h0 h1 h2
theorem isC_n {μ : JM} {x : Int} {b : BK} (h : isC μ x b) : μ 12 x 0 = b 5 0 := h.1
theorem isC_m {μ : JM} {x : Int} {b : BK} (h : isC μ x b) : μ 12 x 2 = b 5 1 := h.2.1
theorem isC_tr {μ : JM} {x : Int} {b : BK} (h : isC μ x b) : μ 12 x 1 = b 5 2 := h.2.2.1
theorem isC_b {μ : JM} {x : Int} {b : BK} (h : isC μ x b) {k : Int} (h0 : 0 ≤ k) (h1 : k < 4) : μ 17 x k = b 4 k := h.2.2.2.1 k h0 h1
theorem isC_t {μ : JM} {x : Int} {b : BK} (h : isC μ x b) {t : Int} (h0 : 0 ≤ t) (h1 : t < b 5 1) : μ 13 x t = b 0 t ∧ μ 14 x t = b 1 t ∧ μ 15 x t = b 2 t ∧ μ 16 x t = b 3 t := h.2.2.2.2 t h0 h1
theorem isM_n {μ : JM} {b : BK} (h : isM μ b) : μ 41 0 0 = b 5 0 := h.1
theorem isM_m {μ : JM} {b : BK} (h : isM μ b) : μ 41 0 1 = b 5 1 := h.2.1
theorem isM_tr {μ : JM} {b : BK} (h : isM μ b) : μ 41 0 2 = b 5 2 := h.2.2.1
theorem isM_b {μ : JM} {b : BK} (h : isM μ b) {k : Int} (h0 : 0 ≤ k) (h1 : k < 4) : μ 41 0 (3 + k) = b 4 k := h.2.2.2.1 k h0 h1
theorem isM_t {μ : JM} {b : BK} (h : isM μ b) {t : Int} (h0 : 0 ≤ t) (h1 : t < b 5 1) : μ 41 0 (8 + 4 * t + 0) = b 0 t ∧ μ 41 0 (8 + 4 * t + 1) = b 1 t ∧ μ 41 0 (8 + 4 * t + 2) = b 2 t ∧ μ 41 0 (8 + 4 * t + 3) = b 3 t := h.2.2.2.2 t h0 h1
/-- the same book, looked at through a memory that has the same cells -/
theorem isC_fr {μ ν : JM} {x y : Int} {b : BK} (h : isC μ x b) (e : ∀ t, 12 ≤ t → t ≤ 17 → ∀ i, ν t y i = μ t x i) : isC ν y b := by
  refine ⟨?_, ?_, ?_, ?_, ?_⟩
  · rw [e 12 (by omega) (by omega)]; exact h.1
  · rw [e 12 (by omega) (by omega)]; exact h.2.1
  · rw [e 12 (by omega) (by omega)]; exact h.2.2.1
  · intro k h0 h1
    rw [e 17 (by omega) (by omega)]; exact h.2.2.2.1 k h0 h1
  · intro t h0 h1
    rw [e 13 (by omega) (by omega), e 14 (by omega) (by omega), e 15 (by omega) (by omega), e 16 (by omega) (by omega)]
    exact h.2.2.2.2 t h0 h1
theorem isM_fr {μ ν : JM} {b : BK} (h : isM μ b) (e : ∀ i, ν 41 0 i = μ 41 0 i) : isM ν b := by
  have : ν 41 0 = μ 41 0 := funext e
  unfold isM
  rw [this]
  exact h
/-- by how much an amount fits another; a step from a transfer to another -/
abbrev pfits (b : BK) (x y : Int) : Prop := (100 - b 4 2) * x ≤ 100 * y ∧ 100 * y ≤ (100 + b 4 3) * x
abbrev pstep (b : BK) (x y : Int) : Prop := b 0 y = b 1 x ∧ b 2 x < b 2 y ∧ pfits b (b 3 x) (b 3 y)
theorem fit_in {b : BK} (hv : vb b) {x : Int} (h0 : 0 ≤ x) (h1 : x ≤ 400000) : (0 ≤ (100 - b 4 2) * x ∧ (100 - b 4 2) * x ≤ 40000000) ∧ (0 ≤ (100 + b 4 3) * x ∧ (100 + b 4 3) * x ≤ 80000000) := by
  have h2 := vb_ls hv
  have h3 := vb_ga hv
  refine ⟨⟨Int.mul_nonneg (by omega) h0, ?_⟩, ⟨Int.mul_nonneg (by omega) h0, ?_⟩⟩
  · have := Int.mul_le_mul (show 100 - b 4 2 ≤ 100 by omega) h1 h0 (by omega)
    omega
  · have := Int.mul_le_mul (show 100 + b 4 3 ≤ 200 by omega) h1 h0 (by omega)
    omega
