/-! ROUNDS: the pure hunt -/
abbrev LL : Type := List (List Int)
abbrev hd (p : List Int) : Int := p.headD 0
abbrev lst (p : List Int) : Int := p.getLastD 0
/-- a trusted account -/
abbrev ptst (b : BK) (a : Int) : Prop := bt (b 5 2) a.toNat = true
/-- the path (its last transfer first) can't go on: its end is trusted, or was met -/
abbrev pblk (b : BK) (p : List Int) : Prop := ptst b (b 1 (hd p)) ∨ ∃ t ∈ p, b 0 t = b 1 (hd p)
abbrev pcan (b : BK) (w : Int) (p : List Int) (y : Int) : Prop := pstep b (hd p) y ∧ b 2 y - b 2 (lst p) ≤ w
def pex (b : BK) (win : LL → Int) : Nat → List Int → LL → LL
  | 0, _, L => L
  | k + 1, p, L => fup (fun L y => if pcan b (win L) p y then (if b 1 y = b 0 (lst p) then L ++ [(y :: p).reverse] else if ptst b (b 1 y) ∨ (∃ t ∈ y :: p, b 0 t = b 1 y) then L else pex b win k (y :: p) L) else L) (nm b) 0 L
abbrev pexg (b : BK) (win : LL → Int) (k : Nat) (p : List Int) : LL → Int → LL := fun L y => if pcan b (win L) p y then (if b 1 y = b 0 (lst p) then L ++ [(y :: p).reverse] else if ptst b (b 1 y) ∨ (∃ t ∈ y :: p, b 0 t = b 1 y) then L else pex b win k (y :: p) L) else L
abbrev prog (b : BK) (win : LL → Int) : LL → Int → LL := fun L t => if ptst b (b 0 t) ∨ ptst b (b 1 t) then L else pex b win ((b 4 1).toNat - 1) [t] L
def pro (b : BK) (win : LL → Int) : LL := fup (prog b win) (nm b) 0 []
theorem pex_succ (b : BK) (win : LL → Int) (k : Nat) (p : List Int) (L : LL) : pex b win (k + 1) p L = fup (pexg b win k p) (nm b) 0 L := rfl
theorem fup_pre {g : LL → Int → LL} (h : ∀ L y, L <+: g L y) : ∀ (k : Nat) (i : Int) (L : LL), L <+: fup g k i L
  | 0, _, L => List.prefix_rfl
  | k + 1, i, L => List.IsPrefix.trans (h L i) (fup_pre h k (i + 1) (g L i))
theorem pex_pre (b : BK) (win : LL → Int) : ∀ (k : Nat) (p : List Int) (L : LL), L <+: pex b win k p L
  | 0, _, L => List.prefix_rfl
  | k + 1, p, L => by
    rw [pex_succ]
    refine fup_pre (fun L y => ?_) _ _ _
    unfold pexg
    split
    · split
      · exact List.prefix_append _ _
      · split
        · exact List.prefix_rfl
        · exact pex_pre b win k (y :: p) L
    · exact List.prefix_rfl
theorem pexg_pre (b : BK) (win : LL → Int) (k : Nat) (p : List Int) (L : LL) (y : Int) : L <+: pexg b win k p L y := by
  unfold pexg
  split
  · split
    · exact List.prefix_append _ _
    · split
      · exact List.prefix_rfl
      · exact pex_pre b win k (y :: p) L
  · exact List.prefix_rfl
theorem prog_pre (b : BK) (win : LL → Int) (L : LL) (t : Int) : L <+: prog b win L t := by
  unfold prog
  split
  · exact List.prefix_rfl
  · exact pex_pre _ _ _ _ _
/-- what does nothing may be left out -/
theorem fup_skip {α : Type} {g : α → Int → α} {L : α} : ∀ (k : Nat) (i : Int), (∀ y, i ≤ y → y < i + k → g L y = L) → fup g k i L = L
  | 0, _, _ => rfl
  | k + 1, i, h => by
    show fup g k (i + 1) (g L i) = L
    rw [h i (by omega) (by omega)]
    exact fup_skip k (i + 1) (fun y h1 h2 => h y (by omega) (by omega))
theorem fup_add {α : Type} (g : α → Int → α) : ∀ (j k : Nat) (i : Int) (L : α), fup g (j + k) i L = fup g k (i + j) (fup g j i L)
  | 0, k, i, L => by
    rw [Nat.zero_add, show i + ((0 : Nat) : Int) = i by omega]
    rfl
  | j + 1, k, i, L => by
    rw [show j + 1 + k = (j + k) + 1 by omega]
    show fup g (j + k) (i + 1) (g L i) = fup g k (i + ((j + 1 : Nat) : Int)) (fup g j (i + 1) (g L i))
    rw [fup_add g j k (i + 1) (g L i)]
    congr 1
    omega
theorem lpos {α : Type} {l : List α} (h : l ≠ []) : 0 < l.length := by
  cases l with
  | nil => exact absurd rfl h
  | cons a l => simp
/-- a path in the book: numbers of transfers, at most five -/
def pin (b : BK) (p : List Int) : Prop := p ≠ [] ∧ p.length ≤ 5 ∧ ∀ t ∈ p, 0 ≤ t ∧ t < b 5 1
theorem pin_hd {b : BK} {p : List Int} (h : pin b p) : 0 ≤ hd p ∧ hd p < b 5 1 := by
  cases p with
  | nil => exact absurd rfl h.1
  | cons a l => exact h.2.2 a (List.mem_cons_self ..)
theorem pin_lst {b : BK} {p : List Int} (h : pin b p) : 0 ≤ lst p ∧ lst p < b 5 1 := by
  have : lst p ∈ p := by
    unfold lst
    rw [List.getLastD_eq_getLast?, List.getLast?_eq_some_getLast h.1]
    exact List.getLast_mem h.1
  exact h.2.2 _ this
theorem pin_cons {b : BK} {p : List Int} (h : pin b p) {y : Int} (hl : p.length < 5) (hy : 0 ≤ y ∧ y < b 5 1) : pin b (y :: p) := by
  refine ⟨by simp, by simp; omega, fun t ht => ?_⟩
  rcases List.mem_cons.mp ht with rfl | ht
  · exact hy
  · exact h.2.2 t ht
theorem lst_cons {p : List Int} (h : p ≠ []) (y : Int) : lst (y :: p) = lst p := by
  cases p with
  | nil => exact absurd rfl h
  | cons a l => simp [lst, List.getLastD]
/-- the path lies in the class's row -/
def pathC (μ : JM) (x : Int) (p : List Int) : Prop := ∀ i : Nat, i < p.length → μ 32 x (i : Int) = p.reverse.getD i 0
theorem pathC_0 {μ : JM} {x : Int} {p : List Int} (h : pathC μ x p) (hp : p ≠ []) : μ 32 x 0 = lst p := by
  have := h 0 (lpos hp)
  rw [show ((0 : Nat) : Int) = 0 from rfl] at this
  rw [this]
  unfold lst
  rw [List.getLastD_eq_getLast?, List.getD_eq_getElem?_getD, ← List.head?_eq_getElem?, List.head?_reverse]
theorem pathC_l {μ : JM} {x : Int} {p : List Int} (h : pathC μ x p) (hp : p ≠ []) : μ 32 x ((p.length : Int) - 1) = hd p := by
  have hl := lpos hp
  have := h (p.length - 1) (by omega)
  rw [show ((p.length - 1 : Nat) : Int) = (p.length : Int) - 1 by omega] at this
  rw [this]
  cases p with
  | nil => exact absurd rfl hp
  | cons a l =>
    simp only [List.reverse_cons, List.length_cons, List.headD_cons]
    rw [gda_r (by simp)]
    simp
theorem pathC_cons {μ ν : JM} {x : Int} {p : List Int} {y : Int} (h : pathC μ x p) (hy : ν 32 x (p.length : Int) = y) (hf : ∀ i : Int, 0 ≤ i → i < (p.length : Int) → ν 32 x i = μ 32 x i) : pathC ν x (y :: p) := by
  intro i hi
  simp only [List.length_cons] at hi
  rw [List.reverse_cons]
  by_cases hc : i < p.length
  · rw [hf i (by omega) (by omega), h i hc, gda_l (by simpa using hc)]
  · have : i = p.length := by omega
    subst this
    rw [hy, gda_r (by simp)]
    simp
theorem pathC_fr {μ ν : JM} {x : Int} {p : List Int} (h : pathC μ x p) (hf : ∀ i : Int, 0 ≤ i → i < (p.length : Int) → ν 32 x i = μ 32 x i) : pathC ν x p := fun i hi => by
  rw [hf i (by omega) (by omega)]
  exact h i hi
/-- the steps that the class has laid -/
def nextC (b : BK) (μ : JM) (x : Int) : Prop := ∀ t, 0 ≤ t → t < b 5 1 → inR (μ 33 x t) ∧ ∀ j : Nat, j < 32 → bt (μ 33 x t) j = decide ((j : Int) < b 5 1 ∧ pstep b t j)
/-- the accounts met: the ends of all transfers of the path -/
def beenC (b : BK) (s : Int) (p : List Int) : Prop := ∀ j : Nat, j < 32 → (bt s j = true ↔ ((j : Int) = b 1 (hd p) ∨ ∃ t ∈ p, b 0 t = (j : Int)))
/-- the hunter's own row is not the path, not the steps, not its book -/
abbrev PX (x : Int) (n : Int) : Nat → Int → Int → Prop := fun t y i => t = 32 ∧ y = x ∧ n ≤ i
