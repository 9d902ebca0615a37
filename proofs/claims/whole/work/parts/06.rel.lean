/-! WHAT A MEMORY SAYS OF A HEAP: the cells made since the start, one behind the other from base on, in the order of jlab -/
theorem nbeq_f {a b : Nat} (h : ¬ a = b) : Nat.beq a b = false := by
  cases h' : Nat.beq a b with
  | false => rfl
  | true => exact absurd (Nat.eq_of_beq_eq_true h') h
theorem nbeq_t {a b : Nat} (h : a = b) : Nat.beq a b = true := by subst h; exact Nat.beq_refl a
def jix (t : Nat) (x : Int) : Nat := if t = 50 ∧ 10 ≤ x then (x + 159).toNat else jLT.idxOf (t, x)
theorem jlab_lo : ∀ i, i < 169 → (jix (jlab (i : Nat)).1 (jlab (i : Nat)).2 = i ∧ jkt (jlab (i : Nat)).1 ≤ 5 ∧ 11 ≤ (jlab (i : Nat)).1 ∧ (jlab (i : Nat)).1 ≤ 72 ∧ (jlab (i : Nat)).1 ≠ 51 ∧ (jlab (i : Nat)).1 ≠ 53 ∧ (jlab (i : Nat)).1 ≠ 54) := by decide +kernel
theorem jlab_hi {i : Nat} (h : 169 ≤ i) : jlab (i : Nat) = (50, (i : Int) - 159) := by
  unfold jlab
  rw [decide_eq_false (by omega)]
  rfl
theorem jix_lab (i : Nat) : jix (jlab (i : Nat)).1 (jlab (i : Nat)).2 = i := by
  by_cases h : i < 169
  · exact (jlab_lo i h).1
  · rw [jlab_hi (by omega)]
    unfold jix
    rw [if_pos ⟨rfl, by show (10 : Int) ≤ (i : Int) - 159; omega⟩]
    show ((i : Int) - 159 + 159).toNat = i
    omega
theorem jlab_kt (i : Nat) : jkt (jlab (i : Nat)).1 ≤ 5 ∧ 11 ≤ (jlab (i : Nat)).1 ∧ (jlab (i : Nat)).1 ≤ 72 ∧ (jlab (i : Nat)).1 ≠ 51 ∧ (jlab (i : Nat)).1 ≠ 53 ∧ (jlab (i : Nat)).1 ≠ 54 := by
  by_cases h : i < 169
  · exact (jlab_lo i h).2
  · rw [jlab_hi (by omega)]
    exact (by decide : jkt 50 ≤ 5 ∧ 11 ≤ 50 ∧ 50 ≤ 72 ∧ 50 ≠ 51 ∧ 50 ≠ 53 ∧ 50 ≠ 54)
theorem jlab_inj {i j : Nat} (h : jlab (i : Nat) = jlab (j : Nat)) : i = j := by rw [← jix_lab i, ← jix_lab j, h]
def jnf (ci : Nat) : Nat := (vwCl.getD ci (RX0, TX0, 0)).2.2
def jval (ad : Nat → Nat) (v : JV) : Value := match v.1 with
  | 0 => .int (Int32.ofInt v.2)
  | 2 => .float (jf v.2)
  | 3 => .long (Int64.ofInt v.2)
  | 5 => .ref (ad 1000000000)
  | 6 => .ref (ad 1000000001)
  | t => if 11 ≤ t then .ref (ad (jix t v.2)) else .null
theorem jval_ref {ad : Nat → Nat} {t : Nat} {x : Int} (h : 11 ≤ t) : jval ad (t, x) = .ref (ad (jix t x)) := by
  unfold jval
  dsimp only
  split
  · omega
  · omega
  · omega
  · omega
  · omega
  · exact if_pos h
def jfval (ad : Nat → Nat) (ph : Bool) (μ : JM) (t : Nat) (x : Int) (k : Nat) : Value :=
  if (jft t k x).1 = 0 then .int (Int32.ofInt (μ t x k)) else if (jft t k x).1 = 3 then .long (Int64.ofInt (μ t x k))
  else if (jft t k x).1 = 1 then (if μ t x k = 0 then .null else .ref (ad (jix 50 (μ t x k - 1))))
  else if ph = true ∨ μ t x k ≠ 0 then .ref (ad (jix (jft t k x).1 (jft t k x).2)) else .null
def jbval (ad : Nat → Nat) (ph : Bool) (μ : JM) (t : Nat) (x : Int) (j : Nat) : Option Nat :=
  if (j : Int) < jlt t ∧ (ph = true ∨ μ t x j ≠ 0) then some (ad (jix (jbk t j).1 (jbk t j).2)) else none
def jcell (ad : Nat → Nat) (ph : Bool) (μ : JM) (y : Nat → ClassId) (p : JV) : va_E :=
  if jkt p.1 = 0 then .inr (jkc p.1 p.2, (List.range (jnf (jkc p.1 p.2))).map (fun k => jfval ad ph μ p.1 p.2 k))
  else if jkt p.1 = 1 then .inl (y 1, (jlen μ p.1 p.2).toNat, .inl (fun j => Int32.ofInt (μ p.1 p.2 j)))
  else if jkt p.1 = 2 then .inl (y 2, (jlen μ p.1 p.2).toNat, .inr (.inl (fun j => Int64.ofInt (μ p.1 p.2 j))))
  else if jkt p.1 = 3 then .inl (y 3, (jlen μ p.1 p.2).toNat, .inl (fun j => Int32.ofInt (μ p.1 p.2 j)))
  else if jkt p.1 = 4 then .inl (y 4, (jlen μ p.1 p.2).toNat, .inl (fun j => Int32.ofInt (μ p.1 p.2 j)))
  else .inl (y 5, (jlen μ p.1 p.2).toNat, .inr (.inr (.inr (.inr (fun j => jbval ad ph μ p.1 p.2 j)))))
def jn (μ : JM) : Nat := (μ 53 0 0).toNat
def jws (ad : Nat → Nat) (ph : Bool) (μ : JM) (y : Nat → ClassId) : va_W := (List.range (jn μ)).map (fun i => (ad i, jcell ad ph μ y (jlab (i : Nat))))
def jlive (μ : JM) (p : JV) : Prop := ∃ i : Nat, i < jn μ ∧ jlab (i : Nat) = p
/-- what a place that holds a reference holds -/
def jlkf (ph : Bool) (μ : JM) (t : Nat) (x : Int) (k : Int) (f : JV) : Prop :=
  f.1 = 0 ∨ f.1 = 3 ∨ (f.1 = 1 ∧ 0 ≤ μ t x k ∧ (μ t x k ≠ 0 → jlive μ (50, μ t x k - 1))) ∨ (11 ≤ f.1 ∧ (ph = true ∨ μ t x k ≠ 0 → jlive μ f))
def jlk (ph : Bool) (μ : JM) : Prop := ∀ i : Nat, i < jn μ → (jkt (jlab i).1 = 0 → ∀ k : Nat, k < jnf (jkc (jlab i).1 (jlab i).2) → jlkf ph μ (jlab i).1 (jlab i).2 k (jft (jlab i).1 k (jlab i).2)) ∧ (jkt (jlab i).1 = 5 → ∀ j : Int, 0 ≤ j → j < jlt (jlab i).1 → jlkf ph μ (jlab i).1 (jlab i).2 j (jbk (jlab i).1 j))
def jtys (y : Nat → ClassId) : List (ClassId × FieldType) := [(y 1, .int), (y 2, .long), (y 3, .byte), (y 4, .boolean), (y 5, .object "RoundTrips$Book")]
/-- the script's ints, told by y; and where the cells of the call's start lie -/
def jyn (y : Nat → ClassId) (k : Nat) : Nat := y k
def jsc (y : Nat → ClassId) (k : Nat) : Int := (jyn y (200 + k) : Int) - 2147483648
def jaux (ad : Nat → Nat) (y : Nat → ClassId) (μ : JM) : Prop :=
  (ad 1000000000 = jyn y 100 ∧ ad 1000000001 = jyn y 199) ∧ (∀ i : Nat, i < jyn y 197 → ad i = jyn y (1000000 + i)) ∧ jyn y 197 ≤ jn μ ∧ jyn y 198 ≤ 3072 ∧ (∀ k : Nat, k < jyn y 198 → μ 80 0 (k : Int) = jsc y k) ∧ μ 80 1 0 = (jyn y 198 : Int)
def JRel (base : Nat) (ad : Nat → Nat) (D : va_G) (y : Nat → ClassId) (ph : Bool) (μ : JM) (H : Heap) : Prop :=
  va_P D vwCl (jws ad ph μ y) H ∧ va_D (fun q => base ≤ q) (jws ad ph μ y) ∧ 0 ≤ μ 53 0 0 ∧ jlk ph μ ∧ (∀ x, jlive μ (50, x) → 0 ≤ μ 51 x 0 ∧ μ 51 x 0 ≤ 7302250) ∧ jaux ad y μ
theorem jws_at {ad : Nat → Nat} {ph : Bool} {μ : JM} {y : Nat → ClassId} {p : JV} (h : jlive μ p) : (jws ad ph μ y)[jix p.1 p.2]? = some (ad (jix p.1 p.2), jcell ad ph μ y p) := by
  obtain ⟨i, hi, rfl⟩ := h
  rw [jix_lab]
  unfold jws
  rw [List.getElem?_map, List.getElem?_range hi]
  rfl
theorem jix_lt {μ : JM} {p : JV} (h : jlive μ p) : jix p.1 p.2 < jn μ := by
  obtain ⟨i, hi, rfl⟩ := h
  rw [jix_lab]
  exact hi
theorem jlab_ix {μ : JM} {p : JV} (h : jlive μ p) : jlab ((jix p.1 p.2 : Nat) : Int) = p := by
  obtain ⟨i, hi, rfl⟩ := h
  rw [jix_lab]
theorem jlive_kt {μ : JM} {p : JV} (h : jlive μ p) : jkt p.1 ≤ 5 ∧ 11 ≤ p.1 ∧ p.1 ≤ 72 ∧ p.1 ≠ 51 ∧ p.1 ≠ 53 ∧ p.1 ≠ 54 := by
  obtain ⟨i, hi, rfl⟩ := h
  exact jlab_kt i
/-- two memories that differ in the cell (t, x) alone -/
def jloc (t : Nat) (x : Int) (μ ν : JM) : Prop := ∀ (t' : Nat) (x' : Int), ¬ (t' = t ∧ x' = x) → ∀ k, ν t' x' k = μ t' x' k
theorem jloc_jw {t : Nat} {x i v : Int} {μ : JM} : jloc t x μ (jw μ t x i v) := by
  intro t' x' h k
  unfold jw
  rw [if_neg (fun q => h ⟨q.1, q.2.1⟩)]
theorem jloc_n {t : Nat} {x : Int} {μ ν : JM} (h : jloc t x μ ν) (h53 : t ≠ 53) : ν 53 0 0 = μ 53 0 0 := h 53 0 (fun q => h53 q.1.symm) 0
theorem jloc_live {t : Nat} {x : Int} {μ ν : JM} (h : jloc t x μ ν) (h53 : t ≠ 53) {p : JV} : jlive ν p ↔ jlive μ p := by
  unfold jlive jn
  rw [jloc_n h h53]
theorem jlen_eq {t : Nat} {x : Int} {μ ν : JM} (h : t = 50 → ν 51 x 0 = μ 51 x 0) : jlen ν t x = jlen μ t x := by
  unfold jlen
  by_cases ht : t = 50
  · rw [h ht]
  · rw [nbeq_f ht]
    rfl
theorem jcell_eq {ad : Nat → Nat} {ph : Bool} {μ ν : JM} {y : Nat → ClassId} {p : JV} (h : ∀ k, ν p.1 p.2 k = μ p.1 p.2 k) (h51 : p.1 = 50 → ν 51 p.2 0 = μ 51 p.2 0) : jcell ad ph ν y p = jcell ad ph μ y p := by
  unfold jcell jfval jbval
  simp only [h, jlen_eq h51]
theorem jws_set {ad : Nat → Nat} {ph : Bool} {μ ν : JM} {y : Nat → ClassId} {p : JV} (hl : jlive μ p) (h : jloc p.1 p.2 μ ν) : jws ad ph ν y = (jws ad ph μ y).set (jix p.1 p.2) (ad (jix p.1 p.2), jcell ad ph ν y p) := by
  have hk := jlive_kt hl
  have hn : jn ν = jn μ := by unfold jn; rw [jloc_n h hk.2.2.2.2.1]
  apply List.ext_getElem?
  intro i
  rw [List.getElem?_set]
  unfold jws
  simp only [List.length_map, List.length_range, List.getElem?_map, hn]
  have h1 := jix_lt hl
  by_cases hi : jix p.1 p.2 = i
  · subst hi
    rw [if_pos rfl, if_pos h1, List.getElem?_range h1]
    show some (ad (jix p.1 p.2), jcell ad ph ν y (jlab ((jix p.1 p.2 : Nat) : Int))) = _
    rw [jlab_ix hl]
  · rw [if_neg hi]
    by_cases h2 : i < jn μ
    · rw [List.getElem?_range h2]
      show some (ad i, jcell ad ph ν y (jlab (i : Nat))) = some (ad i, jcell ad ph μ y (jlab (i : Nat)))
      rw [jcell_eq]
      · intro k
        refine h _ _ (fun q => hi ?_) k
        rw [← q.1, ← q.2, jix_lab]
      · intro _
        exact h _ _ (fun q => hk.2.2.2.1 q.1.symm) 0
    · have e : (List.range (jn μ))[i]? = none := List.getElem?_eq_none (by rw [List.length_range]; omega)
      simp only [e, Option.map_none]
/-- the relation behind a change of the cell (t, x) -/
theorem JRel_loc {base : Nat} {ad : Nat → Nat} {D : va_G} {y : Nat → ClassId} {ph : Bool} {μ ν : JM} {H H1 : Heap} {p : JV} (hR : JRel base ad D y ph μ H) (hl : jlive μ p) (h : jloc p.1 p.2 μ ν)
    (hP : va_P D vwCl ((jws ad ph μ y).set (jix p.1 p.2) (ad (jix p.1 p.2), jcell ad ph ν y p)) H1) (hD : va_D (fun q => base ≤ q) ((jws ad ph μ y).set (jix p.1 p.2) (ad (jix p.1 p.2), jcell ad ph ν y p)))
    (hk0 : jkt p.1 = 0 → ∀ k : Nat, k < jnf (jkc p.1 p.2) → jlkf ph ν p.1 p.2 k (jft p.1 k p.2)) (hk5 : jkt p.1 = 5 → ∀ j : Int, 0 ≤ j → j < jlt p.1 → jlkf ph ν p.1 p.2 j (jbk p.1 j)) : JRel base ad D y ph ν H1 := by
  have hk := jlive_kt hl
  have hn : jn ν = jn μ := by unfold jn; rw [jloc_n h hk.2.2.2.2.1]
  obtain ⟨r1, r2, r3, r4, r5, r6⟩ := hR
  refine ⟨by rw [jws_set hl h]; exact hP, by rw [jws_set hl h]; exact hD, by rw [jloc_n h hk.2.2.2.2.1]; exact r3, fun i hi => ?_, fun x hx => ?_, ?_⟩
  · rw [hn] at hi
    by_cases hp : jlab (i : Nat) = p
    · rw [hp]
      exact ⟨hk0, hk5⟩
    · have hq : ¬ ((jlab (i : Nat)).1 = p.1 ∧ (jlab (i : Nat)).2 = p.2) := fun q => hp (Prod.ext q.1 q.2)
      have e := h _ _ hq
      have tr : ∀ (k : Int) (f : JV), jlkf ph μ (jlab (i : Nat)).1 (jlab (i : Nat)).2 k f → jlkf ph ν (jlab (i : Nat)).1 (jlab (i : Nat)).2 k f := by
        intro k f hf
        unfold jlkf at hf ⊢
        rw [e k, jloc_live h hk.2.2.2.2.1, jloc_live h hk.2.2.2.2.1]
        exact hf
      exact ⟨fun h0 k hk => tr _ _ ((r4 i hi).1 h0 k hk), fun h5 j a b => tr _ _ ((r4 i hi).2 h5 j a b)⟩
  · have e : ν 51 x 0 = μ 51 x 0 := h 51 x (fun q => hk.2.2.2.1 q.1.symm) 0
    rw [e]
    exact r5 x ((jloc_live h hk.2.2.2.2.1).mp hx)
  · obtain ⟨s1, s2, s3, s4, s5, s6⟩ := r6
    have h80 : ∀ x k, ν 80 x k = μ 80 x k := fun x k => h 80 x (fun q => by have := hk.2.2.1; rw [← q.1] at this; exact absurd this (by decide)) k
    exact ⟨s1, s2, by rw [hn]; exact s3, s4, fun k hk' => by rw [h80]; exact s5 k hk', by rw [h80]; exact s6⟩
