/-! there are no more than twelve thousand rounds -/
def wsp (w : List Int → Nat) (Q : List Int → Bool) : LL → Nat
  | [] => 0
  | r :: X => (if Q r = true then w r else 0) + wsp w Q X
theorem wsp_congr {w w' : List Int → Nat} {Q Q' : List Int → Bool} : ∀ (X : LL), (∀ r ∈ X, (if Q r = true then w r else 0) = (if Q' r = true then w' r else 0)) → wsp w Q X = wsp w' Q' X
  | [], _ => rfl
  | r :: X, h => by
    unfold wsp
    rw [h r (List.mem_cons_self ..), wsp_congr X (fun s hs => h s (List.mem_cons_of_mem _ hs))]
theorem wsp_le {w w' : List Int → Nat} {Q Q' : List Int → Bool} : ∀ (X : LL), (∀ r ∈ X, (if Q r = true then w r else 0) ≤ (if Q' r = true then w' r else 0)) → wsp w Q X ≤ wsp w' Q' X
  | [], _ => Nat.le_refl _
  | r :: X, h => by
    unfold wsp
    exact Nat.add_le_add (h r (List.mem_cons_self ..)) (wsp_le X (fun s hs => h s (List.mem_cons_of_mem _ hs)))
theorem wsp_split (w : List Int → Nat) (Q K : List Int → Bool) : ∀ (X : LL), wsp w Q X = wsp w (fun r => Q r && K r) X + wsp w (fun r => Q r && !K r) X
  | [] => rfl
  | r :: X => by
    unfold wsp
    rw [wsp_split w Q K X]
    cases Q r <;> cases K r <;> simp <;> omega
theorem wsp_mul (c : Nat) (w : List Int → Nat) (Q : List Int → Bool) : ∀ (X : LL), wsp (fun r => c * w r) Q X = c * wsp w Q X
  | [] => rfl
  | r :: X => by
    unfold wsp
    rw [wsp_mul c w Q X, Nat.mul_add]
    split <;> rfl
theorem wsp_one : ∀ (X : LL), wsp (fun _ => 1) (fun _ => true) X = X.length
  | [] => rfl
  | r :: X => by
    unfold wsp
    rw [wsp_one X]
    simp
    omega
theorem pig (w : List Int → Nat) (K : List Int → Int → Bool) (X : LL) : ∀ (E : List Int) (Q : List Int → Bool), (∀ r ∈ X, Q r = true → ∃ e ∈ E, K r e = true) → ∃ e, wsp w Q X ≤ E.length * wsp w (fun r => Q r && K r e) X
  | [], Q, h => ⟨0, by
    have : wsp w Q X ≤ wsp (fun _ => 0) (fun _ => false) X := wsp_le X (fun r hr => by
      split
      · rename_i hq
        obtain ⟨e, he, _⟩ := h r hr hq
        cases he
      · simp)
    have z : ∀ X : LL, wsp (fun _ => 0) (fun _ => false) X = 0 := by
      intro X
      induction X with
      | nil => rfl
      | cons r X ih => unfold wsp; rw [ih]; rfl
    rw [z] at this
    omega⟩
  | a :: E, Q, h => by
    obtain ⟨e, he⟩ := pig w K X E (fun r => Q r && !K r a) (fun r hr hq => by
      simp only [Bool.and_eq_true] at hq
      obtain ⟨e, he, hk⟩ := h r hr hq.1
      rcases List.mem_cons.mp he with rfl | he
      · rw [hk] at hq
        cases hq.2
      · exact ⟨e, he, hk⟩)
    have hs := wsp_split w Q (fun r => K r a) X
    have hle : wsp w (fun r => (Q r && !K r a) && K r e) X ≤ wsp w (fun r => Q r && K r e) X := wsp_le X (fun r _ => by
      cases Q r <;> cases K r a <;> cases K r e <;> simp)
    have hb := Nat.le_trans he (Nat.mul_le_mul_left E.length hle)
    rw [List.length_cons]
    rcases Nat.le_total (wsp w (fun r => Q r && K r e) X) (wsp w (fun r => Q r && K r a) X) with hc | hc
    · refine ⟨a, ?_⟩
      have := Nat.le_trans hb (Nat.mul_le_mul_left E.length hc)
      rw [hs, Nat.add_mul]
      omega
    · refine ⟨e, ?_⟩
      rw [hs, Nat.add_mul]
      omega
/-- how many transfers start from v; of all that start from less than v -/
abbrev outs (b : BK) (v : Int) : List Int := fk (fun e => decide (b 0 e = v)) (nm b) 0
abbrev outb (b : BK) (v : Int) : List Int := fk (fun e => decide (b 0 e < v)) (nm b) 0
theorem fk_sum {P P' R : Int → Bool} (h : ∀ i, (R i = true ↔ (P i = true ∨ P' i = true)) ∧ ¬ (P i = true ∧ P' i = true)) : ∀ (k : Nat) (i : Int), (fk R k i).length = (fk P k i).length + (fk P' k i).length
  | 0, _ => rfl
  | k + 1, i => by
    have ih := fk_sum h k (i + 1)
    have hi := h i
    unfold fk
    cases hp : P i <;> cases hp' : P' i <;> cases hr : R i <;> rw [hp, hp', hr] at hi <;> simp at hi ⊢ <;> omega
theorem out_succ (b : BK) (v : Int) : (outb b (v + 1)).length = (outb b v).length + (outs b v).length := by
  refine fk_sum (fun i => ⟨?_, ?_⟩) _ _
  · simp only [decide_eq_true_eq]
    omega
  · simp only [decide_eq_true_eq]
    omega
theorem mem_fk {P : Int → Bool} : ∀ (k : Nat) (i t : Int), i ≤ t → t < i + k → P t = true → t ∈ fk P k i
  | 0, i, t, h1, h2, _ => by omega
  | k + 1, i, t, h1, h2, h3 => by
    unfold fk
    by_cases ht : t = i
    · subst ht
      rw [if_pos h3]
      exact List.mem_cons_self ..
    · have := mem_fk k (i + 1) t (by omega) (by omega) h3
      split
      · exact List.mem_cons_of_mem _ this
      · exact this
abbrev vis (b : BK) (v : Int) (r : List Int) : Bool := r.any (fun e => decide (b 0 e = v))
def wt (b : BK) : Nat → List Int → Nat
  | 0, _ => 1
  | k + 1, r => if vis b k r = true then (outs b k).length * wt b k r else wt b k r
def ds (b : BK) : Nat → List Int → Nat
  | 0, _ => 0
  | k + 1, r => if vis b k r = true then ds b k r + (outs b k).length else ds b k r
def vn (b : BK) : Nat → List Int → Nat
  | 0, _ => 0
  | k + 1, r => if vis b k r = true then vn b k r + 1 else vn b k r
/-- one transfer for each account: the rounds that keep to it weigh as much as all -/
theorem choose (b : BK) (F : LL) (hF : ∀ r ∈ F, ∀ e ∈ r, 0 ≤ e ∧ e < b 5 1) : ∀ k : Nat, ∃ (Q : List Int → Bool) (c : Nat → Int), F.length ≤ wsp (wt b k) Q F ∧ ∀ r ∈ F, Q r = true → ∀ v, v < k → vis b v r = true → c v ∈ r ∧ b 0 (c v) = v
  | 0 => ⟨fun _ => true, fun _ => 0, by
    have : wsp (wt b 0) (fun _ => true) F = F.length := wsp_one F
    omega, fun r _ _ v hv => by omega⟩
  | k + 1 => by
    obtain ⟨Q, c, h1, h2⟩ := choose b F hF k
    have hm : ∀ e : Int, e < b 5 1 → e < (nm b : Int) := fun e h => by have : (nm b : Int) = ((b 5 1).toNat : Int) := rfl; omega
    obtain ⟨e, he⟩ := pig (wt b k) (fun r e => decide (e ∈ r ∧ b 0 e = k)) F (outs b k) (fun r => Q r && vis b k r) (fun r hr hq => by
      simp only [Bool.and_eq_true, List.any_eq_true, decide_eq_true_eq] at hq
      obtain ⟨_, e, he, hb⟩ := hq
      have := hF r hr e he
      exact ⟨e, mem_fk _ _ _ this.1 (by have := hm e this.2; omega) (by simpa using hb), by simp [he, hb]⟩)
    refine ⟨fun r => Q r && (!vis b k r || decide (e ∈ r ∧ b 0 e = k)), fun v => if v = k then e else c v, ?_, ?_⟩
    · refine Nat.le_trans h1 ?_
      rw [wsp_split (wt b k) Q (vis b k) F, wsp_split (wt b (k + 1)) (fun r => Q r && (!vis b k r || decide (e ∈ r ∧ b 0 e = k))) (vis b k) F]
      refine Nat.add_le_add (Nat.le_trans he ?_) ?_
      · rw [← wsp_mul]
        refine wsp_le F (fun r _ => ?_)
        cases hv : vis b k r <;> cases hq : Q r <;> cases hd : decide (e ∈ r ∧ b 0 e = k) <;> simp [wt, hv]
      · refine wsp_le F (fun r _ => ?_)
        cases hv : vis b k r <;> cases hq : Q r <;> simp [wt, hv]
    · intro r hr hq v hv hvis
      simp only [Bool.and_eq_true, Bool.or_eq_true, Bool.not_eq_true', decide_eq_true_eq] at hq
      by_cases hvk : v = k
      · subst hvk
        show (if v = v then e else c v) ∈ r ∧ b 0 (if v = v then e else c v) = v
        rw [if_pos rfl]
        rcases hq.2 with h | h
        · rw [hvis] at h
          cases h
        · exact h
      · show (if v = k then e else c v) ∈ r ∧ b 0 (if v = k then e else c v) = v
        rw [if_neg hvk]
        exact h2 r hr hq.1 v (by omega) hvis
/-- the greatest product of n numbers of a sum s -/
def gmx (n s : Nat) : Nat := (s / n) ^ (n - s % n) * (s / n + 1) ^ (s % n)
theorem gmx_all : ((List.range 5).all fun n => (List.range 33).all fun s => (List.range 33).all fun d => (decide (n = 0) && decide (s ≠ 0)) || decide (33 ≤ s + d) || decide (d * gmx n s ≤ gmx (n + 1) (s + d))) = true := by decide +kernel
theorem gmx_step (n : Nat) (hn : n < 5) (s : Nat) (hs : s < 33) (d : Nat) (hd : d < 33) (h0 : n ≠ 0 ∨ s = 0) (hsd : s + d < 33) : d * gmx n s ≤ gmx (n + 1) (s + d) := by
  have h := List.all_eq_true.mp (List.all_eq_true.mp (List.all_eq_true.mp gmx_all n (List.mem_range.mpr hn)) s (List.mem_range.mpr hs)) d (List.mem_range.mpr hd)
  simp only [Bool.or_eq_true, Bool.and_eq_true, decide_eq_true_eq] at h
  rcases h with (h | h) | h
  · omega
  · omega
  · exact h
theorem gmx_le : ∀ n, n < 6 → ∀ s, s < 33 → 1 ≤ n → gmx n s ≤ 375 * s := by decide +kernel
theorem wt_le (b : BK) (r : List Int) : ∀ k : Nat, vn b k r ≤ 5 → ds b k r ≤ 32 → wt b k r ≤ gmx (vn b k r) (ds b k r) ∧ (vn b k r = 0 → ds b k r = 0)
  | 0, _, _ => ⟨by show 1 ≤ gmx 0 0; decide, fun _ => rfl⟩
  | k + 1, h1, h2 => by
    unfold vn at h1
    unfold ds at h2
    unfold wt vn ds
    cases hv : vis b k r
    · rw [hv] at h1 h2
      simp only [Bool.false_eq_true, if_false] at h1 h2 ⊢
      exact wt_le b r k h1 h2
    · rw [hv] at h1 h2
      simp only [if_true] at h1 h2 ⊢
      have ih := wt_le b r k (by omega) (by omega)
      refine ⟨Nat.le_trans (Nat.mul_le_mul_left _ ih.1) ?_, fun h => by omega⟩
      exact gmx_step _ (by omega) _ (by omega) _ (by omega) (by have := ih.2; omega) (by omega)
theorem ds_le (b : BK) (r : List Int) : ∀ k : Nat, ds b k r ≤ (outb b k).length
  | 0 => Nat.zero_le _
  | k + 1 => by
    have := ds_le b r k
    have e := out_succ b k
    unfold ds
    rw [show ((k + 1 : Nat) : Int) = (k : Int) + 1 by omega, e]
    split <;> omega
/-- accounts that a round meets: no more than it has transfers -/
theorem vn_le (b : BK) : ∀ (k : Nat) (r : List Int), vn b k r ≤ (r.filter (fun e => decide (b 0 e < k))).length
  | 0, r => Nat.zero_le _
  | k + 1, r => by
    have ih := vn_le b k r
    unfold vn
    have mono : ∀ r : List Int, (r.filter (fun e => decide (b 0 e < (k : Int)))).length ≤ (r.filter (fun e => decide (b 0 e < ((k + 1 : Nat) : Int)))).length ∧ (vis b k r = true → (r.filter (fun e => decide (b 0 e < (k : Int)))).length + 1 ≤ (r.filter (fun e => decide (b 0 e < ((k + 1 : Nat) : Int)))).length) := by
      intro r
      induction r with
      | nil => exact ⟨Nat.le_refl _, fun h => by cases h⟩
      | cons e l ihl =>
        rw [List.filter_cons, List.filter_cons]
        by_cases c1 : b 0 e < (k : Int)
        · have c2 : b 0 e < ((k + 1 : Nat) : Int) := by omega
          simp only [c1, c2, decide_true, if_true, List.length_cons]
          refine ⟨by omega, fun h => ?_⟩
          have hne : ¬ b 0 e = k := by omega
          simp only [vis, List.any_cons, hne, decide_false, Bool.false_or] at h
          have := ihl.2 h
          omega
        · by_cases c2 : b 0 e < ((k + 1 : Nat) : Int)
          · simp only [c1, c2, decide_true, decide_false, if_true, List.length_cons, Bool.false_eq_true, if_false]
            exact ⟨by omega, fun _ => by omega⟩
          · simp only [c1, c2, decide_false, Bool.false_eq_true, if_false]
            refine ⟨ihl.1, fun h => ?_⟩
            have hne : ¬ b 0 e = k := by omega
            simp only [vis, List.any_cons, hne, decide_false, Bool.false_or] at h
            exact ihl.2 h
    have m := mono r
    split
    · rename_i hv
      have := m.2 hv
      omega
    · omega
theorem okp_in {b : BK} : ∀ {p : List Int}, okp b p → ∀ e ∈ p, 0 ≤ e ∧ e < b 5 1
  | [], h, _, _ => h.elim
  | [t], h, e, he => by
    have : e = t := by simpa using he
    subst this
    exact h
  | y :: x :: l, h, e, he => by
    rcases List.mem_cons.mp he with rfl | he
    · exact h.1
    · exact okp_in h.2.2.2 e he
theorem walk_up {b : BK} {P : Int → Prop} : ∀ {p : List Int}, okp b p → (∀ e ∈ p, ∀ e' ∈ p, P e → b 0 e' = b 1 e → P e') → (∃ x ∈ p, P x) → P (hd p)
  | [], h, _, _ => h.elim
  | [t], _, _, hx => by
    obtain ⟨x, hx, hp⟩ := hx
    have : x = t := by simpa using hx
    subst this
    exact hp
  | y :: x :: l, h, st, hx => by
    obtain ⟨u, hu, hp⟩ := hx
    rcases List.mem_cons.mp hu with rfl | hu
    · exact hp
    · have hx := walk_up h.2.2.2 (fun e he e' he' => st e (List.mem_cons_of_mem _ he) e' (List.mem_cons_of_mem _ he')) ⟨u, hu, hp⟩
      exact st x (List.mem_cons_of_mem _ (List.mem_cons_self ..)) y (List.mem_cons_self ..) hx h.2.1.1
theorem walk_all {b : BK} {P : Int → Prop} : ∀ {p : List Int}, okp b p → (∀ e ∈ p, ∀ e' ∈ p, P e → b 0 e' = b 1 e → P e') → P (lst p) → ∀ e ∈ p, P e
  | [], h, _, _ => h.elim
  | [t], _, _, hl => fun e he => by
    have : e = t := by simpa using he
    subst this
    exact hl
  | y :: x :: l, h, st, hl => fun e he => by
    have hall := walk_all h.2.2.2 (fun e he e' he' => st e (List.mem_cons_of_mem _ he) e' (List.mem_cons_of_mem _ he')) (by rw [lst_cons (by simp)] at hl; exact hl)
    rcases List.mem_cons.mp he with rfl | he
    · exact st x (List.mem_cons_of_mem _ (List.mem_cons_self ..)) e (List.mem_cons_self ..) (hall x (List.mem_cons_self ..)) h.2.1.1
    · exact hall e he
theorem lst_mem {p : List Int} (h : p ≠ []) : lst p ∈ p := by
  unfold lst
  rw [List.getLastD_eq_getLast?, List.getLast?_eq_some_getLast h]
  exact List.getLast_mem h
theorem okp_ne {b : BK} {p : List Int} (h : okp b p) : p ≠ [] := by
  intro e
  subst e
  exact h
theorem okp_lt {b : BK} (hv : vb b) {x y : Int} (hx : 0 ≤ x ∧ x < b 5 1) (hy : 0 ≤ y ∧ y < b 5 1) (h : pstep b x y) : x < y := by
  rcases Int.lt_or_le x y with hc | hc
  · exact hc
  · have := vb_so hv hy.1 hc hx.2
    have := h.2.1
    omega
theorem okp_desc {b : BK} (hv : vb b) : ∀ {p : List Int}, okp b p → p.Pairwise (· > ·)
  | [], h => h.elim
  | [t], _ => List.pairwise_singleton _ _
  | y :: x :: l, h => by
    have ih := okp_desc hv h.2.2.2
    refine List.pairwise_cons.mpr ⟨fun u hu => ?_, ih⟩
    have hx := okp_in h.2.2.2 x (List.mem_cons_self ..)
    have hxy := okp_lt hv hx h.1 h.2.1
    rcases List.mem_cons.mp hu with rfl | hu
    · exact hxy
    · have := (List.pairwise_cons.mp ih).1 u hu
      show y > u
      have : x > u := this
      omega
theorem okp_froms {b : BK} : ∀ {p : List Int}, okp b p → ∀ e ∈ p, ∀ e' ∈ p, b 0 e = b 0 e' → e = e'
  | [], h, _, _, _, _, _ => h.elim
  | [t], _, e, he, e', he', _ => by
    have h1 : e = t := by simpa using he
    have h2 : e' = t := by simpa using he'
    rw [h1, h2]
  | y :: x :: l, h, e, he, e', he', hb => by
    rcases List.mem_cons.mp he with h1 | h1 <;> rcases List.mem_cons.mp he' with h2 | h2
    · rw [h1, h2]
    · rw [h1] at hb
      exact absurd hb.symm (h.2.2.1 e' h2)
    · rw [h2] at hb
      exact absurd hb (h.2.2.1 e h1)
    · exact okp_froms h.2.2.2 e h1 e' h2 hb
theorem desc_ext : ∀ (p q : List Int), p.Pairwise (· > ·) → q.Pairwise (· > ·) → (∀ e, e ∈ p ↔ e ∈ q) → p = q
  | [], [], _, _, _ => rfl
  | [], c :: q, _, _, h => by have := (h c).mpr (List.mem_cons_self ..); cases this
  | a :: p, [], _, _, h => by have := (h a).mp (List.mem_cons_self ..); cases this
  | a :: p, c :: q, hp, hq, h => by
    have hp' := List.pairwise_cons.mp hp
    have hq' := List.pairwise_cons.mp hq
    have e : a = c := by
      have h1 := (h a).mp (List.mem_cons_self ..)
      have h2 := (h c).mpr (List.mem_cons_self ..)
      rcases List.mem_cons.mp h1 with h1 | h1
      · exact h1
      · rcases List.mem_cons.mp h2 with h2 | h2
        · exact h2.symm
        · have g1 : c > a := hq'.1 a h1
          have g2 : a > c := hp'.1 c h2
          omega
    subst e
    congr 1
    refine desc_ext p q hp'.2 hq'.2 (fun e => ⟨fun he => ?_, fun he => ?_⟩)
    · have g : a > e := hp'.1 e he
      rcases List.mem_cons.mp ((h e).mp (List.mem_cons_of_mem _ he)) with h1 | h1
      · omega
      · exact h1
    · have g : a > e := hq'.1 e he
      rcases List.mem_cons.mp ((h e).mpr (List.mem_cons_of_mem _ he)) with h1 | h1
      · omega
      · exact h1
/-- after the last transfer of a round the first one comes -/
theorem grp_next {b : BK} {p : List Int} (h : grp b p) : ∀ e ∈ p, ∃ e' ∈ p, b 0 e' = b 1 e := by
  have key : ∀ {p : List Int}, okp b p → ∀ e ∈ p, e = hd p ∨ ∃ e' ∈ p, b 0 e' = b 1 e := by
    intro p
    induction p with
    | nil => intro h; exact h.elim
    | cons y l ih =>
      intro h e he
      cases l with
      | nil => exact Or.inl (by simpa using he)
      | cons x l =>
        rcases List.mem_cons.mp he with rfl | he
        · exact Or.inl rfl
        · rcases ih h.2.2.2 e he with rfl | ⟨e', he', hb⟩
          · exact Or.inr ⟨y, List.mem_cons_self .., h.2.1.1⟩
          · exact Or.inr ⟨e', List.mem_cons_of_mem _ he', hb⟩
  intro e he
  rcases key h.1 e he with rfl | h2
  · exact ⟨lst p, lst_mem (okp_ne h.1), h.2.1.symm⟩
  · exact h2
theorem same_round {b : BK} (hv : vb b) {p q : List Int} (hp : grp b p) (hq : grp b q) {c : Nat → Int} (h1 : ∀ v : Nat, v < 12 → vis b v p = true → c v ∈ p ∧ b 0 (c v) = v) (h2 : ∀ v : Nat, v < 12 → vis b v q = true → c v ∈ q ∧ b 0 (c v) = v) {v : Nat} (hv12 : v < 12) (hvp : vis b v p = true) (hvq : vis b v q = true) : p = q := by
  have hn := vb_n hv
  have sub : ∀ {p q : List Int}, grp b p → grp b q → (∀ v : Nat, v < 12 → vis b v p = true → c v ∈ p ∧ b 0 (c v) = v) → (∀ v : Nat, v < 12 → vis b v q = true → c v ∈ q ∧ b 0 (c v) = v) → vis b v p = true → vis b v q = true → ∀ e ∈ p, e ∈ q := by
    intro p q hp hq h1 h2 hvp hvq
    have st : ∀ e ∈ p, ∀ e' ∈ p, e ∈ q → b 0 e' = b 1 e → e' ∈ q := by
      intro e he e' he' heq hb
      obtain ⟨e2, he2, hb2⟩ := grp_next hq e heq
      have ei := okp_in hp.1 e' he'
      have tt := vb_t hv ei.1 ei.2
      have hu : (b 0 e').toNat < 12 := by omega
      have hcast : (((b 0 e').toNat : Nat) : Int) = b 0 e' := by omega
      have a1 := h1 _ hu (List.any_eq_true.mpr ⟨e', he', by simp [hcast]⟩)
      have a2 := h2 _ hu (List.any_eq_true.mpr ⟨e2, he2, by simp [hcast]; omega⟩)
      have := okp_froms hp.1 _ a1.1 e' he' (by rw [a1.2, hcast])
      rw [← this]
      exact a2.1
    have up := walk_up (P := fun e => e ∈ q) hp.1 st ⟨c v, (h1 v hv12 hvp).1, (h2 v hv12 hvq).1⟩
    refine walk_all (P := fun e => e ∈ q) hp.1 st ?_
    refine st (hd p) ?_ (lst p) (lst_mem (okp_ne hp.1)) up hp.2.1.symm
    cases p with
    | nil => exact absurd rfl (okp_ne hp.1)
    | cons a l => exact List.mem_cons_self ..
  exact desc_ext p q (okp_desc hv hp.1) (okp_desc hv hq.1) (fun e => ⟨sub hp hq h1 h2 hvp hvq e, sub hq hp h2 h1 hvq hvp e⟩)
theorem one_le {w : List Int → Nat} {Q : List Int → Bool} : ∀ (X : LL), X.Nodup → (∀ r ∈ X, w r ≤ 1) → (∀ r ∈ X, ∀ s ∈ X, Q r = true → Q s = true → w r = 1 → w s = 1 → r = s) → wsp w Q X ≤ 1
  | [], _, _, _ => by unfold wsp; omega
  | r :: X, hn, hw, h => by
    have hn' := List.nodup_cons.mp hn
    have ih := one_le X hn'.2 (fun s hs => hw s (List.mem_cons_of_mem _ hs)) (fun s hs t ht => h s (List.mem_cons_of_mem _ hs) t (List.mem_cons_of_mem _ ht))
    unfold wsp
    by_cases hc : Q r = true ∧ w r = 1
    · have z : wsp w Q X ≤ wsp (fun _ => 0) (fun _ => true) X := wsp_le X (fun s hs => by
        split
        · rename_i hq
          have := hw s (List.mem_cons_of_mem _ hs)
          rcases Nat.lt_or_ge 0 (w s) with h0 | h0
          · exact absurd (h r (List.mem_cons_self ..) s (List.mem_cons_of_mem _ hs) hc.1 hq hc.2 (by omega)) (fun e => hn'.1 (e ▸ hs))
          · simp; omega
        · exact Nat.zero_le _)
      have z0 : ∀ X : LL, wsp (fun _ => 0) (fun _ => true) X = 0 := by
        intro X
        induction X with
        | nil => rfl
        | cons r X ih => unfold wsp; rw [ih]; rfl
      rw [z0] at z
      rw [if_pos hc.1, hc.2]
      omega
    · have : (if Q r = true then w r else 0) = 0 := by
        split
        · rename_i hq
          have := hw r (List.mem_cons_self ..)
          rcases Nat.lt_or_ge 0 (w r) with h0 | h0
          · exact absurd ⟨hq, by omega⟩ hc
          · omega
        · rfl
      omega
theorem wsp_add (w w' : List Int → Nat) (Q : List Int → Bool) : ∀ X : LL, wsp (fun r => w r + w' r) Q X = wsp w Q X + wsp w' Q X
  | [] => rfl
  | r :: X => by
    unfold wsp
    rw [wsp_add w w' Q X]
    split <;> omega
theorem vn_pos (b : BK) (r : List Int) {v : Nat} (hvis : vis b v r = true) : ∀ k : Nat, v < k → 1 ≤ vn b k r
  | 0, h => by omega
  | k + 1, h => by
    unfold vn
    by_cases hk : v = k
    · subst hk
      rw [if_pos hvis]
      omega
    · have := vn_pos b r hvis k (by omega)
      split <;> omega
theorem rounds_le {b : BK} (hv : vb b) (w : Int) : (pro b (fun _ => w)).length ≤ 12000 := by
  have hm := vb_m hv
  have hn := vb_n hv
  have good := pro_good hv (fun _ => w)
  have nd := pro_nodup b w
  generalize pro b (fun _ => w) = F at good nd ⊢
  obtain ⟨Q, c, h1, h2⟩ := choose b F (fun r hr e he => okp_in (good r hr).1 e (List.mem_reverse.mpr he)) 12
  have vrev : ∀ (v : Nat) (r : List Int), vis b v r.reverse = vis b v r := fun v r => by simp [vis, List.any_reverse]
  have hob : (outb b 12).length ≤ 32 := by
    have h0 : (outb b 12).length ≤ nm b := fk_len (nm b) 0
    have e : nm b = (b 5 1).toNat := rfl
    omega
  have wle : ∀ r ∈ F, wt b 12 r ≤ 375 * ds b 12 r := by
    intro r hr
    have g := good r hr
    have hlen : r.length ≤ 5 := by have := g.2.2.2; simpa using this
    have hvn : vn b 12 r ≤ 5 := by
      have := vn_le b 12 r
      have h3 : (r.filter (fun e => decide (b 0 e < ((12 : Nat) : Int)))).length ≤ r.length := List.length_filter_le _ _
      omega
    have hds : ds b 12 r ≤ 32 := Nat.le_trans (ds_le b r 12) hob
    have hpos : 1 ≤ vn b 12 r := by
      have hne := okp_ne g.1
      have he := lst_mem hne
      have ei := okp_in g.1 _ he
      have tt := vb_t hv ei.1 ei.2
      have hcast : (((b 0 (lst r.reverse)).toNat : Nat) : Int) = b 0 (lst r.reverse) := by omega
      exact vn_pos b r (v := (b 0 (lst r.reverse)).toNat) (List.any_eq_true.mpr ⟨lst r.reverse, List.mem_reverse.mp he, decide_eq_true hcast.symm⟩) 12 (by omega)
    exact Nat.le_trans (wt_le b r 12 hvn hds).1 (gmx_le _ (by omega) _ (by omega) hpos)
  have sum : ∀ k : Nat, k ≤ 12 → wsp (ds b k) Q F ≤ (outb b k).length := by
    intro k
    induction k with
    | zero =>
      intro _
      have z0 : ∀ X : LL, wsp (ds b 0) Q X = 0 := by
        intro X
        induction X with
        | nil => rfl
        | cons r X ih => unfold wsp; rw [ih]; split <;> rfl
      rw [z0]
      exact Nat.zero_le _
    | succ k ih =>
      intro hk
      have ih := ih (by omega)
      have e : wsp (ds b (k + 1)) Q F = wsp (ds b k) Q F + (outs b k).length * wsp (fun r => if vis b k r = true then 1 else 0) Q F := by
        rw [← wsp_mul, ← wsp_add]
        refine wsp_congr F (fun r _ => ?_)
        cases hv : vis b k r <;> simp [ds, hv]
      have one : wsp (fun r => if vis b k r = true then 1 else 0) Q F ≤ 1 := by
        refine one_le F nd (fun r _ => by split <;> omega) (fun r hr s hs hqr hqs w1 w2 => ?_)
        have vr : vis b k r = true := by
          by_cases hc : vis b k r = true
          · exact hc
          · rw [if_neg hc] at w1; cases w1
        have vs : vis b k s = true := by
          by_cases hc : vis b k s = true
          · exact hc
          · rw [if_neg hc] at w2; cases w2
        have := same_round hv (good r hr) (good s hs) (c := c) (v := k) (fun v hv12 hvis => by rw [vrev] at hvis; have := h2 r hr hqr v hv12 hvis; exact ⟨List.mem_reverse.mpr this.1, this.2⟩) (fun v hv12 hvis => by rw [vrev] at hvis; have := h2 s hs hqs v hv12 hvis; exact ⟨List.mem_reverse.mpr this.1, this.2⟩) (by omega) (by rw [vrev]; exact vr) (by rw [vrev]; exact vs)
        exact List.reverse_inj.mp this
      have e2 := out_succ b k
      rw [show ((k + 1 : Nat) : Int) = (k : Int) + 1 by omega, e2, e]
      have := Nat.mul_le_mul_left (outs b k).length one
      omega
  have s12 := sum 12 (Nat.le_refl _)
  have : wsp (wt b 12) Q F ≤ 375 * wsp (ds b 12) Q F := by
    rw [← wsp_mul]
    refine wsp_le F (fun r hr => ?_)
    split
    · exact wle r hr
    · exact Nat.le_refl _
  have h375 := Nat.mul_le_mul_left 375 (Nat.le_trans s12 (show (outb b ((12 : Nat) : Int)).length ≤ 32 from hob))
  omega
