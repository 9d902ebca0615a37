/-! ways: what the class has seen, and that it needn't look again -/
def bl (o w : List Int) : Prop := ∃ e v, o = e ++ v ∧ v.length = w.length ∧ lr v w
def gI (b : BK) (f T g : Int) (p : List Int) (r : Int) (O : LL) (R : WR) : Prop := wsd b f T g R ∧ (∀ o ∈ O, wy b f T o) ∧ (R.1 = [] ∨ R.1 ∈ O) ∧ (∀ o ∈ O, p.length < o.length → ∀ e, wy b f T (e ++ o) → cov b g (e ++ o) R) ∧ ∀ o ∈ O, p.length < o.length → ∀ r', r ≤ r' → bl o (r' :: p)
theorem gI_up {b : BK} {f T g : Int} {p : List Int} {r r2 : Int} {O : LL} {R : WR} (h : gI b f T g p r O R) (hr : r ≤ r2) : gI b f T g p r2 O R := ⟨h.1, h.2.1, h.2.2.1, h.2.2.2.1, fun o ho hl r' hr' => h.2.2.2.2 o ho hl r' (by omega)⟩
theorem cov_lr {b : BK} {g : Int} {w v : List Int} {R : WR} (h : cov b g w R) (hh : hd w = hd v) (hl : lr w v) : cov b g v R := by
  have el := lr_len hl
  obtain ⟨h1, h2, h3⟩ := h
  rw [hh] at h1 h2
  rw [el] at h3
  exact ⟨fun hg => ⟨(h1 hg).1, kle_trans (h1 hg).2.1 (Or.inr ⟨by rw [hh], Or.inr ⟨el, Or.inr hl⟩⟩), (h1 hg).2.2⟩, h2, h3⟩
theorem bl_eq {o w : List Int} (h : bl o w) (hl : o.length = w.length) : lr o w := by
  obtain ⟨e, v, h1, h2, h3⟩ := h
  subst h1
  have : e = [] := List.length_eq_zero_iff.mp (by rw [List.length_append] at hl; omega)
  subst this
  exact h3
theorem gI_seen {b : BK} (hv : vb b) {f T g t : Int} (hf : 0 ≤ f ∧ f < b 5 0) {p o : List Int} {O : LL} {R : WR} (h : gI b f T g p t O R) (hw : wy b f T (t :: p)) (ho : o ∈ O) (hs : so b f o = so b f (t :: p)) (hh : hd o = t) : ∀ e, wy b f T (e ++ t :: p) → cov b g (e ++ t :: p) R := by
  have wo := h.2.1 o ho
  have s1 := (wy_so hv hf o (Or.inl wo)).2.2
  have s2 := (wy_so hv hf (t :: p) (Or.inl hw)).2.2
  rw [hs] at s1
  have el : o.length = (t :: p).length := by omega
  have hlt : p.length < o.length := by
    rw [el]
    exact Nat.lt_succ_self _
  have l := bl_eq (h.2.2.2.2 o ho hlt t (Int.le_refl _)) el
  intro e he
  exact cov_lr (h.2.2.2.1 o ho hlt e (wy_sw wo (fun h => by cases h) hs hh e he)) (hd_app hh e) (lr_app l e)
abbrev cC (b : BK) (w : List Int) (R : WR) : Bool := decide (R.1 = [] ∨ b 2 (hd w) < b 2 (hd R.1) ∨ (b 2 (hd w) = b 2 (hd R.1) ∧ w.length < R.1.length))
theorem gI_enter {b : BK} (hv : vb b) {f T g t : Int} {p : List Int} {O : LL} {R : WR} (h : gI b f T g p t O R) (hw : wy b f T (t :: p)) : gI b f T g (t :: p) 0 ((t :: p) :: O) (ar b g (cC b (t :: p) R) (t :: p) R) ∧ cov b g (t :: p) (ar b g (cC b (t :: p) R) (t :: p) R) ∧ wmo b g R (ar b g (cC b (t :: p) R) (t :: p) R) := by
  have a := ar_ok hv (c := cC b (t :: p) R) h.1 hw (fun _ hc => by
    rcases of_decide_eq_true hc with q | q | q
    · exact Or.inl q
    · exact Or.inr (Or.inl q)
    · exact Or.inr (Or.inr ⟨q.1, Or.inl q.2⟩)) (fun _ hc => by
    have q := of_decide_eq_false hc
    have hne : R.1 ≠ [] := fun e => q (Or.inl e)
    refine ⟨hne, ?_⟩
    by_cases h1 : b 2 (hd R.1) < b 2 (hd (t :: p))
    · exact Or.inl h1
    · have h2 : ¬ b 2 (hd (t :: p)) < b 2 (hd R.1) := fun e => q (Or.inr (Or.inl e))
      have h3 : b 2 (hd R.1) = b 2 (hd (t :: p)) := by omega
      refine Or.inr ⟨h3, ?_⟩
      have h4 : ¬ (t :: p).length < R.1.length := fun e => q (Or.inr (Or.inr ⟨h3.symm, e⟩))
      by_cases h5 : R.1.length < (t :: p).length
      · exact Or.inl h5
      · have h6 : R.1.length = (t :: p).length := by omega
        have h7 : p.length < R.1.length := by
          rw [h6]
          exact Nat.lt_succ_self _
        exact Or.inr ⟨h6, Or.inr (bl_eq (h.2.2.2.2 R.1 (h.2.2.1.resolve_left hne) h7 t (Int.le_refl _)) h6)⟩)
  refine ⟨⟨a.1, fun o ho => ?_, ?_, fun o ho hl e he => ?_, fun o ho hl r' hr' => ?_⟩, a.2⟩
  · rcases List.mem_cons.mp ho with rfl | ho
    · exact hw
    · exact h.2.1 o ho
  · show (if b 1 (hd (t :: p)) = g ∧ cC b (t :: p) R = true then (t :: p) else R.1) = [] ∨ (if b 1 (hd (t :: p)) = g ∧ cC b (t :: p) R = true then (t :: p) else R.1) ∈ (t :: p) :: O
    split
    · exact Or.inr (List.mem_cons_self ..)
    · rcases h.2.2.1 with q | q
      · exact Or.inl q
      · exact Or.inr (List.mem_cons_of_mem _ q)
  · rcases List.mem_cons.mp ho with rfl | ho
    · exact absurd hl (Nat.lt_irrefl _)
    · exact a.2.2 _ (h.2.2.2.1 o ho (by rw [List.length_cons] at hl; omega) e he)
  · rcases List.mem_cons.mp ho with rfl | ho
    · exact absurd hl (Nat.lt_irrefl _)
    · obtain ⟨e, v, h1, h2, h3⟩ := h.2.2.2.2 o ho (by rw [List.length_cons] at hl; omega) t (Int.le_refl _)
      rw [List.length_cons] at h2 hl
      have hne : e ≠ [] := fun he => by
        subst he
        rw [h1, List.nil_append] at hl
        omega
      obtain ⟨e', x, rfl⟩ : ∃ e' x, e = e' ++ [x] := ⟨e.dropLast, e.getLast hne, (List.dropLast_concat_getLast hne).symm⟩
      exact ⟨e', x :: v, by rw [h1]; simp, by simp [h2], Or.inl h3⟩
theorem gI_leave {b : BK} {f T g t r : Int} {p : List Int} {O N : LL} {R R' : WR} (h : gI b f T g p t O R) (h' : gI b f T g (t :: p) r (N ++ (t :: p) :: O) R') (hN : ∀ n ∈ N, ∃ e, n = e ++ (t :: p)) (hm : wmo b g R R') (hc : ∀ e, wy b f T (e ++ t :: p) → cov b g (e ++ t :: p) R') : gI b f T g p (t + 1) (N ++ (t :: p) :: O) R' := by
  refine ⟨h'.1, h'.2.1, h'.2.2.1, fun o ho hl e he => ?_, fun o ho hl r' hr' => ?_⟩
  · rcases List.mem_append.mp ho with hn | hn
    · obtain ⟨e2, rfl⟩ := hN o hn
      rw [← List.append_assoc] at he ⊢
      exact hc _ he
    · rcases List.mem_cons.mp hn with rfl | hn
      · exact hc _ he
      · exact hm _ (h.2.2.2.1 o hn hl e he)
  · have new : ∀ e2, bl (e2 ++ t :: p) (r' :: p) := fun e2 => ⟨e2, t :: p, rfl, rfl, Or.inr ⟨rfl, by omega⟩⟩
    rcases List.mem_append.mp ho with hn | hn
    · obtain ⟨e2, rfl⟩ := hN o hn
      exact new e2
    · rcases List.mem_cons.mp hn with rfl | hn
      · exact new []
      · exact h.2.2.2.2 o hn hl r' (by omega)
theorem cov_all {b : BK} {f T g : Int} {w : List Int} {R : WR} (h0 : cov b g w R) (h : ∀ (r : Int) (e : List Int), wy b f T (e ++ r :: w) → cov b g (e ++ r :: w) R) : ∀ e, wy b f T (e ++ w) → cov b g (e ++ w) R := by
  intro e he
  by_cases hne : e = []
  · subst hne
    exact h0
  · obtain ⟨e', x, rfl⟩ : ∃ e' x, e = e' ++ [x] := ⟨e.dropLast, e.getLast hne, (List.dropLast_concat_getLast hne).symm⟩
    rw [List.append_assoc] at he ⊢
    exact h x e' he
theorem wy_one {b : BK} {f T r : Int} {w : List Int} (hw : w ≠ []) {e : List Int} (h : wy b f T (e ++ r :: w)) : (0 ≤ r ∧ r < b 5 1) ∧ bt (so b f w) (b 1 r).toNat = false ∧ pstep b (hd w) r := by
  have q : wy b f T (r :: w) := wy_suf (fun h => by cases h) e h
  refine ⟨q.1, q.2.1, ?_⟩
  rcases q.2.2 with h2 | h2
  · exact absurd h2.1 hw
  · exact h2.2.1
/-- a path in its row, its first place last -/
def pw (F : Int → Int) : List Int → Prop
  | [] => True
  | x :: p => F (p.length : Int) = x ∧ pw F p
theorem pw_fr {F G : Int → Int} : ∀ {p : List Int}, pw F p → (∀ i, 0 ≤ i → i < (p.length : Int) → G i = F i) → pw G p
  | [], _, _ => trivial
  | x :: p, h, e => ⟨by rw [e _ (by omega) (by simp; omega)]; exact h.1, pw_fr h.2 (fun i i0 i1 => e i i0 (by simp; omega))⟩
theorem pw_uniq {F : Int → Int} : ∀ {p q : List Int}, pw F p → pw F q → p.length = q.length → p = q
  | [], [], _, _, _ => rfl
  | [], _ :: _, _, _, h => by cases h
  | _ :: _, [], _, _, h => by cases h
  | x :: p, y :: q, h, k, hl => by
    have el : p.length = q.length := by simpa using hl
    rw [pw_uniq h.2 k.2 el, ← h.1, ← k.1, el]
/-- what lies in the class's ways -/
def CW (b : BK) (f g : Int) (O : LL) (R : WR) (ξ : JM) : Prop := isC ξ 5 b ∧ (∀ t, 0 ≤ t → t < b 5 1 → inR (ξ 42 0 t) ∧ ∀ j : Nat, j < 32 → bt (ξ 42 0 t) j = decide ((j : Int) < b 5 1 ∧ pstep b t j)) ∧ ξ 25 0 5 = g ∧ (ξ 25 0 6 = if R.1 = [] then 10000 else b 2 (hd R.1)) ∧ ξ 25 0 7 = (R.1.length : Int) ∧ ξ 25 0 8 = R.2.1 ∧ ξ 25 0 9 = R.2.2.1 ∧ ξ 25 0 10 = R.2.2.2 ∧ pw (ξ 44 0) R.1 ∧ ∀ S t : Int, 0 ≤ S → S < jshl 1 (b 5 0) → 0 ≤ t → t < 32 → bt (ξ 39 0 S) t.toNat = true → ∃ o ∈ O, so b f o = S ∧ hd o = t
theorem wsd_in {b : BK} (hv : vb b) {f T g : Int} (hf : 0 ≤ f ∧ f < b 5 0) {R : WR} (h : wsd b f T g R) : R.1.length ≤ 11 ∧ (0 ≤ R.2.1 ∧ R.2.1 ≤ 9999) ∧ (0 ≤ R.2.2.2 ∧ R.2.2.2 ≤ 11) ∧ (R.1 ≠ [] → (0 ≤ hd R.1 ∧ hd R.1 < b 5 1)) := by
  obtain ⟨h1, h2, _, _, h5⟩ := h
  refine ⟨?_, ?_, ?_, fun hne => ?_⟩
  · rcases h1 with e | ⟨hw, _⟩
    · rw [e]
      exact Nat.zero_le _
    · exact wy_len hv hf hw
  · rcases h2 with e | ⟨w, hw, _, e⟩
    · omega
    · have hh := wy_hd hw
      have := vb_t hv hh.1 hh.2
      omega
  · rcases h5 with e | ⟨w, hw, e⟩
    · omega
    · have := wy_len hv hf hw
      omega
  · rcases h1 with e | ⟨hw, _⟩
    · exact absurd e hne
    · exact wy_hd hw
theorem so_lt {b : BK} (hv : vb b) {f T : Int} (hf : 0 ≤ f ∧ f < b 5 0) {w : List Int} (h : wy b f T w) : (0 ≤ so b f w ∧ so b f w < 4096) ∧ so b f w < jshl 1 (b 5 0) := by
  have nb := vb_n hv
  have hnn := nn_eq hv
  have s := wy_so hv hf w (Or.inl h)
  refine ⟨s.1, ?_⟩
  have h1 : (so b f w).toNat < 2 ^ nn b := Nat.lt_pow_two_of_testBit _ (fun i hi => by
    by_cases h32 : i < 32
    · rw [← bt_nat i h32, show (((so b f w).toNat : Nat) : Int) = so b f w by have := s.1; omega]
      cases hb : bt (so b f w) i with
      | false => rfl
      | true =>
        have := s.2.1 i hb
        omega
    · exact Nat.testBit_lt_two_pow (Nat.lt_of_lt_of_le (show (so b f w).toNat < 2 ^ 12 by have := s.1; omega) (Nat.pow_le_pow_right (by omega) (by omega))))
  have h2 := shl_n (n := 1) (k := nn b) (by omega) (by
    rw [Nat.one_mul]
    exact Nat.lt_of_le_of_lt (Nat.pow_le_pow_right (by omega) (show nn b ≤ 12 by omega)) (by decide))
  rw [Nat.one_mul, show ((nn b : Nat) : Int) = b 5 0 by omega, show ((1 : Nat) : Int) = 1 from rfl] at h2
  rw [h2]
  have := s.1
  omega
