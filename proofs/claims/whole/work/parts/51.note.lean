/-! the class's alarms: found by code, begun, told of a round -/
theorem arr_w {ν ν' : JM} {cap : Nat → Int} (hJ : JA ν cap) {k : Nat} (hk : k < 10) {i v : Int} (h : ν' = jw ν 50 (qp ν k) i v) : JA ν' cap ∧ (∀ j, j < 10 → ∀ i', arr ν' j i' = if j = k ∧ i' = i then v else arr ν j i') ∧ ∀ t y i', t ≠ 50 → ν' t y i' = ν t y i' := by
  have fr : ∀ t y i', t ≠ 50 → ν' t y i' = ν t y i' := fun t y i' ht => by rw [h, jw_t ht]
  refine ⟨JA_fr hJ (fun i _ => fr _ _ _ (by omega)) (fun i _ _ => fr _ _ _ (by omega)) (fun y => fr _ _ _ (by omega)) (fr _ _ _ (by omega)) (fr _ _ _ (by omega)), fun j hj i' => ?_, fr⟩
  have hq : qp ν' j = qp ν j := qp_fr hj (fun i _ => fr _ _ _ (by omega)) (fun i _ _ => fr _ _ _ (by omega))
  show ν' 50 (qp ν' j) i' = _
  rw [hq, h]
  by_cases e : j = k
  · subst e
    by_cases e2 : i' = i
    · subst e2
      rw [jw_eq, if_pos ⟨rfl, rfl⟩]
    · rw [jw_i e2, if_neg (fun h => e2 h.2)]
  · rw [jw_x (hJ.2.2.2 j k hj hk e), if_neg (fun h => e h.1)]
theorem JN_jw {ν ν' : JM} {cp ca : Int} (hN : JN cp ca ν) (h : ∀ t y i, t ≠ 50 → ν' t y i = ν t y i) : JN cp ca ν' :=
  JN_fr hN (fun i _ => h _ _ _ (by omega)) (fun i _ _ => h _ _ _ (by omega)) (fun y => h _ _ _ (by omega)) (h _ _ _ (by omega)) (h _ _ _ (by omega))
theorem qpa (ν : JM) {k : Nat} (h : 2 ≤ k) : qp ν k = ν 27 0 (k : Int) - 1 := by
  unfold qp
  rw [if_neg (by omega), if_neg (by omega)]
theorem JN_a {ν : JM} {cp ca : Int} (hN : JN cp ca ν) (k : Nat) (h : 2 ≤ k ∧ k < 10) : 1 ≤ ν 27 0 (k : Int) ∧ ν 51 (ν 27 0 (k : Int) - 1) 0 = ca := by
  have q := hN.1.2.2.1 k h.2
  rw [qpa ν h.1] at q
  refine ⟨by omega, q.2.2.1.trans ?_⟩
  show (if k < 2 then cp else ca) = ca
  rw [if_neg (by omega)]
theorem c_membersOf {d : Nat} {l : List Int} {ν : JM} {Q : JQ} (hl : small l) (h5 : l.length ≤ 5) (k : ∀ r, inR r → (∀ j : Nat, j < 32 → (bt r j = true ↔ (j : Int) ∈ l)) → Q r ν) : wp true d 8 0 [(0, pcode l), (9, 0), (9, 0), (9, 0)] [] ν Q := by
  have key : ∀ (n i : Nat) (s : Int) (u : JV), i + n = 5 → inR s → (∀ j : Nat, j < 32 → (bt s j = true ↔ ∃ q, q < i ∧ q < l.length ∧ l.getD q 0 = (j : Int))) → wp true d 8 4 [(0, pcode l), (0, s), (0, (i : Int)), u] [] ν Q := by
    intro n
    induction n with
    | zero =>
      intro i s u hi hs hb
      refine s_X0_membersOf_4 _ _ _ _ _ _ _ ⟨⟨⟨by omega, by omega⟩, ⟨by omega, by omega⟩⟩, fun _ => k s hs (fun j hj => ?_), fun h => absurd (by omega) h⟩
      rw [hb j hj]
      constructor
      · rintro ⟨q, h1, h2, h3⟩
        rw [← h3]
        exact getD_mem h2
      · intro h
        obtain ⟨q, h1, h2⟩ := mem_get h
        exact ⟨q, by omega, h1, h2⟩
    | succ n ih =>
      intro i s u hi hs hb
      have hd := dig hl h5 (i := (i : Int)) (by omega) (by omega)
      refine s_X0_membersOf_4 _ _ _ _ _ _ _ ?_
      rw [hd]
      rw [show (i : Int) + 1 = ((i + 1 : Nat) : Int) by omega]
      by_cases hc : i < l.length
      · have hc' : (i : Int) < (l.length : Int) := by omega
        have hm := hl _ (getD_mem hc)
        rw [if_pos hc']
        simp only [Int.toNat_natCast]
        rw [show l.getD i 0 + 1 - 1 = l.getD i 0 by omega]
        refine ⟨⟨⟨by omega, by omega⟩, ⟨by omega, by omega⟩⟩, fun h => absurd h (by omega), fun _ => ⟨Or.inr ⟨⟨by omega, by omega⟩, ⟨by omega, by omega⟩⟩, fun _ => ih (i + 1) _ _ (by omega) (inR_or _ _) (fun j hj => ?_), fun h => absurd (by omega) h⟩⟩
        rw [bt_or, Bool.or_eq_true, hb j hj, bt_bitz (by omega) (by omega)]
        constructor
        · rintro (⟨q, h1, h2, h3⟩ | h)
          · exact ⟨q, by omega, h2, h3⟩
          · exact ⟨i, by omega, hc, by have := of_decide_eq_true h; omega⟩
        · rintro ⟨q, h1, h2, h3⟩
          by_cases hq : q = i
          · subst hq
            exact Or.inr (decide_eq_true (by omega))
          · exact Or.inl ⟨q, by omega, h2, h3⟩
      · have hc' : ¬ (i : Int) < (l.length : Int) := by omega
        rw [if_neg hc']
        refine ⟨⟨⟨by omega, by omega⟩, ⟨by omega, by omega⟩⟩, fun h => absurd h (by omega), fun _ => ⟨by decide, fun h => absurd rfl h, fun _ => ih (i + 1) _ _ (by omega) (inR_or _ _) (fun j hj => ?_)⟩⟩
        rw [bt_or, bt_zero, Bool.or_false, hb j hj]
        constructor
        · rintro ⟨q, h1, h2, h3⟩
          exact ⟨q, by omega, h2, h3⟩
        · rintro ⟨q, h1, h2, h3⟩
          exact ⟨q, by omega, h2, h3⟩
  refine s_X0_membersOf_0 _ _ _ _ (key 5 0 0 _ (by omega) ⟨by omega, by omega⟩ (fun j hj => ?_))
  rw [bt_zero]
  constructor
  · intro h; cases h
  · rintro ⟨q, h1, _⟩; omega
/-- the alarms so far: their rings A; of each how many rounds, the shortest one and how long, what they carry -/
def AS (A : LL) (cn wi sp fl : Nat → Int) (ν : JM) : Prop := ν 27 0 0 = (A.length : Int) ∧ (∀ h, 0 ≤ h → h < 64 → ν 46 0 h = pvh A h A.length) ∧ ∀ a : Nat, a < A.length → arr ν 3 (a : Int) = pcode (A.getD a []) ∧ arr ν 2 (a : Int) = pvh A (jhash (pcode (A.getD a []))) a ∧ (inR (arr ν 4 (a : Int)) ∧ ∀ j : Nat, j < 32 → (bt (arr ν 4 (a : Int)) j = true ↔ (j : Int) ∈ A.getD a [])) ∧ arr ν 5 (a : Int) = cn a ∧ (cn a ≠ 0 → arr ν 6 (a : Int) = wi a ∧ arr ν 7 (a : Int) = sp a) ∧ arr ν 8 (a : Int) = fl a ∧ arr ν 9 (a : Int) = 0
abbrev sml (A : LL) : Prop := ∀ g ∈ A, small g ∧ g.length ≤ 5
theorem AS_fr {A : LL} {cn wi sp fl : Nat → Int} {μ ν : JM} (h : AS A cn wi sp fl μ) (e0 : ν 27 0 0 = μ 27 0 0) (e1 : ∀ i, ν 46 0 i = μ 46 0 i) (e2 : ∀ k, 2 ≤ k → k < 10 → ∀ a : Nat, a < A.length → arr ν k (a : Int) = arr μ k (a : Int)) : AS A cn wi sp fl ν := by
  refine ⟨e0.trans h.1, fun i h0 h1 => (e1 i).trans (h.2.1 i h0 h1), fun a ha => ?_⟩
  rw [e2 3 (by omega) (by omega) a ha, e2 2 (by omega) (by omega) a ha, e2 4 (by omega) (by omega) a ha, e2 5 (by omega) (by omega) a ha, e2 6 (by omega) (by omega) a ha, e2 7 (by omega) (by omega) a ha, e2 8 (by omega) (by omega) a ha, e2 9 (by omega) (by omega) a ha]
  exact h.2.2 a ha
theorem w_hasA {d : Nat} {n a : Int} {ν : JM} {Q : JQ} (h : ν 27 0 0 = n) (hn : 0 ≤ n ∧ n ≤ 20000) (ha : inR a) (h1 : 0 ≤ a → a < n → Q 1 ν) (h0 : ¬ (0 ≤ a ∧ a < n) → Q 0 ν) : wp true d 2 0 [(27, 0), (0, a)] [] ν Q := by
  refine s_X0_has_0 _ _ _ _ ?_
  rw [h]
  (repeat' with_reducible first | refine And.intro ?_ ?_ | intro _)
  all_goals try first | assumption | omega | decide | (refine Or.inr ⟨⟨?_, ?_⟩, ⟨?_, ?_⟩⟩ <;> omega)
  all_goals first | exact h0 (by omega) | exact h1 (by omega) (by omega)
theorem c_find {d : Nat} {A : LL} {cn wi sp fl : Nat → Int} {cp ca : Int} {g : List Int} {ν : JM} {Q : JQ} (hN : JN cp ca ν) (hA : AS A cn wi sp fl ν) (hc : (A.length : Int) ≤ ca) (hl : A.length ≤ 12000) (hnd : A.Nodup) (hs : sml A) (hg : small g ∧ g.length ≤ 5) (k1 : g ∈ A → Q (ixo g A : Int) ν) (k0 : ¬ g ∈ A → Q (-1) ν) : wp true (d + 1) 5 0 [(27, 0), (0, pcode g), (9, 0), (9, 0)] [] ν Q := by
  have n3 := JN_a hN 3 (by omega)
  have n2 := JN_a hN 2 (by omega)
  have pg := pcode_lt hg.1 hg.2
  have hh := jhash_in (pcode g)
  have key : ∀ (M m : Nat) (turn : Int), m ≤ M → m ≤ A.length → 0 ≤ turn → turn ≤ (A.length : Int) - m → (∀ i : Nat, m ≤ i → i < A.length → A.getD i [] ≠ g) → wp true (d + 1) 5 12 [(27, 0), (0, pcode g), (0, pvh A (jhash (pcode g)) m), (0, turn)] [] ν Q := by
    intro M
    induction M with
    | zero =>
      intro m turn hM hm h0 h1 hno
      have e : m = 0 := by omega
      subst e
      have no : ¬ g ∈ A := fun h => by
        have := ixo_lt h
        exact hno _ (by omega) this.1 this.2
      refine s_X0_find_12 _ _ _ _ _ _ ?_
      rw [hA.1]
      refine ⟨⟨⟨by omega, by omega⟩, ⟨by omega, by omega⟩⟩, fun _ => k0 no, fun _ => ?_⟩
      refine w_hasA hA.1 (by omega) ⟨by show -2147483648 ≤ (-1 : Int); omega, by show (-1 : Int) < _; omega⟩ (fun h => absurd h (by show ¬ (0 : Int) ≤ -1; omega)) (fun _ => ⟨by decide, fun _ => k0 no, fun h => absurd rfl h⟩)
    | succ M ih =>
      intro m turn hM hm h0 h1 hno
      have pl := pvh_le A (jhash (pcode g)) m
      have ps := pvh_spec A (jhash (pcode g)) m
      refine s_X0_find_12 _ _ _ _ _ _ ?_
      rw [hA.1]
      have none : (¬ 0 ≤ pvh A (jhash (pcode g)) m) → ¬ g ∈ A := fun hneg h => by
        have q := ixo_lt h
        by_cases hi : ixo g A < m
        · exact ps.2 _ (by omega) hi (by rw [q.2])
        · exact hno _ (by omega) q.1 q.2
      refine ⟨⟨⟨by omega, by omega⟩, ⟨by omega, by omega⟩⟩, fun ht => k0 (fun h => ?_), fun _ => ?_⟩
      · have q := ixo_lt h
        exact hno _ (by omega) q.1 q.2
      · refine w_hasA hA.1 (by omega) ⟨by omega, by omega⟩ (fun a0 a1 => ⟨by decide, fun h => absurd h (by decide), fun _ => ?_⟩) (fun a0 => ⟨by decide, fun _ => k0 (none (fun h => a0 ⟨h, by omega⟩)), fun h => absurd rfl h⟩)
        have ha : (pvh A (jhash (pcode g)) m).toNat < A.length := by omega
        have q := hA.2.2 _ ha
        have ca1 : (((pvh A (jhash (pcode g)) m).toNat : Nat) : Int) = pvh A (jhash (pcode g)) m := by omega
        rw [ca1] at q
        have m3 : ν 50 (ν 27 0 3 - 1) (pvh A (jhash (pcode g)) m) = pcode (A.getD (pvh A (jhash (pcode g)) m).toNat []) := q.1
        have m2 : ν 50 (ν 27 0 2 - 1) (pvh A (jhash (pcode g)) m) = pvh A (jhash (pcode (A.getD (pvh A (jhash (pcode g)) m).toNat []))) (pvh A (jhash (pcode g)) m).toNat := q.2.1
        have sa := hs _ (gdl_mem ha)
        have pa := pcode_lt sa.1 sa.2
        have l3 : ν 51 (ν 27 0 3 - 1) 0 = ca := n3.2
        have l2 : ν 51 (ν 27 0 2 - 1) 0 = ca := n2.2
        have p3 : 1 ≤ ν 27 0 3 := n3.1
        have p2 : 1 ≤ ν 27 0 2 := n2.1
        rw [m3, m2, l3, l2, ps.1 a0]
        refine ⟨p3, a0, by omega, Or.inr ⟨⟨by omega, by omega⟩, ⟨by omega, by omega⟩⟩, fun hne => ⟨p2, a0, by omega, ?_⟩, fun heq => ?_⟩
        · refine ih _ _ (by omega) (by omega) (by omega) (by omega) (fun i i0 i1 e => ?_)
          by_cases hi : i = (pvh A (jhash (pcode g)) m).toNat
          · subst hi
            exact hne (by rw [e])
          · by_cases him : i < m
            · exact ps.2 i (by omega) him (by rw [e])
            · exact hno i (by omega) i1 e
        · have e := pcode_inj sa.1 hg.1 (show pcode (A.getD (pvh A (jhash (pcode g)) m).toNat []) = pcode g by omega)
          have mem : g ∈ A := e ▸ gdl_mem ha
          have := k1 mem
          rw [ixo_uniq hnd ha e, ca1] at this
          exact this
  refine s_X0_find_0 _ _ _ _ ⟨hh.1, hh.2, ?_⟩
  have e : ν 46 0 (jand (jxor (jxor (pcode g) (jushr (pcode g) 6)) (jushr (pcode g) 12)) 63) = pvh A (jhash (pcode g)) A.length := hA.2.1 _ hh.1 hh.2
  rw [e]
  exact key A.length A.length 0 (Nat.le_refl _) (Nat.le_refl _) (by omega) (by omega) (fun i h1 h2 => by omega)
