/-! all rounds gathered -/
def sA (f : List Int → Int) : LL → Int
  | [] => 0
  | g :: l => f g + sA f l
theorem sA_app (f : List Int → Int) (k : LL) : ∀ l, sA f (l ++ k) = sA f l + sA f k
  | [] => by show sA f k = 0 + sA f k; omega
  | g :: l => by
    show f g + sA f (l ++ k) = f g + sA f l + sA f k
    rw [sA_app f k l]
    omega
theorem sA_congr {f f' : List Int → Int} : ∀ l, (∀ g ∈ l, f g = f' g) → sA f l = sA f' l
  | [], _ => rfl
  | g :: l, h => by
    show f g + sA f l = f' g + sA f' l
    rw [h g (List.mem_cons_self ..), sA_congr l (fun x hx => h x (List.mem_cons_of_mem _ hx))]
theorem sA_at {f f' : List Int → Int} {g : List Int} {c : Int} : ∀ l : LL, l.Nodup → g ∈ l → f' g = f g + c → (∀ x ∈ l, x ≠ g → f' x = f x) → sA f' l = sA f l + c
  | [], _, h, _, _ => by cases h
  | y :: l, hn, hm, h1, h2 => by
    have hn' := List.nodup_cons.mp hn
    show f' y + sA f' l = f y + sA f l + c
    by_cases e : y = g
    · subst e
      rw [h1, sA_congr l (fun x hx => h2 x (List.mem_cons_of_mem _ hx) (fun e => hn'.1 (e ▸ hx)))]
      omega
    · have hm' : g ∈ l := by
        rcases List.mem_cons.mp hm with h | h
        · exact absurd h.symm e
        · exact h
      rw [h2 y (List.mem_cons_self ..) e, sA_at l hn'.2 hm' h1 (fun x hx => h2 x (List.mem_cons_of_mem _ hx))]
      omega
/-- rounds of which P holds of their rings -/
def pct (b : BK) (F : LL) (P : List Int → Bool) : Nat → Int
  | 0 => 0
  | n + 1 => pct b F P n + if P (rgn b F n) = true then 1 else 0
/-- of the alarms, those of which P holds: all their rounds -/
theorem pct_sA (b : BK) (F : LL) (P : List Int → Bool) : ∀ n, sA (fun g => if P g = true then pcn b F g n else 0) (pal b F n) = pct b F P n
  | 0 => rfl
  | n + 1 => by
    have ih := pct_sA b F P n
    show _ = pct b F P n + if P (rgn b F n) = true then 1 else 0
    by_cases hm : rgn b F n ∈ pal b F n
    · have ep : pal b F (n + 1) = pal b F n := by
        conv => lhs; unfold pal
        rw [if_pos hm]
      rw [ep, ← ih]
      refine sA_at _ (pal_nodup b F n) hm ?_ (fun x hx hne => ?_)
      · show (if P (rgn b F n) = true then pcn b F (rgn b F n) (n + 1) else 0) = _
        rw [pcn_s, if_pos rfl]
        split <;> omega
      · show (if P x = true then pcn b F x (n + 1) else 0) = _
        rw [pcn_s, if_neg (show ¬ rgn b F n = x from fun e => hne e.symm)]
    · have ep : pal b F (n + 1) = pal b F n ++ [rgn b F n] := by
        conv => lhs; unfold pal
        rw [if_neg hm]
      have z0 : pcn b F (rgn b F n) n = 0 := by
        have h0 := pcn_le b F (rgn b F n) n
        have h1 : ¬ 1 ≤ pcn b F (rgn b F n) n := fun h => hm (h0.2.2.mpr h)
        omega
      rw [ep, sA_app, ← ih]
      have e1 : sA (fun g => if P g = true then pcn b F g (n + 1) else 0) (pal b F n) = sA (fun g => if P g = true then pcn b F g n else 0) (pal b F n) := by
        refine sA_congr _ (fun g hg => ?_)
        rw [pcn_s, if_neg (show ¬ rgn b F n = g from fun e => hm (by rw [e]; exact hg))]
      have e2 : sA (fun g => if P g = true then pcn b F g (n + 1) else 0) [rgn b F n] = if P (rgn b F n) = true then 1 else 0 := by
        show (if P (rgn b F n) = true then pcn b F (rgn b F n) (n + 1) else 0) + 0 = _
        rw [pcn_s, if_pos rfl, z0]
        split <;> omega
      rw [e1, e2]
theorem fup_sA (f : List Int → Int) (A : LL) : ∀ (k : Nat) (i : Nat) (c : Int), i + k = A.length → fup (fun c x => c + f (A.getD x.toNat [])) k (i : Int) c = c + sA f (A.drop i)
  | 0, i, c, h => by
    rw [List.drop_of_length_le (by omega)]
    show c = c + 0
    omega
  | k + 1, i, c, h => by
    show fup (fun c x => c + f (A.getD x.toNat [])) k ((i : Int) + 1) (c + f (A.getD ((i : Int)).toNat [])) = _
    rw [show (i : Int) + 1 = ((i + 1 : Nat) : Int) by omega, fup_sA f A k (i + 1) _ (by omega)]
    have hlt : i < A.length := by omega
    rw [List.drop_eq_getElem_cons hlt]
    show _ = c + (f A[i] + sA f (A.drop (i + 1)))
    rw [show ((i : Int)).toNat = i by omega, List.getD_eq_getElem?_getD, List.getElem?_eq_getElem hlt]
    show c + f A[i] + _ = _
    omega
theorem pct_in (b : BK) (F : LL) (P : List Int → Bool) : ∀ n, 0 ≤ pct b F P n ∧ pct b F P n ≤ n
  | 0 => by show (0 : Int) ≤ 0 ∧ (0 : Int) ≤ ((0 : Nat) : Int); omega
  | n + 1 => by
    have := pct_in b F P n
    show 0 ≤ pct b F P n + (if P (rgn b F n) = true then 1 else 0) ∧ pct b F P n + (if P (rgn b F n) = true then 1 else 0) ≤ _
    split <;> omega
abbrev mem12 (a : Int) : List Int → Bool := fun g => decide (a ∈ g)
theorem c_roundsWith {d : Nat} {b : BK} {F : LL} {n : Nat} {cp ca a : Int} {ν : JM} {Q : JQ} (hN : JN cp ca ν) (hA : ASn b F n ν) (hc : ((pal b F n).length : Int) ≤ ca) (ha : 0 ≤ a ∧ a < 32) (k : Q (pct b F (mem12 a) n) ν) : wp true d 15 0 [(27, 0), (0, a), (9, 0), (9, 0)] [] ν Q := by
  have o4 : 1 ≤ ν 27 0 4 := (JN_a hN 4 (by omega)).1
  have l4 : ν 51 (ν 27 0 4 - 1) 0 = ca := (JN_a hN 4 (by omega)).2
  have o5 : 1 ≤ ν 27 0 5 := (JN_a hN 5 (by omega)).1
  have l5 : ν 51 (ν 27 0 5 - 1) 0 = ca := (JN_a hN 5 (by omega)).2
  have b0 := hN.2.2.1
  have k' : Q (fup (fun c x => c + (fun g => if mem12 a g = true then pcn b F g n else 0) ((pal b F n).getD x.toNat [])) (pal b F n).length 0 0) ν := by
    have e := fup_sA (fun g => if mem12 a g = true then pcn b F g n else 0) (pal b F n) (pal b F n).length 0 0 (by omega)
    rw [show ((0 : Nat) : Int) = 0 from rfl] at e
    rw [e, List.drop_zero, pct_sA, Int.zero_add]
    exact k
  refine s_X0_roundsWith_0 _ _ _ _ (fup_lp (W := fun i (c : Int) => wp true d 15 4 [(27, 0), (0, a), (0, c), (0, i)] [] ν Q) (g := fun c x => c + (fun g => if mem12 a g = true then pcn b F g n else 0) ((pal b F n).getD x.toNat [])) (lo := 0) (n := ((pal b F n).length : Int)) (fun i c h0 h1 hW => ?_) (pal b F n).length 0 0 (by omega) (by omega) ?_)
  · have q := hA.2.2 i.toNat (by omega)
    rw [show ((i.toNat : Nat) : Int) = i by omega] at q
    have v5 : ν 50 (ν 27 0 5 - 1) i = pcn b F ((pal b F n).getD i.toNat []) n := q.2.2.2.1
    have hb := q.2.2.1.2 a.toNat (by omega)
    rw [show ((a.toNat : Nat) : Int) = a by omega] at hb
    refine s_X0_roundsWith_4 _ _ _ _ _ _ ?_
    rw [hA.1, l4, l5, v5, has_u _ ha.1 ha.2]
    refine ⟨⟨⟨by omega, by omega⟩, ⟨by omega, by omega⟩⟩, fun h => absurd h (by omega), fun _ => ⟨o4, h0, by omega, ?_⟩⟩
    change wp true d 15 4 [(27, 0), (0, a), (0, c + if mem12 a ((pal b F n).getD i.toNat []) = true then pcn b F ((pal b F n).getD i.toNat []) n else 0), (0, i + 1)] [] ν Q at hW
    by_cases hm : a ∈ (pal b F n).getD i.toNat []
    · have e : bt (ν 50 (ν 27 0 4 - 1) i) a.toNat = true := hb.mpr hm
      rw [if_pos e]
      rw [if_pos (show mem12 a _ = true from decide_eq_true hm)] at hW
      exact ⟨by decide, fun h => absurd h (by decide), fun _ => ⟨o5, h0, by omega, hW⟩⟩
    · have e : ¬ bt (ν 50 (ν 27 0 4 - 1) i) a.toNat = true := fun h => hm (hb.mp h)
      rw [if_neg e]
      rw [if_neg (show ¬ mem12 a _ = true from fun h => hm (of_decide_eq_true h))] at hW
      exact ⟨by decide, fun _ => hW, fun h => absurd rfl h⟩
  · refine s_X0_roundsWith_4 _ _ _ _ _ _ ?_
    rw [hA.1]
    exact ⟨⟨⟨by omega, by omega⟩, ⟨by omega, by omega⟩⟩, fun _ => k', fun h => absurd h (by omega)⟩
theorem c_wipeA {d : Nat} {ν : JM} {Q : JQ} (k : ∀ ξ, jfr (fun t y i => (t = 27 ∧ y = 0 ∧ i = 0) ∨ (t = 46 ∧ y = 0)) ν ξ → ξ 27 0 0 = 0 → (∀ i, 0 ≤ i → i < 64 → ξ 46 0 i = -1) → Q 0 ξ) : wp true d 1 0 [(27, 0), (9, 0)] [] ν Q := by
  have key : ∀ (n : Nat) (i : Int) (ξ : JM), i + n = 64 → 0 ≤ i → jfr (fun t y i => (t = 27 ∧ y = 0 ∧ i = 0) ∨ (t = 46 ∧ y = 0)) ν ξ → ξ 27 0 0 = 0 → (∀ j, 0 ≤ j → j < i → ξ 46 0 j = -1) → wp true d 1 7 [(27, 0), (0, i)] [] ξ Q := by
    intro n
    induction n with
    | zero =>
      intro i ξ h1 h2 h3 h4 h5
      exact s_X0_wipe_7 _ _ _ _ ⟨⟨⟨by omega, by omega⟩, ⟨by omega, by omega⟩⟩, fun _ => k ξ h3 h4 (fun j j0 j1 => h5 j j0 (by omega)), fun h => absurd h (by omega)⟩
    | succ n ih =>
      intro i ξ h1 h2 h3 h4 h5
      refine s_X0_wipe_7 _ _ _ _ ⟨⟨⟨by omega, by omega⟩, ⟨by omega, by omega⟩⟩, fun h => absurd h (by omega), fun _ => ⟨by omega, by omega, ?_⟩⟩
      refine ih (i + 1) _ (by omega) (by omega) (jfr_jw h3 (Or.inr ⟨rfl, rfl⟩)) (by rw [jw_t (by omega)]; exact h4) (fun j j0 j1 => ?_)
      by_cases e : j = i
      · subst e; rw [jw_eq]
      · rw [jw_i e]; exact h5 j j0 (by omega)
  exact s_X0_wipe_0 _ _ _ (key 64 0 _ (by omega) (by omega) (jfr_jw (jfr_refl _ _) (Or.inl ⟨rfl, rfl, rfl⟩)) (jw_eq _ _ _ _ _) (fun j j0 j1 => by omega))
