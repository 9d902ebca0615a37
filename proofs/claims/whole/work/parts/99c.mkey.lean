/-! the reference's keywords -/
theorem nmk_inj {f g : TX} {b c : Int} : ∀ (k m : Nat), (∀ i, b ≤ i → i < b + k → isl (f i) = true) → (∀ i, c ≤ i → i < c + m → isl (g i) = true) → nmk f b k = nmk g c m → k = m ∧ ∀ i : Nat, i < k → f (b + i) = g (c + i)
  | 0, 0, _, _, _ => ⟨rfl, fun i hi => absurd hi (by omega)⟩
  | 0, m + 1, _, h2, e => by
    have l := isl_in (h2 (c + m) (by omega) (by omega))
    have p : ∀ j : Nat, j ≤ m → 0 ≤ nmk g c j := fun j => by
      induction j with
      | zero => intro _; exact Int.le_refl _
      | succ j ih =>
        intro hj
        have l := isl_in (h2 (c + j) (by omega) (by omega))
        have := ih (by omega)
        rw [nmk_s]
        omega
    have := p m (Nat.le_refl _)
    rw [nmk_s] at e
    have e0 : nmk f b 0 = 0 := rfl
    omega
  | k + 1, 0, h1, _, e => by
    have p : ∀ j : Nat, j ≤ k → 0 ≤ nmk f b j := fun j => by
      induction j with
      | zero => intro _; exact Int.le_refl _
      | succ j ih =>
        intro hj
        have l := isl_in (h1 (b + j) (by omega) (by omega))
        have := ih (by omega)
        rw [nmk_s]
        omega
    have l := isl_in (h1 (b + k) (by omega) (by omega))
    have := p k (Nat.le_refl _)
    rw [nmk_s] at e
    have e0 : nmk g c 0 = 0 := rfl
    omega
  | k + 1, m + 1, h1, h2, e => by
    have l1 := isl_in (h1 (b + k) (by omega) (by omega))
    have l2 := isl_in (h2 (c + m) (by omega) (by omega))
    rw [nmk_s, nmk_s] at e
    have q := nmk_inj k m (fun i i0 i1 => h1 i i0 (by omega)) (fun i i0 i1 => h2 i i0 (by omega)) (by omega)
    refine ⟨by omega, fun i hi => ?_⟩
    by_cases hk : i = k
    · subst hk
      have := q.1
      subst this
      omega
    · exact q.2 i (by omega)
theorem nmk_eq {f g : TX} {b c : Int} : ∀ (k : Nat), (∀ i : Nat, i < k → f (b + i) = g (c + i)) → nmk f b k = nmk g c k
  | 0, _ => rfl
  | k + 1, h => by
    rw [nmk_s, nmk_s, nmk_eq k (fun i hi => h i (by omega)), h k (by omega)]
def kch (i : Int) : Int := ((jkeys.getD i.toNat 0 : Nat) : Int)
def kmap (k : Int) : Int := if k = 4 then 0 else if k = 6 then 1 else if k = 5 then 2 else if k = -1 then -1 else k + 3
theorem kmap_in {k : Int} (h : -1 ≤ k ∧ k ≤ 6) : -1 ≤ kmap k ∧ kmap k ≤ 6 := by
  unfold kmap
  repeat' split
  all_goals omega
/-- the word here is the keyword from s to e, of the value v -/
theorem key_is {f : TX} {n : Int} {t : TK} (hw : wft f n t) (h1 : t.1 = 1) {s e v : Int} (hs : 0 ≤ s ∧ s < e ∧ e ≤ s + 7) (hl : ∀ i, s ≤ i → i < e → isl (kch i) = true) (hv : nmk kch s (e - s).toNat = v) : (e - s = t.2.2 - t.2.1 ∧ ∀ i, 0 ≤ i → i < e - s → kch (s + i) = f (t.2.1 + i)) ↔ (t.2.2 - t.2.1 ≤ 7 ∧ nmt f t = v) := by
  have w := hw.2.1
  have wl := hw.2.2.2.1 h1
  constructor
  · rintro ⟨h2, h3⟩
    refine ⟨by omega, ?_⟩
    unfold nmt
    rw [← h2, ← hv]
    refine nmk_eq _ (fun i hi => ?_)
    exact (h3 (i : Int) (by omega) (by omega)).symm
  · rintro ⟨h2, h3⟩
    unfold nmt at h3
    rw [← hv] at h3
    have q := nmk_inj _ _ (fun i i0 i1 => wl i i0 (by omega)) (fun i i0 i1 => hl i i0 (by omega)) h3
    refine ⟨by omega, fun i i0 i1 => ?_⟩
    have := q.2 i.toNat (by omega)
    rw [show ((i.toNat : Nat) : Int) = i by omega] at this
    exact this.symm
section
variable {d : Nat} {f : TX} {n : Int} {t : TK} {ν : JM} {Q : JQ}
theorem kch_in (i : Int) : 0 ≤ kch i ∧ kch i ≤ 122 := by
  have key : ∀ j : Nat, j < 39 → (jkeys.getD j 0 : Nat) ≤ 122 := by decide +kernel
  unfold kch
  by_cases h : i.toNat < 39
  · have := key i.toNat h
    omega
  · rw [List.getD_eq_getElem?_getD, List.getElem?_eq_none (by show 39 ≤ i.toNat; omega)]
    decide
/-- the keyword's end is looked for -/
theorem m_keyEnd {l1 s e : Int} (hs : 0 ≤ s ∧ s < e ∧ e < 39) (hM : MT f t ν) (hw : wft f n t) (ho : okt f n) (hl : ∀ i, s ≤ i → i < e → kch i ≠ 32) (he : kch e = 32) (k1 : e - s = t.2.2 - t.2.1 → wp true d 241 67 [(40, 0), (0, l1), (0, s), (0, e), (0, 1), (0, 0)] [] ν Q) (k0 : e - s ≠ t.2.2 - t.2.1 → wp true d 241 67 [(40, 0), (0, l1), (0, s), (0, e), (0, 0), (0, 0)] [] ν Q) {u4 u5 : JV} : ∀ (j : Nat) (i : Int), s ≤ i → i + (j : Int) = e → wp true d 241 25 [(40, 0), (0, l1), (0, s), (0, i), u4, u5] [] ν Q
  | 0, i, h0, hj => by
    have ei : i = e := by omega
    have w := hw.2.1
    have hn := ho.1
    subst ei
    refine s_X11_key_25 _ _ _ _ _ _ _ _ ?_
    rw [hM.2.1, hM.2.2.1, show ((jkeys.getD i.toNat 0 : Nat) : Int) = kch i from rfl, he]
    exact ⟨by omega, by show i < 39; omega, Or.inl rfl, fun _ => ⟨Or.inr ⟨⟨by omega, by omega⟩, ⟨by omega, by omega⟩⟩, fun h => k0 h, fun h => k1 (Decidable.byContradiction h)⟩, fun h => absurd rfl h⟩
  | j + 1, i, h0, hj => by
    have hi := kch_in i
    refine s_X11_key_25 _ _ _ _ _ _ _ _ ?_
    rw [show ((jkeys.getD i.toNat 0 : Nat) : Int) = kch i from rfl]
    exact ⟨by omega, by show i < 39; omega, Or.inr ⟨⟨by omega, by omega⟩, ⟨by omega, by omega⟩⟩, fun h => absurd h (hl i h0 (by omega)), fun _ => m_keyEnd hs hM hw ho hl he k1 k0 j (i + 1) (by omega) (by omega)⟩
/-- another keyword -/
theorem m_keyNo {l1 s e i : Int} (hs : 0 ≤ s ∧ s < e ∧ e < 39) (hi : 0 ≤ i ∧ i ≤ e - s) (k : ∀ l5, wp true (d + 1) 241 14 [(40, 0), (0, l1 + 1), (0, e + 1), (0, e), (0, 0), (0, l5)] [] ν Q) : wp true (d + 1) 241 67 [(40, 0), (0, l1), (0, s), (0, e), (0, 0), (0, i)] [] ν Q :=
  s_X11_key_67 d _ _ _ _ _ _ _ ⟨⟨⟨by omega, by omega⟩, ⟨by omega, by omega⟩⟩, fun _ => ⟨Or.inl rfl, fun _ => k i, fun h => absurd rfl h⟩, fun _ => ⟨Or.inl rfl, fun _ => ⟨Or.inl rfl, fun _ => k i, fun h => absurd rfl h⟩, fun h => absurd rfl h⟩⟩
theorem m_keyCmp {l1 s e : Int} (ho : okt f n) (hT : TXm f n ν) (hw : wft f n t) (hM : MT f t ν) (hs : 0 ≤ s ∧ s < e ∧ e < 39) (hle : e - s = t.2.2 - t.2.1) (k1 : (∀ i, 0 ≤ i → i < e - s → kch (s + i) = f (t.2.1 + i)) → Q l1 ν) (k0 : ¬ (∀ i, 0 ≤ i → i < e - s → kch (s + i) = f (t.2.1 + i)) → ∀ l5, wp true (d + 1) 241 14 [(40, 0), (0, l1 + 1), (0, e + 1), (0, e), (0, 0), (0, l5)] [] ν Q) : ∀ (j : Nat) (i : Int), 0 ≤ i → i + (j : Int) = e - s → (∀ x, 0 ≤ x → x < i → kch (s + x) = f (t.2.1 + x)) → wp true (d + 1) 241 67 [(40, 0), (0, l1), (0, s), (0, e), (0, 1), (0, i)] [] ν Q
  | 0, i, h0, hj, hp => by
    refine s_X11_key_67 d _ _ _ _ _ _ _ ⟨⟨⟨by omega, by omega⟩, ⟨by omega, by omega⟩⟩, fun _ => ⟨Or.inr (by decide), fun h => absurd h (by decide), fun _ => k1 (fun x x0 x1 => hp x x0 (by omega))⟩, fun h => absurd (by omega) h⟩
  | j + 1, i, h0, hj, hp => by
    have w := hw.2.1
    have hn := ho.1
    have hk := kch_in (s + i)
    have hi := ho.2 (t.2.1 + i) (by omega) (by omega)
    refine s_X11_key_67 d _ _ _ _ _ _ _ ⟨⟨⟨by omega, by omega⟩, ⟨by omega, by omega⟩⟩, fun h => absurd h (by omega), fun _ => ⟨Or.inr (by decide), fun h => absurd h (by decide), fun _ => ⟨by omega, by show s + i < 39; omega, ?_⟩⟩⟩
    rw [hM.2.1]
    refine m_byteAt ho hT ⟨by omega, by omega⟩ (fun _ => ?_) (fun h => absurd h (by omega))
    rw [show ((jkeys.getD (s + i).toNat 0 : Nat) : Int) = kch (s + i) from rfl]
    refine ⟨Or.inr ⟨⟨by omega, by omega⟩, ⟨by omega, by omega⟩⟩, fun hne => m_keyNo hs ⟨by omega, by omega⟩ (k0 (fun hh => hne (hh i h0 (by omega)))), fun he => m_keyCmp ho hT hw hM hs hle k1 k0 j (i + 1) (by omega) (by omega) (fun x x0 x1 => ?_)⟩
    by_cases e : x = i
    · rw [e]
      exact Decidable.byContradiction he
    · exact hp x x0 (by omega)
theorem m_keyOne {l1 s e v : Int} {u3 u4 u5 : JV} (ho : okt f n) (hT : TXm f n ν) (hw : wft f n t) (h1 : t.1 = 1) (hM : MT f t ν) (hs : 0 ≤ s ∧ s < e ∧ e < 39 ∧ e ≤ s + 7) (hl : ∀ i, s ≤ i → i < e → isl (kch i) = true) (he : kch e = 32) (hv : nmk kch s (e - s).toNat = v) (k1 : (t.2.2 - t.2.1 ≤ 7 ∧ nmt f t = v) → Q l1 ν) (k0 : ¬ (t.2.2 - t.2.1 ≤ 7 ∧ nmt f t = v) → ∀ l3 l4 l5, wp true (d + 1) 241 14 [(40, 0), (0, l1 + 1), (0, e + 1), l3, l4, l5] [] ν Q) : wp true (d + 1) 241 14 [(40, 0), (0, l1), (0, s), u3, u4, u5] [] ν Q := by
  have ki := key_is hw h1 (s := s) (e := e) (v := v) ⟨by omega, by omega, by omega⟩ hl hv
  refine s_X11_key_14 _ _ _ _ _ _ _ _ ⟨⟨⟨by omega, by omega⟩, by decide⟩, fun h => absurd (show (39 : Int) ≤ s from h) (by omega), fun _ => m_keyEnd (d := d + 1) ⟨by omega, by omega, by omega⟩ hM hw ho (fun i i0 i1 h32 => ?_) he (fun hle => ?_) (fun hle => ?_) (e - s).toNat s (Int.le_refl _) (by omega)⟩
  · have := isl_in (hl i i0 i1)
    omega
  · exact m_keyCmp (d := d) ho hT hw hM ⟨by omega, by omega, by omega⟩ hle (fun h => k1 (ki.1 ⟨hle, h⟩)) (fun h l5 => k0 (fun hh => h (ki.2 hh).2) _ _ _) (e - s).toNat 0 (Int.le_refl _) (by omega) (fun x x0 x1 => by omega)
  · exact m_keyNo ⟨by omega, by omega, by omega⟩ ⟨by omega, by omega⟩ (fun l5 => k0 (fun hh => hle (ki.2 hh).1) _ _ _)
theorem kl_of {s e : Nat} (h : ((List.range 39).all fun i => decide (i < s) || decide (e ≤ i) || isl (kch (i : Int))) = true) (he : e ≤ 39) : ∀ i : Int, (s : Int) ≤ i → i < (e : Int) → isl (kch i) = true := by
  intro i i0 i1
  have q := List.all_eq_true.mp h i.toNat (List.mem_range.mpr (by omega))
  rw [show ((i.toNat : Nat) : Int) = i by omega, decide_eq_false (show ¬ i.toNat < s by omega), decide_eq_false (show ¬ e ≤ i.toNat by omega)] at q
  exact q
theorem m_key {u1 u2 u3 u4 u5 : JV} (hu : [u1, u2, u3, u4, u5] = [(9, 0), (9, 0), (9, 0), (9, 0), (9, 0)]) (ho : okt f n) (hT : TXm f n ν) (hw : wft f n t) (hM : MT f t ν) (k1 : t.1 = 1 → Q (kmap (kwt f t)) ν) (k0 : t.1 ≠ 1 → Q (-1) ν) : wp true (d + 1) 241 0 [(40, 0), u1, u2, u3, u4, u5] [] ν Q := by
  cases hu
  have mr := mkd_in t.1
  refine s_X11_key_0 _ _ _ ?_
  rw [hM.1]
  refine ⟨Or.inr ⟨⟨by omega, by omega⟩, ⟨by omega, by omega⟩⟩, fun h2 => ?_, fun h2 => k0 (fun h => h2 (mkd_1.2 h))⟩
  have h1 := mkd_1.1 h2
  have k1 := k1 h1
  unfold kwt kwv at k1
  refine m_keyOne (d := d) (e := 4) (v := 16441) ho hT hw h1 hM ⟨by omega, by omega, by omega, by omega⟩ (kl_of (s := 1) (e := 4) (by decide +kernel) (by omega)) (by decide +kernel) (by decide +kernel) (fun h => ?_) (fun n1 _ _ _ => ?_)
  · rw [if_pos h.1, if_pos h.2] at k1
    exact k1
  refine m_keyOne (d := d) (e := 7) (v := 52) ho hT hw h1 hM ⟨by omega, by omega, by omega, by omega⟩ (kl_of (s := 5) (e := 7) (by decide +kernel) (by omega)) (by decide +kernel) (by decide +kernel) (fun h => ?_) (fun n2 _ _ _ => ?_)
  · rw [if_pos h.1, if_neg (fun hh => n1 ⟨h.1, hh⟩), if_pos h.2] at k1
    exact k1
  refine m_keyOne (d := d) (e := 13) (v := 21583476) ho hT hw h1 hM ⟨by omega, by omega, by omega, by omega⟩ (kl_of (s := 8) (e := 13) (by decide +kernel) (by omega)) (by decide +kernel) (by decide +kernel) (fun h => ?_) (fun n3 _ _ _ => ?_)
  · rw [if_pos h.1, if_neg (fun hh => n1 ⟨h.1, hh⟩), if_neg (fun hh => n2 ⟨h.1, hh⟩), if_pos h.2] at k1
    exact k1
  refine m_keyOne (d := d) (e := 20) (v := 781652471) ho hT hw h1 hM ⟨by omega, by omega, by omega, by omega⟩ (kl_of (s := 14) (e := 20) (by decide +kernel) (by omega)) (by decide +kernel) (by decide +kernel) (fun h => ?_) (fun n4 _ _ _ => ?_)
  · rw [if_pos h.1, if_neg (fun hh => n1 ⟨h.1, hh⟩), if_neg (fun hh => n2 ⟨h.1, hh⟩), if_neg (fun hh => n3 ⟨h.1, hh⟩), if_pos h.2] at k1
    exact k1
  refine m_keyOne (d := d) (e := 28) (v := 13403133556) ho hT hw h1 hM ⟨by omega, by omega, by omega, by omega⟩ (kl_of (s := 21) (e := 28) (by decide +kernel) (by omega)) (by decide +kernel) (by decide +kernel) (fun h => ?_) (fun n5 _ _ _ => ?_)
  · rw [if_pos h.1, if_neg (fun hh => n1 ⟨h.1, hh⟩), if_neg (fun hh => n2 ⟨h.1, hh⟩), if_neg (fun hh => n3 ⟨h.1, hh⟩), if_neg (fun hh => n4 ⟨h.1, hh⟩), if_pos h.2] at k1
    exact k1
  refine m_keyOne (d := d) (e := 33) (v := 409203) ho hT hw h1 hM ⟨by omega, by omega, by omega, by omega⟩ (kl_of (s := 29) (e := 33) (by decide +kernel) (by omega)) (by decide +kernel) (by decide +kernel) (fun h => ?_) (fun n6 _ _ _ => ?_)
  · rw [if_pos h.1, if_neg (fun hh => n1 ⟨h.1, hh⟩), if_neg (fun hh => n2 ⟨h.1, hh⟩), if_neg (fun hh => n3 ⟨h.1, hh⟩), if_neg (fun hh => n4 ⟨h.1, hh⟩), if_neg (fun hh => n5 ⟨h.1, hh⟩), if_pos h.2] at k1
    exact k1
  refine m_keyOne (d := d) (e := 38) (v := 230702) ho hT hw h1 hM ⟨by omega, by omega, by omega, by omega⟩ (kl_of (s := 34) (e := 38) (by decide +kernel) (by omega)) (by decide +kernel) (by decide +kernel) (fun h => ?_) (fun n7 _ _ _ => ?_)
  · rw [if_pos h.1, if_neg (fun hh => n1 ⟨h.1, hh⟩), if_neg (fun hh => n2 ⟨h.1, hh⟩), if_neg (fun hh => n3 ⟨h.1, hh⟩), if_neg (fun hh => n4 ⟨h.1, hh⟩), if_neg (fun hh => n5 ⟨h.1, hh⟩), if_neg (fun hh => n6 ⟨h.1, hh⟩), if_pos h.2] at k1
    exact k1
  -- the last keyword's end is behind it: one round more, of no letters
  have k2 : Q (-1) ν := by
    by_cases h7 : t.2.2 - t.2.1 ≤ 7
    · rw [if_pos h7, if_neg (fun hh => n1 ⟨h7, hh⟩), if_neg (fun hh => n2 ⟨h7, hh⟩), if_neg (fun hh => n3 ⟨h7, hh⟩), if_neg (fun hh => n4 ⟨h7, hh⟩), if_neg (fun hh => n5 ⟨h7, hh⟩), if_neg (fun hh => n6 ⟨h7, hh⟩), if_neg (fun hh => n7 ⟨h7, hh⟩)] at k1
      exact k1
    · rw [if_neg h7] at k1
      exact k1
  exact s_X11_key_14 _ _ _ _ _ _ _ _ ⟨⟨⟨by omega, by omega⟩, by decide⟩, fun _ => k2, fun h => absurd (show (39 : Int) ≤ 39 by omega) h⟩
end
