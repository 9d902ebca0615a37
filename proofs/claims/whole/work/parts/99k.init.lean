/-! as both objects are made: what holds of them; from the walk that makes to the walk that calls -/
section
variable {μ : JM} {l : AL}
theorem chk_at (h : chk l = true) : (l.all fun e => !Nat.beq e.1 80) = true ∧ chkv l = true ∧ chkr l = true ∧ chkq l = true ∧ chkc l = true := by
  obtain ⟨a, h⟩ := band h
  obtain ⟨b, h⟩ := band h
  obtain ⟨c, h⟩ := band h
  obtain ⟨d, e⟩ := band h
  exact ⟨a, b, c, d, e⟩
theorem vl_of (hμ : ∀ t x i, t ≠ 80 → μ t x i = 0) (h : chk l = true) {t : Nat} {x v : Int} (hm : (t, x, v) ∈ vals) (n80 : t ≠ 80) : jmem μ l t 0 x = v := by
  rw [jgt_ok hμ l n80]
  exact ieq_t (List.all_eq_true.mp (chk_at h).2.1 _ hm)
theorem qp_of (hμ : ∀ t x i, t ≠ 80 → μ t x i = 0) (k : Nat) : qp (jmem μ l) k = qpl l k := by
  unfold qp qpl
  rw [jgt_ok hμ l (t := 22) (by decide), jgt_ok hμ l (t := 22) (by decide), jgt_ok hμ l (t := 27) (by decide)]
theorem JN_of (hμ : ∀ t x i, t ≠ 80 → μ t x i = 0) (h : chk l = true) : ∃ cp ca, JN cp ca (jmem μ l) := by
  obtain ⟨_, _, _, hq, hc⟩ := chk_at h
  have e53 := vl_of hμ h (t := 53) (x := 0) (v := 169) (by decide) (by decide)
  have e54 : jmem μ l 54 0 0 = jgt l 54 0 0 := jgt_ok hμ l (by decide)
  obtain ⟨_, hq⟩ := band hq
  obtain ⟨_, hq⟩ := band hq
  obtain ⟨q3, hq⟩ := band hq
  obtain ⟨q4, hq⟩ := band hq
  have q3 := of_decide_eq_true q3
  have q4 := of_decide_eq_true q4
  obtain ⟨c1, hc⟩ := band hc
  obtain ⟨c2, hc⟩ := band hc
  obtain ⟨c3, c4⟩ := band hc
  have c1 := of_decide_eq_true c1
  have c2 := of_decide_eq_true c2
  have c3 := of_decide_eq_true c3
  have c4 := of_decide_eq_true c4
  refine ⟨jgt l 51 (qpl l 0) 0, jgt l 51 (qpl l 2) 0, ⟨by omega, by omega, fun k hk => ?_, fun j k hj hk hne => ?_⟩, ⟨c1, c2⟩, ⟨c3, c4⟩, by omega, by omega⟩
  · have q := List.all_eq_true.mp hq k (List.mem_range.mpr hk)
    obtain ⟨a1, q⟩ := band q
    obtain ⟨a2, q⟩ := band q
    obtain ⟨a3, q⟩ := band q
    have a1 := of_decide_eq_true a1
    have a2 := of_decide_eq_true a2
    have a3 := ieq_t a3
    rw [qp_of hμ, jgt_ok hμ l (t := 51) (by decide), a3, e53]
    refine ⟨a1, by omega, ?_, ?_⟩
    · show (if k < 2 then _ else _) = (if k < 2 then _ else _)
      rfl
    · show 0 ≤ (if k < 2 then _ else _)
      split <;> omega
  · have q := List.all_eq_true.mp hq k (List.mem_range.mpr hk)
    obtain ⟨_, q⟩ := band q
    obtain ⟨_, q⟩ := band q
    obtain ⟨_, q⟩ := band q
    have q2 := List.all_eq_true.mp q j (List.mem_range.mpr hj)
    rw [nbeq_f hne] at q2
    rw [qp_of hμ, qp_of hμ]
    exact ieq_f (bnot q2)
def ss0 : SS := ((bk0, [], []), (0, fun _ => 0), (-1, -1))
theorem SI_0 (hμ : ∀ t x i, t ≠ 80 → μ t x i = 0) (h : chk l = true) : SI 0 ss0 (μ 80) (jmem μ l) := by
  have V : ∀ {t : Nat} {x v : Int}, (t, x, v) ∈ vals → t ≠ 80 → jmem μ l t 0 x = v := fun hm hn => vl_of hμ h hm hn
  obtain ⟨h80, _, _, hq, _⟩ := chk_at h
  obtain ⟨q1, hq⟩ := band hq
  obtain ⟨q2, _⟩ := band hq
  have q1 := of_decide_eq_true q1
  have q2 := of_decide_eq_true q2
  have e21 : jmem μ l 21 0 2 = jgt l 21 0 2 := jgt_ok hμ l (by decide)
  have iC : isC (jmem μ l) 0 bk0 := by
    refine ⟨V (t := 12) (x := 0) (v := 0) (by decide) (by decide), V (t := 12) (x := 2) (v := 0) (by decide) (by decide), V (t := 12) (x := 1) (v := 0) (by decide) (by decide), fun k k0 k1 => ?_, fun t t0 t1 => ?_⟩
    · have hk : k = 0 ∨ k = 1 ∨ k = 2 ∨ k = 3 := by omega
      rcases hk with rfl | rfl | rfl | rfl
      · exact V (t := 17) (x := 0) (v := 100) (by decide) (by decide)
      · exact V (t := 17) (x := 1) (v := 4) (by decide) (by decide)
      · exact V (t := 17) (x := 2) (v := 10) (by decide) (by decide)
      · exact V (t := 17) (x := 3) (v := 0) (by decide) (by decide)
    · have : bk0 5 1 = 0 := rfl
      omega
  have iM : isM (jmem μ l) bk0 := by
    refine ⟨V (t := 41) (x := 0) (v := 0) (by decide) (by decide), V (t := 41) (x := 1) (v := 0) (by decide) (by decide), V (t := 41) (x := 2) (v := 0) (by decide) (by decide), fun k k0 k1 => ?_, fun t t0 t1 => ?_⟩
    · have hk : k = 0 ∨ k = 1 ∨ k = 2 ∨ k = 3 := by omega
      rcases hk with rfl | rfl | rfl | rfl
      · exact V (t := 41) (x := 3) (v := 100) (by decide) (by decide)
      · exact V (t := 41) (x := 4) (v := 4) (by decide) (by decide)
      · exact V (t := 41) (x := 5) (v := 10) (by decide) (by decide)
      · exact V (t := 41) (x := 6) (v := 0) (by decide) (by decide)
    · have : bk0 5 1 = 0 := rfl
      omega
  have e9 := V (t := 11) (x := 9) (v := 1) (by decide) (by decide)
  have e2710 := V (t := 27) (x := 10) (v := 0) (by decide) (by decide)
  have e12 := V (t := 40) (x := 12) (v := 0) (by decide) (by decide)
  have e11 := V (t := 11) (x := 8) (v := 0) (by decide) (by decide)
  have e40 := V (t := 40) (x := 1) (v := 0) (by decide) (by decide)
  refine ⟨⟨⟨vb_bk0, fun x hx => absurd hx List.not_mem_nil, fun x hx => absurd hx List.not_mem_nil⟩, okg_0 _⟩, ⟨⟨iC, ⟨V (t := 21) (x := 3) (v := 0) (by decide) (by decide), by decide, by omega, fun j hj => absurd hj (by show ¬ j < 0; omega)⟩, ⟨V (t := 21) (x := 4) (v := 0) (by decide) (by decide), by decide, fun j hj => absurd hj (by show ¬ j < 0; omega)⟩, JN_of hμ h, by omega, Or.inr e9, fun hz => by omega⟩, ⟨V (t := 20) (x := 1) (v := 0) (by decide) (by decide), fun i i0 i1 => by have i1 : i < 0 := i1; omega⟩, V (t := 20) (x := 2) (v := -1) (by decide) (by decide), V (t := 20) (x := 3) (v := -1) (by decide) (by decide)⟩, ⟨⟨iM, ⟨V (t := 40) (x := 2) (v := 0) (by decide) (by decide), by decide, fun j hj => absurd hj (by show ¬ j < 0; omega)⟩, ⟨V (t := 40) (x := 3) (v := 0) (by decide) (by decide), by decide, fun j hj => absurd hj (by show ¬ j < 0; omega)⟩, Or.inl e12, fun hz => absurd e12 hz⟩, ⟨V (t := 40) (x := 16) (v := 0) (by decide) (by decide), fun i i0 i1 => by have i1 : i < 0 := i1; omega⟩, V (t := 40) (x := 24) (v := -1) (by decide) (by decide), V (t := 40) (x := 23) (v := -1) (by decide) (by decide)⟩, e11.trans e40.symm, fun y k => jgt80 l h80 y k⟩
/-- every place that holds a reference has been written -/
def nzr (ν : JM) : Prop := ν 53 0 0 = 169 ∧ ∀ i : Nat, i < 169 → (jkt (jlab i).1 = 0 → ∀ k : Nat, k < jnf (jkc (jlab i).1 (jlab i).2) → 11 ≤ (jft (jlab i).1 k (jlab i).2).1 → ν (jlab i).1 (jlab i).2 k ≠ 0) ∧ (jkt (jlab i).1 = 5 → ∀ j : Int, 0 ≤ j → j < jlt (jlab i).1 → ν (jlab i).1 (jlab i).2 j ≠ 0)
theorem nzr_of (hμ : ∀ t x i, t ≠ 80 → μ t x i = 0) (h : chk l = true) : nzr (jmem μ l) := by
  refine ⟨vl_of hμ h (by decide) (by decide), fun i hi => ?_⟩
  have q := List.all_eq_true.mp (chk_at h).2.2.1 i (List.mem_range.mpr hi)
  have kt := jlab_kt i
  have n80 : (jlab (i : Int)).1 ≠ 80 := by omega
  unfold rfok at q
  refine ⟨fun h0 k hk h11 => ?_, fun h5 j j0 j1 => ?_⟩
  · rw [nbeq_t h0, cond_true] at q
    have q2 := List.all_eq_true.mp q k (List.mem_range.mpr hk)
    rw [Nat.ble_eq_true_of_le h11, cond_true] at q2
    rw [jgt_ok hμ l n80]
    exact ieq_f (bnot q2)
  · rw [nbeq_f (by omega), cond_false, nbeq_t h5, cond_true] at q
    have q2 := List.all_eq_true.mp q j.toNat (List.mem_range.mpr (by omega))
    rw [show ((j.toNat : Nat) : Int) = j by omega] at q2
    rw [jgt_ok hμ l n80]
    exact ieq_f (bnot q2)
theorem jft_tag (t k : Nat) (x : Int) : (jft t k x).1 = 0 ∨ (jft t k x).1 = 3 ∨ (jft t k x).1 = 1 ∨ 11 ≤ (jft t k x).1 := by
  have c : ∀ (b : Bool) (u v : JV), (u.1 = 0 ∨ u.1 = 3 ∨ u.1 = 1 ∨ 11 ≤ u.1) → (v.1 = 0 ∨ v.1 = 3 ∨ v.1 = 1 ∨ 11 ≤ v.1) → ((cond b u v).1 = 0 ∨ (cond b u v).1 = 3 ∨ (cond b u v).1 = 1 ∨ 11 ≤ (cond b u v).1) := fun b u v hu hv => by
    cases b
    · exact hv
    · exact hu
  unfold jft jf40 jf12 jf11 jf22 jf20 jf21 jf25 jf26 jf27
  repeat' first | apply c | exact Or.inl rfl | exact Or.inr (Or.inl rfl) | exact Or.inr (Or.inr (Or.inl rfl)) | exact Or.inr (Or.inr (Or.inr (Nat.le_of_ble_eq_true rfl)))
theorem jcell_up {ad : Nat → Nat} {ν : JM} {y : Nat → ClassId} (hz : nzr ν) {i : Nat} (hi : i < 169) : jcell ad true ν y (jlab i) = jcell ad false ν y (jlab i) := by
  have q := hz.2 i hi
  unfold jcell
  by_cases h0 : jkt (jlab (i : Int)).1 = 0
  · rw [if_pos h0, if_pos h0]
    refine congrArg (fun f => (Sum.inr (jkc (jlab (i : Int)).1 (jlab (i : Int)).2, f) : va_E)) (List.map_congr_left (fun k hk => ?_))
    have hk := List.mem_range.mp hk
    unfold jfval
    by_cases z0 : (jft (jlab (i : Int)).1 k (jlab (i : Int)).2).1 = 0
    · rw [if_pos z0, if_pos z0]
    rw [if_neg z0, if_neg z0]
    by_cases z3 : (jft (jlab (i : Int)).1 k (jlab (i : Int)).2).1 = 3
    · rw [if_pos z3, if_pos z3]
    rw [if_neg z3, if_neg z3]
    by_cases z1 : (jft (jlab (i : Int)).1 k (jlab (i : Int)).2).1 = 1
    · rw [if_pos z1, if_pos z1]
    rw [if_neg z1, if_neg z1]
    have h11 : 11 ≤ (jft (jlab (i : Int)).1 k (jlab (i : Int)).2).1 := by
      rcases jft_tag (jlab (i : Int)).1 k (jlab (i : Int)).2 with h | h | h | h
      · exact absurd h z0
      · exact absurd h z3
      · exact absurd h z1
      · exact h
    rw [if_pos (Or.inl rfl), if_pos (Or.inr (q.1 h0 k hk h11))]
  · rw [if_neg h0, if_neg h0]
    by_cases h1 : jkt (jlab (i : Int)).1 = 1
    · rw [if_pos h1, if_pos h1]
    rw [if_neg h1, if_neg h1]
    by_cases h2 : jkt (jlab (i : Int)).1 = 2
    · rw [if_pos h2, if_pos h2]
    rw [if_neg h2, if_neg h2]
    by_cases h3 : jkt (jlab (i : Int)).1 = 3
    · rw [if_pos h3, if_pos h3]
    rw [if_neg h3, if_neg h3]
    by_cases h4 : jkt (jlab (i : Int)).1 = 4
    · rw [if_pos h4, if_pos h4]
    rw [if_neg h4, if_neg h4]
    have h5 : jkt (jlab (i : Int)).1 = 5 := by
      have := jlab_kt i
      omega
    refine congrArg (fun f : Nat → Option Nat => (Sum.inl (y 5, (jlen ν (jlab (i : Int)).1 (jlab (i : Int)).2).toNat, .inr (.inr (.inr (.inr f)))) : va_E)) (funext fun j => ?_)
    unfold jbval
    by_cases hj : (j : Int) < jlt (jlab (i : Int)).1
    · rw [if_pos ⟨hj, Or.inl rfl⟩, if_pos ⟨hj, Or.inr (q.2 h5 j (by omega) hj)⟩]
    · rw [if_neg (fun h => hj h.1), if_neg (fun h => hj h.1)]
theorem JRel_up {base : Nat} {ad : Nat → Nat} {D : va_G} {y : Nat → ClassId} {ν : JM} {H : Heap} (hz : nzr ν) (h : JRel base ad D y false ν H) : JRel base ad D y true ν H := by
  obtain ⟨r1, r2, r3, r4, r5, r6⟩ := h
  have hn : jn ν = 169 := by
    unfold jn
    rw [hz.1]
    rfl
  have e : jws ad true ν y = jws ad false ν y := by
    unfold jws
    refine List.map_congr_left (fun i hi => ?_)
    have hi := List.mem_range.mp hi
    rw [hn] at hi
    rw [jcell_up hz hi]
  refine ⟨by rw [e]; exact r1, by rw [e]; exact r2, r3, fun i hi => ?_, r5, r6⟩
  have q := r4 i hi
  rw [hn] at hi
  have nz := hz.2 i hi
  refine ⟨fun h0 k hk => ?_, fun h5 j j0 j1 => ?_⟩
  · rcases q.1 h0 k hk with a | a | a | ⟨a, b⟩
    · exact Or.inl a
    · exact Or.inr (Or.inl a)
    · exact Or.inr (Or.inr (Or.inl a))
    · exact Or.inr (Or.inr (Or.inr ⟨a, fun _ => b (Or.inr (nz.1 h0 k hk a))⟩))
  · rcases q.2 h5 j j0 j1 with a | a | a | ⟨a, b⟩
    · exact Or.inl a
    · exact Or.inr (Or.inl a)
    · exact Or.inr (Or.inr (Or.inl a))
    · exact Or.inr (Or.inr (Or.inr ⟨a, fun _ => b (Or.inr (nz.2 h5 j j0 j1))⟩))
end
