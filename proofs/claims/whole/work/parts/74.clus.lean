/-! clusters, many -/
abbrev mk (b : BK) (F : LL) (a : Int) : Int := pmk (ral b F a)
abbrev pag (b : BK) (F : LL) : Int → Int → Int := fun s a => if jand (mk b F a) s = 0 then s else jor s (mk b F a)
abbrev nl (b : BK) (F : LL) : Nat := (pal b F F.length).length
def pass (b : BK) (F : LL) (s : Int) : Int := fup (pag b F) (nl b F) 0 s
def clu (b : BK) (F : LL) : Nat → Int → Int
  | 0, s => s
  | k + 1, s => if pass b F s = s then s else clu b F k (pass b F s)
abbrev s12 (s : Int) : Prop := 0 ≤ s ∧ s < 4096
abbrev sub (s t : Int) : Prop := ∀ j : Nat, bt s j = true → bt t j = true
theorem or12 {x y : Int} (hx : s12 x) (hy : s12 y) : s12 (jor x y) := tr_of (inR_or _ _) (fun k h1 h2 => by rw [bt_or, tr_hi hx h1, tr_hi hy h1]; rfl)
theorem mk12 {b : BK} (hv : vb b) {F : LL} (hg : gd b F) {a : Int} (ha : 0 ≤ a ∧ a < nal b F) : s12 (mk b F a) := pmk_in (ral_sm hv hg ha).1
theorem pass_in {b : BK} (hv : vb b) {F : LL} (hg : gd b F) (s0 : Int) : ∀ i s, (0 : Int) ≤ i → i < nal b F → (s12 s ∧ sub s0 s) → (fun (_ : Int) (s : Int) => s12 s ∧ sub s0 s) (i + 1) (pag b F s i) := by
  intro i s h0 h1 hs
  show s12 (if jand (mk b F i) s = 0 then s else jor s (mk b F i)) ∧ sub s0 (if jand (mk b F i) s = 0 then s else jor s (mk b F i))
  split
  · exact hs
  · exact ⟨or12 hs.1 (mk12 hv hg ⟨h0, h1⟩), fun j hj => by rw [bt_or, hs.2 j hj]; rfl⟩
theorem pass12 {b : BK} (hv : vb b) {F : LL} (hg : gd b F) {s : Int} (hs : s12 s) : s12 (pass b F s) ∧ sub s (pass b F s) :=
  fup_inv (fun _ t => s12 t ∧ sub s t) (lo := 0) (n := nal b F) (pass_in hv hg s) (nl b F) 0 s (Int.le_refl _) (by show (0 : Int) + ((pal b F F.length).length : Int) = ((pal b F F.length).length : Int); omega) ⟨hs, fun _ h => h⟩
theorem filt_lt {p q : Nat → Bool} : ∀ (l : List Nat), (∀ k, p k = true → q k = true) → ((l.filter p).length ≤ (l.filter q).length) ∧ ((∃ k ∈ l, q k = true ∧ p k = false) → (l.filter p).length < (l.filter q).length)
  | [], _ => ⟨Nat.le_refl _, fun h => by obtain ⟨k, hk, _⟩ := h; cases hk⟩
  | x :: l, h => by
    have ih := filt_lt l h
    cases hp : p x with
    | true =>
      have hq := h x hp
      rw [List.filter_cons_of_pos hp, List.filter_cons_of_pos hq, List.length_cons, List.length_cons]
      refine ⟨by omega, fun hh => ?_⟩
      obtain ⟨k, hk, k1, k2⟩ := hh
      have := ih.2 (by
        rcases List.mem_cons.mp hk with rfl | hk
        · rw [hp] at k2; cases k2
        · exact ⟨k, hk, k1, k2⟩)
      omega
    | false =>
      rw [List.filter_cons_of_neg (by rw [hp]; decide)]
      cases hq : q x with
      | true =>
        rw [List.filter_cons_of_pos hq, List.length_cons]
        exact ⟨by omega, fun _ => by omega⟩
      | false =>
        rw [List.filter_cons_of_neg (by rw [hq]; decide)]
        refine ⟨ih.1, fun hh => ih.2 ?_⟩
        obtain ⟨k, hk, k1, k2⟩ := hh
        rcases List.mem_cons.mp hk with rfl | hk
        · rw [hq] at k1; cases k1
        · exact ⟨k, hk, k1, k2⟩
theorem pop_sub {s t : Int} (hs : s12 s) (ht : s12 t) (h : sub s t) (hne : t ≠ s) : pop12 s.toNat < pop12 t.toNat := by
  have es : ∀ k, k < 12 → s.toNat.testBit k = bt s k := fun k hk => by
    rw [← bt_nat k (by omega), show ((s.toNat : Nat) : Int) = s by omega]
  have et : ∀ k, k < 12 → t.toNat.testBit k = bt t k := fun k hk => by
    rw [← bt_nat k (by omega), show ((t.toNat : Nat) : Int) = t by omega]
  refine (filt_lt (p := fun k => s.toNat.testBit k) (q := fun k => t.toNat.testBit k) (List.range 12) (fun k hk => ?_)).2 ?_
  · by_cases h12 : k < 12
    · rw [et k h12]
      rw [es k h12] at hk
      exact h k hk
    · rw [Nat.testBit_lt_two_pow (Nat.lt_of_lt_of_le (show s.toNat < 2 ^ 12 by omega) (Nat.pow_le_pow_right (by omega) (by omega)))] at hk
      cases hk
  · refine Decidable.byContradiction (fun hc => hne ?_)
    refine bt_ext ⟨by omega, by omega⟩ ⟨by omega, by omega⟩ (fun k hk => ?_)
    by_cases h12 : k < 12
    · cases hb : bt s k with
      | true => exact h k hb
      | false =>
        cases ht2 : bt t k with
        | false => rfl
        | true => exact absurd ⟨k, List.mem_range.mpr h12, (et k h12).trans ht2, (es k h12).trans hb⟩ hc
    · rw [tr_hi hs (by omega), tr_hi ht (by omega)]
theorem jor_0 {x : Int} (hx : inR x) : jor x 0 = x := bt_ext (inR_or _ _) hx (fun k _ => by rw [bt_or, bt_zero, Bool.or_false])
/-- the cluster's accounts: both loops -/
theorem c_clus24 {d : Nat} {b : BK} {F : LL} {ν : JM} {Q : JQ} {a1 : Int} (hv : vb b) (hg : gd b F) (hR : RS b F ν) : ∀ (k : Nat) (s o t : Int) (u : JV), s12 s → s12 o → s ≠ o → 13 ≤ pop12 s.toNat + k → 0 ≤ t ∧ t + (k : Int) ≤ 13 → Q (clu b F k s) ν → wp true d 17 24 [(27, 0), (0, a1), (0, s), (0, o), (0, t), u] [] ν Q
  | 0, s, o, t, u, hs, _, _, hp, _, _ => by
    have := pop_in (n := s.toNat) (by omega)
    omega
  | k + 1, s, o, t, u, hs, ho, hne, hp, ht, hQ => by
    have na := nal_in b F hR.2.1.2.1
    have en : nal b F = ((pal b F F.length).length : Int) := rfl
    have en2 : nal b F = (nl b F : Int) := rfl
    have e0 : ν 27 0 0 = nal b F := hR.2.2.2.1.1
    have p12 := pass12 hv hg hs
    refine s_X0_clusterSet_24 _ _ _ _ _ _ _ _ ⟨⟨⟨by omega, by omega⟩, ⟨by omega, by omega⟩⟩, fun h => absurd h (by omega), fun _ => ⟨Or.inr ⟨⟨by omega, by omega⟩, ⟨by omega, by omega⟩⟩, fun h => absurd h hne, fun _ => ?_⟩⟩
    refine fup_loop (W := fun i (x : Int) => wp true d 17 41 [(27, 0), (0, a1), (0, x), (0, s), (0, t), (0, i)] [] ν Q) (g := pag b F) (fun _ x => s12 x ∧ sub s x) (lo := 0) (n := nal b F) (pass_in hv hg s) (fun i x i0 i1 hx hW => ?_) (nl b F) 0 s (by omega) (by omega) ⟨hs, fun _ h => h⟩ (fun hx => ?_)
    · have q := (RS_al hv hg hR ⟨i0, i1⟩).2.1
      have hx1 : s12 x := hx.1
      refine s_X0_clusterSet_41 _ _ _ _ _ _ _ _ ?_
      rw [e0, q.2.2]
      refine ⟨⟨⟨by omega, by omega⟩, ⟨by omega, by omega⟩⟩, fun h => absurd h (by omega), fun _ => ⟨q.1, i0, q.2.1, Or.inr ⟨inR_and _ _, ⟨by omega, by omega⟩⟩, fun hz => ?_, fun hz => ⟨q.1, i0, q.2.1, ?_⟩⟩⟩
      · rw [show pag b F x i = x from if_pos hz] at hW
        rw [jor_0 ⟨by omega, by omega⟩]
        exact hW
      · rw [show pag b F x i = jor x (mk b F i) from if_neg hz] at hW
        exact hW
    · refine s_X0_clusterSet_41 _ _ _ _ _ _ _ _ ?_
      rw [e0]
      refine ⟨⟨⟨by omega, by omega⟩, ⟨by omega, by omega⟩⟩, fun _ => ?_, fun h => absurd (Int.le_refl _) h⟩
      have e : clu b F (k + 1) s = if pass b F s = s then s else clu b F k (pass b F s) := rfl
      rw [e] at hQ
      change wp true d 17 24 [(27, 0), (0, a1), (0, pass b F s), (0, s), (0, (t + 1)), _] [] ν Q
      by_cases hf : pass b F s = s
      · rw [if_pos hf] at hQ
        rw [hf]
        exact s_X0_clusterSet_24 _ _ _ _ _ _ _ _ ⟨⟨⟨by omega, by omega⟩, ⟨by omega, by omega⟩⟩, fun _ => hQ, fun _ => ⟨Or.inl rfl, fun _ => hQ, fun h => absurd rfl h⟩⟩
      · rw [if_neg hf] at hQ
        have pl := pop_sub hs p12.1 p12.2 hf
        exact c_clus24 hv hg hR k (pass b F s) s (t + 1) _ p12.1 hs hf (by omega) (by omega) hQ
theorem mk_pos {b : BK} (hv : vb b) {F : LL} (hg : gd b F) {a : Int} (ha : 0 ≤ a ∧ a < nal b F) : 2 ≤ pop12 (mk b F a).toNat ∧ mk b F a ≠ 0 ∧ jand (mk b F a) (mk b F a) = mk b F a := by
  have h12 := mk12 hv hg ha
  have e := pmk_pop (ral_sm hv hg ha).1 (ral_nodup hv hg ha)
  rw [jpop_z h12] at e
  have q := (ral_mem hv hg ha).1
  refine ⟨by omega, fun h0 => ?_, bt_ext (inR_and _ _) ⟨by omega, by omega⟩ (fun k _ => by rw [bt_and, Bool.and_self])⟩
  have e2 : pop12 (mk b F a).toNat = 0 := by
    rw [h0]
    decide
  omega
theorem c_clusterSet {d : Nat} {b : BK} {F : LL} {ν : JM} {Q : JQ} {a : Int} (hv : vb b) (hg : gd b F) (hR : RS b F ν) (ha : 0 ≤ a ∧ a < nal b F) (k : Q (clu b F 11 (mk b F a)) ν) : wp true (d + 1) 17 0 [(27, 0), (0, a), (9, 0), (9, 0), (9, 0), (9, 0)] [] ν Q := by
  have na := nal_in b F hR.2.1.2.1
  have en : nal b F = ((pal b F F.length).length : Int) := rfl
  have en2 : nal b F = (nl b F : Int) := rfl
  have q := (RS_al hv hg hR ha).2.1
  have p := mk_pos hv hg ha
  refine s_X0_clusterSet_0 _ _ _ _ (w_hasA hR.2.2.2.1.1 (by omega) ⟨by omega, by omega⟩ (fun _ _ => ⟨by decide, fun h => absurd h (by decide), fun _ => ⟨q.1, ha.1, q.2.1, ?_⟩⟩) (fun h => absurd ha h))
  rw [q.2.2]
  exact c_clus24 hv hg hR 11 (mk b F a) 0 0 _ (mk12 hv hg ha) ⟨by omega, by omega⟩ p.2.1 (by omega) (by omega) k
theorem m_clus14 {d : Nat} {b : BK} {F : LL} {ν : JM} {Q : JQ} {a1 : Int} (hv : vb b) (hg : gd b F) (hL : ML b F ν) (hF : F.length ≤ 12000) : ∀ (k : Nat) (s o : Int) (u : JV), s12 s → s12 o → s ≠ o → 13 ≤ pop12 s.toNat + k → Q (clu b F k s) ν → wp true d 283 14 [(40, 0), (0, a1), (0, s), (0, o), u] [] ν Q
  | 0, s, o, u, hs, _, _, hp, _ => by
    have := pop_in (n := s.toNat) (by omega)
    omega
  | k + 1, s, o, u, hs, ho, hne, hp, hQ => by
    have na := nal_in b F hF
    have en : nal b F = ((pal b F F.length).length : Int) := rfl
    have en2 : nal b F = (nl b F : Int) := rfl
    have e0 : ν 40 0 11 = nal b F := hL.2.1
    have p12 := pass12 hv hg hs
    refine s_X11_togetherWith_14 _ _ _ _ _ _ _ ⟨Or.inr ⟨⟨by omega, by omega⟩, ⟨by omega, by omega⟩⟩, fun h => absurd h.symm hne, fun _ => ?_⟩
    refine fup_loop (W := fun i (x : Int) => wp true d 283 24 [(40, 0), (0, a1), (0, x), (0, s), (0, i)] [] ν Q) (g := pag b F) (fun _ x => s12 x ∧ sub s x) (lo := 0) (n := nal b F) (pass_in hv hg s) (fun i x i0 i1 hx hW => ?_) (nl b F) 0 s (by omega) (by omega) ⟨hs, fun _ h => h⟩ (fun hx => ?_)
    · have q := ML_al hv hg hL ⟨i0, i1⟩
      refine s_X11_togetherWith_24 _ _ _ _ _ _ _ ?_
      rw [e0, q.2.2.1]
      refine ⟨⟨⟨by omega, by omega⟩, ⟨by omega, by omega⟩⟩, fun h => absurd h (by omega), fun _ => ⟨by omega, by omega, by omega, by omega, Or.inr ⟨inR_and _ _, ⟨by omega, by omega⟩⟩, fun hz => ?_, fun hz => ⟨by omega, by omega, by omega, by omega, ?_⟩⟩⟩
      · rw [show pag b F x i = x from if_pos hz] at hW
        exact hW
      · rw [show pag b F x i = jor x (mk b F i) from if_neg hz] at hW
        exact hW
    · refine s_X11_togetherWith_24 _ _ _ _ _ _ _ ?_
      rw [e0]
      refine ⟨⟨⟨by omega, by omega⟩, ⟨by omega, by omega⟩⟩, fun _ => ?_, fun h => absurd (Int.le_refl _) h⟩
      have e : clu b F (k + 1) s = if pass b F s = s then s else clu b F k (pass b F s) := rfl
      rw [e] at hQ
      change wp true d 283 14 [(40, 0), (0, a1), (0, pass b F s), (0, s), _] [] ν Q
      by_cases hf : pass b F s = s
      · rw [if_pos hf] at hQ
        rw [hf]
        exact s_X11_togetherWith_14 _ _ _ _ _ _ _ ⟨Or.inl rfl, fun _ => hQ, fun h => absurd rfl h⟩
      · rw [if_neg hf] at hQ
        have pl := pop_sub hs p12.1 p12.2 hf
        exact m_clus14 hv hg hL hF k (pass b F s) s _ p12.1 hs hf (by omega) hQ
theorem m_togetherWith {d : Nat} {b : BK} {F : LL} {ν : JM} {Q : JQ} {a : Int} (hv : vb b) (hg : gd b F) (hL : ML b F ν) (hF : F.length ≤ 12000) (ha : 0 ≤ a ∧ a < nal b F) (k : Q (clu b F 11 (mk b F a)) ν) : wp true d 283 0 [(40, 0), (0, a), (9, 0), (9, 0), (9, 0)] [] ν Q := by
  have na := nal_in b F hF
  have q := ML_al hv hg hL ha
  have p := mk_pos hv hg ha
  refine s_X11_togetherWith_0 _ _ _ _ ⟨by omega, by omega, by omega, by omega, ?_⟩
  rw [q.2.2.1]
  exact m_clus14 hv hg hL hF 11 (mk b F a) 0 _ (mk12 hv hg ha) ⟨by omega, by omega⟩ p.2.1 (by omega) k
theorem clu_in {b : BK} (hv : vb b) {F : LL} (hg : gd b F) : ∀ (k : Nat) (s : Int), s12 s → s12 (clu b F k s) ∧ sub s (clu b F k s)
  | 0, s, h => ⟨h, fun _ h => h⟩
  | k + 1, s, h => by
    have p := pass12 hv hg h
    have ih := clu_in hv hg k (pass b F s) p.1
    have e : clu b F (k + 1) s = if pass b F s = s then s else clu b F k (pass b F s) := rfl
    rw [e]
    split
    · exact ⟨h, fun _ h => h⟩
    · exact ⟨ih.1, fun j hj => ih.2 j (p.2 j hj)⟩
/-- the least alarm that a set meets -/
abbrev pcf (b : BK) (F : LL) (s : Int) : Int → Bool := fun x => decide (¬ jand (mk b F x) s = 0)
def cof (b : BK) (F : LL) (s : Int) : Int := ffst (pcf b F s) (nl b F) 0
theorem cof_lt {b : BK} (hv : vb b) {F : LL} (hg : gd b F) {a : Int} (ha : 0 ≤ a ∧ a < nal b F) : pcf b F (clu b F 11 (mk b F a)) a = true := by
  refine decide_eq_true (fun h0 => ?_)
  have c := clu_in hv hg 11 _ (mk12 hv hg ha)
  have p := mk_pos hv hg ha
  refine p.2.1 (eq0_of_bt ⟨by have := mk12 hv hg ha; omega, by have := mk12 hv hg ha; omega⟩ (fun k hk => ?_))
  have b3 := bt_and (mk b F a) (clu b F 11 (mk b F a)) k
  rw [h0, bt_zero] at b3
  cases hb : bt (mk b F a) k with
  | false => rfl
  | true =>
    rw [hb, c.2 k hb] at b3
    cases b3
def oCluster (b : BK) (a : Int) : Int × Int := if a < 0 then (-1, 1) else if a < nal b (FR b) then (cof b (FR b) (clu b (FR b) 11 (mk b (FR b) a)), 0) else (-1, 5)
theorem c_cluster {d : Nat} {b : BK} {A K : List BK} {c : Int} {ν : JM} {Q : JQ} (hV : VS b A K) (h : CI b A K c ν) {a : Int} (ha : inR a) (k : KC b A K c ν Q (oCluster b a)) : wp true (d + 14) 153 0 [(11, 0), (0, a)] [] ν Q := by
  unfold oCluster at k
  have hg := FR_gd hV.1
  have hF := FR_le hV.1
  have na := nal_in b (FR b) (FR_le hV.1)
  have en : nal b (FR b) = ((pal b (FR b) (FR b).length).length : Int) := rfl
  have en2 : nal b (FR b) = (nl b (FR b) : Int) := rfl
  refine s_X10_cluster_0 (d + 13) _ _ _ ⟨⟨ha, ⟨by omega, by omega⟩⟩, fun h0 => ?_, fun h0 => ?_⟩
  · rw [if_neg (by omega)] at k
    refine c_fresh hV h (fun ξ h' hR _ hf => s_X0_clusterOf_0 (d + 12) _ _ _ ?_)
    have e0 : ξ 27 0 0 = nal b (FR b) := hR.2.2.2.1.1
    by_cases hlt : a < nal b (FR b)
    · rw [if_pos hlt] at k
      have hc := cof_lt hV.1 hg ⟨h0, hlt⟩
      refine c_clusterSet (d := d + 11) hV.1 hg hR ⟨h0, hlt⟩ ?_
      generalize hS : clu b (FR b) 11 (mk b (FR b) a) = S at k hc ⊢
      refine ffst_lp (p := pcf b (FR b) S) (W := fun i => wp true (d + 13) 18 8 [(27, 0), (0, a), (0, S), (0, i)] [] ξ _) (lo := 0) (n := nal b (FR b)) (fun i i0 i1 hp hb => ?_) (fun i i0 i1 hp hW => ?_) (fun hb => ?_) (nl b (FR b)) 0 (by omega) (by omega) (fun j h1 h2 => by omega)
      · have q := (RS_al hV.1 hg hR ⟨i0, i1⟩).2.1
        have e := ffst_eq (k := nl b (FR b)) i0 (by omega) hp hb
        have e2 := of_decide_eq_true hp
        unfold cof at k
        rw [e] at k
        refine s_X0_clusterOf_8 _ _ _ _ _ _ ?_
        rw [e0, q.2.2]
        refine ⟨⟨⟨by omega, by omega⟩, ⟨by omega, by omega⟩⟩, fun h => absurd h (by omega), fun _ => ⟨q.1, i0, q.2.1, Or.inr ⟨inR_and _ _, ⟨by omega, by omega⟩⟩, fun h => absurd h e2, fun _ => w_knownK ⟨by omega, by omega⟩ h' hf ?_⟩⟩
        rw [okn, if_neg (by omega)]
        exact k
      · have q := (RS_al hV.1 hg hR ⟨i0, i1⟩).2.1
        have e2 : ¬ ¬ jand (mk b (FR b) i) S = 0 := of_decide_eq_false hp
        refine s_X0_clusterOf_8 _ _ _ _ _ _ ?_
        rw [e0, q.2.2]
        exact ⟨⟨⟨by omega, by omega⟩, ⟨by omega, by omega⟩⟩, fun h => absurd h (by omega), fun _ => ⟨q.1, i0, q.2.1, Or.inr ⟨inR_and _ _, ⟨by omega, by omega⟩⟩, fun _ => hW, fun h => absurd h e2⟩⟩
      · rw [hb a h0 hlt] at hc
        cases hc
    · rw [if_neg hlt] at k
      refine s_X0_clusterSet_0 (d + 11) _ _ _ (w_hasA hR.2.2.2.1.1 (by omega) ha (fun _ h => absurd h (by omega)) (fun _ => ⟨by decide, fun _ => ?_, fun h => absurd rfl h⟩))
      refine s_X0_clusterSet_24 _ _ _ _ _ _ _ _ ⟨⟨⟨by omega, by omega⟩, ⟨by omega, by omega⟩⟩, fun h => absurd h (by omega), fun _ => ⟨Or.inl rfl, fun _ => ?_, fun h => absurd rfl h⟩⟩
      refine ffst_lp (p := fun _ => false) (W := fun i => wp true (d + 13) 18 8 [(27, 0), (0, a), (0, 0), (0, i)] [] ξ _) (lo := 0) (n := nal b (FR b)) (fun i i0 i1 hp hb => by cases hp) (fun i i0 i1 hp hW => ?_) (fun hb => ?_) (nl b (FR b)) 0 (by omega) (by omega) (fun j h1 h2 => by omega)
      · have q := (RS_al hV.1 hg hR ⟨i0, i1⟩).2.1
        have z : jand (mk b (FR b) i) 0 = 0 := eq0_of_bt (inR_and _ _) (fun k _ => by rw [bt_and, bt_zero, Bool.and_false])
        refine s_X0_clusterOf_8 _ _ _ _ _ _ ?_
        rw [e0, q.2.2, z]
        exact ⟨⟨⟨by omega, by omega⟩, ⟨by omega, by omega⟩⟩, fun h => absurd h (by omega), fun _ => ⟨q.1, i0, q.2.1, Or.inl rfl, fun _ => hW, fun h => absurd rfl h⟩⟩
      · refine s_X0_clusterOf_8 _ _ _ _ _ _ ?_
        rw [e0]
        exact ⟨⟨⟨by omega, by omega⟩, ⟨by omega, by omega⟩⟩, fun _ => w_knownK ⟨by omega, by omega⟩ h' hf k, fun h => absurd (Int.le_refl _) h⟩
  · rw [if_pos (by omega)] at k
    exact KC_fin k h (jfr_refl _ _)
theorem m_cluster {d : Nat} {b : BK} {A K : List BK} {ν : JM} {Q : JQ} (hV : VS b A K) (h : MI b A K ν) {a : Int} (ha : inR a) (k : KM b A K ν Q (oCluster b a)) : wp true (d + 13) 286 0 [(40, 0), (0, a)] [] ν Q := by
  unfold oCluster at k
  have hg := FR_gd hV.1
  have hF := FR_le hV.1
  have na := nal_in b (FR b) (FR_le hV.1)
  have en : nal b (FR b) = ((pal b (FR b) (FR b).length).length : Int) := rfl
  have en2 : nal b (FR b) = (nl b (FR b) : Int) := rfl
  refine s_X11_cluster_0 (d + 12) _ _ _ ⟨⟨ha, ⟨by omega, by omega⟩⟩, fun h0 => ?_, fun h0 => ?_⟩
  · rw [if_neg (by omega)] at k
    refine m_layI hV h (fun ξ h' hL hf _ => ?_)
    have e0 : ξ 40 0 11 = nal b (FR b) := hL.2.1
    rw [e0]
    refine ⟨⟨ha, ⟨by omega, by omega⟩⟩, fun hge => ?_, fun hlt => ?_⟩
    · rw [if_neg (by omega)] at k
      exact KM_fin hV k h' hf
    · rw [if_pos (by omega)] at k
      have hc := cof_lt hV.1 hg (a := a) ⟨h0, by omega⟩
      refine s_X11_clusterOf_0 (d + 11) _ _ _ (m_togetherWith hV.1 hg hL (FR_le hV.1) ⟨h0, by omega⟩ ?_)
      generalize hS : clu b (FR b) 11 (mk b (FR b) a) = S at k hc ⊢
      refine ffst_lp (p := pcf b (FR b) S) (W := fun i => wp true (d + 12) 284 8 [(40, 0), (0, a), (0, S), (0, i)] [] ξ _) (lo := 0) (n := nal b (FR b)) (fun i i0 i1 hp hb => ?_) (fun i i0 i1 hp hW => ?_) (fun hb => ?_) (nl b (FR b)) 0 (by omega) (by omega) (fun j h1 h2 => by omega)
      · have q := ML_al hV.1 hg hL ⟨i0, i1⟩
        have e := ffst_eq (k := nl b (FR b)) i0 (by omega) hp hb
        have e2 := of_decide_eq_true hp
        unfold cof at k
        rw [e] at k
        refine s_X11_clusterOf_8 _ _ _ _ _ _ ?_
        rw [q.2.2.1]
        exact ⟨by omega, by omega, by omega, by omega, Or.inr ⟨inR_and _ _, ⟨by omega, by omega⟩⟩, fun _ => KM_fin hV k h' hf, fun h => absurd e2 h⟩
      · have q := ML_al hV.1 hg hL ⟨i0, i1⟩
        have e2 : ¬ ¬ jand (mk b (FR b) i) S = 0 := of_decide_eq_false hp
        refine s_X11_clusterOf_8 _ _ _ _ _ _ ?_
        rw [q.2.2.1]
        exact ⟨by omega, by omega, by omega, by omega, Or.inr ⟨inR_and _ _, ⟨by omega, by omega⟩⟩, fun h => absurd h e2, fun _ => hW⟩
      · rw [hb a h0 (by omega)] at hc
        cases hc
  · rw [if_pos (by omega)] at k
    exact KM_fin hV k h (jfr_refl _ _)
/-- how many clusters -/
abbrev ncg (b : BK) (F : LL) : Int × Int → Int → Int × Int := fun s a => if jand (mk b F a) s.2 = 0 then (s.1 + 1, jor s.2 (clu b F 11 (mk b F a))) else s
def ncl (b : BK) (F : LL) : Int := (fup (ncg b F) (nl b F) 0 (0, 0)).1
theorem c_clusters {d : Nat} {b : BK} {F : LL} {ν : JM} {Q : JQ} (hv : vb b) (hg : gd b F) (hR : RS b F ν) (k : Q (ncl b F) ν) : wp true (d + 2) 19 0 [(27, 0), (9, 0), (9, 0), (9, 0)] [] ν Q := by
  have na := nal_in b F hR.2.1.2.1
  have en : nal b F = ((pal b F F.length).length : Int) := rfl
  have en2 : nal b F = (nl b F : Int) := rfl
  have e0 : ν 27 0 0 = nal b F := hR.2.2.2.1.1
  refine s_X0_clusters_0 _ _ _ (fup_lp (W := fun i (s : Int × Int) => wp true (d + 2) 19 6 [(27, 0), (0, s.1), (0, s.2), (0, i)] [] ν Q) (g := ncg b F) (lo := 0) (n := nal b F) (fun i s i0 i1 hW => ?_) (nl b F) 0 (0, 0) (by omega) (by omega) ?_)
  · have q := (RS_al hv hg hR ⟨i0, i1⟩).2.1
    refine s_X0_clusters_6 (d + 1) _ _ _ _ _ ?_
    rw [e0, q.2.2]
    refine ⟨⟨⟨by omega, by omega⟩, ⟨by omega, by omega⟩⟩, fun h => absurd h (by omega), fun _ => ⟨q.1, i0, q.2.1, Or.inr ⟨inR_and _ _, ⟨by omega, by omega⟩⟩, fun hz => ?_, fun hz => c_clusterSet hv hg hR ⟨i0, i1⟩ ?_⟩⟩
    · rw [show ncg b F s i = s from if_neg hz] at hW
      exact hW
    · rw [show ncg b F s i = (s.1 + 1, jor s.2 (clu b F 11 (mk b F i))) from if_pos (Decidable.byContradiction hz)] at hW
      exact hW
  · refine s_X0_clusters_6 (d + 1) _ _ _ _ _ ?_
    rw [e0]
    exact ⟨⟨⟨by omega, by omega⟩, ⟨by omega, by omega⟩⟩, fun _ => k, fun h => absurd (Int.le_refl _) h⟩
theorem m_clusters {d : Nat} {b : BK} {F : LL} {ν : JM} {Q : JQ} (hv : vb b) (hg : gd b F) (hL : ML b F ν) (hF : F.length ≤ 12000) (k : Q (ncl b F) ν) : wp true (d + 1) 285 0 [(40, 0), (9, 0), (9, 0), (9, 0)] [] ν Q := by
  have na := nal_in b F hF
  have en : nal b F = ((pal b F F.length).length : Int) := rfl
  have en2 : nal b F = (nl b F : Int) := rfl
  have e0 : ν 40 0 11 = nal b F := hL.2.1
  refine s_X11_clusters_0 _ _ _ (fup_lp (W := fun i (s : Int × Int) => wp true (d + 1) 285 6 [(40, 0), (0, s.2), (0, s.1), (0, i)] [] ν Q) (g := ncg b F) (lo := 0) (n := nal b F) (fun i s i0 i1 hW => ?_) (nl b F) 0 (0, 0) (by omega) (by omega) ?_)
  · have q := ML_al hv hg hL ⟨i0, i1⟩
    refine s_X11_clusters_6 d _ _ _ _ _ ?_
    rw [e0, q.2.2.1]
    refine ⟨⟨⟨by omega, by omega⟩, ⟨by omega, by omega⟩⟩, fun h => absurd h (by omega), fun _ => ⟨by omega, by omega, by omega, by omega, Or.inr ⟨inR_and _ _, ⟨by omega, by omega⟩⟩, fun hz => m_togetherWith hv hg hL hF ⟨i0, i1⟩ ?_, fun hz => ?_⟩⟩
    · rw [show ncg b F s i = (s.1 + 1, jor s.2 (clu b F 11 (mk b F i))) from if_pos hz] at hW
      exact hW
    · rw [show ncg b F s i = s from if_neg hz] at hW
      exact hW
  · refine s_X11_clusters_6 d _ _ _ _ _ ?_
    rw [e0]
    exact ⟨⟨⟨by omega, by omega⟩, ⟨by omega, by omega⟩⟩, fun _ => k, fun h => absurd (Int.le_refl _) h⟩
/-- many -/
def oMany (b : BK) (A K : List BK) (x : Int) : Int × Int :=
  if x = 0 then (b 5 0, 0) else if x = 1 then (b 5 1, 0) else if x = 2 then (b 5 2, 0) else if x = 3 then (((FR b).length : Int), 0) else if x = 4 then (nal b (FR b), 0) else if x = 5 then ((A.length : Int), 0) else if x = 6 then ((K.length : Int), 0) else if x = 7 then (pall b, 0) else if x = 8 then (if (1 ≤ nal b (FR b)) ∧ ffst (fun a => decide ((ral b (FR b) a).length ≠ 2)) (nl b (FR b)) 0 = nal b (FR b) then 1 else 0, 0) else if x = 9 then (ncl b (FR b), 0) else if x = 10 then ((pun b (FR b) (FR b).length).2, 0) else (-1, 1)
theorem ptwo_iff (b : BK) (F : LL) : ptwo b F ↔ (1 ≤ nal b F) ∧ ffst (fun a => decide ((ral b F a).length ≠ 2)) (nl b F) 0 = nal b F := by
  have en : nal b F = ((pal b F F.length).length : Int) := rfl
  have en2 : nal b F = (nl b F : Int) := rfl
  refine ⟨fun h => ⟨h.1, ?_⟩, fun h => ⟨h.1, fun a a0 a1 => ?_⟩⟩
  · rw [ffst_no (fun j j0 j1 => decide_eq_false (fun hh => hh (h.2 j j0 (by omega))))]
    omega
  · have s := (ffst_spec (fun a => decide ((ral b F a).length ≠ 2)) (nl b F) 0).1 a a0 (by omega)
    exact Decidable.byContradiction (of_decide_eq_false s)
theorem c_many {d : Nat} {b : BK} {A K : List BK} {c : Int} {ν : JM} {Q : JQ} (hV : VS b A K) (h : CI b A K c ν) {x : Int} (hx : inR x) (k : KC b A K c ν Q (oMany b A K x)) : wp true (d + 14) 132 0 [(11, 0), (0, x)] [] ν Q := by
  unfold oMany at k
  have hg := FR_gd hV.1
  refine s_X10_many_0 (d + 13) _ _ _ ⟨hx, fun e => ?_, fun n0 => ⟨fun e => ?_, fun n1 => ⟨fun e => ?_, fun n2 => ⟨fun e => ?_, fun n3 => ⟨fun e => ?_, fun n4 => ⟨fun e => ?_, fun n5 => ⟨fun e => ?_, fun n6 => ⟨fun e => ?_, fun n7 => ⟨fun e => ?_, fun n8 => ⟨fun e => ?_, fun n9 => ⟨fun e => ?_, fun n10 => ?_⟩⟩⟩⟩⟩⟩⟩⟩⟩⟩⟩
  · rw [if_pos e] at k
    rw [isC_n h.1]
    exact KC_fin k h (jfr_refl _ _)
  · rw [if_neg n0, if_pos e] at k
    rw [isC_m h.1]
    exact KC_fin k h (jfr_refl _ _)
  · rw [if_neg n0, if_neg n1, if_pos e] at k
    rw [isC_tr h.1]
    exact KC_fin k h (jfr_refl _ _)
  · rw [if_neg n0, if_neg n1, if_neg n2, if_pos e] at k
    refine c_fresh hV h (fun ξ h' hR _ hf => ?_)
    rw [hR.2.1.1]
    exact KC_fin k h' hf
  · rw [if_neg n0, if_neg n1, if_neg n2, if_neg n3, if_pos e] at k
    refine c_fresh hV h (fun ξ h' hR _ hf => ?_)
    rw [show ξ 27 0 0 = nal b (FR b) from hR.2.2.2.1.1]
    exact KC_fin k h' hf
  · rw [if_neg n0, if_neg n1, if_neg n2, if_neg n3, if_neg n4, if_pos e] at k
    rw [h.2.1.1]
    exact KC_fin k h (jfr_refl _ _)
  · rw [if_neg n0, if_neg n1, if_neg n2, if_neg n3, if_neg n4, if_neg n5, if_pos e] at k
    rw [h.2.2.1.1]
    exact KC_fin k h (jfr_refl _ _)
  · rw [if_neg n0, if_neg n1, if_neg n2, if_neg n3, if_neg n4, if_neg n5, if_neg n6, if_pos e] at k
    exact c_allAmounts h.1 hV.1 (KC_fin k h (jfr_refl _ _))
  · rw [if_neg n0, if_neg n1, if_neg n2, if_neg n3, if_neg n4, if_neg n5, if_neg n6, if_neg n7, if_pos e] at k
    refine c_fresh hV h (fun ξ h' hR _ hf => c_allOfTwo (d := d + 11) hV.1 hg hR (fun hp => ⟨by decide, fun h => absurd h (by decide), fun _ => ?_⟩) (fun hp => ⟨by decide, fun _ => ?_, fun h => absurd rfl h⟩))
    · rw [if_pos ((ptwo_iff _ _).1 hp)] at k
      exact KC_fin k h' hf
    · rw [if_neg (fun h => hp ((ptwo_iff _ _).2 h))] at k
      exact KC_fin k h' hf
  · rw [if_neg n0, if_neg n1, if_neg n2, if_neg n3, if_neg n4, if_neg n5, if_neg n6, if_neg n7, if_neg n8, if_pos e] at k
    exact c_fresh hV h (fun ξ h' hR _ hf => c_clusters (d := d + 11) hV.1 hg hR (KC_fin k h' hf))
  · rw [if_neg n0, if_neg n1, if_neg n2, if_neg n3, if_neg n4, if_neg n5, if_neg n6, if_neg n7, if_neg n8, if_neg n9, if_pos e] at k
    refine c_fresh hV h (fun ξ h' hR _ hf => ?_)
    rw [hR.2.2.2.2.2.2.2.1]
    exact KC_fin k h' hf
  · rw [if_neg n0, if_neg n1, if_neg n2, if_neg n3, if_neg n4, if_neg n5, if_neg n6, if_neg n7, if_neg n8, if_neg n9, if_neg n10] at k
    exact KC_fin k h (jfr_refl _ _)
theorem m_many {d : Nat} {b : BK} {A K : List BK} {ν : JM} {Q : JQ} (hV : VS b A K) (h : MI b A K ν) {x : Int} (hx : inR x) (k : KM b A K ν Q (oMany b A K x)) : wp true (d + 13) 259 0 [(40, 0), (0, x)] [] ν Q := by
  unfold oMany at k
  have hg := FR_gd hV.1
  have hF := FR_le hV.1
  refine s_X11_many_0 (d + 12) _ _ _ (m_layI hV h (fun ξ h' hL hf _ => ⟨hx, fun e => ⟨by omega, by omega, ?_⟩, fun n0 => ⟨fun e => ⟨by omega, by omega, ?_⟩, fun n1 => ⟨fun e => ⟨by omega, by omega, ?_⟩, fun n2 => ⟨fun e => ?_, fun n3 => ⟨fun e => ?_, fun n4 => ⟨fun e => ?_, fun n5 => ⟨fun e => ?_, fun n6 => ⟨fun e => ?_, fun n7 => ⟨fun e => ?_, fun n8 => ⟨fun e => ?_, fun n9 => ⟨fun e => ?_, fun n10 => ?_⟩⟩⟩⟩⟩⟩⟩⟩⟩⟩⟩))
  · rw [if_pos e] at k
    rw [isM_n h'.1]
    exact KM_fin hV k h' hf
  · rw [if_neg n0, if_pos e] at k
    rw [isM_m h'.1]
    exact KM_fin hV k h' hf
  · rw [if_neg n0, if_neg n1, if_pos e] at k
    rw [isM_tr h'.1]
    exact KM_fin hV k h' hf
  · rw [if_neg n0, if_neg n1, if_neg n2, if_pos e] at k
    rw [hL.1.1]
    exact KM_fin hV k h' hf
  · rw [if_neg n0, if_neg n1, if_neg n2, if_neg n3, if_pos e] at k
    rw [show ξ 40 0 11 = nal b (FR b) from hL.2.1]
    exact KM_fin hV k h' hf
  · rw [if_neg n0, if_neg n1, if_neg n2, if_neg n3, if_neg n4, if_pos e] at k
    rw [h'.2.1.1]
    exact KM_fin hV k h' hf
  · rw [if_neg n0, if_neg n1, if_neg n2, if_neg n3, if_neg n4, if_neg n5, if_pos e] at k
    rw [h'.2.2.1.1]
    exact KM_fin hV k h' hf
  · rw [if_neg n0, if_neg n1, if_neg n2, if_neg n3, if_neg n4, if_neg n5, if_neg n6, if_pos e] at k
    exact m_amounts h'.1 hV.1 (KM_fin hV k h' hf)
  · rw [if_neg n0, if_neg n1, if_neg n2, if_neg n3, if_neg n4, if_neg n5, if_neg n6, if_neg n7, if_pos e] at k
    refine m_areCouples hV.1 hg hL hF (fun hp => ⟨by decide, fun h => absurd h (by decide), fun _ => ?_⟩) (fun hp => ⟨by decide, fun _ => ?_, fun h => absurd rfl h⟩)
    · rw [if_pos ((ptwo_iff _ _).1 hp)] at k
      exact KM_fin hV k h' hf
    · rw [if_neg (fun h => hp ((ptwo_iff _ _).2 h))] at k
      exact KM_fin hV k h' hf
  · rw [if_neg n0, if_neg n1, if_neg n2, if_neg n3, if_neg n4, if_neg n5, if_neg n6, if_neg n7, if_neg n8, if_pos e] at k
    exact m_clusters hV.1 hg hL hF (KM_fin hV k h' hf)
  · rw [if_neg n0, if_neg n1, if_neg n2, if_neg n3, if_neg n4, if_neg n5, if_neg n6, if_neg n7, if_neg n8, if_neg n9, if_pos e] at k
    exact m_nets hV.1 h'.1 hg hL hF (fun ζ hf2 hz => KM_fin hV k (MI_fr hV.2.1 hV.2.2 h' (fun t i h => hf2 _ _ _ (by omega))) (jfr_trans hf (jfr_mono hf2 (fun t y i h => by omega))))
  · rw [if_neg n0, if_neg n1, if_neg n2, if_neg n3, if_neg n4, if_neg n5, if_neg n6, if_neg n7, if_neg n8, if_neg n9, if_neg n10] at k
    exact KM_fin hV k h' hf
