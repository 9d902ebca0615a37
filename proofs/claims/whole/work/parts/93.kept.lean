/-! how much was kept, how fast, how suspicious -/
abbrev pkt (b : BK) (r : List Int) : Int := jfdiv (ji2f (b 3 (rls r))) (ji2f (b 3 (rst r)))
def psm (b : BK) (r : List Int) : Nat → Int
  | 0 => 0
  | n + 1 => psm b r n + b 3 (r.getD n 0)
abbrev ppc (b : BK) (r : List Int) : Int := jfdiv (ji2f (psm b r r.length)) (jfadd (ji2f (spr b r)) (jfc 1))
abbrev pht2 (b : BK) (F : LL) (a : Int) : Int := jfdiv (ji2f (pct b F (mem12 a) F.length)) (jfadd (ji2f (pcount b 0 a + pcount b 1 a)) (jfc 1))
theorem pcount_in2 {b : BK} (hv : vb b) (s : Nat) (a : Int) : 0 ≤ pcount b s a ∧ pcount b s a ≤ 32 := by
  have hm := vb_m hv
  have := fup_inv (g := fun c t => c + if b s t = a then 1 else 0) (fun i (c : Int) => 0 ≤ c ∧ c ≤ i) (lo := 0) (n := b 5 1) (fun i c h0 h1 hc => by
    have hc' : 0 ≤ c ∧ c ≤ i := hc
    show 0 ≤ c + (if b s i = a then 1 else 0) ∧ c + (if b s i = a then 1 else 0) ≤ i + 1
    split <;> omega) (nm b) 0 0 (Int.le_refl _) (nm_eq hv) ⟨Int.le_refl _, Int.le_refl _⟩
  have h2 : 0 ≤ pcount b s a ∧ pcount b s a ≤ b 5 1 := this
  omega
theorem psm_in {b : BK} (hv : vb b) {r : List Int} (h : gr b r) : ∀ n : Nat, n ≤ r.length → 0 ≤ psm b r n ∧ psm b r n ≤ 9999 * n
  | 0, _ => ⟨Int.le_refl _, Int.le_refl _⟩
  | n + 1, hn => by
    have ih := psm_in hv h n (by omega)
    have i := gr_get h (i := n) (by omega)
    have t := vb_t hv i.1 i.2
    have e : psm b r (n + 1) = psm b r n + b 3 (r.getD n 0) := rfl
    rw [e]
    omega
theorem pkt_ok {b : BK} (hv : vb b) {r : List Int} (h : gr b r) : fok (pkt b r) ∧ jnn (FP.fdiv (jf (ji2f (b 3 (rls r)))) (jf (ji2f (b 3 (rst r))))) := by
  have i1 := rls_in h
  have i2 := rst_in h
  have t1 := vb_t hv i1.1 i1.2
  have t2 := vb_t hv i2.1 i2.2
  obtain ⟨E, T, hy, hE⟩ := fl_i2f (n := b 3 (rst r)) (by omega)
  exact fl_div (by omega) hy (by omega)
theorem ppc_ok {b : BK} (hv : vb b) {r : List Int} (h : gr b r) : fok (ppc b r) ∧ jnn (FP.fadd (jf (ji2f (spr b r))) (jf (jfc 1))) ∧ jnn (FP.fdiv (jf (ji2f (psm b r r.length))) (jf (jfadd (ji2f (spr b r)) (jfc 1)))) := by
  have s := psm_in hv h r.length (Nat.le_refl _)
  have l := gr_len h
  have p := spr_nn hv h
  obtain ⟨⟨E, T, hy, hE⟩, hn⟩ := fl_add1 (n := spr b r) ⟨p.1, by omega⟩
  have q := fl_div (n := psm b r r.length) (by omega) hy hE
  exact ⟨q.1, hn, q.2⟩
theorem pht2_ok {b : BK} (hv : vb b) {F : LL} (hF : F.length ≤ 12000) (a : Int) : fok (pht2 b F a) ∧ jnn (FP.fadd (jf (ji2f (pcount b 0 a + pcount b 1 a))) (jf (jfc 1))) ∧ jnn (FP.fdiv (jf (ji2f (pct b F (mem12 a) F.length))) (jf (jfadd (ji2f (pcount b 0 a + pcount b 1 a)) (jfc 1)))) := by
  have c0 := pcount_in2 hv 0 a
  have c1 := pcount_in2 hv 1 a
  have p := pct_in b F (mem12 a) F.length
  obtain ⟨⟨E, T, hy, hE⟩, hn⟩ := fl_add1 (n := pcount b 0 a + pcount b 1 a) (by omega)
  have q := fl_div (n := pct b F (mem12 a) F.length) (by omega) hy hE
  exact ⟨q.1, hn, q.2⟩
theorem c_keptOf {d : Nat} {b : BK} {F : LL} {ν : JM} {Q : JQ} (hv : vb b) (hC : isC ν 2 b) (hR : RC F ν) (hg : gd b F) {r : Int} (hr : 0 ≤ r ∧ r < (F.length : Int)) (k : Q (pkt b (F.getD r.toNat [])) ν) : wp true (d + 2) 108 0 [(22, 0), (0, r), (9, 0)] [] ν Q := by
  have hm := vb_m hv
  have g := gd_get hg (r := r.toNat) (by omega)
  have gl := gr_len g
  have i1 := rls_in g
  have i2 := rst_in g
  have t1 := isC_t hC i1.1 i1.2
  have t2 := isC_t hC i2.1 i2.2
  have v2 := vb_t hv i2.1 i2.2
  have ok := pkt_ok hv g
  refine s_X8_keptOf_0 (d + 1) _ _ _ (w_transferAt hv hR hg hr ⟨by omega, by omega⟩ ?_)
  rw [show (F.getD r.toNat []).getD (0 : Int).toNat 0 = rst (F.getD r.toNat []) from rfl, t2.2.2.2]
  refine ⟨i2.1, by omega, ⟨⟨by omega, by omega⟩, ⟨by omega, by omega⟩⟩, fun _ => w_lastOf hv hR hg hr ?_, fun h => absurd (by omega) h⟩
  rw [t1.2.2.2]
  exact ⟨i1.1, by omega, ok.2, k⟩
theorem c_paceOf {d : Nat} {b : BK} {F : LL} {ν : JM} {Q : JQ} (hv : vb b) (hC : isC ν 2 b) (hR : RC F ν) (hg : gd b F) {r : Int} (hr : 0 ≤ r ∧ r < (F.length : Int)) (k : Q (ppc b (F.getD r.toNat [])) ν) : wp true (d + 4) 109 0 [(22, 0), (0, r), (9, 0), (9, 0), (9, 0)] [] ν Q := by
  have hm := vb_m hv
  have g := gd_get hg (r := r.toNat) (by omega)
  have gl := gr_len g
  have ok := ppc_ok hv g
  refine s_X8_paceOf_0 (d + 3) _ _ _ (w_lengthOf hv hR hg hr (nlp (W := fun i c => wp true (d + 4) 109 11 [(22, 0), (0, r), (0, ((F.getD r.toNat []).length : Int)), (0, c), (0, i)] [] ν Q) (f := psm b (F.getD r.toNat [])) (N := (F.getD r.toNat []).length) (fun n hn hW => ?_) ?_))
  · have i := gr_get g hn
    have t := isC_t hC i.1 i.2
    refine s_X8_paceOf_11 (d + 3) _ _ _ _ _ _ ⟨⟨⟨by omega, by omega⟩, ⟨by omega, by omega⟩⟩, fun h => absurd h (by omega), fun _ => w_transferAt hv hR hg hr ⟨by omega, by omega⟩ ?_⟩
    rw [show ((n : Int)).toNat = n from rfl, t.2.2.2]
    exact ⟨i.1, by omega, hW⟩
  · exact s_X8_paceOf_11 (d + 3) _ _ _ _ _ _ ⟨⟨⟨by omega, by omega⟩, ⟨by omega, by omega⟩⟩, fun _ => w_spanOf hv hC hR hg hr ⟨ok.2.1, ok.2.2, k⟩, fun h => absurd (Int.le_refl _) h⟩
theorem c_heatOf {d : Nat} {b : BK} {F : LL} {ν : JM} {Q : JQ} (hv : vb b) (hC : isC ν 0 b) (hR : RS b F ν) (hF : F.length ≤ 12000) {a : Int} (ha : 0 ≤ a ∧ a < 12) (k : Q (pht2 b F a) ν) : wp true (d + 2) 183 0 [(11, 0), (22, 0), (0, a), (9, 0)] [] ν Q := by
  have ok := pht2_ok hv hF a
  refine s_X10_heatOf_0 (d + 1) _ _ _ (c_countAt hC hv ⟨by omega, by omega⟩ (Or.inr rfl) (c_countAt hC hv ⟨by omega, by omega⟩ (Or.inl rfl) ?_))
  rw [hR.2.2.2.2.2.2.2.2 a ha.1 ha.2, if_pos rfl, if_neg (by decide)]
  exact ⟨ha.1, ha.2, ok.2.1, ok.2.2, k⟩
theorem m_pace {d : Nat} {b : BK} {F : LL} {ν : JM} {Q : JQ} (hv : vb b) (hM : isM ν b) (hg : gd b F) (hL : ML b F ν) (hF : F.length ≤ 12000) {r : Int} (hr : 0 ≤ r ∧ r < (F.length : Int)) (k : Q (ppc b (F.getD r.toNat [])) ν) : wp true (d + 3) 234 0 [(40, 0), (0, r), (9, 0), (9, 0)] [] ν Q := by
  have hm := vb_m hv
  have row := ML_row hv hM hg hL hr
  have rl := LM_row hL.1 hr
  have g := gd_get hg (r := r.toNat) (by omega)
  have gl := gr_len g
  have ok := ppc_ok hv g
  have es : b 2 (rls (F.getD r.toNat [])) - b 2 (rst (F.getD r.toNat [])) = spr b (F.getD r.toNat []) := rfl
  refine s_X11_pace_0 _ _ _ _ (nlp (W := fun i c => wp true (d + 3) 234 4 [(40, 0), (0, r), (0, c), (0, i)] [] ν Q) (f := psm b (F.getD r.toNat [])) (N := (F.getD r.toNat []).length) (fun n hn hW => ?_) ?_)
  · have i := gr_get g hn
    have t := isM_t hM i.1 i.2
    have e := rl.2.2.2 (n : Int) (by omega) (by omega)
    rw [show ((n : Int)).toNat = n from rfl] at e
    refine s_X11_pace_4 _ _ _ _ _ _ ?_
    rw [row.1, e, t.2.2.2]
    exact ⟨by omega, by omega, ⟨⟨by omega, by omega⟩, ⟨by omega, by omega⟩⟩, fun h => absurd h (by omega), fun _ => ⟨by omega, by omega, by omega, by omega, hW⟩⟩
  · refine s_X11_pace_4 _ _ _ _ _ _ ?_
    rw [row.1, row.2.2.1, row.2.2.2.1, row.2.2.2.2.2.2.1, row.2.2.2.2.2.2.2.1, es]
    have j1 := row.2.2.2.2.1
    have j2 := row.2.2.2.2.2.1
    exact ⟨by omega, by omega, ⟨⟨by omega, by omega⟩, ⟨by omega, by omega⟩⟩, fun _ => ⟨by omega, by omega, by omega, by omega, by omega, by omega, by omega, by omega, by omega, by omega, ok.2.1, ok.2.2, k⟩, fun h => absurd (Int.le_refl _) h⟩
theorem m_heatOf {d : Nat} {b : BK} {F : LL} {ν : JM} {Q : JQ} (hv : vb b) (hM : isM ν b) (hg : gd b F) (hL : ML b F ν) (hF : F.length ≤ 12000) {a : Int} (ha : 0 ≤ a ∧ a < 12) (k : Q (pht2 b F a) ν) : wp true (d + 3) 278 0 [(40, 0), (0, a)] [] ν Q := by
  have ok := pht2_ok hv hF a
  refine s_X11_heatOf_0 (d + 2) _ _ _ (m_roundsOf (d := d + 1) hv hg hL hF ⟨ha.1, by omega⟩ (m_sideOf (d := d) hM hv ⟨by omega, by omega⟩ (Or.inl rfl) (Or.inl rfl) (m_sideOf (d := d) hM hv ⟨by omega, by omega⟩ (Or.inr rfl) (Or.inl rfl) ?_)))
  rw [if_neg (by decide), if_neg (by decide)]
  exact ⟨ok.2.1, ok.2.2, k⟩
