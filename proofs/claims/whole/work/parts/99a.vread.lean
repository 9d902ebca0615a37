/-! a line that is read leaves what can be, and goes on -/
def fa (f : TX) (n i : Int) (t : TK) : Prop := wft f n t ∧ i ≤ t.2.2
theorem fa_nx {f : TX} {n i : Int} {t : TK} (h : fa f n i t) : fa f n i (nx f n t.2.2) ∧ ((nx f n t.2.2).1 ≠ 0 → i + 1 ≤ (nx f n t.2.2).2.2) := by
  have w := h.1.2.1
  have h2 := h.2
  have q := nx_wf (f := f) (n := n) (i := t.2.2) ⟨by omega, by omega⟩
  have q2 := q.1.2.1
  exact ⟨⟨q.1, by omega⟩, nx_far h.1 h2⟩
def VL (f : TX) (n i : Int) (s : PS) : Prop := VP f n s ∧ (s.2.2.2.1 ≠ 0 → i + 1 ≤ s.2.2.2.2.2)
theorem VL_sig {f : TX} {n i c : Int} {t t' : TK} {b : BK} {N : Int → Int} {o : Int} (hv : vb b) (hN : nmok b N) (ho : 0 ≤ o ∧ o < 16) (h : fa f n i t) (hs : psig f n c t = .ok t') : VL f n i (b, N, o, t') := by
  have q := (psig_ok hs).1
  have q2 := fa_nx h
  rw [← q] at q2
  exact ⟨⟨hv, hN, ho, q2.1.1⟩, q2.2⟩
theorem fa_sig {f : TX} {n i c : Int} {t t' : TK} (h : fa f n i t) (hs : psig f n c t = .ok t') : fa f n i t' := (psig_ok hs).1 ▸ (fa_nx h).1
theorem vl_pay {f : TX} {n i : Int} {b : BK} {N : Int → Int} {o : Int} {t : TK} {s : PS} (hv : vb b) (hN : nmok b N) (ho : 0 ≤ o ∧ o < 16) (h : fa f n i t) (hp : ppay f n b N o t = .ok s) : VL f n i s := by
  have hm := vb_m hv
  unfold ppay at hp
  split at hp
  · cases hp
  · rename_i h32
    obtain ⟨a, ha, hp⟩ := bind_ok hp
    obtain ⟨t2, h2, hp⟩ := bind_ok hp
    obtain ⟨c, hc, hp⟩ := bind_ok hp
    split at hp
    · cases hp
    · rename_i hac
      obtain ⟨v, h3, hp⟩ := bind_ok hp
      obtain ⟨t4, h4, hp⟩ := bind_ok hp
      obtain ⟨w, h5, hp⟩ := bind_ok hp
      obtain ⟨t6, h6, hp⟩ := bind_ok hp
      cases hp
      have qa := pacc_ok hv ha
      have qc := pacc_ok hv hc
      have qv := pnum_ok h3
      have qw := pnum_ok h5
      have f1 := fa_sig (fa_nx (fa_nx h).1).1 h2
      have f3 : fa f n i v.2 := qv.2.1 ▸ (fa_nx (fa_nx f1).1).1
      have f4 : fa f n i t4 := (pat_ok h4).1 ▸ (fa_nx f3).1
      have f5 : fa f n i w.2 := qw.2.1 ▸ (fa_nx f4).1
      refine VL_sig (vb_pins hv (by omega) qa.1 qc.1 hac qv.1 qw.1) ?_ ho f5 h6
      intro k k0 k1
      exact hN k k0 k1
theorem vl_tru {f : TX} {n i : Int} {b : BK} {N : Int → Int} {o : Int} {t : TK} {s : PS} (hv : vb b) (hN : nmok b N) (ho : 0 ≤ o ∧ o < 16) (h : fa f n i t) (hp : ptru f n b N o t = .ok s) : VL f n i s := by
  have hn := vb_n hv
  unfold ptru at hp
  obtain ⟨a, ha, hp⟩ := bind_ok hp
  split at hp
  · cases hp
  · obtain ⟨t6, h6, hp⟩ := bind_ok hp
    cases hp
    have qa := pacc_ok hv ha
    have q1 := vb_tr hv
    have q2 := bit12 qa.1.1 (by omega)
    have q3 := or_in (n := 12) (by omega) (x := b 5 2) (y := jshl 1 a) ⟨q1.1, q1.2⟩ ⟨q2.1, q2.2⟩
    refine VL_sig (vb_one_tr hv ⟨q3.1, q3.2⟩) (fun k k0 k1 => ?_) ho (fa_nx (fa_nx h).1).1 h6
    rw [pone_ne (by omega)] at k1
    exact hN k k0 k1
theorem vl_bnd {f : TX} {n i j : Int} {b : BK} {N : Int → Int} {o : Int} {t : TK} {s : PS} (hj : 0 ≤ j ∧ j ≤ 3) (hv : vb b) (hN : nmok b N) (ho : 0 ≤ o ∧ o < 16) (h : fa f n i t) (hp : pbnd f n b N o t j = .ok s) : VL f n i s := by
  unfold pbnd at hp
  split at hp
  · cases hp
  · split at hp
    · split at hp
      · rename_i hpb
        obtain ⟨t6, h6, hp⟩ := bind_ok hp
        cases hp
        have q2 := bit4 hj.1 (by omega)
        have q3 := or_in (n := 4) (by omega) (x := o) (y := jshl 1 j) ⟨ho.1, ho.2⟩ ⟨q2.1, q2.2⟩
        refine VL_sig (vb_one_b hv hpb) (fun k k0 k1 => ?_) ⟨q3.1, q3.2⟩ (fa_nx (fa_nx h).1).1 h6
        rw [pone_ne (by omega)] at k1
        exact hN k k0 k1
      · cases hp
    · cases hp
theorem vl_nms {f : TX} {n i : Int} {o : Int} {s : PS} (ho : 0 ≤ o ∧ o < 16) : ∀ (k : Nat) {b : BK} {N : Int → Int} {t : TK}, vb b → nmok b N → fa f n i t → pnms f n o k b N t = .ok s → VL f n i s
  | 0, b, N, t, hv, hN, h, hp => by
    obtain ⟨t6, h6, hp⟩ := bind_ok (p := psig f n 59 t) hp
    cases hp
    exact VL_sig hv hN ho h h6
  | k + 1, b, N, t, hv, hN, h, hp => by
    unfold pnms at hp
    split at hp
    · rename_i h1
      split at hp
      · rename_i hi
        split at hp
        · split at hp
          · cases hp
          · rename_i hb
            exact vl_nms ho k (vb_add hv hb) (nmok_add hN (nmt_in h.1 h1 hi.2)) (fa_nx h).1 hp
        · cases hp
      · cases hp
    · obtain ⟨t6, h6, hp⟩ := bind_ok hp
      cases hp
      exact VL_sig hv hN ho h h6
theorem vl_line {f : TX} {n : Int} {b : BK} {N : Int → Int} {o : Int} {t : TK} {s : PS} (hv : vb b) (hN : nmok b N) (ho : 0 ≤ o ∧ o < 16) (hw : wft f n t) (hp : pline f n b N o t = .ok s) : VL f n t.2.2 s := by
  have h : fa f n t.2.2 t := ⟨hw, Int.le_refl _⟩
  unfold pline at hp
  split at hp
  · split at hp
    · exact vl_pay hv hN ho h hp
    · split at hp
      · exact vl_tru hv hN ho h hp
      · split at hp
        · rename_i hj
          exact vl_bnd hj hv hN ho h hp
        · exact vl_nms ho _ hv hN h hp
  · cases hp
theorem vl_lns {f : TX} {n : Int} {s : PS} : ∀ (k : Nat) {b : BK} {N : Int → Int} {o : Int} {t : TK}, vb b → nmok b N → (0 ≤ o ∧ o < 16) → wft f n t → plns f n k b N o t = .ok s → VP f n s
  | 0, b, N, o, t, hv, hN, ho, hw, hp => by
    cases hp
    exact ⟨hv, hN, ho, hw⟩
  | k + 1, b, N, o, t, hv, hN, ho, hw, hp => by
    unfold plns at hp
    split at hp
    · cases hp
      exact ⟨hv, hN, ho, hw⟩
    · obtain ⟨s2, h2, hp⟩ := bind_ok hp
      have q := (vl_line hv hN ho hw h2).1
      exact vl_lns k q.1 q.2.1 q.2.2.1 q.2.2.2 hp
theorem nmok0 : nmok bk0 (fun _ => 0) := fun k k0 k1 => by
  have : bk0 5 0 = 0 := rfl
  omega
theorem vl_parse {f : TX} {n : Int} {s : PS} (hn : 0 ≤ n) (hp : pparse f n = .ok s) : vb s.1 := (vl_lns _ vb_bk0 nmok0 ⟨by omega, by omega⟩ (nx_wf ⟨by omega, hn⟩).1 hp).1
/-! the class's lines -/
section
variable {d : Nat} {f : TX} {n : Int} {b : BK} {N : Int → Int} {o : Int} {t : TK} {z ν : JM} {Q : JQ}
/-- what a line of the class's ends with -/
theorem PK_mono {Q' : JQ} {p : Except PF PS} (h : PK z f n Q p) (h1 : ∀ x ξ, p = .error x → RF z x ξ → Q 0 ξ → Q' 0 ξ) (h2 : ∀ s ξ, p = .ok s → RD z f n s.1 s.2.1 s.2.2.1 s.2.2.2 ξ → Q 0 ξ → Q' 0 ξ) : PK z f n Q' p := by
  cases p with
  | error x => exact fun ξ hf => h1 x ξ rfl hf (h ξ hf)
  | ok s => exact fun ξ hf => h2 s ξ rfl hf (h ξ hf)
theorem c_linesLoop {a1 : Int} (hto : okt f n) : ∀ (k : Nat) (i : Int) (b : BK) (N : Int → Int) (o : Int) (t : TK) (ν : JM), i + (k : Int) = n + 1 → 0 ≤ i → (t.1 ≠ 0 → i + 1 ≤ t.2.2) → vb b → nmok b N → (0 ≤ o ∧ o < 16) → wft f n t → RD z f n b N o t ν → PK z f n Q (plns f n k b N o t) → wp true (d + 5) 69 54 [(20, 0), (0, a1), (0, i)] [] ν Q
  | 0, i, b, N, o, t, ν, hk, hi, he, hv, hN, ho, hw, h, K => by
    have hn := hto.1
    refine s_X7_read_54 (d + 4) _ _ _ _ ?_
    rw [h.2.1.1]
    exact ⟨⟨⟨by omega, by omega⟩, ⟨by omega, by omega⟩⟩, fun _ => K ν h, fun hh => absurd (by omega) hh⟩
  | k + 1, i, b, N, o, t, ν, hk, hi, he, hv, hN, ho, hw, h, K => by
    have hn := hto.1
    have hw' := hw.2.1
    have hr := hw.1
    have K : PK z f n Q (if t.1 = 0 then .ok (b, N, o, t) else (pline f n b N o t).bind fun s => plns f n k s.1 s.2.1 s.2.2.1 s.2.2.2) := K
    have after : ∀ x ξ, RF z x ξ → Q 0 ξ → wp true (d + 5) 69 54 [(20, 0), (0, a1), (0, (i + 1))] [] ξ Q := by
      intro x ξ hf hq
      refine s_X7_read_54 (d + 4) _ _ _ _ ?_
      have e6 : ξ 20 0 6 = n := (hf.1 _ _ _ (by omega)).trans ((h.1 _ _ _ (by omega)).symm.trans h.2.1.1)
      have hx := hf.2.2.2
      rw [e6, hf.2.1]
      exact ⟨⟨⟨by omega, by omega⟩, ⟨by omega, by omega⟩⟩, fun _ => hq, fun _ => ⟨Or.inr ⟨⟨by omega, by omega⟩, ⟨by omega, by omega⟩⟩, fun _ => hq, fun h => absurd (by omega) h⟩⟩
    refine s_X7_read_54 (d + 4) _ _ _ _ ?_
    rw [h.2.1.1, h.2.2.2.1.1, h.2.2.2.2.2.2.1]
    refine ⟨⟨⟨by omega, by omega⟩, ⟨by omega, by omega⟩⟩, fun hh => absurd hh (by omega), fun _ => ⟨Or.inl rfl, fun h => absurd rfl h, fun _ => ⟨Or.inr ⟨⟨by omega, by omega⟩, ⟨by omega, by omega⟩⟩, fun e0 => ?_, fun n0 => ?_⟩⟩⟩
    · rw [if_pos e0] at K
      exact K ν h
    · rw [if_neg n0] at K
      have he1 := he n0
      have LK : PK z f n (fun _ ξ => wp true (d + 5) 69 54 [(20, 0), (0, a1), (0, (i + 1))] [] ξ Q) (pline f n b N o t) := by
        cases hl : pline f n b N o t with
        | error x =>
          rw [hl] at K
          exact fun ξ hf => after x ξ hf (K ξ hf)
        | ok s =>
          rw [hl] at K
          have q := vl_line hv hN ho hw hl
          have q2 := q.1.2.2.2.2.1
          exact fun ξ hx => c_linesLoop hto k (i + 1) _ _ _ _ ξ (by omega) (by omega) (fun h => by have := q.2 h; omega) q.1.1 q.1.2.1 q.1.2.2.1 q.1.2.2.2 hx K
      unfold pline at LK
      refine c_stands (d := d + 3) hw ⟨by omega, by omega⟩ h (fun e1 => ⟨by decide, fun _ => ?_, fun h => absurd (by decide) h⟩) (fun n1 ξ hf => ⟨by decide, fun h => absurd rfl h, fun _ => ?_⟩)
      · rw [if_pos e1] at LK
        have kr := kwt_in f t
        rw [(h.2.2.2.1.2.2.2 e1).1]
        refine ⟨⟨by omega, by omega⟩, fun e => ?_, fun n0 => ⟨fun e => ?_, fun n1 => ⟨fun e => ?_, fun n2 => ⟨fun e => ?_, fun n3 => ⟨fun e => ?_, fun n4 => ⟨fun e => ?_, fun n5 => ?_⟩⟩⟩⟩⟩⟩
        · rw [if_neg (by omega), if_neg (by omega), if_pos (by omega)] at LK
          exact c_readBound (d := d) ⟨by omega, by omega⟩ hto hw h e1 LK
        · rw [if_neg (by omega), if_neg (by omega), if_pos (by omega)] at LK
          exact c_readBound (d := d) ⟨by omega, by omega⟩ hto hw h e1 LK
        · rw [if_neg (by omega), if_neg (by omega), if_pos (by omega)] at LK
          exact c_readBound (d := d) ⟨by omega, by omega⟩ hto hw h e1 LK
        · rw [if_neg (by omega), if_neg (by omega), if_pos (by omega)] at LK
          exact c_readBound (d := d) ⟨by omega, by omega⟩ hto hw h e1 LK
        · rw [if_pos e] at LK
          exact c_readPay (d := d) hto hw e1 h hv hN LK
        · rw [if_neg (by omega), if_pos e] at LK
          exact c_readTrust (d := d) hto hw h hv hN LK
        · rw [if_neg (by omega), if_neg (by omega), if_neg (by omega)] at LK
          exact c_readNames (d := d) hto hw (fun h => by have := he h; omega) h hv hN LK
      · rw [if_neg n1] at LK
        have q := LK ξ hf
        have hx := hf.2.2.2
        have e6 : ξ 20 0 6 = n := (hf.1 _ _ _ (by omega)).trans ((h.1 _ _ _ (by omega)).symm.trans h.2.1.1)
        unfold pline at K
        rw [if_neg n1] at K
        exact K ξ hf
/-- the tape, and what is told of faults -/
def TC (T : Int) (g : Int → Int) (ν : JM) : Prop := ν 20 0 1 = T ∧ ∀ i, 0 ≤ i → i < T → ν 29 0 i = g i
def okg (T : Int) (g : Int → Int) : Prop := (0 ≤ T ∧ T ≤ 800) ∧ ∀ i, 0 ≤ i → i < T → -128 ≤ g i ∧ g i < 128
def txt (g : Int → Int) : TX := fun i => jand (g i) 255
theorem and255 (x : Int) : 0 ≤ jand x 255 ∧ jand x 255 ≤ 255 := by
  have e : jand x 255 = (((BitVec.ofInt 32 x).toNat % 256 : Nat) : Int) := by
    rw [jand_bv, show BitVec.ofInt 32 255 = BitVec.ofNat 32 255 by decide]
    have : BitVec.ofInt 32 x &&& BitVec.ofNat 32 255 = BitVec.ofNat 32 ((BitVec.ofInt 32 x).toNat % 256) := by
      apply BitVec.eq_of_toNat_eq
      rw [BitVec.toNat_and, BitVec.toNat_ofNat, BitVec.toNat_ofNat, Nat.mod_eq_of_lt (show 255 < 2 ^ 32 by decide), Nat.mod_eq_of_lt (show (BitVec.ofInt 32 x).toNat % 256 < 2 ^ 32 by omega)]
      exact Nat.and_two_pow_sub_one_eq_mod (BitVec.ofInt 32 x).toNat 8
    rw [this, BitVec.toInt_eq_toNat_of_lt (by rw [BitVec.toNat_ofNat]; omega), BitVec.toNat_ofNat]
    omega
  rw [e]
  omega
theorem okt_txt {T : Int} {g : Int → Int} {n : Int} (h : okg T g) (hn : 0 ≤ n ∧ n ≤ T) : okt (txt g) n := by
  have h1 := h.1
  exact ⟨⟨hn.1, by omega⟩, fun i _ _ => and255 _⟩
abbrev PRr : Nat → Int → Int → Prop := fun t y i => (t = 20 ∧ y = 0) ∨ (t = 28 ∧ y = 0) ∨ ((12 ≤ t ∧ t ≤ 17) ∧ y = 1)
theorem c_read {T : Int} {g : Int → Int} (hg : okg T g) (hn : 0 ≤ n ∧ n ≤ T) (hT : TC T g ν) (kb : ∀ x, pparse (txt g) n = .error x → ∀ ξ, jfr PRr ν ξ → ξ 20 0 1 = 0 → ξ 20 0 2 = x.1 → ξ 20 0 3 = x.2 → 1 ≤ x.1 → x.1 ≤ 6 → Q 0 ξ) (kg : ∀ s, pparse (txt g) n = .ok s → ∀ ξ, jfr PRr ν ξ → ξ 20 0 1 = 0 → ξ 20 0 2 = 0 → ξ 20 0 3 = -1 → isC ξ 1 s.1 → Q 0 ξ) : wp true (d + 5) 69 0 [(20, 0), (0, n), (9, 0)] [] ν Q := by
  have hg1 := hg.1
  have ho := okt_txt hg hn
  have e6 : jmax 0 (jmin n T) = n := by
    have e1 : jmin n T = n := by
      unfold jmin
      rw [if_neg (by omega)]
    rw [e1]
    unfold jmax
    split <;> omega
  refine s_X7_read_0 (d + 4) _ _ _ ?_
  rw [hT.1, e6]
  refine ⟨⟨by omega, by omega⟩, ⟨by omega, by omega⟩, ⟨by omega, by omega⟩, ?_, c_wipe (fun ξ1 hf1 hC1 => ?_)⟩
  · unfold jmin
    split <;> exact ⟨by omega, by omega⟩
  · generalize eM : jw (jw (jw (jw ξ1 20 0 7 0) 20 0 2 0) 20 0 3 (-1)) 20 0 10 0 = M
    have g0 : ∀ t y i, ¬ (t = 20 ∧ y = 0 ∧ (i = 7 ∨ i = 2 ∨ i = 3 ∨ i = 10)) → M t y i = ξ1 t y i := fun t y i h => by
      rw [← eM]
      unfold jw
      rw [if_neg (by omega), if_neg (by omega), if_neg (by omega), if_neg (by omega)]
    have m7 : M 20 0 7 = 0 := by rw [← eM, jw_i (by omega), jw_i (by omega), jw_i (by omega), jw_eq]
    have m2 : M 20 0 2 = 0 := by rw [← eM, jw_i (by omega), jw_i (by omega), jw_eq]
    have m3 : M 20 0 3 = -1 := by rw [← eM, jw_i (by omega), jw_eq]
    have m10 : M 20 0 10 = 0 := by rw [← eM, jw_eq]
    have m6 : M 20 0 6 = n := by rw [g0 _ _ _ (by omega), hf1 _ _ _ (by omega), jw_i (by omega), jw_eq]
    have m1 : M 20 0 1 = 0 := by rw [g0 _ _ _ (by omega), hf1 _ _ _ (by omega), jw_eq]
    have hTx : TXc (txt g) n M := ⟨m6, fun i i0 i1 => by rw [g0 _ _ _ (by omega), hf1 _ _ _ (by omega), jw_t (by omega), jw_t (by omega), hT.2 i i0 (by omega)]; rfl⟩
    have hf : jfr PRr ν M := by
      intro t y i hp
      rw [g0 _ _ _ (by omega), hf1 _ _ _ (by omega)]
      unfold jw
      rw [if_neg (by omega), if_neg (by omega)]
    refine c_advance (d := d + 2) ho hTx ⟨Int.le_refl _, hn.1⟩ m10 (fun ξ2 hf2 hc2 => ?_)
    have w2 := (nx_wf (f := txt g) (n := n) (i := 0) ⟨by omega, hn.1⟩).1
    have hR : RD M (txt g) n bk0 (fun _ => 0) 0 (nx (txt g) n 0) ξ2 := ⟨jfr_mono hf2 (fun t y i h => by omega), TXc_fr hTx (hf2 _ _ _ (by omega)) (fun i => hf2 _ _ _ (by omega)), isC_fr hC1 (fun t _ _ i => by rw [hf2 _ _ _ (by omega), g0 _ _ _ (by omega)]), hc2, (hf2 _ _ _ (by omega)).trans m7, fun k k0 k1 => by have : bk0 5 0 = 0 := rfl; omega, (hf2 _ _ _ (by omega)).trans m2, (hf2 _ _ _ (by omega)).trans m3⟩
    refine c_linesLoop (d := d) ho (n.toNat + 1) 0 bk0 (fun _ => 0) 0 (nx (txt g) n 0) ξ2 (by omega) (Int.le_refl _) (fun h => ?_) vb_bk0 nmok0 ⟨by omega, by omega⟩ w2 hR ?_
    · have := w2.2.2.1 h
      have := w2.2.1
      omega
    · cases hp : pparse (txt g) n with
      | error x =>
        have hp' : plns (txt g) n (n.toNat + 1) bk0 (fun _ => 0) 0 (nx (txt g) n 0) = .error x := hp
        rw [hp']
        exact fun ξ hx => kb x hp ξ (jfr_trans hf (jfr_mono hx.1 (fun t y i h => by omega))) ((hx.1 _ _ _ (by omega)).trans m1) hx.2.1 hx.2.2.1 hx.2.2.2.1 hx.2.2.2.2
      | ok s =>
        have hp' : plns (txt g) n (n.toNat + 1) bk0 (fun _ => 0) 0 (nx (txt g) n 0) = .ok s := hp
        rw [hp']
        exact fun ξ hx => kg s hp ξ (jfr_trans hf (jfr_mono hx.1 (fun t y i h => by omega))) ((hx.1 _ _ _ (by omega)).trans m1) hx.2.2.2.2.2.2.1 hx.2.2.2.2.2.2.2 hx.2.2.1
end
