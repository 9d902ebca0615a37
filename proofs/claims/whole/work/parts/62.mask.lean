/-! sets of accounts as numbers -/
def pmk (l : List Int) : Int := l.foldl (fun s a => jor s (jshl 1 a)) 0
theorem pmk_aux : ∀ (l : List Int) (s : Int), small l → inR s → inR (l.foldl (fun s a => jor s (jshl 1 a)) s) ∧ ∀ j : Nat, j < 32 → (bt (l.foldl (fun s a => jor s (jshl 1 a)) s) j = true ↔ bt s j = true ∨ (j : Int) ∈ l)
  | [], s, _, hs => ⟨hs, fun j _ => by simp⟩
  | a :: l, s, h, hs => by
    have ha := h a (List.mem_cons_self ..)
    have ih := pmk_aux l (jor s (jshl 1 a)) (fun x hx => h x (List.mem_cons_of_mem _ hx)) (inR_or _ _)
    refine ⟨ih.1, fun j hj => ?_⟩
    show bt (l.foldl (fun s a => jor s (jshl 1 a)) (jor s (jshl 1 a))) j = true ↔ _
    rw [ih.2 j hj, bt_or, Bool.or_eq_true, bt_bitz ha.1 (by omega), List.mem_cons]
    constructor
    · rintro ((h1 | h1) | h1)
      · exact Or.inl h1
      · exact Or.inr (Or.inl (by have := of_decide_eq_true h1; omega))
      · exact Or.inr (Or.inr h1)
    · rintro (h1 | h1 | h1)
      · exact Or.inl (Or.inl h1)
      · exact Or.inl (Or.inr (decide_eq_true (by omega)))
      · exact Or.inr h1
theorem pmk_bt {l : List Int} (h : small l) : inR (pmk l) ∧ ∀ j : Nat, j < 32 → (bt (pmk l) j = true ↔ (j : Int) ∈ l) := by
  have := pmk_aux l 0 h ⟨by omega, by omega⟩
  refine ⟨this.1, fun j hj => ?_⟩
  rw [show pmk l = l.foldl (fun s a => jor s (jshl 1 a)) 0 from rfl, this.2 j hj, bt_zero]
  simp
theorem pmk_uniq {l : List Int} (h : small l) {s : Int} (hs : inR s) (hb : ∀ j : Nat, j < 32 → (bt s j = true ↔ (j : Int) ∈ l)) : s = pmk l := by
  have p := pmk_bt h
  refine bt_ext hs p.1 (fun j hj => ?_)
  have h1 := hb j hj
  have h2 := p.2 j hj
  cases e1 : bt s j <;> cases e2 : bt (pmk l) j
  · rfl
  · exact absurd (h1.mpr (h2.mp e2)) (by rw [e1]; decide)
  · exact absurd (h2.mpr (h1.mp e1)) (by rw [e2]; decide)
  · rfl
theorem pmk_in {l : List Int} (h : small l) : 0 ≤ pmk l ∧ pmk l < 4096 := by
  have p := pmk_bt h
  refine tr_of p.1 (fun k hk hk2 => ?_)
  cases e : bt (pmk l) k with
  | false => rfl
  | true =>
    have := h _ ((p.2 k hk2).mp e)
    omega
/-- the accounts of alarm a of all -/
abbrev ral (b : BK) (F : LL) (a : Int) : List Int := (pal b F F.length).getD a.toNat []
abbrev nal (b : BK) (F : LL) : Int := ((pal b F F.length).length : Int)
theorem ral_sm {b : BK} (hv : vb b) {F : LL} (hg : gd b F) {a : Int} (ha : 0 ≤ a ∧ a < nal b F) : small (ral b F a) ∧ (ral b F a).length ≤ 5 := pal_sml hv hg (Nat.le_refl _) _ (gdl_mem (by have e : nal b F = ((pal b F F.length).length : Int) := rfl; omega))
theorem nal_in (b : BK) (F : LL) (hF : F.length ≤ 12000) : 0 ≤ nal b F ∧ nal b F ≤ 12000 := by
  have := pal_len b F F.length
  have e : nal b F = ((pal b F F.length).length : Int) := rfl
  omega
/-- what the class's alarm rows say -/
theorem RS_al {b : BK} {F : LL} {ν : JM} (hv : vb b) (hg : gd b F) (h : RS b F ν) {a : Int} (ha : 0 ≤ a ∧ a < nal b F) : (1 ≤ ν 27 0 3 ∧ a < ν 51 (ν 27 0 3 - 1) 0 ∧ ν 50 (ν 27 0 3 - 1) a = pcode (ral b F a)) ∧ (1 ≤ ν 27 0 4 ∧ a < ν 51 (ν 27 0 4 - 1) 0 ∧ ν 50 (ν 27 0 4 - 1) a = pmk (ral b F a)) ∧ (1 ≤ ν 27 0 5 ∧ a < ν 51 (ν 27 0 5 - 1) 0 ∧ ν 50 (ν 27 0 5 - 1) a = pcn b F (ral b F a) F.length) ∧ (1 ≤ ν 27 0 6 ∧ a < ν 51 (ν 27 0 6 - 1) 0 ∧ ν 50 (ν 27 0 6 - 1) a = pwi b F (ral b F a) F.length) ∧ (1 ≤ ν 27 0 8 ∧ a < ν 51 (ν 27 0 8 - 1) 0 ∧ ν 50 (ν 27 0 8 - 1) a = pfl b F (ral b F a) F.length) ∧ 1 ≤ ν 27 0 9 ∧ a < ν 51 (ν 27 0 9 - 1) 0 ∧ 0 ≤ ν 50 (ν 27 0 9 - 1) a ∧ ν 50 (ν 27 0 9 - 1) a ≤ ν 27 0 10 := by
  obtain ⟨_, _, ⟨cp, ca, hN, _, hc⟩, hA, _⟩ := h
  have en : nal b F = ((pal b F F.length).length : Int) := rfl
  have q := hA.2 a.toNat (by omega)
  rw [show ((a.toNat : Nat) : Int) = a by omega] at q
  have n3 := JN_a hN 3 (by omega)
  have n4 := JN_a hN 4 (by omega)
  have n5 := JN_a hN 5 (by omega)
  have n6 := JN_a hN 6 (by omega)
  have n8 := JN_a hN 8 (by omega)
  have n9 := JN_a hN 9 (by omega)
  have hlt : a < ca := by omega
  refine ⟨⟨n3.1, lt_of_lt_of_eq hlt n3.2.symm, q.1⟩, ⟨n4.1, lt_of_lt_of_eq hlt n4.2.symm, pmk_uniq (ral_sm hv hg ha).1 q.2.1.1 q.2.1.2⟩, ⟨n5.1, lt_of_lt_of_eq hlt n5.2.symm, q.2.2.1⟩, ⟨n6.1, lt_of_lt_of_eq hlt n6.2.symm, q.2.2.2.1⟩, ⟨n8.1, lt_of_lt_of_eq hlt n8.2.symm, q.2.2.2.2.1⟩, n9.1, lt_of_lt_of_eq hlt n9.2.symm, q.2.2.2.2.2⟩
/-- what the reference's rows say of an alarm -/
theorem ML_al {b : BK} {F : LL} {ν : JM} (hv : vb b) (hg : gd b F) (h : ML b F ν) {a : Int} (ha : 0 ≤ a ∧ a < nal b F) : (0 ≤ ν 64 0 a ∧ ν 64 0 a < (F.length : Int)) ∧ ν 64 0 a = (pfst b F (ral b F a) F.length : Int) ∧ ν 62 0 (ν 64 0 a) = pmk (ral b F a) ∧ ν 61 0 (ν 64 0 a) = ((ral b F a).length : Int) ∧ rgn b F (pfst b F (ral b F a) F.length) = ral b F a := by
  have en : nal b F = ((pal b F F.length).length : Int) := rfl
  have q := h.2.2.2 a.toNat (by omega)
  rw [show ((a.toNat : Nat) : Int) = a by omega] at q
  change ν 64 0 a = (pfst b F (ral b F a) F.length : Int) at q
  have fs := pfst_spec b F (ral b F a) F.length (gdl_mem (by omega))
  have row := LM_row h.1 (r := (pfst b F (ral b F a) F.length : Int)) (by omega)
  rw [show ((pfst b F (ral b F a) F.length : Int)).toNat = pfst b F (ral b F a) F.length by omega] at row
  have e2 : pring b (F.getD (pfst b F (ral b F a) F.length) []) = ral b F a := fs.2.1
  rw [q]
  refine ⟨by omega, rfl, pmk_uniq (ral_sm hv hg ha).1 row.2.1 (fun j hj => ?_), ?_, fs.2.1⟩
  · rw [row.2.2.1 j hj, ← mem_pring (gr_len (gd_get hg fs.1)), e2]
  · rw [row.1, ← pring_len b, e2]
/-- the accounts of a round as the reference has them -/
theorem ML_set {b : BK} {F : LL} {ν : JM} (hv : vb b) (hg : gd b F) (h : ML b F ν) {r : Int} (hr : 0 ≤ r ∧ r < (F.length : Int)) : ν 62 0 r = pmk (rgn b F r.toNat) := by
  have g := gd_get hg (r := r.toNat) (by omega)
  have row := LM_row h.1 hr
  refine pmk_uniq (pring_small hv g) row.2.1 (fun j hj => ?_)
  rw [row.2.2.1 j hj, mem_pring (gr_len g)]
/-- how many accounts a ring has: what the JDK counts -/
theorem pmk_pop {l : List Int} (h : small l) (hn : l.Nodup) : jpop (pmk l) = (l.length : Int) := by
  have hp := pmk_in h
  have pb := pmk_bt h
  have e : pmk l = (((pmk l).toNat : Nat) : Int) := by omega
  rw [e, jpop_set _ (by omega)]
  congr 1
  unfold pop12
  have hperm : ((List.range 12).filter (fun k => (pmk l).toNat.testBit k)).map (fun (k : Nat) => (k : Int)) |>.Perm l := by
    refine (List.perm_ext_iff_of_nodup ?_ hn).mpr (fun a => ?_)
    · refine List.nodup_iff_pairwise_ne.mpr (List.pairwise_map.mpr ?_)
      refine List.Pairwise.imp (R := fun (x y : Nat) => x ≠ y) (fun {x y : Nat} (h : x ≠ y) (e : (x : Int) = (y : Int)) => h (by omega)) ?_
      exact List.nodup_iff_pairwise_ne.mp (List.Nodup.sublist List.filter_sublist List.nodup_range)
    · simp only [List.mem_map, List.mem_filter, List.mem_range]
      constructor
      · rintro ⟨k, ⟨k1, k2⟩, rfl⟩
        refine (pb.2 k (by omega)).mp ?_
        rw [e, bt_nat k (by omega)]
        exact k2
      · intro ha
        have := h a ha
        refine ⟨a.toNat, ⟨by omega, ?_⟩, by omega⟩
        have hb := (pb.2 a.toNat (by omega)).mpr (by rw [show ((a.toNat : Nat) : Int) = a by omega]; exact ha)
        rw [e, bt_nat _ (by omega)] at hb
        exact hb
  have := hperm.length_eq
  rw [List.length_map] at this
  exact this
theorem pring_nodup {b : BK} (hv : vb b) {r : List Int} (h : gr b r) : (pring b r).Nodup := by
  unfold pring
  rw [List.nodup_iff_pairwise_ne, List.pairwise_map]
  refine List.Pairwise.imp_of_mem ?_ (List.pairwise_lt_range (n := r.length))
  intro i j hi hj hij e
  have := pent_inj hv h (i := (i : Int)) (j := (j : Int)) ⟨by omega, by have := List.mem_range.mp hi; omega⟩ ⟨by omega, by have := List.mem_range.mp hj; omega⟩ e
  omega
theorem ral_nodup {b : BK} (hv : vb b) {F : LL} (hg : gd b F) {a : Int} (ha : 0 ≤ a ∧ a < nal b F) : (ral b F a).Nodup := by
  have en : nal b F = ((pal b F F.length).length : Int) := rfl
  obtain ⟨r, hr, e⟩ := pal_of b F F.length (ral b F a) (gdl_mem (by omega))
  rw [← e]
  exact pring_nodup hv (gd_get hg hr)
