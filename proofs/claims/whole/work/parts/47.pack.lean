/-! a round as one number; the class reads its rounds -/
def pk : List Int → Int
  | [] => 0
  | a :: l => pk l * 32 + a
abbrev sm32 (l : List Int) : Prop := ∀ a ∈ l, 0 ≤ a ∧ a < 32
theorem pkd_lt : ∀ {l : List Int}, sm32 l → 0 ≤ pk l ∧ pk l < 32 ^ l.length
  | [], _ => ⟨Int.le_refl _, by show (0 : Int) < 1; omega⟩
  | a :: l, h => by
    have ih := pkd_lt (l := l) (fun x hx => h x (List.mem_cons_of_mem _ hx))
    have := h a (List.mem_cons_self ..)
    rw [List.length_cons, Int.pow_succ]
    show 0 ≤ pk l * 32 + a ∧ pk l * 32 + a < _
    omega
theorem pkd_dig : ∀ (i : Nat) (l : List Int), sm32 l → i < l.length → ((pk l).toNat / 32 ^ i) % 32 = (l.getD i 0).toNat
  | _, [], _, h => by cases h
  | 0, a :: l, h, _ => by
    have h1 := h a (List.mem_cons_self ..)
    have h0 := (pkd_lt (l := l) (fun x hx => h x (List.mem_cons_of_mem _ hx))).1
    rw [Nat.pow_zero, Nat.div_one, List.getD_cons_zero]
    show (pk l * 32 + a).toNat % 32 = a.toNat
    omega
  | i + 1, a :: l, h, hi => by
    have h1 := h a (List.mem_cons_self ..)
    have h0 := (pkd_lt (l := l) (fun x hx => h x (List.mem_cons_of_mem _ hx))).1
    have e : (pk (a :: l)).toNat / 32 ^ (i + 1) = (pk l).toNat / 32 ^ i := by
      rw [Nat.pow_succ, Nat.mul_comm, ← Nat.div_div_eq_div_mul]
      congr 1
      show (pk l * 32 + a).toNat / 32 = (pk l).toNat
      omega
    rw [e, List.getD_cons_succ]
    exact pkd_dig i l (fun x hx => h x (List.mem_cons_of_mem _ hx)) (by simpa using hi)
theorem pkd_app : ∀ (l : List Int) (a : Int), pk (l ++ [a]) = pk l + a * 32 ^ l.length
  | [], a => by show 0 * 32 + a = 0 + a * 1; omega
  | c :: l, a => by
    show pk (l ++ [a]) * 32 + c = pk l * 32 + c + a * 32 ^ (l.length + 1)
    rw [pkd_app l a, Int.pow_succ, ← Int.mul_assoc, Int.add_mul]
    omega
def ppk (r : List Int) : Int := pk r + (r.length : Int) * 33554432
theorem pow_le32 {n : Nat} (h : n ≤ 5) : (32 : Int) ^ n ≤ 33554432 := by
  have h5 : n = 0 ∨ n = 1 ∨ n = 2 ∨ n = 3 ∨ n = 4 ∨ n = 5 := by omega
  rcases h5 with rfl | rfl | rfl | rfl | rfl | rfl <;> decide
theorem ppk_in {r : List Int} (h : sm32 r) (hl : r.length ≤ 5) : (0 ≤ pk r ∧ pk r < 33554432) ∧ 0 ≤ ppk r ∧ ppk r < 201326592 := by
  have := pkd_lt h
  have h2 := pow_le32 hl
  unfold ppk
  omega
theorem ppk_len {r : List Int} (h : sm32 r) (hl : r.length ≤ 5) : jushr (ppk r) 25 = (r.length : Int) := by
  have hp := ppk_in h hl
  have e : ppk r = (((ppk r).toNat : Nat) : Int) := by omega
  rw [e]
  have := ushr_n (n := (ppk r).toNat) (k := 25) (by omega) (by omega)
  rw [show ((25 : Nat) : Int) = 25 from rfl] at this
  rw [this]
  have e2 : (ppk r).toNat / 2 ^ 25 = r.length := by
    unfold ppk
    omega
  rw [e2]
theorem ppk_get {r : List Int} (h : sm32 r) (hl : r.length ≤ 5) {i : Int} (h0 : 0 ≤ i) (h1 : i < (r.length : Int)) : jand (jushr (ppk r) (5 * i)) 31 = r.getD i.toNat 0 := by
  have hp := ppk_in h hl
  obtain ⟨n, rfl⟩ := Int.eq_ofNat_of_zero_le h0
  have e : ppk r = (((ppk r).toNat : Nat) : Int) := by omega
  have e2 : (5 : Int) * (n : Int) = ((5 * n : Nat) : Int) := by omega
  rw [e, e2, ushr_n (by omega) (by omega)]
  have a31 : jand (((ppk r).toNat / 2 ^ (5 * n) : Nat) : Int) 31 = (((ppk r).toNat / 2 ^ (5 * n) &&& 31 : Nat) : Int) := and_n (m := 31) (Nat.lt_of_le_of_lt (Nat.div_le_self _ _) (by omega)) (by omega)
  rw [a31]
  have e3 : (ppk r).toNat / 2 ^ (5 * n) &&& 31 = ((ppk r).toNat / 2 ^ (5 * n)) % 32 := Nat.and_two_pow_sub_one_eq_mod _ 5
  have e4 : 2 ^ (5 * n) = 32 ^ n := by rw [Nat.pow_mul]
  have e5 : ((ppk r).toNat / 32 ^ n) % 32 = ((pk r).toNat / 32 ^ n) % 32 := by
    have hq : (ppk r).toNat = (pk r).toNat + r.length * 33554432 := by unfold ppk; omega
    rw [hq]
    have h5 : n = 0 ∨ n = 1 ∨ n = 2 ∨ n = 3 ∨ n = 4 := by omega
    rcases h5 with rfl | rfl | rfl | rfl | rfl <;> omega
  rw [e3, e4, e5, pkd_dig n r h (by omega)]
  have := h _ (getD_mem (l := r) (i := n) (by omega))
  simp only [Int.toNat_natCast]
  omega
/-- one more on top of what is packed -/
theorem pack_step {c a : Int} {n : Nat} (hn : n < 5) (hc : 0 ≤ c ∧ c < 32 ^ n) (ha : 0 ≤ a ∧ a < 32) : jor c (jshl a (5 * (n : Int))) = c + a * 32 ^ n := by
  have hp : (32 : Int) ^ n ≤ 1048576 := by
    have h5 : n = 0 ∨ n = 1 ∨ n = 2 ∨ n = 3 ∨ n = 4 := by omega
    rcases h5 with rfl | rfl | rfl | rfl | rfl <;> decide
  obtain ⟨x, rfl⟩ := Int.eq_ofNat_of_zero_le hc.1
  obtain ⟨y, rfl⟩ := Int.eq_ofNat_of_zero_le ha.1
  have e1 : (32 : Int) ^ n = ((2 ^ (5 * n) : Nat) : Int) := by rw [Nat.pow_mul]; simp
  have hx : x < 2 ^ (5 * n) := by have := hc.2; rw [e1] at this; omega
  have hm : 2 ^ (5 * n) ≤ 1048576 := by rw [e1] at hp; omega
  have hy : y * 2 ^ (5 * n) ≤ 31 * 1048576 := Nat.mul_le_mul (by omega) hm
  rw [show (5 : Int) * (n : Int) = ((5 * n : Nat) : Int) by omega, shl_n (by omega) (by omega), or_n (by omega) (by omega), Nat.or_comm, ← Nat.shiftLeft_eq, ← Nat.shiftLeft_add_eq_or_of_lt hx, Nat.shiftLeft_eq, e1]
  simp
  omega
theorem pack_top {c n : Int} (hc : 0 ≤ c ∧ c < 33554432) (hn : 0 ≤ n ∧ n ≤ 5) : jor c (jshl n 25) = c + n * 33554432 := by
  obtain ⟨x, rfl⟩ := Int.eq_ofNat_of_zero_le hc.1
  obtain ⟨y, rfl⟩ := Int.eq_ofNat_of_zero_le hn.1
  have hx : x < 2 ^ 25 := by omega
  have e := shl_n (n := y) (k := 25) (by omega) (by omega)
  rw [show ((25 : Nat) : Int) = 25 from rfl] at e
  rw [e, or_n (by omega) (by omega), Nat.or_comm, ← Nat.shiftLeft_eq, ← Nat.shiftLeft_add_eq_or_of_lt hx, Nat.shiftLeft_eq]
  omega
/-- the rounds that the class has packed -/
def RC (F : LL) (ν : JM) : Prop := ν 22 0 4 = (F.length : Int) ∧ F.length ≤ 12000 ∧ 1 ≤ ν 22 0 5 ∧ (F.length : Int) ≤ ν 51 (ν 22 0 5 - 1) 0 ∧ ∀ r : Nat, r < F.length → ν 50 (ν 22 0 5 - 1) (r : Int) = ppk (F.getD r [])
/-- the rounds are such as can be -/
abbrev gd (b : BK) (F : LL) : Prop := ∀ r ∈ F, gr b r
theorem gd_get {b : BK} {F : LL} (h : gd b F) {r : Nat} (hr : r < F.length) : gr b (F.getD r []) := h _ (gdl_mem hr)
theorem gr_sm {b : BK} (hv : vb b) {r : List Int} (h : gr b r) : sm32 r := fun t ht => by
  have := gr_in h ht
  have := vb_m hv
  omega
theorem w_transferAt {d : Nat} {b : BK} {F : LL} {ν : JM} {Q : JQ} (hv : vb b) (hR : RC F ν) (hg : gd b F) {r i : Int} (hr : 0 ≤ r ∧ r < (F.length : Int)) (hi : 0 ≤ i ∧ i < ((F.getD r.toNat []).length : Int)) (k : Q ((F.getD r.toNat []).getD i.toNat 0) ν) : wp true d 100 0 [(22, 0), (0, r), (0, i)] [] ν Q := by
  have g := gd_get hg (r := r.toNat) (by omega)
  have gl := gr_len g
  have hl := hR.2.1
  have e := hR.2.2.2.2 r.toNat (by omega)
  rw [show ((r.toNat : Nat) : Int) = r by omega] at e
  refine s_X8_transferAt_0 _ _ _ _ _ ?_
  rw [hR.1, e, ppk_get (gr_sm hv g) gl.2 hi.1 hi.2]
  have h3 := hR.2.2.1
  have h4 := hR.2.2.2.1
  exact ⟨⟨⟨by omega, by omega⟩, ⟨by omega, by omega⟩⟩, fun h => absurd h (by omega), fun _ => ⟨⟨⟨by omega, by omega⟩, ⟨by omega, by omega⟩⟩, fun h => absurd h (by omega), fun _ => ⟨⟨⟨by omega, by omega⟩, ⟨by omega, by omega⟩⟩, fun h => absurd h (by omega), fun _ => ⟨⟨⟨by omega, by omega⟩, ⟨by omega, by omega⟩⟩, fun _ => ⟨by omega, by omega, by omega, k⟩, fun h => absurd h (by omega)⟩⟩⟩⟩
theorem w_lengthOf {d : Nat} {b : BK} {F : LL} {ν : JM} {Q : JQ} (hv : vb b) (hR : RC F ν) (hg : gd b F) {r : Int} (hr : 0 ≤ r ∧ r < (F.length : Int)) (k : Q ((F.getD r.toNat []).length : Int) ν) : wp true d 102 0 [(22, 0), (0, r)] [] ν Q := by
  have g := gd_get hg (r := r.toNat) (by omega)
  have gl := gr_len g
  have hl := hR.2.1
  have e := hR.2.2.2.2 r.toNat (by omega)
  rw [show ((r.toNat : Nat) : Int) = r by omega] at e
  refine s_X8_lengthOf_0 _ _ _ _ ?_
  rw [hR.1, e, ppk_len (gr_sm hv g) gl.2]
  have h3 := hR.2.2.1
  have h4 := hR.2.2.2.1
  exact ⟨⟨⟨by omega, by omega⟩, ⟨by omega, by omega⟩⟩, fun h => absurd h (by omega), fun _ => ⟨⟨⟨by omega, by omega⟩, ⟨by omega, by omega⟩⟩, fun h => absurd h (by omega), fun _ => ⟨by omega, by omega, by omega, k⟩⟩⟩
theorem w_lastOf {d : Nat} {b : BK} {F : LL} {ν : JM} {Q : JQ} (hv : vb b) (hR : RC F ν) (hg : gd b F) {r : Int} (hr : 0 ≤ r ∧ r < (F.length : Int)) (k : Q (rls (F.getD r.toNat [])) ν) : wp true (d + 1) 101 0 [(22, 0), (0, r)] [] ν Q := by
  have gl := gr_len (gd_get hg (r := r.toNat) (by omega))
  refine s_X8_lastOf_0 _ _ _ _ (w_lengthOf hv hR hg hr ?_)
  refine w_transferAt hv hR hg hr (by omega) ?_
  rw [show (((F.getD r.toNat []).length : Int) - 1).toNat = (F.getD r.toNat []).length - 1 by omega]
  exact k
theorem rls_in {b : BK} {r : List Int} (h : gr b r) : 0 ≤ rls r ∧ rls r < b 5 1 := gr_get h (by have := gr_len h; omega)
theorem rst_in {b : BK} {r : List Int} (h : gr b r) : 0 ≤ rst r ∧ rst r < b 5 1 := gr_get h (by have := gr_len h; omega)
theorem w_firstTime {d : Nat} {b : BK} {F : LL} {ν : JM} {Q : JQ} (hv : vb b) (hC : isC ν 2 b) (hR : RC F ν) (hg : gd b F) {r : Int} (hr : 0 ≤ r ∧ r < (F.length : Int)) (k : Q (b 2 (rst (F.getD r.toNat []))) ν) : wp true (d + 1) 104 0 [(22, 0), (0, r)] [] ν Q := by
  have g := gd_get hg (r := r.toNat) (by omega)
  have gl := gr_len g
  have hm := vb_m hv
  have i1 := rst_in g
  refine s_X8_firstTime_0 _ _ _ _ (w_transferAt hv hR hg hr (by omega) ?_)
  show 0 ≤ rst (F.getD r.toNat []) ∧ rst (F.getD r.toNat []) < 32 ∧ Q (ν 15 2 (rst (F.getD r.toNat []))) ν
  rw [(isC_t hC i1.1 i1.2).2.2.1]
  exact ⟨by omega, by omega, k⟩
theorem w_lastTime {d : Nat} {b : BK} {F : LL} {ν : JM} {Q : JQ} (hv : vb b) (hC : isC ν 2 b) (hR : RC F ν) (hg : gd b F) {r : Int} (hr : 0 ≤ r ∧ r < (F.length : Int)) (k : Q (b 2 (rls (F.getD r.toNat []))) ν) : wp true (d + 2) 105 0 [(22, 0), (0, r)] [] ν Q := by
  have g := gd_get hg (r := r.toNat) (by omega)
  have hm := vb_m hv
  have i1 := rls_in g
  refine s_X8_lastTime_0 _ _ _ _ (w_lastOf hv hR hg hr ?_)
  rw [(isC_t hC i1.1 i1.2).2.2.1]
  exact ⟨by omega, by omega, k⟩
theorem w_spanOf {d : Nat} {b : BK} {F : LL} {ν : JM} {Q : JQ} (hv : vb b) (hC : isC ν 2 b) (hR : RC F ν) (hg : gd b F) {r : Int} (hr : 0 ≤ r ∧ r < (F.length : Int)) (k : Q (spn b F r) ν) : wp true (d + 3) 106 0 [(22, 0), (0, r)] [] ν Q :=
  s_X8_spanOf_0 _ _ _ _ (w_lastTime hv hC hR hg hr (w_firstTime hv hC hR hg hr k))
theorem pflow_step {b : BK} (hv : vb b) {r : List Int} (h : gr b r) : ∀ i c, (0 : Int) ≤ i → i < (r.length : Int) → (fun (_ : Int) (c : Int) => 1 ≤ c ∧ c ≤ 9999) i c → (fun (_ : Int) (c : Int) => 1 ≤ c ∧ c ≤ 9999) (i + 1) ((fun m k => jmin m (b 3 (r.getD (Int.toNat k) 0))) c i) := by
  intro i c h0 h1 hc
  have t := gr_get h (i := i.toNat) (by omega)
  have tt := vb_t hv t.1 t.2
  show 1 ≤ jmin c (b 3 (r.getD i.toNat 0)) ∧ jmin c (b 3 (r.getD i.toNat 0)) ≤ 9999
  have hc' : 1 ≤ c ∧ c ≤ 9999 := hc
  unfold jmin
  split <;> omega
theorem pflow_in {b : BK} (hv : vb b) {r : List Int} (h : gr b r) : 1 ≤ pflow b r ∧ pflow b r ≤ 9999 :=
  fup_inv (fun (_ : Int) (c : Int) => 1 ≤ c ∧ c ≤ 9999) (lo := 0) (n := (r.length : Int)) (pflow_step hv h) r.length 0 9999 (by omega) (by omega) (by omega)
theorem w_flowOf {d : Nat} {b : BK} {F : LL} {ν : JM} {Q : JQ} (hv : vb b) (hC : isC ν 2 b) (hR : RC F ν) (hg : gd b F) {r : Int} (hr : 0 ≤ r ∧ r < (F.length : Int)) (k : Q (pflow b (F.getD r.toNat [])) ν) : wp true (d + 1) 107 0 [(22, 0), (0, r), (9, 0), (9, 0), (9, 0)] [] ν Q := by
  have g := gd_get hg (r := r.toNat) (by omega)
  have gl := gr_len g
  have hm := vb_m hv
  refine s_X8_flowOf_0 _ _ _ _ (w_lengthOf hv hR hg hr ?_)
  refine fup_loop (W := fun i (c : Int) => wp true (d + 1) 107 13 [(22, 0), (0, r), (0, ((F.getD r.toNat []).length : Int)), (0, c), (0, i)] [] ν Q) (fun (_ : Int) (c : Int) => 1 ≤ c ∧ c ≤ 9999) (lo := 0) (n := ((F.getD r.toNat []).length : Int)) (pflow_step hv g) (fun i c h0 h1 hI hW => ?_) (F.getD r.toNat []).length 0 9999 (by omega) (by omega) (by omega) (fun _ => ?_)
  · have t := gr_get g (i := i.toNat) (by omega)
    have tt := vb_t hv t.1 t.2
    have hI' : 1 ≤ c ∧ c ≤ 9999 := hI
    refine s_X8_flowOf_13 _ _ _ _ _ _ _ ⟨⟨⟨by omega, by omega⟩, ⟨by omega, by omega⟩⟩, fun h => absurd h (by omega), fun _ => w_transferAt hv hR hg hr ⟨h0, h1⟩ ?_⟩
    rw [(isC_t hC t.1 t.2).2.2.2]
    exact ⟨by omega, by omega, ⟨by omega, by omega⟩, ⟨by omega, by omega⟩, hW⟩
  · exact s_X8_flowOf_13 _ _ _ _ _ _ _ ⟨⟨⟨by omega, by omega⟩, ⟨by omega, by omega⟩⟩, fun _ => k, fun h => absurd h (by omega)⟩
