/-! parts: what hangs together -/
abbrev pe (b : BK) (W B t : Int) : Prop := 0 ≤ W - b 2 t ∧ W - b 2 t < B
def pE (b : BK) (W B : Int) (x y : Nat) : Prop := ∃ t, (0 ≤ t ∧ t < b 5 1) ∧ pe b W B t ∧ b 0 t = (x : Int) ∧ b 1 t = (y : Int)
def pR (b : BK) (W B : Int) (x y : Nat) : Prop := ∀ s : Nat → Prop, s x → (∀ u v, s u → pE b W B u v → s v) → s y
theorem pR_refl (b : BK) (W B : Int) (x : Nat) : pR b W B x x := fun _ h _ => h
theorem pR_step {b : BK} {W B : Int} {x u v : Nat} (h : pR b W B x u) (g : pE b W B u v) : pR b W B x v := fun s hs hc => hc u v (h s hs hc) g
theorem pR_trans {b : BK} {W B : Int} {x u v : Nat} (h : pR b W B x u) (g : pR b W B u v) : pR b W B x v := fun s hs hc => g s (h s hs hc) hc
theorem pR_lt {b : BK} (hv : vb b) {W B : Int} {x y : Nat} (h : pR b W B x y) (hx : (x : Int) < b 5 0) : (y : Int) < b 5 0 := h (fun j => (j : Int) < b 5 0) hx (fun u v _ he => by
  obtain ⟨t, ht, _, _, e⟩ := he
  have := vb_t hv ht.1 ht.2
  omega)
theorem s12_bit {k : Int} (h : 0 ≤ k ∧ k < 12) : s12 (jshl 1 k) := tr_of (inR_shl _ _) (fun j h1 _ => by rw [bt_bitz h.1 (by omega)]; exact decide_eq_false (by omega))
/-- the reference's closure -/
abbrev pcm (b : BK) (W B : Int) : Int → Int → Int := fun s t => if pe b W B t ∧ bt s (b 0 t).toNat = true then jor s (jshl 1 (b 1 t)) else s
def cps (b : BK) (W B s : Int) : Int := fup (pcm b W B) (nm b) 0 s
def cms (b : BK) (W B : Int) : Nat → Int → Int
  | 0, s => s
  | k + 1, s => if cps b W B s = s then s else cms b W B k (cps b W B s)
def pS (b : BK) (W B a : Int) : Int := cms b W B 12 (jshl 1 a)
theorem pcm_in {b : BK} (hv : vb b) {W B : Int} (s0 : Int) : ∀ i s, (0 : Int) ≤ i → i < b 5 1 → (s12 s ∧ sub s0 s) → (fun (_ : Int) (s : Int) => s12 s ∧ sub s0 s) (i + 1) (pcm b W B s i) := by
  intro i s h0 h1 hs
  have tt := vb_t hv h0 h1
  have hn := vb_n hv
  show s12 (if pe b W B i ∧ bt s (b 0 i).toNat = true then jor s (jshl 1 (b 1 i)) else s) ∧ sub s0 (if pe b W B i ∧ bt s (b 0 i).toNat = true then jor s (jshl 1 (b 1 i)) else s)
  split
  · exact ⟨or12 hs.1 (s12_bit (by omega)), fun j hj => by rw [bt_or, hs.2 j hj]; rfl⟩
  · exact hs
theorem cps12 {b : BK} (hv : vb b) {W B s : Int} (hs : s12 s) : s12 (cps b W B s) ∧ sub s (cps b W B s) :=
  fup_inv (fun _ t => s12 t ∧ sub s t) (lo := 0) (n := b 5 1) (pcm_in hv s) (nm b) 0 s (Int.le_refl _) (nm_eq hv) ⟨hs, fun _ h => h⟩
theorem cps_cl {b : BK} (hv : vb b) {W B s : Int} (hs : s12 s) : ∀ t, 0 ≤ t → t < b 5 1 → pe b W B t → bt s (b 0 t).toNat = true → bt (cps b W B s) (b 1 t).toNat = true := by
  have hn := vb_n hv
  have := fup_inv (g := pcm b W B) (fun i x => (s12 x ∧ sub s x) ∧ ∀ t, 0 ≤ t → t < i → pe b W B t → bt s (b 0 t).toNat = true → bt x (b 1 t).toNat = true) (lo := 0) (n := b 5 1) (fun i x h0 h1 hx => by
    have tt := vb_t hv h0 h1
    have hx0 : s12 x ∧ sub s x := hx.1
    have hx1 : ∀ t, 0 ≤ t → t < i → pe b W B t → bt s (b 0 t).toNat = true → bt x (b 1 t).toNat = true := hx.2
    refine ⟨pcm_in hv s i x h0 h1 hx0, fun t t0 t1 he hb => ?_⟩
    show bt (if pe b W B i ∧ bt x (b 0 i).toNat = true then jor x (jshl 1 (b 1 i)) else x) (b 1 t).toNat = true
    by_cases e : t = i
    · subst e
      rw [if_pos ⟨he, hx0.2 _ hb⟩, bt_or, bt_bitz tt.2.1.1 (by omega), decide_eq_true rfl, Bool.or_true]
    · have h2 := hx1 t t0 (by omega) he hb
      split
      · rw [bt_or, h2]; rfl
      · exact h2) (nm b) 0 s (Int.le_refl _) (nm_eq hv) ⟨⟨hs, fun _ h => h⟩, fun t h1 h2 => by omega⟩
  exact this.2
theorem cps_so {b : BK} (hv : vb b) {W B s : Int} {a : Nat} (hs : ∀ j, bt s j = true → pR b W B a j) : ∀ j, bt (cps b W B s) j = true → pR b W B a j := by
  have hn := vb_n hv
  exact fup_inv (g := pcm b W B) (fun _ x => ∀ j, bt x j = true → pR b W B a j) (lo := 0) (n := b 5 1) (fun i x h0 h1 hx => by
    have tt := vb_t hv h0 h1
    have hx0 : ∀ j, bt x j = true → pR b W B a j := hx
    show ∀ j, bt (if pe b W B i ∧ bt x (b 0 i).toNat = true then jor x (jshl 1 (b 1 i)) else x) j = true → pR b W B a j
    split
    · rename_i hc
      intro j hj
      rw [bt_or, bt_bitz tt.2.1.1 (by omega), Bool.or_eq_true] at hj
      rcases hj with hj | hj
      · exact hx0 j hj
      · have ej := of_decide_eq_true hj
        subst ej
        exact pR_step (hx0 _ hc.2) ⟨i, ⟨h0, h1⟩, hc.1, by omega, by omega⟩
    · exact hx0) (nm b) 0 s (Int.le_refl _) (nm_eq hv) hs
theorem cms_in {b : BK} (hv : vb b) {W B : Int} {a : Nat} : ∀ (k : Nat) (s : Int), s12 s → 13 ≤ pop12 s.toNat + k → (∀ j, bt s j = true → pR b W B a j) → s12 (cms b W B k s) ∧ sub s (cms b W B k s) ∧ cps b W B (cms b W B k s) = cms b W B k s ∧ ∀ j, bt (cms b W B k s) j = true → pR b W B a j
  | 0, s, hs, hp, _ => by
    have := pop_in (n := s.toNat) (by omega)
    omega
  | k + 1, s, hs, hp, hr => by
    have p := cps12 (W := W) (B := B) hv hs
    have e : cms b W B (k + 1) s = if cps b W B s = s then s else cms b W B k (cps b W B s) := rfl
    rw [e]
    by_cases hf : cps b W B s = s
    · rw [if_pos hf]
      exact ⟨hs, fun _ h => h, hf, hr⟩
    · rw [if_neg hf]
      have pl := pop_sub hs p.1 p.2 hf
      have ih := cms_in hv k (cps b W B s) p.1 (by omega) (cps_so hv hr)
      exact ⟨ih.1, fun j hj => ih.2.1 j (p.2 j hj), ih.2.2⟩
theorem pop_bit {k : Int} (h : 0 ≤ k ∧ k < 12) : 1 ≤ pop12 (jshl 1 k).toNat ∧ jshl 1 k ≠ 0 := by
  have hb : bt (jshl 1 k) k.toNat = true := by rw [bt_bitz h.1 (by omega)]; exact decide_eq_true rfl
  have h0 : jshl 1 k ≠ 0 := fun h => by
    rw [h, bt_zero] at hb
    cases hb
  have := pop_sub (s := 0) (t := jshl 1 k) ⟨by omega, by omega⟩ (s12_bit h) (fun j hj => by rw [bt_zero] at hj; cases hj) h0
  exact ⟨by omega, h0⟩
theorem pS_in {b : BK} (hv : vb b) {W B a : Int} (ha : 0 ≤ a ∧ a < b 5 0) : s12 (pS b W B a) ∧ ∀ j, bt (pS b W B a) j = true ↔ pR b W B a.toNat j := by
  have hn := vb_n hv
  have hb : ∀ j, bt (jshl 1 a) j = decide (j = a.toNat) := fun j => bt_bitz ha.1 (by omega) j
  have p1 := pop_bit (k := a) (by omega)
  have q := cms_in (W := W) (B := B) (a := a.toNat) hv 12 (jshl 1 a) (s12_bit (by omega)) (by omega) (fun j hj => by
    rw [hb] at hj
    rw [of_decide_eq_true hj]
    exact pR_refl _ _ _ _)
  refine ⟨q.1, fun j => ⟨q.2.2.2 j, fun h => h (fun j => bt (pS b W B a) j = true) (q.2.1 _ (by rw [hb]; exact decide_eq_true rfl)) (fun u v hu he => ?_)⟩⟩
  obtain ⟨t, ht, h1, h2, h3⟩ := he
  have c := cps_cl (W := W) (B := B) hv q.1 t ht.1 ht.2 h1
  rw [q.2.2.1] at c
  have c2 := c (by rw [h2]; exact hu)
  rw [h3] at c2
  exact c2
/-- the class's rows -/
def i3 (b : BK) (W B k : Int) (R : Int → Int) : Prop := ∀ a, 0 ≤ a → a < b 5 0 → s12 (R a) ∧ bt (R a) a.toNat = true ∧ (∀ j, bt (R a) j = true → pR b W B a.toNat j) ∧ (∀ t, 0 ≤ t → t < b 5 1 → pe b W B t → b 0 t = a → bt (R a) (b 1 t).toNat = true) ∧ ∀ u, 0 ≤ u → u < k → bt (R a) u.toNat = true → sub (R u) (R a)
theorem i3_step {b : BK} {W B k : Int} {R R' : Int → Int} (h : i3 b W B k R) (hk : 0 ≤ k ∧ k < b 5 0) (hR : ∀ a, 0 ≤ a → a < b 5 0 → R' a = if bt (R a) k.toNat = true then jor (R a) (R k) else R a) : i3 b W B (k + 1) R' := by
  have hs : ∀ a, 0 ≤ a → a < b 5 0 → sub (R a) (R' a) := fun a a0 a1 j hj => by
    rw [hR a a0 a1]
    split
    · rw [bt_or, hj]; rfl
    · exact hj
  have hs2 : ∀ a, 0 ≤ a → a < b 5 0 → bt (R a) k.toNat = true → sub (R k) (R' a) := fun a a0 a1 hb j hj => by
    rw [hR a a0 a1, if_pos hb, bt_or, hj, Bool.or_true]
  have hb : ∀ a, 0 ≤ a → a < b 5 0 → ∀ j, bt (R' a) j = true → bt (R a) j = true ∨ (bt (R a) k.toNat = true ∧ bt (R k) j = true) := fun a a0 a1 j hj => by
    rw [hR a a0 a1] at hj
    split at hj
    · rename_i hc
      rw [bt_or, Bool.or_eq_true] at hj
      rcases hj with hj | hj
      · exact Or.inl hj
      · exact Or.inr ⟨hc, hj⟩
    · exact Or.inl hj
  have hk' := h k hk.1 hk.2
  intro a a0 a1
  have ha := h a a0 a1
  refine ⟨?_, hs a a0 a1 _ ha.2.1, fun j hj => ?_, fun t t0 t1 he e => hs a a0 a1 _ (ha.2.2.2.1 t t0 t1 he e), fun u u0 u1 hu j hj => ?_⟩
  · rw [hR a a0 a1]
    split
    · exact or12 ha.1 hk'.1
    · exact ha.1
  · rcases hb a a0 a1 j hj with q | ⟨q1, q2⟩
    · exact ha.2.2.1 j q
    · exact pR_trans (ha.2.2.1 _ q1) (hk'.2.2.1 j q2)
  · by_cases e : u = k
    · subst e
      have q1 : bt (R a) u.toNat = true := by
        rcases hb a a0 a1 _ hu with q | ⟨q, _⟩ <;> exact q
      rcases hb u hk.1 hk.2 j hj with q | ⟨_, q⟩ <;> exact hs2 a a0 a1 q1 j q
    · have ul : u < b 5 0 := by omega
      rcases hb a a0 a1 _ hu with q | ⟨q1, q2⟩
      · have su := ha.2.2.2.2 u u0 (by omega) q
        rcases hb u u0 ul j hj with p | ⟨p1, p2⟩
        · exact hs a a0 a1 _ (su j p)
        · exact hs2 a a0 a1 (su _ p1) j p2
      · have su := hk'.2.2.2.2 u u0 (by omega) q2
        rcases hb u u0 ul j hj with p | ⟨_, p2⟩
        · exact hs2 a a0 a1 q1 j (su j p)
        · exact hs2 a a0 a1 q1 j p2
theorem i3_fin {b : BK} (hv : vb b) {W B : Int} {R : Int → Int} (h : i3 b W B (b 5 0) R) {a : Int} (ha : 0 ≤ a ∧ a < b 5 0) : R a = pS b W B a := by
  have q := h a ha.1 ha.2
  have s := pS_in (W := W) (B := B) hv ha
  refine bt_ext ⟨by omega, by omega⟩ ⟨by omega, by omega⟩ (fun j _ => ?_)
  have hh : bt (R a) j = true ↔ pR b W B a.toNat j := ⟨q.2.2.1 j, fun h2 => (h2 (fun j => (j : Int) < b 5 0 ∧ bt (R a) j = true) ⟨by omega, q.2.1⟩ (fun u v hu he => by
    obtain ⟨t, ht, h1, h3, h4⟩ := he
    have tt := vb_t hv ht.1 ht.2
    have e := (h (u : Int) (by omega) hu.1).2.2.2.1 t ht.1 ht.2 h1 h3
    rw [h4] at e
    exact ⟨by omega, q.2.2.2.2 (u : Int) (by omega) hu.1 hu.2 _ e⟩)).2⟩
  have h3 := hh.trans (s.2 j).symm
  cases e1 : bt (R a) j <;> cases e2 : bt (pS b W B a) j
  · rfl
  · rw [e1, e2] at h3; exact absurd (h3.mpr rfl) (by decide)
  · rw [e1, e2] at h3; exact absurd (h3.mp rfl) (by decide)
  · rfl
/-- two that hang together -/
def tg (b : BK) (W B a o : Int) : Bool := bt (pS b W B a) o.toNat && bt (pS b W B o) a.toNat
theorem tg_iff {b : BK} (hv : vb b) {W B a o : Int} (ha : 0 ≤ a ∧ a < b 5 0) (ho : 0 ≤ o ∧ o < b 5 0) : tg b W B a o = true ↔ pR b W B a.toNat o.toNat ∧ pR b W B o.toNat a.toNat := by
  unfold tg
  rw [Bool.and_eq_true, (pS_in hv ha).2, (pS_in hv ho).2]
theorem tg_refl {b : BK} (hv : vb b) {W B a : Int} (ha : 0 ≤ a ∧ a < b 5 0) : tg b W B a a = true := (tg_iff hv ha ha).2 ⟨pR_refl _ _ _ _, pR_refl _ _ _ _⟩
theorem tg_symm (b : BK) (W B a o : Int) : tg b W B a o = tg b W B o a := by
  unfold tg
  exact Bool.and_comm _ _
theorem tg_eq {b : BK} (hv : vb b) {W B a c o : Int} (ha : 0 ≤ a ∧ a < b 5 0) (hc : 0 ≤ c ∧ c < b 5 0) (ho : 0 ≤ o ∧ o < b 5 0) (h : tg b W B a c = true) : tg b W B a o = tg b W B c o := by
  have h1 := (tg_iff hv ha hc).1 h
  have h2 := tg_iff (W := W) (B := B) hv ha ho
  have h3 := tg_iff (W := W) (B := B) hv hc ho
  have h4 : tg b W B a o = true ↔ tg b W B c o = true := by
    rw [h2, h3]
    exact ⟨fun q => ⟨pR_trans h1.2 q.1, pR_trans q.2 h1.1⟩, fun q => ⟨pR_trans h1.1 q.1, pR_trans q.2 h1.2⟩⟩
  cases e1 : tg b W B a o <;> cases e2 : tg b W B c o
  · rfl
  · rw [e1, e2] at h4; exact absurd (h4.mpr rfl) (by decide)
  · rw [e1, e2] at h4; exact absurd (h4.mp rfl) (by decide)
  · rfl
/-- the least of a's part; its set; how many -/
def lsa (b : BK) (W B a : Int) : Int := ffst (tg b W B a) a.toNat 0
abbrev nn (b : BK) : Nat := (b 5 0).toNat
theorem nn_eq {b : BK} (hv : vb b) : ((nn b : Nat) : Int) = b 5 0 := by
  have nb := vb_n hv
  show (((b 5 0).toNat : Nat) : Int) = b 5 0
  omega
def pTn (b : BK) (W B a : Int) : Nat → Int
  | 0 => 0
  | n + 1 => if tg b W B a (n : Int) = true then jor (pTn b W B a n) (jshl 1 (n : Int)) else pTn b W B a n
def szn (b : BK) (W B a : Int) : Nat → Int
  | 0 => 0
  | n + 1 => szn b W B a n + if tg b W B a (n : Int) = true then 1 else 0
def siz (b : BK) (W B a : Int) : Int := szn b W B a (nn b)
theorem filt_one {p q : Nat → Bool} {i : Nat} (hq : ∀ k, k ≠ i → q k = p k) (h1 : q i = true) (h0 : p i = false) : ∀ l : List Nat, l.Nodup → (l.filter q).length = (l.filter p).length + if i ∈ l then 1 else 0
  | [], _ => by simp
  | x :: l, hn => by
    have hn' := List.nodup_cons.mp hn
    have ih := filt_one hq h1 h0 l hn'.2
    by_cases e : x = i
    · subst e
      rw [List.filter_cons_of_pos h1, List.filter_cons_of_neg (by rw [h0]; decide), List.length_cons, ih, if_neg hn'.1, if_pos (List.mem_cons_self ..)]
    · have em : (i ∈ x :: l) ↔ i ∈ l := by
        rw [List.mem_cons]
        exact ⟨fun h => h.resolve_left (fun h => e h.symm), Or.inr⟩
      have eif : (if i ∈ x :: l then (1 : Nat) else 0) = if i ∈ l then 1 else 0 := by
        by_cases hm : i ∈ l
        · rw [if_pos (em.mpr hm), if_pos hm]
        · rw [if_neg (fun h => hm (em.mp h)), if_neg hm]
      rw [eif]
      cases hp : p x with
      | true =>
        rw [List.filter_cons_of_pos hp, List.filter_cons_of_pos ((hq x e).trans hp), List.length_cons, List.length_cons, ih]
        omega
      | false =>
        rw [List.filter_cons_of_neg (p := p) (by rw [hp]; decide), List.filter_cons_of_neg (p := q) (by rw [hq x e, hp]; decide), ih]
theorem pop_new {s k : Int} (hs : s12 s) (hk : 0 ≤ k ∧ k < 12) (hb : bt s k.toNat = false) : pop12 (jor s (jshl 1 k)).toNat = pop12 s.toNat + 1 := by
  have h12 := or12 hs (s12_bit hk)
  have tb : ∀ (x : Int) (j : Nat), s12 x → j < 32 → x.toNat.testBit j = bt x j := fun x j hx hj => by
    rw [← bt_nat j hj, show ((x.toNat : Nat) : Int) = x by omega]
  have hj : ∀ j : Nat, bt (jor s (jshl 1 k)) j = (bt s j || decide (j = k.toNat)) := fun j => by rw [bt_or, bt_bitz hk.1 (by omega)]
  have fe : ∀ x : Int, pop12 x.toNat = ((List.range 12).filter (fun j => x.toNat.testBit j && decide (j < 12))).length := fun x => by
    unfold pop12
    congr 1
    refine List.filter_congr (fun j hj => ?_)
    rw [decide_eq_true (List.mem_range.mp hj), Bool.and_true]
  have := filt_one (p := fun j => s.toNat.testBit j && decide (j < 12)) (q := fun j => (jor s (jshl 1 k)).toNat.testBit j && decide (j < 12)) (i := k.toNat) (fun j hne => by
    by_cases h12j : j < 12
    · show ((jor s (jshl 1 k)).toNat.testBit j && decide (j < 12)) = (s.toNat.testBit j && decide (j < 12))
      rw [tb _ j h12 (by omega), tb _ j hs (by omega), hj, decide_eq_false hne, Bool.or_false]
    · show (_ && decide (j < 12)) = (_ && decide (j < 12))
      rw [decide_eq_false h12j, Bool.and_false, Bool.and_false]) (by
    show ((jor s (jshl 1 k)).toNat.testBit k.toNat && decide (k.toNat < 12)) = true
    rw [tb _ _ h12 (by omega), hj, decide_eq_true rfl, decide_eq_true (by omega), Bool.or_true]
    rfl) (by
    show (s.toNat.testBit k.toNat && decide (k.toNat < 12)) = false
    rw [tb _ _ hs (by omega), hb]
    rfl) (List.range 12) List.nodup_range
  rw [fe, this, ← fe, if_pos (List.mem_range.mpr (by omega))]
theorem pTn_in (b : BK) (W B a : Int) : ∀ n : Nat, n ≤ 12 → s12 (pTn b W B a n) ∧ (∀ j : Nat, bt (pTn b W B a n) j = (decide (j < n) && tg b W B a (j : Int))) ∧ (pop12 (pTn b W B a n).toNat : Int) = szn b W B a n
  | 0, _ => ⟨⟨by show (0 : Int) ≤ 0; omega, by show (0 : Int) < 4096; omega⟩, fun j => by
      show bt 0 j = _
      rw [bt_zero, decide_eq_false (by omega)]
      rfl, by show ((pop12 0 : Nat) : Int) = 0; decide⟩
  | n + 1, hn => by
    obtain ⟨h1, h2, h3⟩ := pTn_in b W B a n (by omega)
    have e1 : pTn b W B a (n + 1) = if tg b W B a (n : Int) = true then jor (pTn b W B a n) (jshl 1 (n : Int)) else pTn b W B a n := rfl
    have e2 : szn b W B a (n + 1) = szn b W B a n + if tg b W B a (n : Int) = true then 1 else 0 := rfl
    rw [e1, e2]
    cases ht : tg b W B a (n : Int) with
    | false =>
      rw [if_neg (by decide), if_neg (by decide)]
      refine ⟨h1, fun j => ?_, by omega⟩
      rw [h2]
      by_cases e : j = n
      · subst e
        rw [ht, Bool.and_false, Bool.and_false]
      · rw [show decide (j < n + 1) = decide (j < n) by simp; omega]
    | true =>
      rw [if_pos rfl, if_pos rfl]
      have h12 := or12 h1 (s12_bit (k := (n : Int)) ⟨by omega, by omega⟩)
      have hb : ∀ j : Nat, bt (jor (pTn b W B a n) (jshl 1 (n : Int))) j = (decide (j < n + 1) && tg b W B a (j : Int)) := fun j => by
        rw [bt_or, h2, bt_bitz (by omega) (by omega)]
        by_cases e : j = n
        · subst e
          rw [ht]
          simp
        · rw [show decide (j < n + 1) = decide (j < n) by simp; omega, decide_eq_false (show ¬ j = ((n : Int)).toNat by omega), Bool.or_false]
      refine ⟨h12, hb, ?_⟩
      rw [pop_new h1 ⟨by omega, by omega⟩ (by rw [h2, decide_eq_false (by omega)]; rfl)]
      omega
