/-! what rounds are: chains that come back; no two are the same -/
/-- a path, its last transfer first -/
def okp (b : BK) : List Int → Prop
  | [] => False
  | [t] => 0 ≤ t ∧ t < b 5 1
  | y :: x :: l => (0 ≤ y ∧ y < b 5 1) ∧ pstep b x y ∧ (∀ u ∈ x :: l, b 0 u ≠ b 0 y) ∧ okp b (x :: l)
/-- a round, its last transfer first -/
def grp (b : BK) (p : List Int) : Prop := okp b p ∧ b 1 (hd p) = b 0 (lst p) ∧ 2 ≤ p.length ∧ p.length ≤ 5
def gr (b : BK) (r : List Int) : Prop := grp b r.reverse
theorem pex_good {b : BK} {win : LL → Int} : ∀ (k : Nat) (p : List Int) (L : LL), p ≠ [] → okp b p → (∀ t ∈ p, b 0 t ≠ b 1 (hd p)) → p.length + k ≤ 5 → (∀ r ∈ L, gr b r) → ∀ r ∈ pex b win k p L, gr b r
  | 0, _, _, _, _, _, _, h => h
  | k + 1, p, L, hp, ho, hb, hk, h => by
    rw [pex_succ]
    have hl := lpos hp
    refine fup_inv (fun _ (L : LL) => ∀ r ∈ L, gr b r) (lo := 0) (n := (nm b : Int)) (fun y L a0 a1 hL => ?_) (nm b) 0 L (by omega) (by omega) h
    have hok : pcan b (win L) p y → okp b (y :: p) := by
      intro hc
      cases p with
      | nil => exact absurd rfl hp
      | cons x l =>
        refine ⟨⟨a0, by have : (nm b : Int) = ((b 5 1).toNat : Int) := rfl; omega⟩, hc.1, fun u hu => ?_, ho⟩
        have e : b 0 y = b 1 x := hc.1.1
        rw [e]
        exact hb u hu
    unfold pexg
    split
    · rename_i hc
      split
      · rename_i h2
        intro r hr
        rcases List.mem_append.mp hr with hr | hr
        · exact hL r hr
        · have : r = (y :: p).reverse := by simpa using hr
          subst this
          unfold gr
          rw [List.reverse_reverse]
          exact ⟨hok hc, by rw [lst_cons hp]; exact h2, by simp; omega, by simp; omega⟩
      · split
        · exact hL
        · rename_i h2 h3
          exact pex_good k (y :: p) L (by simp) (hok hc) (fun t ht e => h3 (Or.inr ⟨t, ht, e⟩)) (by simp; omega) hL
    · exact hL
theorem pro_good {b : BK} (hv : vb b) (win : LL → Int) : ∀ r ∈ pro b win, gr b r := by
  have hlo := vb_lo hv
  refine fup_inv (fun _ (L : LL) => ∀ r ∈ L, gr b r) (lo := 0) (n := (nm b : Int)) (fun t L a0 a1 hL => ?_) (nm b) 0 [] (by omega) (by omega) (fun r hr => by cases hr)
  have hm := vb_m hv
  have a1' : t < b 5 1 := by have : (nm b : Int) = ((b 5 1).toNat : Int) := rfl; omega
  have bt0 := vb_t hv a0 a1'
  unfold prog
  split
  · exact hL
  · refine pex_good _ [t] L (by simp) ⟨a0, a1'⟩ (fun u hu => ?_) (by simp; omega) hL
    have : u = t := by simpa using hu
    subst this
    exact bt0.2.2.1
/-- with a window that stays, what was found ahead does not matter -/
theorem fup_app {g : LL → Int → LL} (h : ∀ L y, g L y = L ++ g [] y) : ∀ (k : Nat) (i : Int) (L : LL), fup g k i L = L ++ fup g k i []
  | 0, _, L => (List.append_nil L).symm
  | k + 1, i, L => by
    show fup g k (i + 1) (g L i) = L ++ fup g k (i + 1) (g [] i)
    rw [fup_app h k (i + 1) (g L i), fup_app h k (i + 1) (g [] i), h L i, List.append_assoc]
theorem pex_app (b : BK) (w : Int) : ∀ (k : Nat) (p : List Int) (L : LL), pex b (fun _ => w) k p L = L ++ pex b (fun _ => w) k p []
  | 0, _, L => (List.append_nil L).symm
  | k + 1, p, L => by
    rw [pex_succ, pex_succ]
    refine fup_app (fun L y => ?_) _ _ _
    unfold pexg
    split
    · split
      · rfl
      · split
        · exact (List.append_nil L).symm
        · exact pex_app b w k (y :: p) L
    · exact (List.append_nil L).symm
/-- the rounds that begin with a path -/
theorem pex_begin (b : BK) (w : Int) : ∀ (k : Nat) (p : List Int), ∀ r ∈ pex b (fun _ => w) k p [], p.reverse <+: r
  | 0, _, r, hr => by cases hr
  | k + 1, p, r, hr => by
    rw [pex_succ] at hr
    refine fup_inv (fun _ (L : LL) => ∀ r ∈ L, p.reverse <+: r) (lo := 0) (n := (nm b : Int)) (fun y L a0 a1 hL => ?_) (nm b) 0 [] (by omega) (by omega) (fun r hr => by cases hr) r hr
    have hy : ∀ r, (y :: p).reverse <+: r → p.reverse <+: r := fun r h => List.IsPrefix.trans (by rw [List.reverse_cons]; exact List.prefix_append _ _) h
    unfold pexg
    split
    · split
      · intro r hr
        rcases List.mem_append.mp hr with hr | hr
        · exact hL r hr
        · have : r = (y :: p).reverse := by simpa using hr
          subst this
          exact hy _ List.prefix_rfl
      · split
        · exact hL
        · intro r hr
          rw [pex_app] at hr
          rcases List.mem_append.mp hr with hr | hr
          · exact hL r hr
          · exact hy _ (pex_begin b w k (y :: p) r hr)
    · exact hL
theorem pre_get {q : List Int} {y : Int} {r : List Int} (h : (q ++ [y]) <+: r) : r.getD q.length 0 = y := by
  obtain ⟨s, rfl⟩ := h
  rw [List.append_assoc, gda_r (Nat.le_refl _)]
  simp
theorem fup_nodup {g : LL → Int → LL} {n : Int} (key : List Int → Int) (ha : ∀ L y, g L y = L ++ g [] y) (hn : ∀ y, 0 ≤ y → y < n → (g [] y).Nodup) (hk : ∀ y, 0 ≤ y → y < n → ∀ r ∈ g [] y, key r = y) (k : Nat) (h : (k : Int) = n) : (fup g k 0 []).Nodup := by
  refine (fup_inv (fun i (L : LL) => L.Nodup ∧ ∀ r ∈ L, key r < i) (lo := 0) (n := n) (fun y L a0 a1 hL => ?_) k 0 [] (by omega) (by omega) ⟨List.nodup_nil, fun r hr => by cases hr⟩).1
  rw [ha L y]
  refine ⟨List.nodup_append.mpr ⟨hL.1, hn y a0 a1, fun r hr s hs e => ?_⟩, fun r hr => ?_⟩
  · subst e
    have := hL.2 r hr
    have := hk y a0 a1 r hs
    omega
  · rcases List.mem_append.mp hr with hr | hr
    · have := hL.2 r hr
      omega
    · have := hk y a0 a1 r hr
      omega
theorem pex_nodup (b : BK) (w : Int) : ∀ (k : Nat) (p : List Int), (pex b (fun _ => w) k p []).Nodup
  | 0, _ => List.nodup_nil
  | k + 1, p => by
    rw [pex_succ]
    refine fup_nodup (n := (nm b : Int)) (fun r => r.getD p.length 0) (fun L y => ?_) (fun y a0 a1 => ?_) (fun y a0 a1 r hr => ?_) (nm b) rfl
    · unfold pexg
      split
      · split
        · rfl
        · split
          · exact (List.append_nil L).symm
          · exact pex_app b w k (y :: p) L
      · exact (List.append_nil L).symm
    · unfold pexg
      split
      · split
        · exact List.nodup_cons.mpr ⟨by simp, List.nodup_nil⟩
        · split
          · exact List.nodup_nil
          · exact pex_nodup b w k (y :: p)
      · exact List.nodup_nil
    · have hb : (y :: p).reverse <+: r := by
        unfold pexg at hr
        split at hr
        · split at hr
          · have : r = (y :: p).reverse := by simpa using hr
            subst this
            exact List.prefix_rfl
          · split at hr
            · cases hr
            · exact pex_begin b w k (y :: p) r hr
        · cases hr
      rw [List.reverse_cons] at hb
      have := pre_get hb
      simpa using this
theorem pro_nodup (b : BK) (w : Int) : (pro b (fun _ => w)).Nodup := by
  refine fup_nodup (n := (nm b : Int)) (fun r => r.getD 0 0) (fun L y => ?_) (fun y a0 a1 => ?_) (fun y a0 a1 r hr => ?_) (nm b) rfl
  · unfold prog
    split
    · exact (List.append_nil L).symm
    · exact pex_app b w _ _ L
  · unfold prog
    split
    · exact List.nodup_nil
    · exact pex_nodup b w _ _
  · unfold prog at hr
    split at hr
    · cases hr
    · have hb := pex_begin b w _ [y] r hr
      have := pre_get (q := []) (y := y) hb
      simpa using this
