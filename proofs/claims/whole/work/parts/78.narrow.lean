/-! the narrowest round: a window that is drawn in finds the least span of all rounds -/
abbrev spr (b : BK) (r : List Int) : Int := b 2 (rls r) - b 2 (rst r)
def wnr (b : BK) (w : Int) (L : LL) : Int := if L = [] then w else spr b (L.getLastD []) - 1
theorem wnr_app (b : BK) (w : Int) (L : LL) (r : List Int) : wnr b w (L ++ [r]) = spr b r - 1 := by
  unfold wnr
  rw [if_neg (by simp)]
  simp [List.getLastD_eq_getLast?]
/-- what a part of the search does: Y are all the rounds of that part -/
def nar (b : BK) (w : Int) (L L' Y : LL) : Prop := wnr b w L' ≤ wnr b w L ∧ (∀ r ∈ Y, wnr b w L' < spr b r) ∧ (L' = L ∨ (L' ≠ [] ∧ L'.getLastD [] ∈ Y))
theorem nar_0 (b : BK) (w : Int) (L : LL) : nar b w L L [] := ⟨Int.le_refl _, ⟨(fun (r : List Int) (hr : r ∈ ([] : LL)) => by cases hr), Or.inl rfl⟩⟩
theorem nar_trans {b : BK} {w : Int} {L L1 L2 Y1 Y2 : LL} (h1 : nar b w L L1 Y1) (h2 : nar b w L1 L2 Y2) : nar b w L L2 (Y1 ++ Y2) := by
  refine ⟨Int.le_trans h2.1 h1.1, fun r hr => ?_, ?_⟩
  · rcases List.mem_append.mp hr with hr | hr
    · have := h1.2.1 r hr
      have := h2.1
      omega
    · exact h2.2.1 r hr
  · rcases h2.2.2 with e | ⟨e1, e2⟩
    · rw [e]
      rcases h1.2.2 with e | ⟨e1, e2⟩
      · exact Or.inl e
      · exact Or.inr ⟨e1, List.mem_append.mpr (Or.inl e2)⟩
    · exact Or.inr ⟨e1, List.mem_append.mpr (Or.inr e2)⟩
theorem fup_nar {b : BK} {w : Int} {g g' : LL → Int → LL} {n : Int} (ha : ∀ L y, g' L y = L ++ g' [] y) (step : ∀ L y, 0 ≤ y → y < n → wnr b w L ≤ w → nar b w L (g L y) (g' [] y)) : ∀ (k : Nat) (i : Int) (L : LL), 0 ≤ i → i + (k : Int) = n → wnr b w L ≤ w → nar b w L (fup g k i L) (fup g' k i [])
  | 0, _, L, _, _, _ => nar_0 b w L
  | k + 1, i, L, hi, hk, hL => by
    have s := step L i hi (by omega) hL
    have r := fup_nar ha step k (i + 1) (g L i) (by omega) (by omega) (by have := s.1; omega)
    show nar b w L (fup g k (i + 1) (g L i)) (fup g' k (i + 1) (g' [] i))
    rw [fup_app ha k (i + 1) (g' [] i)]
    exact nar_trans s r
theorem round_ends {b : BK} {p : List Int} (h : p ≠ []) {r : List Int} (hr : p.reverse <+: r) : r.getD 0 0 = lst p ∧ ∀ u ∈ p, u ∈ r := by
  obtain ⟨s, rfl⟩ := hr
  refine ⟨?_, fun u hu => List.mem_append.mpr (Or.inl (List.mem_reverse.mpr hu))⟩
  have hl := lpos h
  rw [gda_l (by rw [List.length_reverse]; omega)]
  have : p.reverse.getD 0 0 = lst p := by
    unfold lst
    rw [List.getLastD_eq_getLast?, List.getD_eq_getElem?_getD, ← List.head?_eq_getElem?, List.head?_reverse]
  exact this
theorem rls_ge {b : BK} (hv : vb b) {r : List Int} (h : gr b r) {u : Int} (hu : u ∈ r) : b 2 u ≤ b 2 (rls r) := by
  have gl := gr_len h
  obtain ⟨i, hi, e⟩ := mem_get hu
  have ul := rls_in h
  have ui := gr_in h hu
  by_cases he : i = r.length - 1
  · rw [show rls r = u by rw [← e, he]]
    exact Int.le_refl _
  · have := asc_get (gr_asc hv h) (i := i) (j := r.length - 1) (by omega) (by omega)
    rw [e] at this
    have this2 : u < rls r := this
    exact vb_so hv ui.1 (by omega) ul.2
theorem pex_nar {b : BK} (hv : vb b) (w : Int) : ∀ (k : Nat) (p : List Int) (L : LL), p ≠ [] → okp b p → (∀ t ∈ p, b 0 t ≠ b 1 (hd p)) → p.length + k ≤ 5 → wnr b w L ≤ w → nar b w L (pex b (wnr b w) k p L) (pex b (fun _ => w) k p [])
  | 0, p, L, _, _, _, _, _ => nar_0 b w L
  | k + 1, p, L, hp, ho, hb, hk, hw => by
    rw [pex_succ, pex_succ]
    have hl := lpos hp
    refine fup_nar (n := (nm b : Int)) (fun L y => ?_) (fun L y a0 a1 hL => ?_) (nm b) 0 L (by omega) (by omega) hw
    · unfold pexg
      split
      · split
        · rfl
        · split
          · exact (List.append_nil L).symm
          · exact pex_app b w k (y :: p) L
      · exact (List.append_nil L).symm
    have hok : pcan b w p y → okp b (y :: p) := by
      intro hc
      cases p with
      | nil => exact absurd rfl hp
      | cons x l =>
        refine ⟨⟨a0, by have : (nm b : Int) = ((b 5 1).toNat : Int) := rfl; omega⟩, hc.1, fun u hu => ?_, ho⟩
        have e : b 0 y = b 1 x := hc.1.1
        rw [e]
        exact hb u hu
    have hlst : lst (y :: p) = lst p := lst_cons hp y
    have far : ∀ r ∈ pexg b (fun _ => w) k p [] y, b 2 y - b 2 (lst p) ≤ spr b r := by
      intro r hr
      have hr2 : pcan b w p y ∧ gr b r ∧ (y :: p).reverse <+: r := by
        unfold pexg at hr
        by_cases hc : pcan b w p y
        · rw [if_pos hc] at hr
          have hg : ∀ (h2 : ¬ b 1 y = b 0 (lst p)), True := fun _ => trivial
          by_cases h2 : b 1 y = b 0 (lst p)
          · rw [if_pos h2] at hr
            have e : r = (y :: p).reverse := by simpa using hr
            subst e
            refine ⟨hc, ?_, List.prefix_rfl⟩
            unfold gr
            rw [List.reverse_reverse]
            exact ⟨hok hc, by rw [hlst]; exact h2, by simp; omega, by simp; omega⟩
          · rw [if_neg h2] at hr
            by_cases h3 : ptst b (b 1 y) ∨ (∃ t ∈ y :: p, b 0 t = b 1 y)
            · rw [if_pos h3] at hr
              cases hr
            · rw [if_neg h3] at hr
              refine ⟨hc, ?_, pex_begin b w k (y :: p) r hr⟩
              exact pex_good k (y :: p) [] (by simp) (hok hc) (fun t ht e => h3 (Or.inr ⟨t, ht, e⟩)) (by simp; omega) (fun r hr => by cases hr) r hr
        · rw [if_neg hc] at hr
          cases hr
      obtain ⟨hc, hg, hpre⟩ := hr2
      have re := round_ends (b := b) (p := y :: p) (by simp) hpre
      have ge := rls_ge hv hg (re.2 y (List.mem_cons_self ..))
      have e0 : rst r = lst p := re.1.trans hlst
      show b 2 y - b 2 (lst p) ≤ b 2 (rls r) - b 2 (rst r)
      rw [e0]
      omega
    by_cases hc : pcan b (wnr b w L) p y
    · have hcw : pcan b w p y := ⟨hc.1, by have := hc.2; omega⟩
      have e1 : pexg b (wnr b w) k p L y = if b 1 y = b 0 (lst p) then L ++ [(y :: p).reverse] else if ptst b (b 1 y) ∨ (∃ t ∈ y :: p, b 0 t = b 1 y) then L else pex b (wnr b w) k (y :: p) L := if_pos hc
      have e2 : pexg b (fun _ => w) k p [] y = if b 1 y = b 0 (lst p) then [] ++ [(y :: p).reverse] else if ptst b (b 1 y) ∨ (∃ t ∈ y :: p, b 0 t = b 1 y) then [] else pex b (fun _ => w) k (y :: p) [] := if_pos hcw
      by_cases h2 : b 1 y = b 0 (lst p)
      · have f2 : pexg b (fun _ => w) k p [] y = [(y :: p).reverse] := by rw [e2, if_pos h2]; rfl
        have fr := far (y :: p).reverse (by rw [f2]; exact List.mem_singleton.mpr rfl)
        rw [e1, f2, if_pos h2]
        have el : rst (y :: p).reverse = lst p := by
          rw [← hlst]
          exact (round_ends (b := b) (p := y :: p) (by simp) List.prefix_rfl).1
        have er : rls (y :: p).reverse = y := by
          show (y :: p).reverse.getD ((y :: p).reverse.length - 1) 0 = y
          rw [List.reverse_cons, List.length_append, List.length_singleton, Nat.add_sub_cancel, gda_r (Nat.le_refl _), Nat.sub_self]
          rfl
        have es : spr b (y :: p).reverse = b 2 y - b 2 (lst p) := by
          show b 2 (rls (y :: p).reverse) - b 2 (rst (y :: p).reverse) = _
          rw [el, er]
        refine ⟨?_, fun r hr => ?_, Or.inr ⟨by simp, ?_⟩⟩
        · rw [wnr_app, es]
          have := hc.2
          omega
        · rw [List.mem_singleton.mp hr, wnr_app]
          omega
        · simp [List.getLastD_eq_getLast?]
      · by_cases h3 : ptst b (b 1 y) ∨ (∃ t ∈ y :: p, b 0 t = b 1 y)
        · rw [e1, e2, if_neg h2, if_neg h2, if_pos h3, if_pos h3]
          exact nar_0 b w L
        · rw [e1, e2, if_neg h2, if_neg h2, if_neg h3, if_neg h3]
          exact pex_nar hv w k (y :: p) L (by simp) (hok hcw) (fun t ht e => h3 (Or.inr ⟨t, ht, e⟩)) (by simp; omega) hL
    · have e1 : pexg b (wnr b w) k p L y = L := if_neg hc
      rw [e1]
      refine ⟨Int.le_refl _, fun r hr => ?_, Or.inl rfl⟩
      have fr := far r hr
      by_cases hs : pstep b (hd p) y
      · have : ¬ b 2 y - b 2 (lst p) ≤ wnr b w L := fun h => hc ⟨hs, h⟩
        omega
      · have e2 : pexg b (fun _ => w) k p [] y = [] := if_neg (fun h => hs h.1)
        rw [e2] at hr
        cases hr
theorem pro_nar {b : BK} (hv : vb b) (w : Int) : nar b w [] (pro b (wnr b w)) (pro b (fun _ => w)) := by
  have hm := vb_m hv
  have hlo := vb_lo hv
  unfold pro
  refine fup_nar (n := (nm b : Int)) (fun L y => ?_) (fun L y a0 a1 hL => ?_) (nm b) 0 [] (by omega) (by omega) (by show wnr b w [] ≤ w; exact Int.le_refl _)
  · unfold prog
    split
    · exact (List.append_nil L).symm
    · exact pex_app b w _ [y] L
  · have hn : (nm b : Int) = ((b 5 1).toNat : Int) := rfl
    have ht := vb_t hv a0 (by omega)
    unfold prog
    split
    · exact nar_0 b w L
    · refine pex_nar hv w _ [y] L (by simp) ⟨a0, by omega⟩ (fun t ht2 => ?_) (by simp; omega) hL
      rw [List.mem_singleton.mp ht2]
      exact ht.2.2.1
/-- the span of all rounds is within the window -/
theorem pex_span {b : BK} (w : Int) : ∀ (k : Nat) (p : List Int) (L : LL), p ≠ [] → (∀ r ∈ L, spr b r ≤ w) → ∀ r ∈ pex b (fun _ => w) k p L, spr b r ≤ w
  | 0, _, _, _, h => h
  | k + 1, p, L, hp, h => by
    rw [pex_succ]
    refine fup_inv (fun _ (L : LL) => ∀ r ∈ L, spr b r ≤ w) (lo := 0) (n := (nm b : Int)) (fun y L a0 a1 hL => ?_) (nm b) 0 L (by omega) (by omega) h
    have hlst : lst (y :: p) = lst p := lst_cons hp y
    unfold pexg
    split
    · rename_i hc
      split
      · intro r hr
        rcases List.mem_append.mp hr with hr | hr
        · exact hL r hr
        · have e : r = (y :: p).reverse := by simpa using hr
          subst e
          have el : rst (y :: p).reverse = lst p := by
            rw [← hlst]
            exact (round_ends (b := b) (p := y :: p) (by simp) List.prefix_rfl).1
          have er : rls (y :: p).reverse = y := by
            show (y :: p).reverse.getD ((y :: p).reverse.length - 1) 0 = y
            rw [List.reverse_cons, List.length_append, List.length_singleton, Nat.add_sub_cancel, gda_r (Nat.le_refl _), Nat.sub_self]
            rfl
          show b 2 (rls (y :: p).reverse) - b 2 (rst (y :: p).reverse) ≤ w
          rw [el, er]
          exact hc.2
      · split
        · exact hL
        · exact pex_span w k (y :: p) L (by simp) hL
    · exact hL
theorem pro_span (b : BK) (w : Int) : ∀ r ∈ pro b (fun _ => w), spr b r ≤ w := by
  unfold pro
  refine fup_inv (fun _ (L : LL) => ∀ r ∈ L, spr b r ≤ w) (lo := 0) (n := (nm b : Int)) (fun y L a0 a1 hL => ?_) (nm b) 0 [] (by omega) (by omega) (fun r hr => by cases hr)
  unfold prog
  split
  · exact hL
  · exact pex_span w _ [y] L (by simp) hL
/-- the least span of some rounds; -1: there are none -/
def nmn (b : BK) : LL → Int
  | [] => -1
  | r :: l => if nmn b l = -1 ∨ spr b r < nmn b l then spr b r else nmn b l
def lsp (b : BK) (L : LL) : Int := if L = [] then -1 else spr b (L.getLastD [])
theorem nmn_spec {b : BK} : ∀ (F : LL), (∀ r ∈ F, 0 ≤ spr b r) → (F = [] ∧ nmn b F = -1) ∨ (0 ≤ nmn b F ∧ (∃ r ∈ F, nmn b F = spr b r) ∧ ∀ r ∈ F, nmn b F ≤ spr b r)
  | [], _ => Or.inl ⟨rfl, rfl⟩
  | r :: l, h => by
    have hr := h r (List.mem_cons_self ..)
    have e : nmn b (r :: l) = if nmn b l = -1 ∨ spr b r < nmn b l then spr b r else nmn b l := rfl
    right
    rw [e]
    rcases nmn_spec l (fun x hx => h x (List.mem_cons_of_mem _ hx)) with ⟨h1, h2⟩ | ⟨h1, ⟨x, hx, h2⟩, h3⟩
    · rw [if_pos (Or.inl h2)]
      refine ⟨hr, ⟨r, List.mem_cons_self .., rfl⟩, fun y hy => ?_⟩
      rcases List.mem_cons.mp hy with rfl | hy
      · exact Int.le_refl _
      · rw [h1] at hy; cases hy
    · by_cases hc : nmn b l = -1 ∨ spr b r < nmn b l
      · rw [if_pos hc]
        refine ⟨hr, ⟨r, List.mem_cons_self .., rfl⟩, fun y hy => ?_⟩
        rcases List.mem_cons.mp hy with rfl | hy
        · exact Int.le_refl _
        · have := h3 y hy
          omega
      · rw [if_neg hc]
        refine ⟨h1, ⟨x, List.mem_cons_of_mem _ hx, h2⟩, fun y hy => ?_⟩
        rcases List.mem_cons.mp hy with rfl | hy
        · omega
        · exact h3 y hy
theorem spr_nn {b : BK} (hv : vb b) {r : List Int} (h : gr b r) : 0 ≤ spr b r ∧ spr b r ≤ 9999 := by
  have gl := gr_len h
  have := rls_ge hv h (getD_mem (l := r) (i := 0) (by omega))
  have r1 := rls_in h
  have r2 := rst_in h
  have t1 := vb_t hv r1.1 r1.2
  have t2 := vb_t hv r2.1 r2.2
  have e : rst r = r.getD 0 0 := rfl
  show 0 ≤ b 2 (rls r) - b 2 (rst r) ∧ b 2 (rls r) - b 2 (rst r) ≤ 9999
  rw [e] at t2 ⊢
  omega
/-- the class's answer is the least span -/
theorem lsp_nmn {b : BK} (hv : vb b) (w : Int) : lsp b (pro b (wnr b w)) = nmn b (pro b (fun _ => w)) ∧ (pro b (wnr b w) = [] ↔ pro b (fun _ => w) = []) := by
  have hn := pro_nar hv w
  have hs := pro_span b w
  have hg := pro_good hv (fun _ => w)
  generalize pro b (wnr b w) = X at hn ⊢
  generalize pro b (fun _ => w) = F at hn hs hg ⊢
  obtain ⟨h1, h2, h3⟩ := hn
  by_cases hX : X = []
  · subst hX
    have hF : F = [] := by
      cases F with
      | nil => rfl
      | cons r l =>
        have a := h2 r (List.mem_cons_self ..)
        have b2 := hs r (List.mem_cons_self ..)
        have e : wnr b w [] = w := rfl
        omega
    subst hF
    exact ⟨rfl, Iff.rfl⟩
  · have h3' := h3.resolve_left hX
    have hF : F ≠ [] := fun e => by
      have := h3'.2
      rw [e] at this
      cases this
    refine ⟨?_, ⟨fun h => absurd h hX, fun h => absurd h hF⟩⟩
    have e : lsp b X = spr b (X.getLastD []) := if_neg hX
    have ew : wnr b w X = spr b (X.getLastD []) - 1 := if_neg hX
    rcases nmn_spec F (fun r hr => (spr_nn hv (hg r hr)).1) with ⟨q, _⟩ | ⟨_, ⟨r, hr, q1⟩, q2⟩
    · exact absurd q hF
    · have a := h2 r hr
      have b2 := q2 _ h3'.2
      omega
