/-! cells: reading, writing, making -/
theorem jkt_ge {t : Nat} (h : jkt t ≠ 9) : 11 ≤ t := by
  rcases Nat.lt_or_ge t 11 with h1 | h1
  · exact absurd ((by decide : ∀ t, t < 11 → jkt t = 9) t h1) h
  · exact h1
theorem jcnd {α : Type} {P : α → Prop} {b : Bool} {a c : α} (h1 : P a) (h2 : P c) : P (cond b a c) := by cases b <;> assumption
def jfP (f : JV) : Prop := f.1 = 0 ∨ f.1 = 1 ∨ f.1 = 3 ∨ 11 ≤ f.1
theorem jft_kind (t k : Nat) (x : Int) : jfP (jft t k x) := by
  unfold jft jf11 jf12 jf20 jf21 jf22 jf25 jf26 jf27 jf40
  repeat (first | exact Or.inl rfl | exact Or.inr (Or.inl rfl) | exact Or.inr (Or.inr (Or.inl rfl)) | exact Or.inr (Or.inr (Or.inr (Nat.le_of_ble_eq_true rfl))) | refine jcnd ?_ ?_)
theorem jlt_le (t : Nat) : 0 ≤ jlt t ∧ jlt t ≤ 60000 := by
  unfold jlt
  repeat (first | exact ⟨by decide, by decide⟩ | refine jcnd (P := fun z : Int => 0 ≤ z ∧ z ≤ 60000) ?_ ?_)
theorem jlen_le {base : Nat} {ad : Nat → Nat} {D : va_G} {y : Nat → ClassId} {ph : Bool} {μ : JM} {H : Heap} {t : Nat} {x : Int} (hR : JRel base ad D y ph μ H) (hl : jlive μ (t, x)) : 0 ≤ jlen μ t x ∧ jlen μ t x ≤ 7302250 := by
  unfold jlen
  by_cases h : t = 50
  · subst h
    exact hR.2.2.2.2.1 x hl
  · rw [nbeq_f h]
    have := jlt_le t
    exact ⟨this.1, Int.le_trans this.2 (by decide)⟩
theorem jvin {i n : Int} (h0 : 0 ≤ i) (h1 : i < n) (hn : n ≤ 7302250) : vp_in (Int32.ofInt i) n.toNat := by
  unfold vp_in
  rw [i32_clamp h0 (by omega), i32_0, i32_lt ⟨by omega, by omega⟩ ⟨by decide, by decide⟩]
  omega
theorem jcell0 {ad : Nat → Nat} {ph : Bool} {μ : JM} {y : Nat → ClassId} {t : Nat} {x : Int} (h : jkt t = 0) : jcell ad ph μ y (t, x) = .inr (jkc t x, (List.range (jnf (jkc t x))).map (fun k => jfval ad ph μ t x k)) := by unfold jcell; rw [if_pos h]
theorem jcell1 {ad : Nat → Nat} {ph : Bool} {μ : JM} {y : Nat → ClassId} {t : Nat} {x : Int} (h : jkt t = 1) : jcell ad ph μ y (t, x) = .inl (y 1, (jlen μ t x).toNat, .inl (fun j => Int32.ofInt (μ t x j))) := by unfold jcell; simp only [h]; rfl
theorem jcell2 {ad : Nat → Nat} {ph : Bool} {μ : JM} {y : Nat → ClassId} {t : Nat} {x : Int} (h : jkt t = 2) : jcell ad ph μ y (t, x) = .inl (y 2, (jlen μ t x).toNat, .inr (.inl (fun j => Int64.ofInt (μ t x j)))) := by unfold jcell; simp only [h]; rfl
theorem jcell3 {ad : Nat → Nat} {ph : Bool} {μ : JM} {y : Nat → ClassId} {t : Nat} {x : Int} (h : jkt t = 3) : jcell ad ph μ y (t, x) = .inl (y 3, (jlen μ t x).toNat, .inl (fun j => Int32.ofInt (μ t x j))) := by unfold jcell; simp only [h]; rfl
theorem jcell4 {ad : Nat → Nat} {ph : Bool} {μ : JM} {y : Nat → ClassId} {t : Nat} {x : Int} (h : jkt t = 4) : jcell ad ph μ y (t, x) = .inl (y 4, (jlen μ t x).toNat, .inl (fun j => Int32.ofInt (μ t x j))) := by unfold jcell; simp only [h]; rfl
theorem jcell5 {ad : Nat → Nat} {ph : Bool} {μ : JM} {y : Nat → ClassId} {t : Nat} {x : Int} (h : jkt t = 5) : jcell ad ph μ y (t, x) = .inl (y 5, (jlen μ t x).toNat, .inr (.inr (.inr (.inr (fun j => jbval ad ph μ t x j))))) := by unfold jcell; simp only [h]; rfl
/-- what a field holds, as a value of the machine and as one of the memory -/
theorem jfval_jfv {ad : Nat → Nat} {ph : Bool} {μ : JM} {t k : Nat} {x : Int} (hg : ∀ g ∈ jfg ph μ t x k (jft t k x), g) : jfval ad ph μ t x k = jval ad (jfv μ t x k (jft t k x)) := by
  unfold jfval jfv
  unfold jfg at hg
  by_cases h0 : (jft t k x).1 = 0
  · rw [if_pos h0, nbeq_t h0]
    rfl
  rw [if_neg h0, nbeq_f h0]
  rw [nbeq_f h0] at hg
  by_cases h3 : (jft t k x).1 = 3
  · rw [if_pos h3, nbeq_t h3]
    rfl
  rw [if_neg h3, nbeq_f h3]
  rw [nbeq_f h3] at hg
  by_cases h1 : (jft t k x).1 = 1
  · rw [if_pos h1, nbeq_t h1]
    rw [nbeq_t h1] at hg
    have h : 1 ≤ μ t x k := hg _ List.mem_cons_self
    rw [if_neg (by omega)]
    rfl
  rw [if_neg h1, nbeq_f h1]
  rw [nbeq_f h1] at hg
  have h : ph = true ∨ μ t x k ≠ 0 := by
    cases ph with
    | true => exact Or.inl rfl
    | false => exact Or.inr (hg _ List.mem_cons_self)
  rw [if_pos h]
  rcases jft_kind t k x with q | q | q | q
  · exact absurd q h0
  · exact absurd q h1
  · exact absurd q h3
  · exact (jval_ref q).symm
theorem jfv_ok {ph : Bool} {μ : JM} {t : Nat} {k : Int} {x : Int} {f : JV} (hl : jlkf ph μ t x k f) (hg : ∀ g ∈ jfg ph μ t x k f, g) : jokv μ (jfv μ t x k f) := by
  intro h11
  unfold jfv at h11 ⊢
  unfold jfg at hg
  by_cases h0 : f.1 = 0
  · rw [nbeq_t h0] at h11
    exact absurd h11 (show ¬ 11 ≤ 0 by decide)
  rw [nbeq_f h0] at h11 hg ⊢
  by_cases h3 : f.1 = 3
  · rw [nbeq_t h3] at h11
    exact absurd h11 (show ¬ 11 ≤ 3 by decide)
  rw [nbeq_f h3] at h11 hg ⊢
  by_cases h1 : f.1 = 1
  · rw [nbeq_t h1] at hg ⊢
    have h : 1 ≤ μ t x k := hg _ List.mem_cons_self
    rcases hl with q | q | q | q
    · exact absurd q h0
    · exact absurd q h3
    · exact q.2.2 (by omega)
    · rw [h1] at q
      exact absurd q.1 (by decide)
  rw [nbeq_f h1] at hg ⊢
  have h : ph = true ∨ μ t x k ≠ 0 := by
    cases ph with
    | true => exact Or.inl rfl
    | false => exact Or.inr (hg _ List.mem_cons_self)
  rcases hl with q | q | q | q
  · exact absurd q h0
  · exact absurd q h3
  · exact absurd q.1 h1
  · exact q.2 h
theorem jput_val {ad : Nat → Nat} {ph : Bool} {μ : JM} {t k : Nat} {x w : Int} {v : JV} {gs : List Prop} (hp : jput (jft t k x) v = some (gs, w)) (hg : ∀ g ∈ gs, g) : jfval ad ph (jw μ t x k w) t x k = jval ad v := by
  obtain ⟨vt, vx⟩ := v
  have e : jw μ t x k w t x k = w := by unfold jw; rw [if_pos ⟨rfl, rfl, rfl⟩]
  unfold jput at hp
  unfold jfval
  rw [e]
  by_cases h0 : (jft t k x).1 = 0
  · rw [nbeq_t h0] at hp
    by_cases hv : vt = 0
    · subst hv
      cases hp
      rw [if_pos h0]
      rfl
    · rw [nbeq_f hv] at hp
      cases hp
  rw [nbeq_f h0] at hp
  rw [if_neg h0]
  by_cases h3 : (jft t k x).1 = 3
  · rw [nbeq_t h3] at hp
    by_cases hv : vt = 3
    · subst hv
      cases hp
      rw [if_pos h3]
      rfl
    · rw [nbeq_f hv] at hp
      cases hp
  rw [nbeq_f h3] at hp
  rw [if_neg h3]
  by_cases h1 : (jft t k x).1 = 1
  · rw [nbeq_t h1] at hp
    by_cases hv : vt = 50
    · subst hv
      cases hp
      have h : 0 ≤ vx := hg _ List.mem_cons_self
      rw [if_pos h1, if_neg (by show ¬ vx + 1 = 0; omega), show (50, vx).2 + 1 - 1 = vx from by show vx + 1 - 1 = vx; omega]
      rfl
    · rw [nbeq_f hv] at hp
      cases hp
  rw [nbeq_f h1] at hp
  rw [if_neg h1]
  by_cases hv : (jft t k x).1 = vt
  · rw [nbeq_t hv] at hp
    cases hp
    have h : vx = (jft t k x).2 := hg _ List.mem_cons_self
    rw [if_pos (Or.inr (by decide))]
    rcases jft_kind t k x with q | q | q | q
    · exact absurd q h0
    · exact absurd q h1
    · exact absurd q h3
    · rw [← hv, h]
      exact (jval_ref q).symm
  · rw [nbeq_f hv] at hp
    cases hp
theorem jput_lk {ph : Bool} {μ : JM} {t : Nat} {k x w : Int} {f v : JV} {gs : List Prop} (hp : jput f v = some (gs, w)) (hg : ∀ g ∈ gs, g) (hv : jokv μ v) (h53 : t ≠ 53) (hf : f.1 = 0 ∨ f.1 = 1 ∨ f.1 = 3 ∨ 11 ≤ f.1 := by exact jft_kind _ _ _) : jlkf ph (jw μ t x k w) t x k f := by
  obtain ⟨vt, vx⟩ := v
  have e : jw μ t x k w t x k = w := by unfold jw; rw [if_pos ⟨rfl, rfl, rfl⟩]
  unfold jput at hp
  unfold jlkf
  rw [e, jloc_live jloc_jw h53, jloc_live jloc_jw h53]
  by_cases h0 : f.1 = 0
  · exact Or.inl h0
  rw [nbeq_f h0] at hp
  by_cases h3 : f.1 = 3
  · exact Or.inr (Or.inl h3)
  rw [nbeq_f h3] at hp
  by_cases h1 : f.1 = 1
  · rw [nbeq_t h1] at hp
    by_cases hv2 : vt = 50
    · subst hv2
      cases hp
      have h : 0 ≤ vx := hg _ List.mem_cons_self
      refine Or.inr (Or.inr (Or.inl ⟨h1, by show 0 ≤ vx + 1; omega, fun _ => ?_⟩))
      rw [show (50, vx).2 + 1 - 1 = vx from by show vx + 1 - 1 = vx; omega]
      exact hv (show 11 ≤ 50 by decide)
    · rw [nbeq_f hv2] at hp
      cases hp
  rw [nbeq_f h1] at hp
  by_cases hv2 : f.1 = vt
  · rw [nbeq_t hv2] at hp
    cases hp
    have h : vx = f.2 := hg _ List.mem_cons_self
    rcases hf with q | q | q | q
    · exact absurd q h0
    · exact absurd q h1
    · exact absurd q h3
    · refine Or.inr (Or.inr (Or.inr ⟨q, fun _ => ?_⟩))
      have e2 : f = (vt, vx) := Prod.ext hv2 h.symm
      rw [e2]
      exact hv (by rw [← hv2]; exact q)
  · rw [nbeq_f hv2] at hp
    cases hp
section
variable {p : Program} {l : Launch} {e : Env} {R : Room} {s : State} {m : MethodId} {args : Array Value} {below : List Frame} {meth : Method} {c : Code} {Qf : State → Prop} {base : Nat} {D : va_G} {y : Nat → ClassId} {H0 : Heap} {ph : Bool} {cc : ByteArray} {pc : Nat} {ls st : List JV} {μ : JM} {cells slots : Nat}
theorem o_getf (hx : p.tables.exec = Jvm.exec) (hb : c.code = cc) {own ref C : String} {T : u_T} {N index t k : Nat} {x : Int} {Ts : List Cond} (hts : ∀ w ∈ Ts, w.before args s = true) (hin : ∀ w ∈ u_ws C T N, w ∈ Ts) (ho : s.vm.findClass own = some m.cls) (hK : va_K D vwCl (jtys y) s) (h0 : jkt t = 0) (hc : vwCl[jkc t x]? = some (C, T, N)) (hk : k < N)
    (hlink : (Cond.fieldLink own index ref (T k).2.1 (T k).2.2.1).before args s = true) (hsame : ∀ z, s.fieldFound? (T k).1 (T k).2.1 (T k).2.2.1 = some z → s.fieldFound? ref (T k).2.1 (T k).2.2.1 = some z) (hd : decode cc pc = .ok (.getfield index, 3)) (hg : ∀ g ∈ jfg ph μ t x k (jft t k x), g)
    (kk : WJ p l e R s m args below meth c Qf base D y H0 ph (pc + 3) ls (jfv μ t x k (jft t k x) :: st) μ cells slots) : WJ p l e R s m args below meth c Qf base D y H0 ph pc ls ((t, x) :: st) μ cells slots := by
  intro ad H locs lsR hR hS hJ hO
  have h11 := jkt_ge (t := t) (by rw [h0]; decide)
  have hl := hO (t, x) List.mem_cons_self h11
  have hat := jws_at (ad := ad) (ph := ph) (y := y) hl
  have hN : jnf (jkc t x) = N := by unfold jnf; rw [List.getD_eq_getElem?_getD, hc]; rfl
  dsimp only at hat
  rw [jcell0 h0, hN] at hat
  have hv : ((List.range N).map (fun k => jfval ad ph μ t x k))[k]? = some (jval ad (jfv μ t x k (jft t k x))) := by
    rw [List.getElem?_map, List.getElem?_range hk, ← jfval_jfv hg]
    rfl
  show W p l e R s m args below meth c H locs cells slots Qf (F0 m pc lsR (jval ad (t, x) :: st.map (jval ad)))
  rw [jval_ref h11]
  refine va_get hx hb hts hin ho hK hR.1 _ hat hc k hk hlink hsame hv hd ?_
  refine kk ad H locs lsR hR hS hJ (ok_cons (jfv_ok ?_ hg) (ok_tail hO))
  have h5 := (hR.2.2.2.1 _ (jix_lt hl)).1
  rw [jlab_ix hl] at h5
  exact h5 h0 k (by show k < jnf (jkc t x); rw [hN]; exact hk)
theorem o_putf (hx : p.tables.exec = Jvm.exec) (hb : c.code = cc) {own ref C : String} {T : u_T} {N index t k : Nat} {x w : Int} {v : JV} {gs : List Prop} {Ts : List Cond} (hts : ∀ w ∈ Ts, w.before args s = true) (hin : ∀ w ∈ u_ws C T N, w ∈ Ts) (ty0 : Nat → FieldType) (hty : ∀ k, k < N → parseFieldDescriptor (T k).2.2.1 = some (ty0 k)) (hnm : ∀ a, a < N → ∀ b, b < N → a ≠ b → (T a).2.1 ≠ (T b).2.1) (ho : s.vm.findClass own = some m.cls) (hK : va_K D vwCl (jtys y) s) (h0 : jkt t = 0) (hc : vwCl[jkc t x]? = some (C, T, N)) (hk : k < N)
    (hlink : (Cond.fieldLink own index ref (T k).2.1 (T k).2.2.1).before args s = true) (hsame : ∀ z, s.fieldFound? (T k).1 (T k).2.1 (T k).2.2.1 = some z → s.fieldFound? ref (T k).2.1 (T k).2.2.1 = some z) (hfin : (T k).2.2.2 = false) (hn : ∀ ad : Nat → Nat, narrow (ty0 k) (jval ad v) = jval ad v) (hfit : ∀ ad : Nat → Nat, fits (ty0 k) (jval ad v) = true)
    (hd : decode cc pc = .ok (.putfield index, 3)) (hp : jput (jft t k x) v = some (gs, w)) (hg : ∀ g ∈ gs, g)
    (kk : WJ p l e R s m args below meth c Qf base D y H0 ph (pc + 3) ls st (jw μ t x k w) cells slots) : WJ p l e R s m args below meth c Qf base D y H0 ph pc ls (v :: (t, x) :: st) μ cells slots := by
  intro ad H locs lsR hR hS hJ hO
  have h11 := jkt_ge (t := t) (by rw [h0]; decide)
  have hl := hO (t, x) (List.mem_cons_of_mem _ List.mem_cons_self) h11
  have h53 : t ≠ 53 := (jlive_kt hl).2.2.2.2.1
  have hat := jws_at (ad := ad) (ph := ph) (y := y) hl
  have hN : jnf (jkc t x) = N := by unfold jnf; rw [List.getD_eq_getElem?_getD, hc]; rfl
  dsimp only at hat
  rw [jcell0 h0, hN] at hat
  have hpv := jput_val (ad := ad) (ph := ph) (μ := μ) (t := t) (k := k) (x := x) hp hg
  have hcell : jcell ad ph (jw μ t x k w) y (t, x) = .inr (jkc t x, ((List.range N).map (fun k => jfval ad ph μ t x k)).set k (jval ad v)) := by
    rw [jcell0 h0, hN]
    congr 2
    apply List.ext_getElem?
    intro i
    rw [List.getElem?_set, List.getElem?_map, List.length_map, List.length_range, List.getElem?_map]
    by_cases hi : k = i
    · subst hi
      rw [if_pos rfl, if_pos hk, List.getElem?_range hk]
      exact congrArg some hpv
    · rw [if_neg hi]
      by_cases h2 : i < N
      · rw [List.getElem?_range h2]
        refine congrArg some ?_
        have e : jw μ t x k w t x i = μ t x i := by unfold jw; rw [if_neg (fun q => hi (by have := q.2.2; omega))]
        show jfval ad ph (jw μ t x k w) t x i = jfval ad ph μ t x i
        unfold jfval
        rw [e]
      · rw [List.getElem?_eq_none (by rw [List.length_range]; omega)]
        rfl
  show W p l e R s m args below meth c H locs cells slots Qf (F0 m pc lsR (jval ad v :: jval ad (t, x) :: st.map (jval ad)))
  rw [jval_ref h11]
  refine va_put hx hb hts hin ty0 hty hnm ho hK hR.1 hR.2.1 hS _ hat hc k hk hlink hsame hfin (hty k hk) (hn ad) (hfit ad) (by rw [List.length_map, List.length_range]; exact hk) hd (fun H1 locs1 hP1 hD1 hS1 => ?_)
  refine kk ad H1 locs1 lsR (JRel_loc (p := (t, x)) hR hl jloc_jw (by rw [hcell]; exact hP1) (by rw [hcell]; exact hD1) (fun _ k' hk' => ?_) (fun h5 => by rw [h0] at h5; cases h5)) hS1 (JL_loc jloc_jw h53 hJ) (ok_loc jloc_jw h53 (ok_tail (ok_tail hO)))
  by_cases hi : k' = k
  · subst hi
    exact jput_lk hp hg (hO v List.mem_cons_self) h53
  · have h5 := (hR.2.2.2.1 _ (jix_lt hl)).1
    rw [jlab_ix hl] at h5
    have h6 := h5 h0 k' hk'
    have e : jw μ t x k w t x k' = μ t x k' := by unfold jw; rw [if_neg (fun q => hi (by have := q.2.2; omega))]
    unfold jlkf at h6 ⊢
    show _ ∨ _ ∨ (_ ∧ 0 ≤ jw μ t x k w t x k' ∧ _) ∨ _
    dsimp only
    rw [e, jloc_live jloc_jw h53, jloc_live jloc_jw h53]
    exact h6
theorem o_putF (hx : p.tables.exec = Jvm.exec) (hb : c.code = cc) {own ref C : String} {T : u_T} {N index t k : Nat} {x w : Int} {v : JV} {gs : List Prop} {Ts : List Cond} (hts : ∀ w ∈ Ts, w.before args s = true) (hin : ∀ w ∈ u_ws C T N, w ∈ Ts) (ty0 : Nat → FieldType) (hty : ∀ k, k < N → parseFieldDescriptor (T k).2.2.1 = some (ty0 k)) (hnm : ∀ a, a < N → ∀ b, b < N → a ≠ b → (T a).2.1 ≠ (T b).2.1) (ho : s.vm.findClass own = some m.cls) (hK : va_K D vwCl (jtys y) s) (h0 : jkt t = 0) (hc : vwCl[jkc t x]? = some (C, T, N)) (hk : k < N)
    (hlink : (Cond.fieldLink own index ref (T k).2.1 (T k).2.2.1).before args s = true) (hsame : ∀ z, s.fieldFound? (T k).1 (T k).2.1 (T k).2.2.1 = some z → s.fieldFound? ref (T k).2.1 (T k).2.2.1 = some z) (hfin : (T k).2.2.2 = true) (hmn : meth.name = "<init>") (hdecl : (T k).1 = own) (hn : ∀ ad : Nat → Nat, narrow (ty0 k) (jval ad v) = jval ad v) (hfit : ∀ ad : Nat → Nat, fits (ty0 k) (jval ad v) = true)
    (hd : decode cc pc = .ok (.putfield index, 3)) (hp : jput (jft t k x) v = some (gs, w)) (hg : ∀ g ∈ gs, g)
    (kk : WJ p l e R s m args below meth c Qf base D y H0 ph (pc + 3) ls st (jw μ t x k w) cells slots) : WJ p l e R s m args below meth c Qf base D y H0 ph pc ls (v :: (t, x) :: st) μ cells slots := by
  intro ad H locs lsR hR hS hJ hO
  have h11 := jkt_ge (t := t) (by rw [h0]; decide)
  have hl := hO (t, x) (List.mem_cons_of_mem _ List.mem_cons_self) h11
  have h53 : t ≠ 53 := (jlive_kt hl).2.2.2.2.1
  have hat := jws_at (ad := ad) (ph := ph) (y := y) hl
  have hN : jnf (jkc t x) = N := by unfold jnf; rw [List.getD_eq_getElem?_getD, hc]; rfl
  dsimp only at hat
  rw [jcell0 h0, hN] at hat
  have hpv := jput_val (ad := ad) (ph := ph) (μ := μ) (t := t) (k := k) (x := x) hp hg
  have hcell : jcell ad ph (jw μ t x k w) y (t, x) = .inr (jkc t x, ((List.range N).map (fun k => jfval ad ph μ t x k)).set k (jval ad v)) := by
    rw [jcell0 h0, hN]
    congr 2
    apply List.ext_getElem?
    intro i
    rw [List.getElem?_set, List.getElem?_map, List.length_map, List.length_range, List.getElem?_map]
    by_cases hi : k = i
    · subst hi
      rw [if_pos rfl, if_pos hk, List.getElem?_range hk]
      exact congrArg some hpv
    · rw [if_neg hi]
      by_cases h2 : i < N
      · rw [List.getElem?_range h2]
        refine congrArg some ?_
        have e : jw μ t x k w t x i = μ t x i := by unfold jw; rw [if_neg (fun q => hi (by have := q.2.2; omega))]
        show jfval ad ph (jw μ t x k w) t x i = jfval ad ph μ t x i
        unfold jfval
        rw [e]
      · rw [List.getElem?_eq_none (by rw [List.length_range]; omega)]
        rfl
  show W p l e R s m args below meth c H locs cells slots Qf (F0 m pc lsR (jval ad v :: jval ad (t, x) :: st.map (jval ad)))
  rw [jval_ref h11]
  refine va_putF hx hb hts hin ty0 hty hnm ho hK hR.1 hR.2.1 hS _ hat hc k hk hlink hsame hfin hmn hdecl (hty k hk) (hn ad) (hfit ad) (by rw [List.length_map, List.length_range]; exact hk) hd (fun H1 locs1 hP1 hD1 hS1 => ?_)
  refine kk ad H1 locs1 lsR (JRel_loc (p := (t, x)) hR hl jloc_jw (by rw [hcell]; exact hP1) (by rw [hcell]; exact hD1) (fun _ k' hk' => ?_) (fun h5 => by rw [h0] at h5; cases h5)) hS1 (JL_loc jloc_jw h53 hJ) (ok_loc jloc_jw h53 (ok_tail (ok_tail hO)))
  by_cases hi : k' = k
  · subst hi
    exact jput_lk hp hg (hO v List.mem_cons_self) h53
  · have h5 := (hR.2.2.2.1 _ (jix_lt hl)).1
    rw [jlab_ix hl] at h5
    have h6 := h5 h0 k' hk'
    have e : jw μ t x k w t x k' = μ t x k' := by unfold jw; rw [if_neg (fun q => hi (by have := q.2.2; omega))]
    unfold jlkf at h6 ⊢
    show _ ∨ _ ∨ (_ ∧ 0 ≤ jw μ t x k w t x k' ∧ _) ∨ _
    dsimp only
    rw [e, jloc_live jloc_jw h53, jloc_live jloc_jw h53]
    exact h6
theorem o_iaload (hx : p.tables.exec = Jvm.exec) (hb : c.code = cc) {t : Nat} {x i : Int} (hK : va_K D vwCl (jtys y) s) (h1 : jkt t = 1) (hd : decode cc pc = .ok (.iaload, 1)) (hi : 0 ≤ i) (hj : i < jlen μ t x) (kk : WJ p l e R s m args below meth c Qf base D y H0 ph (pc + 1) ls ((0, μ t x i) :: st) μ cells slots) : WJ p l e R s m args below meth c Qf base D y H0 ph pc ls ((0, i) :: (t, x) :: st) μ cells slots := by
  intro ad H locs lsR hR hS hJ hO
  have h11 := jkt_ge (t := t) (by rw [h1]; decide)
  have hl := hO (t, x) (List.mem_cons_of_mem _ List.mem_cons_self) h11
  have hat := jws_at (ad := ad) (ph := ph) (y := y) hl
  have hb2 := (jlen_le hR hl).2
  dsimp only at hat
  rw [jcell1 h1] at hat
  show W p l e R s m args below meth c H locs cells slots Qf (F0 m pc lsR (.int (Int32.ofInt i) :: jval ad (t, x) :: st.map (jval ad)))
  rw [jval_ref h11]
  refine va_iald hx hb hK hR.1 _ 0 hat rfl (jvin hi hj hb2) hd ?_
  rw [i32_clamp hi (by omega), Int.toNat_of_nonneg hi]
  exact kk ad H locs lsR hR hS hJ (ok_cons (jokv_of (Nat.le_of_ble_eq_true rfl)) (ok_tail (ok_tail hO)))
/-- what the script says -/
def JScr (base : Nat) (y : Nat → ClassId) (U : State) : Prop := va_X (jyn y 199) (jyn y 198) (fun k => Int32.ofInt (jsc y k)) U U.heap ∧ jyn y 199 < base ∧ base ≤ U.heap.size
theorem o_iaload6 (hx : p.tables.exec = Jvm.exec) (hb : c.code = cc) {x i : Int} (hX : JScr base y s) (hH0 : H0 = s.heap) (hd : decode cc pc = .ok (.iaload, 1)) (hi : 0 ≤ i) (hj : i < μ 80 1 0) (kk : WJ p l e R s m args below meth c Qf base D y H0 ph (pc + 1) ls ((0, μ 80 0 i) :: st) μ cells slots) : WJ p l e R s m args below meth c Qf base D y H0 ph pc ls ((0, i) :: (6, x) :: st) μ cells slots := by
  intro ad H locs lsR hR hS hJ hO
  obtain ⟨s1, s2, s3, s4, s5, s6⟩ := hR.2.2.2.2.2
  subst hH0
  have he : μ 80 0 i = jsc y i.toNat := by rw [← s5 i.toNat (by omega), Int.toNat_of_nonneg hi]
  show W p l e R s m args below meth c H locs cells slots Qf (F0 m pc lsR (.int (Int32.ofInt i) :: .ref (ad 1000000001) :: st.map (jval ad)))
  rw [s1.2]
  have hin : vp_in (Int32.ofInt i) (jyn y 198) := by
    have := jvin (i := i) (n := (jyn y 198 : Int)) hi (by omega) (by omega)
    exact this
  refine va_sld hx hb hX.1 (Nat.lt_of_lt_of_le hX.2.1 hX.2.2) (fun z => Nat.lt_irrefl _ (Nat.lt_of_lt_of_le hX.2.1 z)) hS hin hd ?_
  rw [i32_clamp hi (by omega), ← he]
  exact kk ad H locs lsR hR hS hJ (ok_cons (jokv_of (Nat.le_of_ble_eq_true rfl)) (ok_tail (ok_tail hO)))
theorem o_alen6 (hx : p.tables.exec = Jvm.exec) (hb : c.code = cc) {x : Int} (hX : JScr base y s) (hH0 : H0 = s.heap) (hd : decode cc pc = .ok (.arraylength, 1)) (kk : WJ p l e R s m args below meth c Qf base D y H0 ph (pc + 1) ls ((0, μ 80 1 0) :: st) μ cells slots) : WJ p l e R s m args below meth c Qf base D y H0 ph pc ls ((6, x) :: st) μ cells slots := by
  intro ad H locs lsR hR hS hJ hO
  obtain ⟨s1, s2, s3, s4, s5, s6⟩ := hR.2.2.2.2.2
  subst hH0
  show W p l e R s m args below meth c H locs cells slots Qf (F0 m pc lsR (.ref (ad 1000000001) :: st.map (jval ad)))
  rw [s1.2]
  refine va_slen hx hb hX.1 (Nat.lt_of_lt_of_le hX.2.1 hX.2.2) (fun z => Nat.lt_irrefl _ (Nat.lt_of_lt_of_le hX.2.1 z)) hS hd ?_
  have he : Int32.ofNat (jyn y 198) = Int32.ofInt (μ 80 1 0) := by rw [s6, Int32.ofInt_eq_ofNat]
  rw [he]
  exact kk ad H locs lsR hR hS hJ (ok_cons (jokv_of (Nat.le_of_ble_eq_true rfl)) (ok_tail hO))
theorem o_baload (hx : p.tables.exec = Jvm.exec) (hb : c.code = cc) {t : Nat} {x i : Int} (hK : va_K D vwCl (jtys y) s) (h1 : jkt t = 3) (hd : decode cc pc = .ok (.baload, 1)) (hi : 0 ≤ i) (hj : i < jlen μ t x) (kk : WJ p l e R s m args below meth c Qf base D y H0 ph (pc + 1) ls ((0, μ t x i) :: st) μ cells slots) : WJ p l e R s m args below meth c Qf base D y H0 ph pc ls ((0, i) :: (t, x) :: st) μ cells slots := by
  intro ad H locs lsR hR hS hJ hO
  have h11 := jkt_ge (t := t) (by rw [h1]; decide)
  have hl := hO (t, x) (List.mem_cons_of_mem _ List.mem_cons_self) h11
  have hat := jws_at (ad := ad) (ph := ph) (y := y) hl
  have hb2 := (jlen_le hR hl).2
  dsimp only at hat
  rw [jcell3 h1] at hat
  show W p l e R s m args below meth c H locs cells slots Qf (F0 m pc lsR (.int (Int32.ofInt i) :: jval ad (t, x) :: st.map (jval ad)))
  rw [jval_ref h11]
  refine va_bald hx hb hK hR.1 _ 2 hat rfl (jvin hi hj hb2) hd ?_
  rw [i32_clamp hi (by omega), Int.toNat_of_nonneg hi]
  exact kk ad H locs lsR hR hS hJ (ok_cons (jokv_of (Nat.le_of_ble_eq_true rfl)) (ok_tail (ok_tail hO)))
theorem o_zaload (hx : p.tables.exec = Jvm.exec) (hb : c.code = cc) {t : Nat} {x i : Int} (hK : va_K D vwCl (jtys y) s) (h1 : jkt t = 4) (hd : decode cc pc = .ok (.baload, 1)) (hi : 0 ≤ i) (hj : i < jlen μ t x) (kk : WJ p l e R s m args below meth c Qf base D y H0 ph (pc + 1) ls ((0, μ t x i) :: st) μ cells slots) : WJ p l e R s m args below meth c Qf base D y H0 ph pc ls ((0, i) :: (t, x) :: st) μ cells slots := by
  intro ad H locs lsR hR hS hJ hO
  have h11 := jkt_ge (t := t) (by rw [h1]; decide)
  have hl := hO (t, x) (List.mem_cons_of_mem _ List.mem_cons_self) h11
  have hat := jws_at (ad := ad) (ph := ph) (y := y) hl
  have hb2 := (jlen_le hR hl).2
  dsimp only at hat
  rw [jcell4 h1] at hat
  show W p l e R s m args below meth c H locs cells slots Qf (F0 m pc lsR (.int (Int32.ofInt i) :: jval ad (t, x) :: st.map (jval ad)))
  rw [jval_ref h11]
  refine va_zald hx hb hK hR.1 _ 3 hat rfl (jvin hi hj hb2) hd ?_
  rw [i32_clamp hi (by omega), Int.toNat_of_nonneg hi]
  exact kk ad H locs lsR hR hS hJ (ok_cons (jokv_of (Nat.le_of_ble_eq_true rfl)) (ok_tail (ok_tail hO)))
theorem o_laload (hx : p.tables.exec = Jvm.exec) (hb : c.code = cc) {t : Nat} {x i : Int} (hK : va_K D vwCl (jtys y) s) (h1 : jkt t = 2) (hd : decode cc pc = .ok (.laload, 1)) (hi : 0 ≤ i) (hj : i < jlen μ t x) (kk : WJ p l e R s m args below meth c Qf base D y H0 ph (pc + 1) ls ((3, μ t x i) :: st) μ cells slots) : WJ p l e R s m args below meth c Qf base D y H0 ph pc ls ((0, i) :: (t, x) :: st) μ cells slots := by
  intro ad H locs lsR hR hS hJ hO
  have h11 := jkt_ge (t := t) (by rw [h1]; decide)
  have hl := hO (t, x) (List.mem_cons_of_mem _ List.mem_cons_self) h11
  have hat := jws_at (ad := ad) (ph := ph) (y := y) hl
  have hb2 := (jlen_le hR hl).2
  dsimp only at hat
  rw [jcell2 h1] at hat
  show W p l e R s m args below meth c H locs cells slots Qf (F0 m pc lsR (.int (Int32.ofInt i) :: jval ad (t, x) :: st.map (jval ad)))
  rw [jval_ref h11]
  refine va_lald hx hb hK hR.1 _ 1 hat rfl (jvin hi hj hb2) hd ?_
  rw [i32_clamp hi (by omega), Int.toNat_of_nonneg hi]
  exact kk ad H locs lsR hR hS hJ (ok_cons (jokv_of (Nat.le_of_ble_eq_true rfl)) (ok_tail (ok_tail hO)))
theorem o_alen (hx : p.tables.exec = Jvm.exec) (hb : c.code = cc) {t : Nat} {x : Int} (hK : va_K D vwCl (jtys y) s) (h1 : jkt t = 1) (hd : decode cc pc = .ok (.arraylength, 1)) (kk : WJ p l e R s m args below meth c Qf base D y H0 ph (pc + 1) ls ((0, jlen μ t x) :: st) μ cells slots) : WJ p l e R s m args below meth c Qf base D y H0 ph pc ls ((t, x) :: st) μ cells slots := by
  intro ad H locs lsR hR hS hJ hO
  have h11 := jkt_ge (t := t) (by rw [h1]; decide)
  have hl := hO (t, x) List.mem_cons_self h11
  have hat := jws_at (ad := ad) (ph := ph) (y := y) hl
  have hb2 := jlen_le hR hl
  dsimp only at hat
  rw [jcell1 h1] at hat
  show W p l e R s m args below meth c H locs cells slots Qf (F0 m pc lsR (jval ad (t, x) :: st.map (jval ad)))
  rw [jval_ref h11]
  refine va_alen hx hb hK hR.1 _ 0 hat (ty := .int) rfl (v := Int32.ofInt (jlen μ t x)) ?_ hd ?_
  · show Int32.ofNat (jlen μ t x).toNat = _
    rw [← Int32.ofInt_eq_ofNat, Int.toNat_of_nonneg hb2.1]
  · exact kk ad H locs lsR hR hS hJ (ok_cons (jokv_of (Nat.le_of_ble_eq_true rfl)) (ok_tail hO))
theorem jw_row {α : Type} (g : Int → α) {μ : JM} {t : Nat} {x i v : Int} (hi : 0 ≤ i) : (fun j : Nat => g (jw μ t x i v t x j)) = fun j : Nat => if j = i.toNat then g v else g (μ t x j) := by
  funext j
  unfold jw
  by_cases hj : j = i.toNat
  · rw [if_pos ⟨rfl, rfl, by omega⟩, if_pos hj]
  · rw [if_neg (fun q => hj (by have := q.2.2; omega)), if_neg hj]
theorem jlen_jw {μ : JM} {t : Nat} {x i v : Int} (h : t ≠ 51) : jlen (jw μ t x i v) t x = jlen μ t x := jlen_eq (fun _ => by unfold jw; rw [if_neg (fun q => h q.1.symm)])
theorem o_iastore (hx : p.tables.exec = Jvm.exec) (hb : c.code = cc) {t : Nat} {x i v : Int} (hK : va_K D vwCl (jtys y) s) (h1 : jkt t = 1) (hd : decode cc pc = .ok (.iastore, 1)) (hi : 0 ≤ i) (hj : i < jlen μ t x)  (kk : WJ p l e R s m args below meth c Qf base D y H0 ph (pc + 1) ls st (jw μ t x i v) cells slots) : WJ p l e R s m args below meth c Qf base D y H0 ph pc ls ((0, v) :: (0, i) :: (t, x) :: st) μ cells slots := by
  intro ad H locs lsR hR hS hJ hO
  have h11 := jkt_ge (t := t) (by rw [h1]; decide)
  have hl := hO (t, x) (List.mem_cons_of_mem _ (List.mem_cons_of_mem _ List.mem_cons_self)) h11
  have hk := jlive_kt hl
  have hat := jws_at (ad := ad) (ph := ph) (y := y) hl
  have hb2 := (jlen_le hR hl).2
  dsimp only at hat
  rw [jcell1 h1] at hat
  have hcell : jcell ad ph (jw μ t x i v) y (t, x) = .inl (y 1, (jlen μ t x).toNat, .inl (upd (fun j => Int32.ofInt (μ t x j)) (Int32.ofInt i).toNatClampNeg (Int32.ofInt v))) := by
    rw [jcell1 h1, jlen_jw hk.2.2.2.1, i32_clamp hi (by omega), jw_row Int32.ofInt hi]
    rfl
  show W p l e R s m args below meth c H locs cells slots Qf (F0 m pc lsR (jval ad (0, v) :: .int (Int32.ofInt i) :: jval ad (t, x) :: st.map (jval ad)))
  rw [jval_ref h11]
  refine va_iast hx hb hK hR.1 hR.2.1 hS _ 0 hat rfl (jvin hi hj hb2) hd (fun H1 locs1 hP1 hD1 hS1 => ?_)
  refine kk ad H1 locs1 lsR (JRel_loc (p := (t, x)) hR hl jloc_jw (by rw [hcell]; exact hP1) (by rw [hcell]; exact hD1) (fun h0 => by rw [h1] at h0; cases h0) (fun h5 => by rw [h1] at h5; cases h5)) hS1 (JL_loc jloc_jw hk.2.2.2.2.1 hJ) (ok_loc jloc_jw hk.2.2.2.2.1 (ok_tail (ok_tail (ok_tail hO))))
theorem o_bastore (hx : p.tables.exec = Jvm.exec) (hb : c.code = cc) {t : Nat} {x i v : Int} (hK : va_K D vwCl (jtys y) s) (h1 : jkt t = 3) (hd : decode cc pc = .ok (.bastore, 1)) (hi : 0 ≤ i) (hj : i < jlen μ t x) (hv : vp_nar .byte (Int32.ofInt v) = Int32.ofInt v) (kk : WJ p l e R s m args below meth c Qf base D y H0 ph (pc + 1) ls st (jw μ t x i v) cells slots) : WJ p l e R s m args below meth c Qf base D y H0 ph pc ls ((0, v) :: (0, i) :: (t, x) :: st) μ cells slots := by
  intro ad H locs lsR hR hS hJ hO
  have h11 := jkt_ge (t := t) (by rw [h1]; decide)
  have hl := hO (t, x) (List.mem_cons_of_mem _ (List.mem_cons_of_mem _ List.mem_cons_self)) h11
  have hk := jlive_kt hl
  have hat := jws_at (ad := ad) (ph := ph) (y := y) hl
  have hb2 := (jlen_le hR hl).2
  dsimp only at hat
  rw [jcell3 h1] at hat
  have hcell : jcell ad ph (jw μ t x i v) y (t, x) = .inl (y 3, (jlen μ t x).toNat, .inl (upd (fun j => Int32.ofInt (μ t x j)) (Int32.ofInt i).toNatClampNeg (Int32.ofInt v))) := by
    rw [jcell3 h1, jlen_jw hk.2.2.2.1, i32_clamp hi (by omega), jw_row Int32.ofInt hi]
    rfl
  show W p l e R s m args below meth c H locs cells slots Qf (F0 m pc lsR (jval ad (0, v) :: .int (Int32.ofInt i) :: jval ad (t, x) :: st.map (jval ad)))
  rw [jval_ref h11]
  refine va_bast hx hb hK hR.1 hR.2.1 hS _ 2 hat rfl (jvin hi hj hb2) hd (fun H1 locs1 hP1 hD1 hS1 => ?_)
  rw [hv] at hP1 hD1
  refine kk ad H1 locs1 lsR (JRel_loc (p := (t, x)) hR hl jloc_jw (by rw [hcell]; exact hP1) (by rw [hcell]; exact hD1) (fun h0 => by rw [h1] at h0; cases h0) (fun h5 => by rw [h1] at h5; cases h5)) hS1 (JL_loc jloc_jw hk.2.2.2.2.1 hJ) (ok_loc jloc_jw hk.2.2.2.2.1 (ok_tail (ok_tail (ok_tail hO))))
theorem o_zastore (hx : p.tables.exec = Jvm.exec) (hb : c.code = cc) {t : Nat} {x i v : Int} (hK : va_K D vwCl (jtys y) s) (h1 : jkt t = 4) (hd : decode cc pc = .ok (.bastore, 1)) (hi : 0 ≤ i) (hj : i < jlen μ t x) (hv : vp_nar .boolean (Int32.ofInt v) = Int32.ofInt v) (kk : WJ p l e R s m args below meth c Qf base D y H0 ph (pc + 1) ls st (jw μ t x i v) cells slots) : WJ p l e R s m args below meth c Qf base D y H0 ph pc ls ((0, v) :: (0, i) :: (t, x) :: st) μ cells slots := by
  intro ad H locs lsR hR hS hJ hO
  have h11 := jkt_ge (t := t) (by rw [h1]; decide)
  have hl := hO (t, x) (List.mem_cons_of_mem _ (List.mem_cons_of_mem _ List.mem_cons_self)) h11
  have hk := jlive_kt hl
  have hat := jws_at (ad := ad) (ph := ph) (y := y) hl
  have hb2 := (jlen_le hR hl).2
  dsimp only at hat
  rw [jcell4 h1] at hat
  have hcell : jcell ad ph (jw μ t x i v) y (t, x) = .inl (y 4, (jlen μ t x).toNat, .inl (upd (fun j => Int32.ofInt (μ t x j)) (Int32.ofInt i).toNatClampNeg (Int32.ofInt v))) := by
    rw [jcell4 h1, jlen_jw hk.2.2.2.1, i32_clamp hi (by omega), jw_row Int32.ofInt hi]
    rfl
  show W p l e R s m args below meth c H locs cells slots Qf (F0 m pc lsR (jval ad (0, v) :: .int (Int32.ofInt i) :: jval ad (t, x) :: st.map (jval ad)))
  rw [jval_ref h11]
  refine va_zast hx hb hK hR.1 hR.2.1 hS _ 3 hat rfl (jvin hi hj hb2) hd (fun H1 locs1 hP1 hD1 hS1 => ?_)
  rw [hv] at hP1 hD1
  refine kk ad H1 locs1 lsR (JRel_loc (p := (t, x)) hR hl jloc_jw (by rw [hcell]; exact hP1) (by rw [hcell]; exact hD1) (fun h0 => by rw [h1] at h0; cases h0) (fun h5 => by rw [h1] at h5; cases h5)) hS1 (JL_loc jloc_jw hk.2.2.2.2.1 hJ) (ok_loc jloc_jw hk.2.2.2.2.1 (ok_tail (ok_tail (ok_tail hO))))
theorem o_lastore (hx : p.tables.exec = Jvm.exec) (hb : c.code = cc) {t : Nat} {x i v : Int} (hK : va_K D vwCl (jtys y) s) (h1 : jkt t = 2) (hd : decode cc pc = .ok (.lastore, 1)) (hi : 0 ≤ i) (hj : i < jlen μ t x)  (kk : WJ p l e R s m args below meth c Qf base D y H0 ph (pc + 1) ls st (jw μ t x i v) cells slots) : WJ p l e R s m args below meth c Qf base D y H0 ph pc ls ((3, v) :: (0, i) :: (t, x) :: st) μ cells slots := by
  intro ad H locs lsR hR hS hJ hO
  have h11 := jkt_ge (t := t) (by rw [h1]; decide)
  have hl := hO (t, x) (List.mem_cons_of_mem _ (List.mem_cons_of_mem _ List.mem_cons_self)) h11
  have hk := jlive_kt hl
  have hat := jws_at (ad := ad) (ph := ph) (y := y) hl
  have hb2 := (jlen_le hR hl).2
  dsimp only at hat
  rw [jcell2 h1] at hat
  have hcell : jcell ad ph (jw μ t x i v) y (t, x) = .inl (y 2, (jlen μ t x).toNat, .inr (.inl (vp_updL (fun j => Int64.ofInt (μ t x j)) (Int32.ofInt i).toNatClampNeg (Int64.ofInt v)))) := by
    rw [jcell2 h1, jlen_jw hk.2.2.2.1, i32_clamp hi (by omega), jw_row Int64.ofInt hi]
    rfl
  show W p l e R s m args below meth c H locs cells slots Qf (F0 m pc lsR (jval ad (3, v) :: .int (Int32.ofInt i) :: jval ad (t, x) :: st.map (jval ad)))
  rw [jval_ref h11]
  refine va_last hx hb hK hR.1 hR.2.1 hS _ 1 hat rfl (jvin hi hj hb2) hd (fun H1 locs1 hP1 hD1 hS1 => ?_)
  refine kk ad H1 locs1 lsR (JRel_loc (p := (t, x)) hR hl jloc_jw (by rw [hcell]; exact hP1) (by rw [hcell]; exact hD1) (fun h0 => by rw [h1] at h0; cases h0) (fun h5 => by rw [h1] at h5; cases h5)) hS1 (JL_loc jloc_jw hk.2.2.2.2.1 hJ) (ok_loc jloc_jw hk.2.2.2.2.1 (ok_tail (ok_tail (ok_tail hO))))
end
