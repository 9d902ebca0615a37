/-! a new cell -/
def jadp (ad : Nat → Nat) (a q : Nat) : Nat → Nat := fun i => if i = a then q else ad i
/-- the addresses of what there was stay -/
def jext (n : Nat) (ad ad' : Nat → Nat) : Prop := (∀ i, i < n → ad' i = ad i) ∧ ad' 1000000000 = ad 1000000000 ∧ ad' 1000000001 = ad 1000000001
theorem jext_p {n q : Nat} {ad : Nat → Nat} (hn : n < 1000000000) : jext n ad (jadp ad n q) := by
  unfold jext jadp
  exact ⟨fun i hi => if_neg (by omega), if_neg (by omega), if_neg (by omega)⟩
theorem jval_ad {ad ad' : Nat → Nat} {μ : JM} {v : JV} (h : jext (jn μ) ad ad') (hv : jokv μ v) : jval ad' v = jval ad v := by
  obtain ⟨t, x⟩ := v
  by_cases ht : 11 ≤ t
  · rw [jval_ref ht, jval_ref ht, h.1 _ (jix_lt (p := (t, x)) (hv ht))]
  · unfold jval
    dsimp only
    split
    · rfl
    · rfl
    · rfl
    · rw [h.2.1]
    · rw [h.2.2]
    · rw [if_neg ht, if_neg ht]
theorem jlv_ad {ad ad' : Nat → Nat} {μ : JM} (h : jext (jn μ) ad ad') : ∀ {l : List JV} {k : Nat}, (∀ v ∈ l, jokv μ v) → jlv ad' k l = jlv ad k l
  | [], _, _ => rfl
  | v :: l, k, hv => by
    unfold jlv
    rw [jlv_ad h (fun u hu => hv u (List.mem_cons_of_mem _ hu)), jval_ad h (hv v List.mem_cons_self)]
theorem map_ad {ad ad' : Nat → Nat} {μ : JM} {st : List JV} (h : jext (jn μ) ad ad') (hv : ∀ v ∈ st, jokv μ v) : st.map (jval ad') = st.map (jval ad) := List.map_congr_left (fun v hm => jval_ad h (hv v hm))
theorem jfval_ad {ad ad' : Nat → Nat} {ph : Bool} {μ : JM} {t k : Nat} {x : Int} (h : jext (jn μ) ad ad') (hl : jlkf ph μ t x k (jft t k x)) : jfval ad' ph μ t x k = jfval ad ph μ t x k := by
  unfold jfval
  by_cases h0 : (jft t k x).1 = 0
  · rw [if_pos h0, if_pos h0]
  rw [if_neg h0, if_neg h0]
  by_cases h3 : (jft t k x).1 = 3
  · rw [if_pos h3, if_pos h3]
  rw [if_neg h3, if_neg h3]
  by_cases h1 : (jft t k x).1 = 1
  · rw [if_pos h1, if_pos h1]
    by_cases hm : μ t x k = 0
    · rw [if_pos hm, if_pos hm]
    · rw [if_neg hm, if_neg hm]
      rcases hl with q | q | q | q
      · exact absurd q h0
      · exact absurd q h3
      · rw [h.1 _ (jix_lt (q.2.2 hm))]
      · rw [h1] at q
        exact absurd q.1 (by decide)
  rw [if_neg h1, if_neg h1]
  by_cases hm : ph = true ∨ μ t x k ≠ 0
  · rw [if_pos hm, if_pos hm]
    rcases hl with q | q | q | q
    · exact absurd q h0
    · exact absurd q h3
    · exact absurd q.1 h1
    · rw [h.1 _ (jix_lt (q.2 hm))]
  · rw [if_neg hm, if_neg hm]
theorem jcell_ad {ad ad' : Nat → Nat} {ph : Bool} {μ : JM} {y : Nat → ClassId} {i : Nat} (h : jext (jn μ) ad ad') (hi : i < jn μ) (hl : jlk ph μ) : jcell ad' ph μ y (jlab i) = jcell ad ph μ y (jlab i) := by
  obtain ⟨l0, l5⟩ := hl i hi
  unfold jcell
  by_cases h0 : jkt (jlab i).1 = 0
  · rw [if_pos h0, if_pos h0]
    refine congrArg (fun f => (Sum.inr (jkc (jlab i).1 (jlab i).2, f) : va_E)) (List.map_congr_left (fun k hk => jfval_ad h (l0 h0 k (List.mem_range.mp hk))))
  rw [if_neg h0, if_neg h0]
  by_cases h1 : jkt (jlab i).1 = 1
  · rw [if_pos h1, if_pos h1]
  rw [if_neg h1, if_neg h1]
  by_cases h2 : jkt (jlab i).1 = 2
  · rw [if_pos h2, if_pos h2]
  rw [if_neg h2, if_neg h2]
  by_cases h3 : jkt (jlab i).1 = 3
  · rw [if_pos h3, if_pos h3]
  rw [if_neg h3, if_neg h3]
  by_cases h4 : jkt (jlab i).1 = 4
  · rw [if_pos h4, if_pos h4]
  rw [if_neg h4, if_neg h4]
  have h5 : jkt (jlab i).1 = 5 := by
    have := (jlab_kt i).1
    omega
  refine congrArg (fun f => (Sum.inl (y 5, (jlen μ (jlab i).1 (jlab i).2).toNat, Sum.inr (Sum.inr (Sum.inr (Sum.inr f)))) : va_E)) (funext fun j => ?_)
  unfold jbval
  by_cases hm : (j : Int) < jlt (jlab i).1 ∧ (ph = true ∨ μ (jlab i).1 (jlab i).2 j ≠ 0)
  · rw [if_pos hm, if_pos hm]
    have hb12 : (jbk (jlab i).1 (j : Int)).1 = 12 := by unfold jbk; cases Nat.beq (jlab i).1 30 <;> rfl
    rcases l5 h5 j (by omega) hm.1 with q | q | q | q
    · rw [hb12] at q; exact absurd q (by decide)
    · rw [hb12] at q; exact absurd q (by decide)
    · rw [hb12] at q; exact absurd q.1 (by decide)
    · rw [h.1 _ (jix_lt (q.2 hm.2))]
  · rw [if_neg hm, if_neg hm]
/-- what a memory is behind a cell made -/
def jmade (μ ν : JM) (p : JV) : Prop := jlab (μ 53 0 0) = p ∧ 0 ≤ μ 53 0 0 ∧ ν 53 0 0 = μ 53 0 0 + 1 ∧ (∀ (t : Nat) (x k : Int), t ≠ 51 → t ≠ 53 → t ≠ 54 → ¬ (t = p.1 ∧ x = p.2) → ν t x k = μ t x k) ∧ (∀ x : Int, ¬ (50 = p.1 ∧ x = p.2) → ν 51 x 0 = μ 51 x 0)
theorem jmade_n {μ ν : JM} {p : JV} (h : jmade μ ν p) : jn ν = jn μ + 1 ∧ jlab (jn μ : Nat) = p := by
  obtain ⟨h1, h2, h3, -⟩ := h
  unfold jn
  rw [h3]
  refine ⟨by omega, ?_⟩
  rw [Int.toNat_of_nonneg h2]
  exact h1
theorem jmade_live {μ ν : JM} {p q : JV} (h : jmade μ ν p) (hq : jlive μ q) : jlive ν q := by
  obtain ⟨i, hi, e⟩ := hq
  exact ⟨i, by have := (jmade_n h).1; omega, e⟩
theorem jmade_new {μ ν : JM} {p : JV} (h : jmade μ ν p) : jlive ν p := ⟨jn μ, by have := (jmade_n h).1; omega, (jmade_n h).2⟩
theorem jmade_ok {μ ν : JM} {p : JV} (h : jmade μ ν p) {l : List JV} (hs : ∀ u ∈ l, jokv μ u) : ∀ u ∈ l, jokv ν u := fun u hu h11 => jmade_live h (hs u hu h11)
theorem JRel_new {base : Nat} {ad : Nat → Nat} {D : va_G} {y : Nat → ClassId} {ph : Bool} {μ ν : JM} {H H1 : Heap} {p : JV} {q : Nat} (hR : JRel base ad D y ph μ H) (h : jmade μ ν p) (hlt : jn μ < 1000000000)
    (hP : va_P D vwCl (jws ad ph μ y ++ [(q, jcell (jadp ad (jn μ) q) ph ν y p)]) H1) (hD : va_D (fun q => base ≤ q) (jws ad ph μ y ++ [(q, jcell (jadp ad (jn μ) q) ph ν y p)]))
    (hk0 : jkt p.1 = 0 → ∀ k : Nat, k < jnf (jkc p.1 p.2) → jlkf ph ν p.1 p.2 k (jft p.1 k p.2)) (hk5 : jkt p.1 = 5 → ∀ j : Int, 0 ≤ j → j < jlt p.1 → jlkf ph ν p.1 p.2 j (jbk p.1 j)) (hlen : p.1 = 50 → 0 ≤ ν 51 p.2 0 ∧ ν 51 p.2 0 ≤ 7302250) : JRel base (jadp ad (jn μ) q) D y ph ν H1 := by
  obtain ⟨hn, hp⟩ := jmade_n h
  obtain ⟨r1, r2, r3, r4, r5, r6⟩ := hR
  have hext := jext_p (q := q) (ad := ad) hlt
  have hne : ∀ i, i < jn μ → ¬ ((jlab (i : Nat)).1 = p.1 ∧ (jlab (i : Nat)).2 = p.2) := fun i hi e => by
    have : jlab (i : Nat) = jlab (jn μ : Nat) := by rw [hp]; exact Prod.ext e.1 e.2
    have := jlab_inj this
    omega
  have hold : ∀ i, i < jn μ → ∀ k, ν (jlab (i : Nat)).1 (jlab (i : Nat)).2 k = μ (jlab (i : Nat)).1 (jlab (i : Nat)).2 k := fun i hi k => by
    have hk := jlab_kt i
    exact h.2.2.2.1 _ _ _ hk.2.2.2.1 hk.2.2.2.2.1 hk.2.2.2.2.2 (hne i hi)
  have hws : jws (jadp ad (jn μ) q) ph ν y = jws ad ph μ y ++ [(q, jcell (jadp ad (jn μ) q) ph ν y p)] := by
    unfold jws
    rw [hn, List.range_succ, List.map_append]
    refine congr (congrArg _ (List.map_congr_left (fun i hi => ?_))) ?_
    · have hi := List.mem_range.mp hi
      rw [hext.1 i hi, jcell_eq (μ := μ) (hold i hi) (fun e => h.2.2.2.2 _ (fun z => hne i hi ⟨by rw [e]; exact z.1, z.2⟩)), jcell_ad hext hi r4]
    · rw [List.map_cons, List.map_nil, hp]
      have : jadp ad (jn μ) q (jn μ) = q := if_pos rfl
      rw [this]
  refine ⟨by rw [hws]; exact hP, by rw [hws]; exact hD, by rw [h.2.2.1]; omega, fun i hi => ?_, fun x hx => ?_, ?_⟩
  · by_cases hlast : i = jn μ
    · subst hlast
      rw [hp]
      exact ⟨hk0, hk5⟩
    · have hi' : i < jn μ := by omega
      have tr : ∀ (k : Int) (f : JV), jlkf ph μ (jlab (i : Nat)).1 (jlab (i : Nat)).2 k f → jlkf ph ν (jlab (i : Nat)).1 (jlab (i : Nat)).2 k f := by
        intro k f hf
        unfold jlkf at hf ⊢
        rw [hold i hi' k]
        rcases hf with z | z | z | z
        · exact Or.inl z
        · exact Or.inr (Or.inl z)
        · exact Or.inr (Or.inr (Or.inl ⟨z.1, z.2.1, fun e => jmade_live h (z.2.2 e)⟩))
        · exact Or.inr (Or.inr (Or.inr ⟨z.1, fun e => jmade_live h (z.2 e)⟩))
      exact ⟨fun h0 k hk => tr _ _ ((r4 i hi').1 h0 k hk), fun h5 j a b => tr _ _ ((r4 i hi').2 h5 j a b)⟩
  · by_cases hxp : 50 = p.1 ∧ x = p.2
    · rw [hxp.2]
      exact hlen hxp.1.symm
    · rw [h.2.2.2.2 x hxp]
      refine r5 x ?_
      obtain ⟨i, hi, e⟩ := hx
      by_cases hlast : i = jn μ
      · subst hlast
        rw [hp] at e
        exact absurd ⟨by rw [e], by rw [e]⟩ hxp
      · exact ⟨i, by omega, e⟩
  · obtain ⟨s1, s2, s3, s4, s5, s6⟩ := r6
    have h80 : ∀ x k, ν 80 x k = μ 80 x k := fun x k => h.2.2.2.1 80 x k (by decide) (by decide) (by decide) (fun q => by
      have := (jlab_kt (jn μ)).2.2.1
      rw [hp, ← q.1] at this
      exact absurd this (by decide))
    exact ⟨⟨hext.2.1.trans s1.1, hext.2.2.trans s1.2⟩, fun i hi => (hext.1 i (by omega)).trans (s2 i hi), by omega, s4, fun k hk' => by rw [h80]; exact s5 k hk', by rw [h80]; exact s6⟩
/-- the memory behind jnew -/
def jnw (μ : JM) (t : Nat) (n : Int) : JM := jw (jw (jw (jz μ t (jlab (μ 53 0 0)).2) 51 (jlab (μ 53 0 0)).2 0 (cond (Nat.beq t 50) n (μ 51 (jlab (μ 53 0 0)).2 0))) 53 0 0 (μ 53 0 0 + 1)) 54 0 0 (μ 54 0 0 + n)
theorem jnw_at {μ : JM} {t : Nat} {n : Int} {t' : Nat} {x k : Int} (h1 : t' ≠ 51) (h2 : t' ≠ 53) (h3 : t' ≠ 54) : jnw μ t n t' x k = jz μ t (jlab (μ 53 0 0)).2 t' x k := by
  unfold jnw jw
  rw [if_neg (fun q => h3 q.1), if_neg (fun q => h2 q.1), if_neg (fun q => h1 q.1)]
theorem jnw_made {μ : JM} {t : Nat} {n : Int} (h : jlab (μ 53 0 0) = (t, (jlab (μ 53 0 0)).2)) (h0 : 0 ≤ μ 53 0 0) (h51 : t ≠ 51) : jmade μ (jnw μ t n) (t, (jlab (μ 53 0 0)).2) := by
  refine ⟨h, h0, ?_, fun t' x k h1 h2 h3 hne => ?_, fun x hne => ?_⟩
  · unfold jnw jw
    rw [if_neg (by decide), if_pos ⟨rfl, rfl, rfl⟩]
  · rw [jnw_at h1 h2 h3]
    unfold jz
    rw [if_neg hne]
  · unfold jnw jw jz
    rw [if_neg (fun q => absurd q.1 (by decide)), if_neg (fun q => absurd q.1 (by decide))]
    by_cases hx : x = (jlab (μ 53 0 0)).2
    · rw [if_pos ⟨rfl, hx, rfl⟩, nbeq_f (fun q => hne ⟨q.symm, hx⟩), hx]
      rfl
    · rw [if_neg (fun q => hx q.2.1), if_neg (fun q => h51 q.1.symm)]
theorem jnw_zero {μ : JM} {t : Nat} {n k : Int} (h1 : t ≠ 51) (h2 : t ≠ 53) (h3 : t ≠ 54) : jnw μ t n t (jlab (μ 53 0 0)).2 k = 0 := by
  rw [jnw_at h1 h2 h3]
  unfold jz
  rw [if_pos ⟨rfl, rfl⟩]
theorem jnw_len {μ : JM} {n : Int} : jnw μ 50 n 51 (jlab (μ 53 0 0)).2 0 = n := by
  unfold jnw jw
  rw [if_neg (fun q => absurd q.1 (by decide)), if_neg (fun q => absurd q.1 (by decide)), if_pos ⟨rfl, rfl, rfl⟩]
  rfl
theorem jnw_54 {μ : JM} {t : Nat} {n : Int} : jnw μ t n 54 0 0 = μ 54 0 0 + n ∧ jnw μ t n 53 0 0 = μ 53 0 0 + 1 := by
  unfold jnw jw
  exact ⟨if_pos ⟨rfl, rfl, rfl⟩, by rw [if_neg (by decide), if_pos ⟨rfl, rfl, rfl⟩]⟩
section
variable {p : Program} {l : Launch} {e : Env} {R : Room} {s : State} {m : MethodId} {args : Array Value} {below : List Frame} {meth : Method} {c : Code} {Qf : State → Prop} {base : Nat} {D : va_G} {y : Nat → ClassId} {H0 : Heap} {ph : Bool} {cc : ByteArray} {pc : Nat} {ls st : List JV} {μ : JM} {cells slots : Nat}
/-- behind a new cell the walk goes on -/
theorem WJ_new {ad : Nat → Nat} {H H1 : Heap} {locs : List Loc} {lsR : Array Slot} {pc' t q : Nat} {n : Int} (hR : JRel base ad D y ph μ H) (hS1 : va_S (fun q => base ≤ q) H0 H1 locs) (hJ : JL ad μ lsR ls) (hO : ∀ v ∈ st, jokv μ v) (h : jlab (μ 53 0 0) = (t, (jlab (μ 53 0 0)).2)) (hlt : μ 53 0 0 < 600000) (h11 : 11 ≤ t) (h72 : t ≠ 51 ∧ t ≠ 53 ∧ t ≠ 54)
    (hP : va_P D vwCl (jws ad ph μ y ++ [(q, jcell (jadp ad (jn μ) q) ph (jnw μ t n) y (t, (jlab (μ 53 0 0)).2))]) H1) (hD : va_D (fun q => base ≤ q) (jws ad ph μ y ++ [(q, jcell (jadp ad (jn μ) q) ph (jnw μ t n) y (t, (jlab (μ 53 0 0)).2))]))
    (hph : jkt t = 0 ∨ jkt t = 5 → ph = false) (hlen : t = 50 → 0 ≤ n ∧ n ≤ 7302250) (kk : WJ p l e R s m args below meth c Qf base D y H0 ph pc' ls ((t, (jlab (μ 53 0 0)).2) :: st) (jnw μ t n) cells slots) : W p l e R s m args below meth c H1 locs cells slots Qf (F0 m pc' lsR (.ref q :: st.map (jval ad))) := by
  have h0 := hR.2.2.1
  have hm := jnw_made (n := n) h h0 h72.1
  have hnlt : jn μ < 1000000000 := by unfold jn; omega
  have hext := jext_p (q := q) (ad := ad) hnlt
  have lz : ∀ (k : Int) (f : JV), (jkt t = 0 ∨ jkt t = 5) → (f.1 = 0 ∨ f.1 = 1 ∨ f.1 = 3 ∨ 11 ≤ f.1) → jlkf ph (jnw μ t n) t (jlab (μ 53 0 0)).2 k f := by
    intro k f hk hf
    have hp := hph hk
    unfold jlkf
    rw [jnw_zero h72.1 h72.2.1 h72.2.2]
    rcases hf with z | z | z | z
    · exact Or.inl z
    · exact Or.inr (Or.inr (Or.inl ⟨z, Int.le_refl _, fun q => absurd rfl q⟩))
    · exact Or.inr (Or.inl z)
    · exact Or.inr (Or.inr (Or.inr ⟨z, fun q => by rcases q with q | q; (rw [hp] at q; cases q); exact absurd rfl q⟩))
  have hR1 := JRel_new hR hm hnlt hP hD (fun k0 k _ => lz k _ (Or.inl k0) (jft_kind _ _ _)) (fun k5 j _ _ => lz j _ (Or.inr k5) (Or.inr (Or.inr (Or.inr (by unfold jbk; cases Nat.beq t 30 <;> exact (by decide : 11 ≤ 12)))))) (fun e => by
    have e : t = 50 := e
    subst e
    show 0 ≤ jnw μ 50 n 51 (jlab (μ 53 0 0)).2 0 ∧ _
    rw [jnw_len]
    exact hlen rfl)
  have hx := kk (jadp ad (jn μ) q) H1 locs lsR hR1 hS1 ⟨by rw [jlv_ad hext hJ.2.1]; exact hJ.1, jmade_ok hm hJ.2.1, hJ.2.2⟩ (ok_cons (fun _ => jmade_new hm) (jmade_ok hm hO))
  have e1 : jval (jadp ad (jn μ) q) (t, (jlab (μ 53 0 0)).2) = .ref q := by
    rw [jval_ref h11]
    have e2 := (jmade_n hm).2
    have e3 : jix t (jlab (μ 53 0 0)).2 = jn μ := by
      have := jix_lab (jn μ)
      rw [e2] at this
      exact this
    rw [e3]
    exact congrArg _ (if_pos rfl)
  have e2 : ((t, (jlab (μ 53 0 0)).2) :: st).map (jval (jadp ad (jn μ) q)) = .ref q :: st.map (jval ad) := by
    rw [List.map_cons, e1, map_ad hext hO]
  rw [e2] at hx
  exact hx
def jdef (f : JV) : Value := if f.1 = 0 then .int 0 else if f.1 = 3 then .long 0 else .null
theorem o_new (hx : p.tables.exec = Jvm.exec) (hb : c.code = cc) {own C : String} {T : u_T} {N index t : Nat} {Ts : List Cond} (hph : ph = false) (hts : ∀ w ∈ Ts, w.before args s = true) (hin : ∀ w ∈ u_ws C T N, w ∈ Ts) (ty : Nat → FieldType) (hty : ∀ k, k < N → parseFieldDescriptor (T k).2.2.1 = some (ty k)) (ho : s.vm.findClass own = some m.cls) (hcl : (Cond.classLink own index C).before args s = true) (hinst : (Cond.instantiable C N).before args s = true) (hini : (Cond.initialized C).before args s = true)
    (hK : va_K D vwCl (jtys y) s) (hA : base ≤ H0.size) (h : jlab (μ 53 0 0) = (t, (jlab (μ 53 0 0)).2)) (hc : vwCl[jkc t (jlab (μ 53 0 0)).2]? = some (C, T, N)) (h0 : jkt t = 0) (hlt : μ 53 0 0 < 600000) (hdf : ∀ j, j < N → defaultValue (ty j) = jdef (jft t j (jlab (μ 53 0 0)).2)) (hcells : cells + 1 ≤ R.cells) (hslots : slots + N ≤ R.slots) (hd : decode cc pc = .ok (.new index, 3))
    (kk : WJ p l e R s m args below meth c Qf base D y H0 ph (pc + 3) ls ((t, (jlab (μ 53 0 0)).2) :: st) (jnw μ t (N : Int)) (cells + 1) (slots + N)) : WJ p l e R s m args below meth c Qf base D y H0 ph pc ls st μ cells slots := by
  intro ad H locs lsR hR hS hJ hO
  have h11 := jkt_ge (t := t) (by rw [h0]; decide)
  have h72 : t ≠ 51 ∧ t ≠ 53 ∧ t ≠ 54 := ⟨fun q => by rw [q] at h0; exact absurd h0 (by decide), fun q => by rw [q] at h0; exact absurd h0 (by decide), fun q => by rw [q] at h0; exact absurd h0 (by decide)⟩
  refine va_new hx hb hts hin ty hty ho hcl hinst hini hK hR.1 hR.2.1 hS (fun q hq => Nat.le_trans hA hq) hc (fs := (List.range N).map (fun k => jdef (jft t k (jlab (μ 53 0 0)).2))) (fun j hj => ?_) hcells hslots hd (fun q H1 hP hD hS1 => ?_)
  · rw [hdf j hj]
    unfold vp_V
    rw [List.getD_eq_getElem?_getD, List.getElem?_map, List.getElem?_range hj]
    rfl
  · have hN : jnf (jkc t (jlab (μ 53 0 0)).2) = N := by unfold jnf; rw [List.getD_eq_getElem?_getD, hc]; rfl
    have hcell : jcell (jadp ad (jn μ) q) ph (jnw μ t (N : Int)) y (t, (jlab (μ 53 0 0)).2) = .inr (jkc t (jlab (μ 53 0 0)).2, (List.range N).map (fun k => jdef (jft t k (jlab (μ 53 0 0)).2))) := by
      rw [jcell0 h0, hN]
      refine congrArg (fun f => (Sum.inr (jkc t (jlab (μ 53 0 0)).2, f) : va_E)) (List.map_congr_left (fun k _ => ?_))
      unfold jfval jdef
      rw [jnw_zero h72.1 h72.2.1 h72.2.2, hph]
      by_cases z0 : (jft t k (jlab (μ 53 0 0)).2).1 = 0
      · rw [if_pos z0, if_pos z0]; rfl
      rw [if_neg z0, if_neg z0]
      by_cases z3 : (jft t k (jlab (μ 53 0 0)).2).1 = 3
      · rw [if_pos z3, if_pos z3]; rfl
      rw [if_neg z3, if_neg z3]
      by_cases z1 : (jft t k (jlab (μ 53 0 0)).2).1 = 1
      · rw [if_pos z1, if_pos rfl]
      · rw [if_neg z1, if_neg (by simp)]
    exact WJ_new hR hS1 hJ hO h hlt h11 h72 (by rw [hcell]; exact hP) (by rw [hcell]; exact hD) (fun _ => hph) (fun e => by rw [e] at h0; exact absurd h0 (by decide)) kk
theorem o_newi (hx : p.tables.exec = Jvm.exec) (hb : c.code = cc) {t : Nat} {n : Int} (harr : (Cond.arrayClass (newarray.typeOf .int)).before args s = true) (hK : va_K D vwCl (jtys y) s) (hA : base ≤ H0.size) (h : jlab (μ 53 0 0) = (t, (jlab (μ 53 0 0)).2)) (h1 : jkt t = 1) (hlt : μ 53 0 0 < 600000) (hn0 : 0 ≤ n) (hnm : n ≤ 7302250) (hln : t ≠ 50 → n = jlt t) (hcells : cells + 1 ≤ R.cells) (hslots : slots + n.toNat ≤ R.slots) (hd : decode cc pc = .ok (.newarray .int, 2))
    (kk : WJ p l e R s m args below meth c Qf base D y H0 ph (pc + 2) ls ((t, (jlab (μ 53 0 0)).2) :: st) (jnw μ t n) (cells + 1) (slots + n.toNat)) : WJ p l e R s m args below meth c Qf base D y H0 ph pc ls ((0, n) :: st) μ cells slots := by
  intro ad H locs lsR hR hS hJ hO
  have h11 := jkt_ge (t := t) (by rw [h1]; decide)
  have h72 : t ≠ 51 ∧ t ≠ 53 ∧ t ≠ 54 := ⟨fun q => by rw [q] at h1; exact absurd h1 (by decide), fun q => by rw [q] at h1; exact absurd h1 (by decide), fun q => by rw [q] at h1; exact absurd h1 (by decide)⟩
  refine va_newa hx hb harr (ty := .int) rfl hK hR.1 hR.2.1 hS (fun q hq => Nat.le_trans hA hq) (n := Int32.ofInt n) (N' := n.toNat) (a0 := (n.toNat, .inl (fun _ => 0))) (fun _ => rfl) (by rw [i32_0, i32_lt ⟨by omega, by omega⟩ ⟨by decide, by decide⟩]; omega) (i32_clamp hn0 (by omega)) (by show n.toNat * 4 ≤ 536870912; omega) hcells hslots hd (fun q cA H1 hK1 hP hD hS1 => ?_)
  have ec : cA = y 1 := by
    have e1 := (hK1.2 5 _ rfl).2
    have e2 := (hK.2 0 _ rfl).2
    exact Option.some.inj (Eq.trans (Eq.symm (show s.vm.findClass _ = some cA from e1)) (show s.vm.findClass _ = some (y 1) from e2))
  have hcell : jcell (jadp ad (jn μ) q) ph (jnw μ t n) y (t, (jlab (μ 53 0 0)).2) = .inl (cA, n.toNat, .inl (fun _ => 0)) := by
    rw [jcell1 h1, ec]
    have el : jlen (jnw μ t n) t (jlab (μ 53 0 0)).2 = n := by
      by_cases h50 : t = 50
      · subst h50
        exact jnw_len
      · rw [jlen_st h50, hln h50]
    rw [el]
    refine congrArg (fun f => (Sum.inl (y 1, n.toNat, Sum.inl f) : va_E)) (funext fun j => ?_)
    rw [jnw_zero h72.1 h72.2.1 h72.2.2]
    rfl
  exact WJ_new hR hS1 hJ (ok_tail hO) h hlt h11 h72 (by rw [hcell]; exact hP) (by rw [hcell]; exact hD) (fun k => by rw [h1] at k; rcases k with k | k <;> cases k) (fun _ => ⟨hn0, hnm⟩) kk
theorem o_newl (hx : p.tables.exec = Jvm.exec) (hb : c.code = cc) {t : Nat} {n : Int} (harr : (Cond.arrayClass (newarray.typeOf .long)).before args s = true) (hK : va_K D vwCl (jtys y) s) (hA : base ≤ H0.size) (h : jlab (μ 53 0 0) = (t, (jlab (μ 53 0 0)).2)) (h1 : jkt t = 2) (hlt : μ 53 0 0 < 600000) (hn0 : 0 ≤ n) (hnm : n ≤ 7302250) (hln : t ≠ 50 → n = jlt t) (hcells : cells + 1 ≤ R.cells) (hslots : slots + n.toNat ≤ R.slots) (hd : decode cc pc = .ok (.newarray .long, 2))
    (kk : WJ p l e R s m args below meth c Qf base D y H0 ph (pc + 2) ls ((t, (jlab (μ 53 0 0)).2) :: st) (jnw μ t n) (cells + 1) (slots + n.toNat)) : WJ p l e R s m args below meth c Qf base D y H0 ph pc ls ((0, n) :: st) μ cells slots := by
  intro ad H locs lsR hR hS hJ hO
  have h11 := jkt_ge (t := t) (by rw [h1]; decide)
  have h72 : t ≠ 51 ∧ t ≠ 53 ∧ t ≠ 54 := ⟨fun q => by rw [q] at h1; exact absurd h1 (by decide), fun q => by rw [q] at h1; exact absurd h1 (by decide), fun q => by rw [q] at h1; exact absurd h1 (by decide)⟩
  refine va_newa hx hb harr (ty := .long) rfl hK hR.1 hR.2.1 hS (fun q hq => Nat.le_trans hA hq) (n := Int32.ofInt n) (N' := n.toNat) (a0 := (n.toNat, .inr (.inl (fun _ => 0)))) (fun _ => rfl) (by rw [i32_0, i32_lt ⟨by omega, by omega⟩ ⟨by decide, by decide⟩]; omega) (i32_clamp hn0 (by omega)) (by show n.toNat * 8 ≤ 536870912; omega) hcells hslots hd (fun q cA H1 hK1 hP hD hS1 => ?_)
  have ec : cA = y 2 := by
    have e1 := (hK1.2 5 _ rfl).2
    have e2 := (hK.2 1 _ rfl).2
    exact Option.some.inj (Eq.trans (Eq.symm (show s.vm.findClass _ = some cA from e1)) (show s.vm.findClass _ = some (y 2) from e2))
  have hcell : jcell (jadp ad (jn μ) q) ph (jnw μ t n) y (t, (jlab (μ 53 0 0)).2) = .inl (cA, n.toNat, .inr (.inl (fun _ => 0))) := by
    rw [jcell2 h1, ec]
    have el : jlen (jnw μ t n) t (jlab (μ 53 0 0)).2 = n := by
      by_cases h50 : t = 50
      · subst h50
        exact jnw_len
      · rw [jlen_st h50, hln h50]
    rw [el]
    refine congrArg (fun f => (Sum.inl (y 2, n.toNat, Sum.inr (Sum.inl f)) : va_E)) (funext fun j => ?_)
    rw [jnw_zero h72.1 h72.2.1 h72.2.2]
    rfl
  exact WJ_new hR hS1 hJ (ok_tail hO) h hlt h11 h72 (by rw [hcell]; exact hP) (by rw [hcell]; exact hD) (fun k => by rw [h1] at k; rcases k with k | k <;> cases k) (fun _ => ⟨hn0, hnm⟩) kk
theorem o_newb (hx : p.tables.exec = Jvm.exec) (hb : c.code = cc) {t : Nat} {n : Int} (harr : (Cond.arrayClass (newarray.typeOf .byte)).before args s = true) (hK : va_K D vwCl (jtys y) s) (hA : base ≤ H0.size) (h : jlab (μ 53 0 0) = (t, (jlab (μ 53 0 0)).2)) (h1 : jkt t = 3) (hlt : μ 53 0 0 < 600000) (hn0 : 0 ≤ n) (hnm : n ≤ 7302250) (hln : t ≠ 50 → n = jlt t) (hcells : cells + 1 ≤ R.cells) (hslots : slots + n.toNat ≤ R.slots) (hd : decode cc pc = .ok (.newarray .byte, 2))
    (kk : WJ p l e R s m args below meth c Qf base D y H0 ph (pc + 2) ls ((t, (jlab (μ 53 0 0)).2) :: st) (jnw μ t n) (cells + 1) (slots + n.toNat)) : WJ p l e R s m args below meth c Qf base D y H0 ph pc ls ((0, n) :: st) μ cells slots := by
  intro ad H locs lsR hR hS hJ hO
  have h11 := jkt_ge (t := t) (by rw [h1]; decide)
  have h72 : t ≠ 51 ∧ t ≠ 53 ∧ t ≠ 54 := ⟨fun q => by rw [q] at h1; exact absurd h1 (by decide), fun q => by rw [q] at h1; exact absurd h1 (by decide), fun q => by rw [q] at h1; exact absurd h1 (by decide)⟩
  refine va_newa hx hb harr (ty := .byte) rfl hK hR.1 hR.2.1 hS (fun q hq => Nat.le_trans hA hq) (n := Int32.ofInt n) (N' := n.toNat) (a0 := (n.toNat, .inl (fun _ => 0))) (fun _ => rfl) (by rw [i32_0, i32_lt ⟨by omega, by omega⟩ ⟨by decide, by decide⟩]; omega) (i32_clamp hn0 (by omega)) (by show n.toNat * 1 ≤ 536870912; omega) hcells hslots hd (fun q cA H1 hK1 hP hD hS1 => ?_)
  have ec : cA = y 3 := by
    have e1 := (hK1.2 5 _ rfl).2
    have e2 := (hK.2 2 _ rfl).2
    exact Option.some.inj (Eq.trans (Eq.symm (show s.vm.findClass _ = some cA from e1)) (show s.vm.findClass _ = some (y 3) from e2))
  have hcell : jcell (jadp ad (jn μ) q) ph (jnw μ t n) y (t, (jlab (μ 53 0 0)).2) = .inl (cA, n.toNat, .inl (fun _ => 0)) := by
    rw [jcell3 h1, ec]
    have el : jlen (jnw μ t n) t (jlab (μ 53 0 0)).2 = n := by
      by_cases h50 : t = 50
      · subst h50
        exact jnw_len
      · rw [jlen_st h50, hln h50]
    rw [el]
    refine congrArg (fun f => (Sum.inl (y 3, n.toNat, Sum.inl f) : va_E)) (funext fun j => ?_)
    rw [jnw_zero h72.1 h72.2.1 h72.2.2]
    rfl
  exact WJ_new hR hS1 hJ (ok_tail hO) h hlt h11 h72 (by rw [hcell]; exact hP) (by rw [hcell]; exact hD) (fun k => by rw [h1] at k; rcases k with k | k <;> cases k) (fun _ => ⟨hn0, hnm⟩) kk
theorem o_newz (hx : p.tables.exec = Jvm.exec) (hb : c.code = cc) {t : Nat} {n : Int} (harr : (Cond.arrayClass (newarray.typeOf .boolean)).before args s = true) (hK : va_K D vwCl (jtys y) s) (hA : base ≤ H0.size) (h : jlab (μ 53 0 0) = (t, (jlab (μ 53 0 0)).2)) (h1 : jkt t = 4) (hlt : μ 53 0 0 < 600000) (hn0 : 0 ≤ n) (hnm : n ≤ 7302250) (hln : t ≠ 50 → n = jlt t) (hcells : cells + 1 ≤ R.cells) (hslots : slots + n.toNat ≤ R.slots) (hd : decode cc pc = .ok (.newarray .boolean, 2))
    (kk : WJ p l e R s m args below meth c Qf base D y H0 ph (pc + 2) ls ((t, (jlab (μ 53 0 0)).2) :: st) (jnw μ t n) (cells + 1) (slots + n.toNat)) : WJ p l e R s m args below meth c Qf base D y H0 ph pc ls ((0, n) :: st) μ cells slots := by
  intro ad H locs lsR hR hS hJ hO
  have h11 := jkt_ge (t := t) (by rw [h1]; decide)
  have h72 : t ≠ 51 ∧ t ≠ 53 ∧ t ≠ 54 := ⟨fun q => by rw [q] at h1; exact absurd h1 (by decide), fun q => by rw [q] at h1; exact absurd h1 (by decide), fun q => by rw [q] at h1; exact absurd h1 (by decide)⟩
  refine va_newa hx hb harr (ty := .boolean) rfl hK hR.1 hR.2.1 hS (fun q hq => Nat.le_trans hA hq) (n := Int32.ofInt n) (N' := n.toNat) (a0 := (n.toNat, .inl (fun _ => 0))) (fun _ => rfl) (by rw [i32_0, i32_lt ⟨by omega, by omega⟩ ⟨by decide, by decide⟩]; omega) (i32_clamp hn0 (by omega)) (by show n.toNat * 1 ≤ 536870912; omega) hcells hslots hd (fun q cA H1 hK1 hP hD hS1 => ?_)
  have ec : cA = y 4 := by
    have e1 := (hK1.2 5 _ rfl).2
    have e2 := (hK.2 3 _ rfl).2
    exact Option.some.inj (Eq.trans (Eq.symm (show s.vm.findClass _ = some cA from e1)) (show s.vm.findClass _ = some (y 4) from e2))
  have hcell : jcell (jadp ad (jn μ) q) ph (jnw μ t n) y (t, (jlab (μ 53 0 0)).2) = .inl (cA, n.toNat, .inl (fun _ => 0)) := by
    rw [jcell4 h1, ec]
    have el : jlen (jnw μ t n) t (jlab (μ 53 0 0)).2 = n := by
      by_cases h50 : t = 50
      · subst h50
        exact jnw_len
      · rw [jlen_st h50, hln h50]
    rw [el]
    refine congrArg (fun f => (Sum.inl (y 4, n.toNat, Sum.inl f) : va_E)) (funext fun j => ?_)
    rw [jnw_zero h72.1 h72.2.1 h72.2.2]
    rfl
  exact WJ_new hR hS1 hJ (ok_tail hO) h hlt h11 h72 (by rw [hcell]; exact hP) (by rw [hcell]; exact hD) (fun k => by rw [h1] at k; rcases k with k | k <;> cases k) (fun _ => ⟨hn0, hnm⟩) kk
theorem o_newq (hx : p.tables.exec = Jvm.exec) (hb : c.code = cc) {own : String} {index t : Nat} {n : Int} (hph : ph = false) (ho : s.vm.findClass own = some m.cls) (hcl : (Cond.classLink own index "RoundTrips$Book").before args s = true) (hov : (Cond.arrayOver (.object "RoundTrips$Book")).before args s = true) (hK : va_K D vwCl (jtys y) s) (hA : base ≤ H0.size) (h : jlab (μ 53 0 0) = (t, (jlab (μ 53 0 0)).2)) (h1 : jkt t = 5) (hlt : μ 53 0 0 < 600000) (hn0 : 0 ≤ n) (hnm : n ≤ 7302250) (hln : n = jlt t) (hcells : cells + 1 ≤ R.cells) (hslots : slots + n.toNat ≤ R.slots) (hd : decode cc pc = .ok (.anewarray index, 3))
    (kk : WJ p l e R s m args below meth c Qf base D y H0 ph (pc + 3) ls ((t, (jlab (μ 53 0 0)).2) :: st) (jnw μ t n) (cells + 1) (slots + n.toNat)) : WJ p l e R s m args below meth c Qf base D y H0 ph pc ls ((0, n) :: st) μ cells slots := by
  intro ad H locs lsR hR hS hJ hO
  have h11 := jkt_ge (t := t) (by rw [h1]; decide)
  have h72 : t ≠ 51 ∧ t ≠ 53 ∧ t ≠ 54 := ⟨fun q => by rw [q] at h1; exact absurd h1 (by decide), fun q => by rw [q] at h1; exact absurd h1 (by decide), fun q => by rw [q] at h1; exact absurd h1 (by decide)⟩
  have h50 : t ≠ 50 := fun q => by rw [q] at h1; exact absurd h1 (by decide)
  refine va_newq hx hb ho hcl (va_AO.of hov) hK hR.1 hR.2.1 hS (fun q hq => Nat.le_trans hA hq) (n := Int32.ofInt n) (N' := n.toNat) (by rw [i32_0, i32_lt ⟨by omega, by omega⟩ ⟨by decide, by decide⟩]; omega) (i32_clamp hn0 (by omega)) (by omega) hcells hslots hd (fun q cA H1 hK1 hP hD hS1 => ?_)
  have ec : cA = y 5 := by
    obtain ⟨_, _, _, _, _, e1⟩ := (hK1.2 5 _ rfl).2
    obtain ⟨_, _, _, _, _, e2⟩ := (hK.2 4 _ rfl).2
    exact Option.some.inj (e1.symm.trans e2)
  have hcell : jcell (jadp ad (jn μ) q) ph (jnw μ t n) y (t, (jlab (μ 53 0 0)).2) = .inl (cA, n.toNat, .inr (.inr (.inr (.inr (fun _ => none))))) := by
    rw [jcell5 h1, ec, jlen_st h50, ← hln]
    refine congrArg (fun f => (Sum.inl (y 5, n.toNat, Sum.inr (Sum.inr (Sum.inr (Sum.inr f)))) : va_E)) (funext fun j => ?_)
    unfold jbval
    rw [jnw_zero h72.1 h72.2.1 h72.2.2, hph]
    exact if_neg (by simp)
  exact WJ_new hR hS1 hJ (ok_tail hO) h hlt h11 h72 (by rw [hcell]; exact hP) (by rw [hcell]; exact hD) (fun _ => hph) (fun _ => ⟨hn0, hnm⟩) kk
end
