/-! EACH INSTRUCTION: what holds behind it gives what holds ahead of it -/
def jokv (μ : JM) (v : JV) : Prop := 11 ≤ v.1 → jlive μ v
def jlv (ad : Nat → Nat) : Nat → List JV → List (Nat × Value)
  | _, [] => []
  | i, v :: l => if v.1 = 9 then jlv ad (i + 1) l else (i, jval ad v) :: jlv ad (i + 1) l
/-- the locals -/
def JL (ad : Nat → Nat) (μ : JM) (lsR : Array Slot) (ls : List JV) : Prop := lv_has lsR ls.length (jlv ad 0 ls) ∧ (∀ v ∈ ls, jokv μ v) ∧ ∀ v ∈ ls, v.1 ≠ 3
def WJ (p : Program) (l : Launch) (e : Env) (R : Room) (s : State) (m : MethodId) (args : Array Value) (below : List Frame) (meth : Method) (c : Code) (Qf : State → Prop) (base : Nat) (D : va_G) (y : Nat → ClassId) (H0 : Heap) (ph : Bool) (pc : Nat) (ls st : List JV) (μ : JM) (cells slots : Nat) : Prop :=
  ∀ (ad : Nat → Nat) (H : Heap) (locs : List Loc) (lsR : Array Slot), JRel base ad D y ph μ H → va_S (fun q => base ≤ q) H0 H locs → JL ad μ lsR ls → (∀ v ∈ st, jokv μ v) → W p l e R s m args below meth c H locs cells slots Qf (F0 m pc lsR (st.map (jval ad)))
theorem jlv_mem {ad : Nat → Nat} : ∀ {l : List JV} {k i : Nat} {w : Value}, (i, w) ∈ jlv ad k l → ∃ v, k ≤ i ∧ l[i - k]? = some v ∧ v.1 ≠ 9 ∧ w = jval ad v
  | [], _, _, _, h => absurd h List.not_mem_nil
  | v :: l, k, i, w, h => by
    unfold jlv at h
    split at h
    · obtain ⟨u, h1, h2, h3⟩ := jlv_mem h
      exact ⟨u, by omega, by rw [show i - k = (i - (k + 1)) + 1 by omega]; exact h2, h3⟩
    · rename_i hv
      rcases List.mem_cons.mp h with h | h
      · cases h
        exact ⟨v, Nat.le_refl _, by rw [Nat.sub_self]; rfl, hv, rfl⟩
      · obtain ⟨u, h1, h2, h3⟩ := jlv_mem h
        exact ⟨u, by omega, by rw [show i - k = (i - (k + 1)) + 1 by omega]; exact h2, h3⟩
theorem jlv_in {ad : Nat → Nat} : ∀ {l : List JV} {k i : Nat} {v : JV}, l[i]? = some v → v.1 ≠ 9 → (k + i, jval ad v) ∈ jlv ad k l
  | [], _, _, _, h, _ => by simp at h
  | u :: l, k, 0, v, h, hv => by
    have e : u = v := Option.some.inj h
    subst e
    unfold jlv
    rw [if_neg hv]
    exact List.mem_cons_self
  | u :: l, k, i + 1, v, h, hv => by
    have h2 := jlv_in (ad := ad) (k := k + 1) (l := l) (i := i) (v := v) h hv
    rw [show k + 1 + i = k + (i + 1) by omega] at h2
    unfold jlv
    split
    · exact h2
    · exact List.mem_cons_of_mem _ h2
theorem jl_some {ls : List JV} {i : Nat} (h : (jl ls i).1 ≠ 9) : ls[i]? = some (jl ls i) := by
  unfold jl at h ⊢
  cases hi : ls[i]? with
  | none =>
    rw [List.getD_eq_getElem?_getD, hi] at h
    exact absurd rfl h
  | some v => rw [List.getD_eq_getElem?_getD, hi]; rfl
theorem JL_at {ad : Nat → Nat} {μ : JM} {lsR : Array Slot} {ls : List JV} {i : Nat} {v : JV} (h : JL ad μ lsR ls) (hi : ls[i]? = some v) (hv : v.1 ≠ 9) : lsR[i]? = some (.val (jval ad v)) := by
  have := h.1.2.2 _ (jlv_in (ad := ad) (k := 0) hi hv)
  simpa using this
theorem jval_cat {ad : Nat → Nat} {v : JV} (h : v.1 ≠ 3) : (jval ad v).category = 1 := by
  unfold jval
  split <;> first | rfl | (rename_i e; exact absurd e h) | (split <;> rfl)
/-- the locals behind a store -/
theorem JL_set {ad : Nat → Nat} {μ : JM} {lsR lsR' : Array Slot} {ls : List JV} {i : Nat} {v : JV} (h : JL ad μ lsR ls) (hv : jokv μ v) (hv3 : v.1 ≠ 3)
    (h' : lv_has lsR' ls.length ((i, jval ad v) :: (jlv ad 0 ls).filter (fun q => !(q.1 == i) && !(q.1 + 1 == i && q.2.category == 2)))) : JL ad μ lsR' (ls.set i v) := by
  refine ⟨⟨by rw [List.length_set]; exact h'.1, h'.2.1, fun q hq => ?_⟩, fun u hu => ?_, fun u hu => ?_⟩
  · obtain ⟨j, w⟩ := q
    obtain ⟨u, -, h1, h2, rfl⟩ := jlv_mem hq
    rw [Nat.sub_zero, List.getElem?_set] at h1
    split at h1
    · rename_i hij
      subst hij
      split at h1
      · cases h1
        exact h'.2.2 _ List.mem_cons_self
      · cases h1
    · rename_i hij
      refine h'.2.2 (j, jval ad u) (List.mem_cons_of_mem _ (List.mem_filter.mpr ⟨by simpa using jlv_in (ad := ad) (k := 0) h1 h2, ?_⟩))
      have h3 : u.1 ≠ 3 := h.2.2 u (List.mem_of_getElem? h1)
      have h4 : ¬ j = i := fun q => hij q.symm
      simp [jval_cat h3, h4]
  · rcases List.mem_or_eq_of_mem_set hu with hu | rfl
    · exact h.2.1 u hu
    · exact hv
  · rcases List.mem_or_eq_of_mem_set hu with hu | rfl
    · exact h.2.2 u hu
    · exact hv3
theorem jokv_of {μ : JM} {t : Nat} {x : Int} (h : t < 11) : jokv μ (t, x) := fun q => by
  have : 11 ≤ t := q
  omega
theorem ok_cons {μ : JM} {v : JV} {st : List JV} (h : jokv μ v) (hs : ∀ u ∈ st, jokv μ u) : ∀ u ∈ v :: st, jokv μ u := by
  intro u hu
  rcases List.mem_cons.mp hu with rfl | hu
  · exact h
  · exact hs u hu
theorem ok_tail {μ : JM} {v : JV} {st : List JV} (hs : ∀ u ∈ v :: st, jokv μ u) : ∀ u ∈ st, jokv μ u := fun u hu => hs u (List.mem_cons_of_mem _ hu)
theorem ok_loc {μ ν : JM} {t : Nat} {x : Int} (h : jloc t x μ ν) (h53 : t ≠ 53) {l : List JV} (hs : ∀ u ∈ l, jokv μ u) : ∀ u ∈ l, jokv ν u := fun u hu h11 => (jloc_live h h53).mpr (hs u hu h11)
theorem JL_loc {ad : Nat → Nat} {μ ν : JM} {lsR : Array Slot} {ls : List JV} {t : Nat} {x : Int} (h : jloc t x μ ν) (h53 : t ≠ 53) (hJ : JL ad μ lsR ls) : JL ad ν lsR ls := ⟨hJ.1, ok_loc h h53 hJ.2.1, hJ.2.2⟩
theorem i32_add (x y : Int) : Int32.ofInt x + Int32.ofInt y = Int32.ofInt (x + y) := (Int32.ofInt_add x y).symm
theorem i32_sub (x y : Int) : Int32.ofInt x - Int32.ofInt y = Int32.ofInt (x - y) := (Int32.ofInt_sub x y).symm
theorem i32_mul (x y : Int) : Int32.ofInt x * Int32.ofInt y = Int32.ofInt (x * y) := (Int32.ofInt_mul x y).symm
theorem i32_neg (x : Int) : -Int32.ofInt x = Int32.ofInt (-x) := (Int32.ofInt_neg x).symm
theorem i32_of (z : Int32) : Int32.ofInt z.toInt = z := Int32.ofInt_toInt z
theorem i32_to {x : Int} (h : inR x) : (Int32.ofInt x).toInt = x := by
  obtain ⟨h1, h2⟩ := h
  rw [Int32.toInt_ofInt, show (Int32.size : Nat) = 4294967296 from rfl]
  exact Int.bmod_eq_of_le (by omega) (by omega)
theorem i32_lt {x y : Int} (hx : inR x) (hy : inR y) : Int32.ofInt x < Int32.ofInt y ↔ x < y := by rw [Int32.lt_iff_toInt_lt, i32_to hx, i32_to hy]
theorem i32_le {x y : Int} (hx : inR x) (hy : inR y) : Int32.ofInt x ≤ Int32.ofInt y ↔ x ≤ y := by rw [Int32.le_iff_toInt_le, i32_to hx, i32_to hy]
theorem i32_eq {x y : Int} (h : x = y ∨ (inR x ∧ inR y)) : Int32.ofInt x = Int32.ofInt y ↔ x = y := by
  rcases h with h | ⟨hx, hy⟩
  · subst h; simp
  · refine ⟨fun e => ?_, fun e => by rw [e]⟩
    have := congrArg Int32.toInt e
    rwa [i32_to hx, i32_to hy] at this
theorem i32_0 : (0 : Int32) = Int32.ofInt 0 := by decide
theorem i32_clamp {x : Int} (h0 : 0 ≤ x) (h : x < 2147483648) : (Int32.ofInt x).toNatClampNeg = x.toNat := by
  rw [← Int32.toNat_toInt, i32_to ⟨by omega, h⟩]
theorem jf_jb (u : UInt32) : jf (jb u) = u := by unfold jf jb; simp
section
variable {p : Program} {l : Launch} {e : Env} {R : Room} {s : State} {m : MethodId} {args : Array Value} {below : List Frame} {meth : Method} {c : Code} {Qf : State → Prop} {base : Nat} {D : va_G} {y : Nat → ClassId} {H0 : Heap} {ph : Bool} {cc : ByteArray} {pc : Nat} {ls st : List JV} {μ : JM} {cells slots : Nat}
theorem o_push {v : JV} {len : Nat} (hv : v.1 < 11) (row : ∀ (ad : Nat → Nat) (H : Heap) (locs : List Loc) (lsR : Array Slot), W p l e R s m args below meth c H locs cells slots Qf (F0 m (pc + len) lsR (jval ad v :: st.map (jval ad))) → W p l e R s m args below meth c H locs cells slots Qf (F0 m pc lsR (st.map (jval ad))))
    (k : WJ p l e R s m args below meth c Qf base D y H0 ph (pc + len) ls (v :: st) μ cells slots) : WJ p l e R s m args below meth c Qf base D y H0 ph pc ls st μ cells slots :=
  fun ad H locs lsR hR hS hJ hO => row ad H locs lsR (k ad H locs lsR hR hS hJ (ok_cons (jokv_of hv) hO))
theorem o_iconst (hx : p.tables.exec = Jvm.exec) (hb : c.code = cc) {n : Int} (hd : decode cc pc = .ok (.iconst n, 1)) (k : WJ p l e R s m args below meth c Qf base D y H0 ph (pc + 1) ls ((0, n) :: st) μ cells slots) : WJ p l e R s m args below meth c Qf base D y H0 ph pc ls st μ cells slots :=
  o_push (Nat.le_of_ble_eq_true rfl) (fun _ _ _ _ => lv_iconst hx hb hd rfl) k
theorem o_bipush (hx : p.tables.exec = Jvm.exec) (hb : c.code = cc) {n : Int} (hd : decode cc pc = .ok (.bipush n, 2)) (hn : (Int8.ofInt n).toInt32 = Int32.ofInt n) (k : WJ p l e R s m args below meth c Qf base D y H0 ph (pc + 2) ls ((0, n) :: st) μ cells slots) : WJ p l e R s m args below meth c Qf base D y H0 ph pc ls st μ cells slots :=
  o_push (Nat.le_of_ble_eq_true rfl) (fun _ _ _ _ => lv_bipush hx hb hd hn) k
theorem o_sipush (hx : p.tables.exec = Jvm.exec) (hb : c.code = cc) {n : Int} (hd : decode cc pc = .ok (.sipush n, 3)) (hn : (Int16.ofInt n).toInt32 = Int32.ofInt n) (k : WJ p l e R s m args below meth c Qf base D y H0 ph (pc + 3) ls ((0, n) :: st) μ cells slots) : WJ p l e R s m args below meth c Qf base D y H0 ph pc ls st μ cells slots :=
  o_push (Nat.le_of_ble_eq_true rfl) (fun _ _ _ _ => lv_sipush hx hb hd hn) k
theorem o_lconst (hx : p.tables.exec = Jvm.exec) (hb : c.code = cc) {n : Fin 2} (hd : decode cc pc = .ok (.lconst n, 1)) (k : WJ p l e R s m args below meth c Qf base D y H0 ph (pc + 1) ls ((3, (n.val : Int)) :: st) μ cells slots) : WJ p l e R s m args below meth c Qf base D y H0 ph pc ls st μ cells slots :=
  o_push (Nat.le_of_ble_eq_true rfl) (fun _ _ _ _ => lv_lconst hx hb hd rfl) k
theorem o_fconst (hx : p.tables.exec = Jvm.exec) (hb : c.code = cc) {n : Fin 3} (hd : decode cc pc = .ok (.fconst n, 1)) (k : WJ p l e R s m args below meth c Qf base D y H0 ph (pc + 1) ls ((2, jfc n.val) :: st) μ cells slots) : WJ p l e R s m args below meth c Qf base D y H0 ph pc ls st μ cells slots := by
  refine o_push (Nat.le_of_ble_eq_true rfl) (fun _ _ _ _ hk => ?_) k
  replace hk : W p l e R s m args below meth c _ _ cells slots Qf (F0 m (pc + 1) _ (.float (jf (jfc n.val)) :: _)) := hk
  match n, hd, hk with
  | 0, hd, hk => exact lv_fconst0 hx hb hd (by have : jf (jfc 0) = FP.fconst0 := jf_jb _; rw [← this]; exact hk)
  | 1, hd, hk => exact lv_fconst1 hx hb hd (by have : jf (jfc 1) = FP.fconst1 := jf_jb _; rw [← this]; exact hk)
  | 2, hd, hk => exact lv_fconst2 hx hb hd (by have : jf (jfc 2) = FP.fconst2 := jf_jb _; rw [← this]; exact hk)
theorem o_ldc (hx : p.tables.exec = Jvm.exec) (hb : c.code = cc) {own : String} {i v : Nat} (ho : s.vm.findClass own = some m.cls) (hw : (Jvm.Cond.constant own i (Int32.ofInt v)).before args s = true) (hd : decode cc pc = .ok (.ldc i, 2)) (k : WJ p l e R s m args below meth c Qf base D y H0 ph (pc + 2) ls ((0, (v : Int)) :: st) μ cells slots) : WJ p l e R s m args below meth c Qf base D y H0 ph pc ls st μ cells slots :=
  o_push (Nat.le_of_ble_eq_true rfl) (fun _ _ _ _ => lv_ldc hx hb ho hw hd) k
theorem o_ldcw (hx : p.tables.exec = Jvm.exec) (hb : c.code = cc) {own : String} {i v : Nat} (ho : s.vm.findClass own = some m.cls) (hw : (Jvm.Cond.constant own i (Int32.ofInt v)).before args s = true) (hd : decode cc pc = .ok (.ldc_w i, 3)) (k : WJ p l e R s m args below meth c Qf base D y H0 ph (pc + 3) ls ((0, (v : Int)) :: st) μ cells slots) : WJ p l e R s m args below meth c Qf base D y H0 ph pc ls st μ cells slots :=
  o_push (Nat.le_of_ble_eq_true rfl) (fun _ _ _ _ => lv_ldcw hx hb ho hw hd) k
theorem o_ldcf (hx : p.tables.exec = Jvm.exec) (hb : c.code = cc) {own : String} {i v : Nat} (ho : s.vm.findClass own = some m.cls) (hw : (Jvm.Cond.constantFloat own i (jf v)).before args s = true) (hd : decode cc pc = .ok (.ldc i, 2)) (k : WJ p l e R s m args below meth c Qf base D y H0 ph (pc + 2) ls ((2, (v : Int)) :: st) μ cells slots) : WJ p l e R s m args below meth c Qf base D y H0 ph pc ls st μ cells slots :=
  o_push (Nat.le_of_ble_eq_true rfl) (fun _ _ _ _ => lv_ldcf hx hb ho hw hd) k
theorem o_ldc2 (hx : p.tables.exec = Jvm.exec) (hb : c.code = cc) {own : String} {i v : Nat} (ho : s.vm.findClass own = some m.cls) (hw : (Jvm.Cond.constantLong own i (Int64.ofInt v)).before args s = true) (hd : decode cc pc = .ok (.ldc2_w i, 3)) (k : WJ p l e R s m args below meth c Qf base D y H0 ph (pc + 3) ls ((3, (v : Int)) :: st) μ cells slots) : WJ p l e R s m args below meth c Qf base D y H0 ph pc ls st μ cells slots :=
  o_push (Nat.le_of_ble_eq_true rfl) (fun _ _ _ _ => lv_ldc2 hx hb ho hw hd) k
/-- a local comes on the stack -/
theorem o_load {i len : Nat} (h9 : (jl ls i).1 ≠ 9) (row : ∀ (ad : Nat → Nat) (H : Heap) (locs : List Loc) (lsR : Array Slot), lsR[i]? = some (.val (jval ad (jl ls i))) → W p l e R s m args below meth c H locs cells slots Qf (F0 m (pc + len) lsR (jval ad (jl ls i) :: st.map (jval ad))) → W p l e R s m args below meth c H locs cells slots Qf (F0 m pc lsR (st.map (jval ad))))
    (k : WJ p l e R s m args below meth c Qf base D y H0 ph (pc + len) ls (jl ls i :: st) μ cells slots) : WJ p l e R s m args below meth c Qf base D y H0 ph pc ls st μ cells slots := by
  intro ad H locs lsR hR hS hJ hO
  have hi := jl_some h9
  exact row ad H locs lsR (JL_at hJ hi h9) (k ad H locs lsR hR hS hJ (ok_cons (hJ.2.1 _ (List.mem_of_getElem? hi)) hO))
theorem jval_0 {ad : Nat → Nat} {v : JV} (h : v.1 = 0) : jval ad v = .int (Int32.ofInt v.2) := by obtain ⟨t, x⟩ := v; have h : t = 0 := h; subst h; rfl
theorem jval_2 {ad : Nat → Nat} {v : JV} (h : v.1 = 2) : jval ad v = .float (jf v.2) := by obtain ⟨t, x⟩ := v; have h : t = 2 := h; subst h; rfl
theorem jval_r {ad : Nat → Nat} {v : JV} (h : 11 ≤ v.1) : jval ad v = .ref (ad (jix v.1 v.2)) := jval_ref h
theorem o_iload_n (hx : p.tables.exec = Jvm.exec) (hb : c.code = cc) {n : Fin 4} (hd : decode cc pc = .ok (.iload_n n, 1)) (h : (jl ls n.val).1 = 0) (k : WJ p l e R s m args below meth c Qf base D y H0 ph (pc + 1) ls (jl ls n.val :: st) μ cells slots) : WJ p l e R s m args below meth c Qf base D y H0 ph pc ls st μ cells slots :=
  o_load (by rw [h]; decide) (fun _ _ _ _ hi hk => by rw [jval_0 h] at hi hk; exact lv_iload_n hx hb hd rfl hi hk) k
theorem o_iload (hx : p.tables.exec = Jvm.exec) (hb : c.code = cc) {n : Nat} (hd : decode cc pc = .ok (.iload n, 2)) (h : (jl ls n).1 = 0) (k : WJ p l e R s m args below meth c Qf base D y H0 ph (pc + 2) ls (jl ls n :: st) μ cells slots) : WJ p l e R s m args below meth c Qf base D y H0 ph pc ls st μ cells slots :=
  o_load (by rw [h]; decide) (fun _ _ _ _ hi hk => by rw [jval_0 h] at hi hk; exact lv_iload hx hb hd hi hk) k
theorem o_fload_n (hx : p.tables.exec = Jvm.exec) (hb : c.code = cc) {n : Fin 4} (hd : decode cc pc = .ok (.fload_n n, 1)) (h : (jl ls n.val).1 = 2) (k : WJ p l e R s m args below meth c Qf base D y H0 ph (pc + 1) ls (jl ls n.val :: st) μ cells slots) : WJ p l e R s m args below meth c Qf base D y H0 ph pc ls st μ cells slots :=
  o_load (by rw [h]; decide) (fun _ _ _ _ hi hk => by rw [jval_2 h] at hi hk; exact lv_fload_n hx hb hd rfl hi hk) k
theorem o_fload (hx : p.tables.exec = Jvm.exec) (hb : c.code = cc) {n : Nat} (hd : decode cc pc = .ok (.fload n, 2)) (h : (jl ls n).1 = 2) (k : WJ p l e R s m args below meth c Qf base D y H0 ph (pc + 2) ls (jl ls n :: st) μ cells slots) : WJ p l e R s m args below meth c Qf base D y H0 ph pc ls st μ cells slots :=
  o_load (by rw [h]; decide) (fun _ _ _ _ hi hk => by rw [jval_2 h] at hi hk; exact lv_fload hx hb hd hi hk) k
theorem o_aload_n (hx : p.tables.exec = Jvm.exec) (hb : c.code = cc) {n : Fin 4} (hd : decode cc pc = .ok (.aload_n n, 1)) (h : 11 ≤ (jl ls n.val).1) (k : WJ p l e R s m args below meth c Qf base D y H0 ph (pc + 1) ls (jl ls n.val :: st) μ cells slots) : WJ p l e R s m args below meth c Qf base D y H0 ph pc ls st μ cells slots :=
  o_load (by omega) (fun _ _ _ _ hi hk => by rw [jval_r h] at hi hk; exact lv_aload_n hx hb hd rfl hi hk) k
theorem o_aload_n6 (hx : p.tables.exec = Jvm.exec) (hb : c.code = cc) {n : Fin 4} (hd : decode cc pc = .ok (.aload_n n, 1)) (h : (jl ls n.val).1 = 6) (k : WJ p l e R s m args below meth c Qf base D y H0 ph (pc + 1) ls (jl ls n.val :: st) μ cells slots) : WJ p l e R s m args below meth c Qf base D y H0 ph pc ls st μ cells slots :=
  o_load (by rw [h]; decide) (fun ad _ _ _ hi hk => by
    have e : jval ad (jl ls n.val) = .ref (ad 1000000001) := by unfold jval; rw [h]; rfl
    rw [e] at hi hk
    exact lv_aload_n hx hb hd rfl hi hk) k
theorem o_aload (hx : p.tables.exec = Jvm.exec) (hb : c.code = cc) {n : Nat} (hd : decode cc pc = .ok (.aload n, 2)) (h : 11 ≤ (jl ls n).1) (k : WJ p l e R s m args below meth c Qf base D y H0 ph (pc + 2) ls (jl ls n :: st) μ cells slots) : WJ p l e R s m args below meth c Qf base D y H0 ph pc ls st μ cells slots :=
  o_load (by omega) (fun _ _ _ _ hi hk => by rw [jval_r h] at hi hk; exact lv_aload hx hb hd hi hk) k
/-- a store -/
theorem o_store {i len : Nat} {v : JV} (h3 : v.1 ≠ 3) (row : ∀ (ad : Nat → Nat) (H : Heap) (locs : List Loc) (lsR : Array Slot), lv_has lsR ls.length (jlv ad 0 ls) → (∀ lsR' : Array Slot, lv_has lsR' ls.length ((i, jval ad v) :: (jlv ad 0 ls).filter (fun q => !(q.1 == i) && !(q.1 + 1 == i && q.2.category == 2))) → W p l e R s m args below meth c H locs cells slots Qf (F0 m (pc + len) lsR' (st.map (jval ad)))) → W p l e R s m args below meth c H locs cells slots Qf (F0 m pc lsR (jval ad v :: st.map (jval ad))))
    (k : WJ p l e R s m args below meth c Qf base D y H0 ph (pc + len) (ls.set i v) st μ cells slots) : WJ p l e R s m args below meth c Qf base D y H0 ph pc ls (v :: st) μ cells slots := by
  intro ad H locs lsR hR hS hJ hO
  refine row ad H locs lsR hJ.1 (fun lsR' h' => k ad H locs lsR' hR hS (JL_set hJ (hO v List.mem_cons_self) h3 h') (ok_tail hO))
theorem o_istore_n (hx : p.tables.exec = Jvm.exec) (hb : c.code = cc) {n : Fin 4} {v : JV} (hd : decode cc pc = .ok (.istore_n n, 1)) (hv : v.1 = 0) (hn : n.val < ls.length) (k : WJ p l e R s m args below meth c Qf base D y H0 ph (pc + 1) (ls.set n.val v) st μ cells slots) : WJ p l e R s m args below meth c Qf base D y H0 ph pc ls (v :: st) μ cells slots :=
  o_store (by rw [hv]; decide) (fun _ _ _ _ h hk => by rw [jval_0 hv] at hk ⊢; exact lv_istore_n hx hb hd rfl h hn rfl hk) k
theorem o_istore (hx : p.tables.exec = Jvm.exec) (hb : c.code = cc) {n : Nat} {v : JV} (hd : decode cc pc = .ok (.istore n, 2)) (hv : v.1 = 0) (hn : n < ls.length) (k : WJ p l e R s m args below meth c Qf base D y H0 ph (pc + 2) (ls.set n v) st μ cells slots) : WJ p l e R s m args below meth c Qf base D y H0 ph pc ls (v :: st) μ cells slots :=
  o_store (by rw [hv]; decide) (fun _ _ _ _ h hk => by rw [jval_0 hv] at hk ⊢; exact lv_istore hx hb hd h hn rfl hk) k
theorem o_fstore_n (hx : p.tables.exec = Jvm.exec) (hb : c.code = cc) {n : Fin 4} {v : JV} (hd : decode cc pc = .ok (.fstore_n n, 1)) (hv : v.1 = 2) (hn : n.val < ls.length) (k : WJ p l e R s m args below meth c Qf base D y H0 ph (pc + 1) (ls.set n.val v) st μ cells slots) : WJ p l e R s m args below meth c Qf base D y H0 ph pc ls (v :: st) μ cells slots :=
  o_store (by rw [hv]; decide) (fun _ _ _ _ h hk => by rw [jval_2 hv] at hk ⊢; exact lv_fstore_n hx hb hd rfl h hn rfl hk) k
theorem o_fstore (hx : p.tables.exec = Jvm.exec) (hb : c.code = cc) {n : Nat} {v : JV} (hd : decode cc pc = .ok (.fstore n, 2)) (hv : v.1 = 2) (hn : n < ls.length) (k : WJ p l e R s m args below meth c Qf base D y H0 ph (pc + 2) (ls.set n v) st μ cells slots) : WJ p l e R s m args below meth c Qf base D y H0 ph pc ls (v :: st) μ cells slots :=
  o_store (by rw [hv]; decide) (fun _ _ _ _ h hk => by rw [jval_2 hv] at hk ⊢; exact lv_fstore hx hb hd h hn rfl hk) k
theorem o_astore_n (hx : p.tables.exec = Jvm.exec) (hb : c.code = cc) {n : Fin 4} {v : JV} (hd : decode cc pc = .ok (.astore_n n, 1)) (hv : 11 ≤ v.1) (hn : n.val < ls.length) (k : WJ p l e R s m args below meth c Qf base D y H0 ph (pc + 1) (ls.set n.val v) st μ cells slots) : WJ p l e R s m args below meth c Qf base D y H0 ph pc ls (v :: st) μ cells slots :=
  o_store (by omega) (fun _ _ _ _ h hk => by rw [jval_r hv] at hk ⊢; exact lv_astore_n hx hb hd rfl h hn rfl hk) k
theorem o_astore (hx : p.tables.exec = Jvm.exec) (hb : c.code = cc) {n : Nat} {v : JV} (hd : decode cc pc = .ok (.astore n, 2)) (hv : 11 ≤ v.1) (hn : n < ls.length) (k : WJ p l e R s m args below meth c Qf base D y H0 ph (pc + 2) (ls.set n v) st μ cells slots) : WJ p l e R s m args below meth c Qf base D y H0 ph pc ls (v :: st) μ cells slots :=
  o_store (by omega) (fun _ _ _ _ h hk => by rw [jval_r hv] at hk ⊢; exact lv_astore hx hb hd h hn rfl hk) k
theorem o_iinc (hx : p.tables.exec = Jvm.exec) (hb : c.code = cc) {n : Nat} {d : Int} (hd : decode cc pc = .ok (.iinc n d, 3)) (h : (jl ls n).1 = 0) (hn : n < ls.length) (k : WJ p l e R s m args below meth c Qf base D y H0 ph (pc + 3) (ls.set n (0, (jl ls n).2 + d)) st μ cells slots) : WJ p l e R s m args below meth c Qf base D y H0 ph pc ls st μ cells slots := by
  intro ad H locs lsR hR hS hJ hO
  have hi := jl_some (ls := ls) (i := n) (by rw [h]; decide)
  have hm := jlv_in (ad := ad) (k := 0) hi (by rw [h]; decide)
  rw [Nat.zero_add, jval_0 h] at hm
  obtain ⟨q, hq⟩ := List.getElem?_of_mem hm
  refine lv_iinc hx hb hd hJ.1 hq (v := Int32.ofInt ((jl ls n).2 + d)) (i32_add _ _) hn rfl (fun lsR' h' => ?_)
  exact k ad H locs lsR' hR hS (JL_set (v := (0, (jl ls n).2 + d)) hJ (jokv_of (by decide)) (show (0 : Nat) ≠ 3 by decide) h') hO
end
