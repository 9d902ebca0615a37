/-! arrays of Books, copies, new cells, the JDK's own -/
theorem jcat_cons (v : JV) (l : List JV) : jcat (v :: l) = cond (Nat.beq v.1 3) (jcat l + 2) (jcat l + 1) := rfl
theorem jcat_sum {ad : Nat → Nat} : ∀ (st : List JV), ((st.map (jval ad)).map fun v => v.category).sum = jcat st
  | [] => rfl
  | v :: l => by
    rw [List.map_cons, List.map_cons, List.sum_cons, jcat_sum l, jcat_cons]
    by_cases h : v.1 = 3
    · rw [nbeq_t h]
      obtain ⟨t, x⟩ := v
      have h : t = 3 := h
      subst h
      show 2 + jcat l = jcat l + 2
      omega
    · rw [nbeq_f h, jval_cat h]
      show 1 + jcat l = jcat l + 1
      omega
theorem jlen_st {μ : JM} {t : Nat} {x : Int} (h : t ≠ 50) : jlen μ t x = jlt t := by unfold jlen; rw [nbeq_f h]; rfl
section
variable {p : Program} {l : Launch} {e : Env} {R : Room} {s : State} {m : MethodId} {args : Array Value} {below : List Frame} {meth : Method} {c : Code} {Qf : State → Prop} {base : Nat} {D : va_G} {y : Nat → ClassId} {H0 : Heap} {ph : Bool} {cc : ByteArray} {pc : Nat} {ls st : List JV} {μ : JM} {cells slots : Nat}
theorem o_aaload (hx : p.tables.exec = Jvm.exec) (hb : c.code = cc) {t : Nat} {x i : Int} (hK : va_K D vwCl (jtys y) s) (h1 : jkt t = 5) (hd : decode cc pc = .ok (.aaload, 1)) (hi : 0 ≤ i) (hj : i < jlen μ t x) (hg : ∀ g ∈ jfg ph μ t x i (jbk t i), g) (kk : WJ p l e R s m args below meth c Qf base D y H0 ph (pc + 1) ls (jfv μ t x i (jbk t i) :: st) μ cells slots) : WJ p l e R s m args below meth c Qf base D y H0 ph pc ls ((0, i) :: (t, x) :: st) μ cells slots := by
  intro ad H locs lsR hR hS hJ hO
  have h11 := jkt_ge (t := t) (by rw [h1]; decide)
  have hl := hO (t, x) (List.mem_cons_of_mem _ List.mem_cons_self) h11
  have hat := jws_at (ad := ad) (ph := ph) (y := y) hl
  have hb2 := (jlen_le hR hl).2
  have h50 : t ≠ 50 := fun q => by rw [q] at h1; exact absurd h1 (by decide)
  dsimp only at hat
  rw [jcell5 h1] at hat
  show W p l e R s m args below meth c H locs cells slots Qf (F0 m pc lsR (.int (Int32.ofInt i) :: jval ad (t, x) :: st.map (jval ad)))
  rw [jval_ref h11]
  refine va_aldq hx hb hK hR.1 _ 4 hat rfl (jvin hi hj hb2) hd ?_
  have hlk := (hR.2.2.2.1 _ (jix_lt hl)).2
  rw [jlab_ix hl] at hlk
  have hlk := hlk h1 i hi (by rw [← jlen_st (μ := μ) (x := x) h50]; exact hj)
  have e : va_rf (jbval ad ph μ t x (Int32.ofInt i).toNatClampNeg) = jval ad (jfv μ t x i (jbk t i)) := by
    rw [i32_clamp hi (by omega)]
    unfold jbval
    rw [Int.toNat_of_nonneg hi]
    have hb12 : (jbk t i).1 = 12 := by unfold jbk; cases Nat.beq t 30 <;> rfl
    have hv : jfv μ t x i (jbk t i) = jbk t i := by
      unfold jfv
      rw [hb12]
      rfl
    have h : ph = true ∨ μ t x i ≠ 0 := by
      unfold jfg at hg
      rw [hb12] at hg
      cases ph with
      | true => exact Or.inl rfl
      | false => exact Or.inr (hg _ List.mem_cons_self)
    rw [if_pos ⟨by rw [← jlen_st (μ := μ) (x := x) h50]; exact hj, h⟩, hv, jval_r (by rw [hb12]; decide)]
    rfl
  rw [e]
  exact kk ad H locs lsR hR hS hJ (ok_cons (jfv_ok hlk hg) (ok_tail (ok_tail hO)))
theorem o_aastore (hx : p.tables.exec = Jvm.exec) (hb : c.code = cc) {t : Nat} {x i w : Int} {v : JV} {gs : List Prop} (hK : va_K D vwCl (jtys y) s) (h1 : jkt t = 5) (hd : decode cc pc = .ok (.aastore, 1)) (hi : 0 ≤ i) (hj : i < jlen μ t x) (hp : jput (jbk t i) v = some (gs, w)) (hg : ∀ g ∈ gs, g) (kk : WJ p l e R s m args below meth c Qf base D y H0 ph (pc + 1) ls st (jw μ t x i w) cells slots) : WJ p l e R s m args below meth c Qf base D y H0 ph pc ls (v :: (0, i) :: (t, x) :: st) μ cells slots := by
  intro ad H locs lsR hR hS hJ hO
  have h11 := jkt_ge (t := t) (by rw [h1]; decide)
  have hl := hO (t, x) (List.mem_cons_of_mem _ (List.mem_cons_of_mem _ List.mem_cons_self)) h11
  have hat := jws_at (ad := ad) (ph := ph) (y := y) hl
  have hk := jlive_kt hl
  have hb2 := (jlen_le hR hl).2
  have h50 : t ≠ 50 := fun q => by rw [q] at h1; exact absurd h1 (by decide)
  have hb12 : (jbk t i).1 = 12 := by unfold jbk; cases Nat.beq t 30 <;> rfl
  have hlk := jput_lk (ph := ph) (μ := μ) (t := t) (k := i) (x := x) hp hg (hO v List.mem_cons_self) hk.2.2.2.2.1 (Or.inr (Or.inr (Or.inr (by rw [hb12]; decide))))
  obtain ⟨vt, vx⟩ := v
  unfold jput at hp
  rw [hb12] at hp
  by_cases hv : 12 = vt
  · subst hv
    cases hp
    have hvx : vx = (jbk t i).2 := hg _ List.mem_cons_self
    have hlv := hO (12, vx) List.mem_cons_self (show 11 ≤ 12 by decide)
    have hav := jws_at (ad := ad) (ph := ph) (y := y) hlv
    dsimp only at hat hav
    rw [jcell5 h1] at hat
    rw [jcell0 (by decide)] at hav
    have hcell : jcell ad ph (jw μ t x i 1) y (t, x) = .inl (y 5, (jlen μ t x).toNat, .inr (.inr (.inr (.inr (va_up (fun j => jbval ad ph μ t x j) (Int32.ofInt i).toNatClampNeg (some (ad (jix 12 vx)))))))) := by
      rw [jcell5 h1, jlen_jw hk.2.2.2.1, i32_clamp hi (by omega)]
      refine congrArg (fun f => (Sum.inl (y 5, (jlen μ t x).toNat, Sum.inr (Sum.inr (Sum.inr (Sum.inr f)))) : va_E)) (funext fun j => ?_)
      unfold va_up
      unfold jbval jw
      by_cases hq : j = i.toNat
      · rw [if_pos hq, if_pos ⟨by rw [hq, Int.toNat_of_nonneg hi, ← jlen_st (μ := μ) (x := x) h50]; exact hj, Or.inr (by rw [if_pos ⟨rfl, rfl, by omega⟩]; decide)⟩, hq, Int.toNat_of_nonneg hi, hb12, ← hvx]
      · rw [if_neg hq]
        have e : ¬ ((j : Int) = i) := fun q => hq (by omega)
        simp [e]
    show W p l e R s m args below meth c H locs cells slots Qf (F0 m pc lsR (jval ad (12, vx) :: .int (Int32.ofInt i) :: jval ad (t, x) :: st.map (jval ad)))
    rw [jval_ref h11, jval_ref (by decide)]
    refine va_astq hx hb hK hR.1 hR.2.1 hS _ 4 _ 1 (r := (RX1, TX1, 8)) hat rfl hav rfl (jvin hi hj hb2) hd (fun H1 locs1 hP1 hD1 hS1 => ?_)
    refine kk ad H1 locs1 lsR (JRel_loc (p := (t, x)) hR hl jloc_jw (by rw [hcell]; exact hP1) (by rw [hcell]; exact hD1) (fun h0 => by rw [h1] at h0; cases h0) (fun _ j hj0 hj1 => ?_)) hS1 (JL_loc jloc_jw hk.2.2.2.2.1 hJ) (ok_loc jloc_jw hk.2.2.2.2.1 (ok_tail (ok_tail (ok_tail hO))))
    by_cases hq : j = i
    · subst hq
      exact hlk
    · have h5 := (hR.2.2.2.1 _ (jix_lt hl)).2
      rw [jlab_ix hl] at h5
      have h6 := h5 h1 j hj0 hj1
      have e : jw μ t x i 1 t x j = μ t x j := by unfold jw; rw [if_neg (fun q => hq q.2.2)]
      unfold jlkf at h6 ⊢
      show _ ∨ _ ∨ (_ ∧ 0 ≤ jw μ t x i 1 t x j ∧ _) ∨ _
      dsimp only
      rw [e, jloc_live jloc_jw hk.2.2.2.2.1, jloc_live jloc_jw hk.2.2.2.2.1]
      exact h6
  · rw [nbeq_f hv] at hp
    cases hp
theorem jloc_jcp {t dt : Nat} {x sp dx dp n : Int} {μ : JM} : jloc dt dx μ (jcp μ t x sp dt dx dp n) := by
  intro t' x' h k
  unfold jcp
  rw [if_neg (fun q => h ⟨q.1, q.2.1⟩)]
theorem jnfw : nativeFrameWords "java/lang/System" "arraycopy" 5 + 11 ≤ 40 := by decide
theorem o_copy (hx : p.tables.exec = Jvm.exec) (hb : c.code = cc) {own : String} {index t dt : Nat} {x sp dx dp n : Int} (hml : c.maxLocals = ls.length) (hloc : 60 ≤ R.locals) (hfr : 1 ≤ R.frames) (hst : jcat st ≤ 20) (ho : s.vm.findClass own = some m.cls) (hlink : (Cond.methodLink own index arraycopyName).before args s = true) (hnat : (Cond.native arraycopyName).before args s = true) (hstat : (Cond.static arraycopyName).before args s = true) (hini : (Cond.initialized "java/lang/System").before args s = true)
    (hK : va_K D vwCl (jtys y) s) (h1 : jkt t = 1) (h2 : jkt dt = 1) (hd : decode cc pc = .ok (.invokestatic index, 3)) (h3 : 0 ≤ sp) (h4 : 0 ≤ dp) (h5 : 0 ≤ n) (h6 : sp + n ≤ jlen μ t x) (h7 : dp + n ≤ jlen μ dt dx)
    (kk : WJ p l e R s m args below meth c Qf base D y H0 ph (pc + 3) ls st (jcp μ t x sp dt dx dp n) cells slots) : WJ p l e R s m args below meth c Qf base D y H0 ph pc ls ((0, n) :: (0, dp) :: (dt, dx) :: (0, sp) :: (t, x) :: st) μ cells slots := by
  intro ad H locs lsR hR hS hJ hO
  have ha := jkt_ge (t := t) (by rw [h1]; decide)
  have hb' := jkt_ge (t := dt) (by rw [h2]; decide)
  have hla := hO (t, x) (List.mem_cons_of_mem _ (List.mem_cons_of_mem _ (List.mem_cons_of_mem _ (List.mem_cons_of_mem _ List.mem_cons_self)))) ha
  have hlb := hO (dt, dx) (List.mem_cons_of_mem _ (List.mem_cons_of_mem _ List.mem_cons_self)) hb'
  have hata := jws_at (ad := ad) (ph := ph) (y := y) hla
  have hatb := jws_at (ad := ad) (ph := ph) (y := y) hlb
  have hk := jlive_kt hlb
  have hba := (jlen_le hR hla).2
  have hbb := (jlen_le hR hlb).2
  dsimp only at hata hatb
  rw [jcell1 h1] at hata
  rw [jcell1 h2] at hatb
  have e3 : (Int32.ofInt sp).toNatClampNeg = sp.toNat := i32_clamp h3 (by omega)
  have e4 : (Int32.ofInt dp).toNatClampNeg = dp.toNat := i32_clamp h4 (by omega)
  have e5 : (Int32.ofInt n).toNatClampNeg = n.toNat := i32_clamp h5 (by omega)
  have nn : ∀ {z : Int}, 0 ≤ z → z < 2147483648 → ¬ Int32.ofInt z < 0 := fun {z} a b => by rw [i32_0, i32_lt ⟨by omega, b⟩ ⟨by decide, by decide⟩]; omega
  have hcell : jcell ad ph (jcp μ t x sp dt dx dp n) y (dt, dx) = .inl (y 1, (jlen μ dt dx).toNat, .inl (va_cpy (fun j => Int32.ofInt (μ t x j)) (fun j => Int32.ofInt (μ dt dx j)) (Int32.ofInt sp).toNatClampNeg (Int32.ofInt dp).toNatClampNeg (Int32.ofInt n).toNatClampNeg)) := by
    rw [jcell1 h2, jlen_eq (μ := μ) (fun _ => jloc_jcp _ _ (fun q => hk.2.2.2.1 q.1.symm) 0), e3, e4, e5]
    refine congrArg (fun f => (Sum.inl (y 1, (jlen μ dt dx).toNat, Sum.inl f) : va_E)) (funext fun j => ?_)
    unfold va_cpy jcp
    by_cases hq : dp.toNat ≤ j ∧ j < dp.toNat + n.toNat
    · rw [if_pos hq, if_pos ⟨rfl, rfl, by omega, by omega⟩]
      congr 2
      omega
    · rw [if_neg hq, if_neg (fun q => hq ⟨by omega, by omega⟩)]
  show W p l e R s m args below meth c H locs cells slots Qf (F0 m pc lsR (.int (Int32.ofInt n) :: .int (Int32.ofInt dp) :: jval ad (dt, dx) :: .int (Int32.ofInt sp) :: jval ad (t, x) :: st.map (jval ad)))
  rw [jval_ref ha, jval_ref hb']
  refine va_copyi hx hb (by rw [hml]; exact hJ.1.1.symm) ho hlink hnat hstat hini hK hR.1 hR.2.1 hS _ _ 0 0 hata hatb rfl rfl rfl (nn h3 (by omega)) (nn h4 (by omega)) (nn h5 (by omega)) (by rw [e3, e5]; omega) (by rw [e4, e5]; omega) (fun _ _ => rfl) hfr (by rw [jcat_sum]; exact Nat.le_trans (Nat.add_le_add hst jnfw) hloc) hd (fun H1 locs1 hP1 hD1 hS1 => ?_)
  refine kk ad H1 locs1 lsR (JRel_loc (p := (dt, dx)) hR hlb jloc_jcp (by rw [hcell]; exact hP1) (by rw [hcell]; exact hD1) (fun h0 => by rw [h2] at h0; cases h0) (fun h5 => by rw [h2] at h5; cases h5)) hS1 (JL_loc jloc_jcp hk.2.2.2.2.1 hJ) (ok_loc jloc_jcp hk.2.2.2.2.1 (ok_tail (ok_tail (ok_tail (ok_tail (ok_tail hO))))))
theorem o_objinit (hx : p.tables.exec = Jvm.exec) (hb : c.code = cc) {own : String} {index t : Nat} {x : Int} (hml : c.maxLocals = ls.length) (hloc : 60 ≤ R.locals) (hfr : 1 ≤ R.frames) (hst : jcat st ≤ 20) (ho : s.vm.findClass own = some m.cls) (hlink : (Cond.methodLink own index Lib.objectInit).before args s = true) (hin : (Cond.instanceMethod Lib.objectInit).before args s = true) (hcode : (Cond.code Lib.objectInit ⟨#[0xb1]⟩ 1 none).before args s = true) (h11 : 11 ≤ t)
    (hd : decode cc pc = .ok (.invokespecial index, 3)) (kk : WJ p l e R s m args below meth c Qf base D y H0 ph (pc + 3) ls st μ cells slots) : WJ p l e R s m args below meth c Qf base D y H0 ph pc ls ((t, x) :: st) μ cells slots := by
  intro ad H locs lsR hR hS hJ hO
  show W p l e R s m args below meth c H locs cells slots Qf (F0 m pc lsR (jval ad (t, x) :: st.map (jval ad)))
  rw [jval_ref h11]
  refine W.objInit hx hb ho hlink hin hcode rfl (by rw [hml]; exact hJ.1.1) rfl hd hfr ?_ (kk ad H locs lsR hR hS hJ (ok_tail hO))
  rw [jcat_sum]
  show 2 * 0 + jcat st + 12 ≤ R.locals
  omega
theorem o_min (hx : p.tables.exec = Jvm.exec) (hb : c.code = cc) {own : String} {index : Nat} {x z : Int} (hml : c.maxLocals = ls.length) (hloc : 60 ≤ R.locals) (hfr : 1 ≤ R.frames) (hc : cells ≤ R.cells) (hs : slots ≤ R.slots) (hst : jcat st ≤ 20) (ho : s.vm.findClass own = some m.cls) (hlink : (Cond.methodLink own index Lib.Math.min.name).before args s = true) (hstat : (Cond.static Lib.Math.min.name).before args s = true) (hini : (Cond.initialized "java/lang/Math").before args s = true) (hcode : (Cond.code Lib.Math.min.name Lib.Math.min.code 2 (some .int)).before args s = true)
    (hx1 : inR x) (hz1 : inR z) (hd : decode cc pc = .ok (.invokestatic index, 3)) (kk : WJ p l e R s m args below meth c Qf base D y H0 ph (pc + 3) ls ((0, jmin x z) :: st) μ cells slots) : WJ p l e R s m args below meth c Qf base D y H0 ph pc ls ((0, z) :: (0, x) :: st) μ cells slots := by
  intro ad H locs lsR hR hS hJ hO
  refine va_mmin hx hb (by rw [hml]; exact hJ.1.1.symm) ho hlink hstat hini hcode hfr (by rw [jcat_sum]; omega) hc hs hd ?_
  have e : (if Int32.ofInt z < Int32.ofInt x then Int32.ofInt z else Int32.ofInt x) = Int32.ofInt (jmin x z) := by
    unfold jmin
    by_cases h : z < x
    · rw [if_pos ((i32_lt hz1 hx1).mpr h), if_pos h]
    · rw [if_neg (fun q => h ((i32_lt hz1 hx1).mp q)), if_neg h]
  rw [e]
  exact kk ad H locs lsR hR hS hJ (ok_cons (jokv_of (Nat.le_of_ble_eq_true rfl)) (ok_tail (ok_tail hO)))
theorem o_max (hx : p.tables.exec = Jvm.exec) (hb : c.code = cc) {own : String} {index : Nat} {x z : Int} (hml : c.maxLocals = ls.length) (hloc : 60 ≤ R.locals) (hfr : 1 ≤ R.frames) (hc : cells ≤ R.cells) (hs : slots ≤ R.slots) (hst : jcat st ≤ 20) (ho : s.vm.findClass own = some m.cls) (hlink : (Cond.methodLink own index Lib.Math.max.name).before args s = true) (hstat : (Cond.static Lib.Math.max.name).before args s = true) (hini : (Cond.initialized "java/lang/Math").before args s = true) (hcode : (Cond.code Lib.Math.max.name Lib.Math.max.code 2 (some .int)).before args s = true)
    (hx1 : inR x) (hz1 : inR z) (hd : decode cc pc = .ok (.invokestatic index, 3)) (kk : WJ p l e R s m args below meth c Qf base D y H0 ph (pc + 3) ls ((0, jmax x z) :: st) μ cells slots) : WJ p l e R s m args below meth c Qf base D y H0 ph pc ls ((0, z) :: (0, x) :: st) μ cells slots := by
  intro ad H locs lsR hR hS hJ hO
  refine va_mmax hx hb (by rw [hml]; exact hJ.1.1.symm) ho hlink hstat hini hcode hfr (by rw [jcat_sum]; omega) hc hs hd ?_
  have e : (if Int32.ofInt x < Int32.ofInt z then Int32.ofInt z else Int32.ofInt x) = Int32.ofInt (jmax x z) := by
    unfold jmax
    by_cases h : x < z
    · rw [if_pos ((i32_lt hx1 hz1).mpr h), if_pos h]
    · rw [if_neg (fun q => h ((i32_lt hx1 hz1).mp q)), if_neg h]
  rw [e]
  exact kk ad H locs lsR hR hS hJ (ok_cons (jokv_of (Nat.le_of_ble_eq_true rfl)) (ok_tail (ok_tail hO)))
theorem o_fraw (hx : p.tables.exec = Jvm.exec) (hb : c.code = cc) {own : String} {index : Nat} {x : Int} (hml : c.maxLocals = ls.length) (hloc : 60 ≤ R.locals) (hfr : 1 ≤ R.frames) (hst : jcat st ≤ 20) (ho : s.vm.findClass own = some m.cls) (hlink : (Cond.methodLink own index ⟨"java/lang/Float", "floatToRawIntBits", "(F)I"⟩).before args s = true) (hnat : (Cond.native ⟨"java/lang/Float", "floatToRawIntBits", "(F)I"⟩).before args s = true) (hstat : (Cond.static ⟨"java/lang/Float", "floatToRawIntBits", "(F)I"⟩).before args s = true) (hini : (Cond.initialized "java/lang/Float").before args s = true)
    (hd : decode cc pc = .ok (.invokestatic index, 3)) (kk : WJ p l e R s m args below meth c Qf base D y H0 ph (pc + 3) ls ((0, jfraw x) :: st) μ cells slots) : WJ p l e R s m args below meth c Qf base D y H0 ph pc ls ((2, x) :: st) μ cells slots := by
  intro ad H locs lsR hR hS hJ hO
  refine vn_f2i hx hb (by rw [hml]; exact hJ.1.1.symm) ho hlink hnat hstat hini hfr (by rw [jcat_sum]; omega) hd ?_
  rw [← i32_of (jf x).toInt32]
  exact kk ad H locs lsR hR hS hJ (ok_cons (jokv_of (Nat.le_of_ble_eq_true rfl)) (ok_tail hO))
end
