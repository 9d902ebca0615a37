/-! THE J MACHINE IS SOUND: what a walk there finds, the real machine does -/
def jkb : List Int32 := jkeys.map (fun n => Int32.ofNat n)
def jtx : String := " pay at trust window longest loss gain "
def JStr (base : Nat) (y : Nat → ClassId) (U : State) : Prop := vk_S 1 [jkeys.length] [jkb] (fun _ => y 100) (fun _ => y 101) (fun q => base ≤ q) U U.heap ∧ vk_R "RoundTripsModel" 218 jtx (y 100) U ∧ va_Z "java/lang/String" "COMPACT_STRINGS" "Z" (.int 1) (fun q => base ≤ q) U U.heap ∧ va_Zq "jdk/internal/util/Preconditions" "SIOOBE_FORMATTER" "Ljava/util/function/BiFunction;" (fun q => base ≤ q) U U.heap
/-- what a state's tables say, and the text constant -/
def JSF (base : Nat) (D : va_G) (y : Nat → ClassId) (U : State) : Prop := va_K D vwCl (jtys y) U ∧ (∀ w ∈ NW, va_Nw w U) ∧ JStr base y U ∧ JScr base y U
/-- a frame of the method mid -/
def JF (p : Program) (s : State) (m : MethodId) (args : Array Value) (meth : Method) (c : Code) (base : Nat) (D : va_G) (y : Nat → ClassId) (H0 : Heap) (mid : Nat) : Prop :=
  p.tables.exec = Jvm.exec ∧ c.code = jbytes mid ∧ c.maxLocals = jnl mid ∧ meth.sig.returnType = jret mid ∧ meth.locks = false ∧ s.vm.findClass (jon (jown mid)) = some m.cls ∧ (∀ w ∈ GW, w.before args s = true) ∧ (jini mid = true → meth.name = "<init>") ∧ JSF base D y s ∧ H0 = s.heap ∧ base ≤ s.heap.size
def JRm (d : Nat) (R : Room) : Prop := d + 6 ≤ R.frames ∧ 60 * (d + 6) ≤ R.locals
def jri (mid : Nat) : Instr := match jret mid with
  | none => .return_
  | some .float => .freturn
  | some (.object _) => .areturn
  | some (.array _) => .areturn
  | _ => .ireturn
def Good (ph : Bool) (d mid pc : Nat) (ls st : List JV) (μ : JM) (r : Int) (ν : JM) : Prop :=
  (μ 53 0 0 ≤ ν 53 0 0 ∧ μ 54 0 0 ≤ ν 54 0 0) ∧ ((jrt mid = 22 → r = 0) ∧ (jret mid = some .boolean → 0 ≤ r ∧ r ≤ 1)) ∧
  ∀ {p : Program} {l : Launch} {e : Env} {R : Room} {s : State} {m : MethodId} {args : Array Value} {below : List Frame} {meth : Method} {c : Code} {Qf : State → Prop} {base : Nat} {D : va_G} {y : Nat → ClassId} {H0 : Heap} {cells slots : Nat}, JF p s m args meth c base D y H0 mid → JRm d R → ls.length = jnl mid → cells + (ν 53 0 0 - μ 53 0 0).toNat ≤ R.cells → slots + (ν 54 0 0 - μ 54 0 0).toNat ≤ R.slots →
    (∀ (pcr : Nat) (lsr : List JV), lsr.length = jnl mid → decode (jbytes mid) pcr = .ok (jri mid, 1) → WJ p l e R s m args below meth c Qf base D y H0 ph pcr lsr (jpush (jrt mid) r []) ν (cells + (ν 53 0 0 - μ 53 0 0).toNat) (slots + (ν 54 0 0 - μ 54 0 0).toNat)) → WJ p l e R s m args below meth c Qf base D y H0 ph pc ls st μ cells slots
theorem good_of {ph : Bool} {d mid pc pc' : Nat} {ls st ls' st' : List JV} {μ μ' ν : JM} {r : Int} (a b : Nat) (e53 : μ' 53 0 0 = μ 53 0 0 + a) (e54 : μ' 54 0 0 = μ 54 0 0 + b) (hl : ls'.length = ls.length)
    (h : ∀ {p : Program} {l : Launch} {e : Env} {R : Room} {s : State} {m : MethodId} {args : Array Value} {below : List Frame} {meth : Method} {c : Code} {Qf : State → Prop} {base : Nat} {D : va_G} {y : Nat → ClassId} {H0 : Heap} {cells slots : Nat}, JF p s m args meth c base D y H0 mid → JRm d R → ls.length = jnl mid → cells + a ≤ R.cells → slots + b ≤ R.slots → WJ p l e R s m args below meth c Qf base D y H0 ph pc' ls' st' μ' (cells + a) (slots + b) → WJ p l e R s m args below meth c Qf base D y H0 ph pc ls st μ cells slots)
    (G : Good ph d mid pc' ls' st' μ' r ν) : Good ph d mid pc ls st μ r ν := by
  obtain ⟨⟨g1, g2⟩, g3, g4⟩ := G
  refine ⟨⟨by omega, by omega⟩, g3, ?_⟩
  intro p l e R s m args below meth c Qf base D y H0 cells slots F hRm hls hc hs k
  refine h F hRm hls (by omega) (by omega) (g4 F hRm (hl.trans hls) (by omega) (by omega) (fun pcr lsr h1 h2 => ?_))
  have hk := k pcr lsr h1 h2
  rw [show cells + a + (ν 53 0 0 - μ' 53 0 0).toNat = cells + (ν 53 0 0 - μ 53 0 0).toNat by omega, show slots + b + (ν 54 0 0 - μ' 54 0 0).toNat = slots + (ν 54 0 0 - μ 54 0 0).toNat by omega]
  exact hk
/-- an instruction that makes nothing and leaves the memory -/
theorem good_0 {ph : Bool} {d mid pc pc' : Nat} {ls st ls' st' : List JV} {μ ν : JM} {r : Int} (hl : ls'.length = ls.length)
    (h : ∀ {p : Program} {l : Launch} {e : Env} {R : Room} {s : State} {m : MethodId} {args : Array Value} {below : List Frame} {meth : Method} {c : Code} {Qf : State → Prop} {base : Nat} {D : va_G} {y : Nat → ClassId} {H0 : Heap} {cells slots : Nat}, JF p s m args meth c base D y H0 mid → JRm d R → ls.length = jnl mid → cells ≤ R.cells → slots ≤ R.slots → WJ p l e R s m args below meth c Qf base D y H0 ph pc' ls' st' μ cells slots → WJ p l e R s m args below meth c Qf base D y H0 ph pc ls st μ cells slots)
    (G : Good ph d mid pc' ls' st' μ r ν) : Good ph d mid pc ls st μ r ν := good_of 0 0 (by simp) (by simp) hl h G
theorem good_w {ph : Bool} {d mid pc pc' t : Nat} {x : Int} {ls st ls' st' : List JV} {μ μ' ν : JM} {r : Int} (hj : jloc t x μ μ') (h53 : t ≠ 53) (h54 : t ≠ 54) (hl : ls'.length = ls.length)
    (h : ∀ {p : Program} {l : Launch} {e : Env} {R : Room} {s : State} {m : MethodId} {args : Array Value} {below : List Frame} {meth : Method} {c : Code} {Qf : State → Prop} {base : Nat} {D : va_G} {y : Nat → ClassId} {H0 : Heap} {cells slots : Nat}, JF p s m args meth c base D y H0 mid → JRm d R → ls.length = jnl mid → cells ≤ R.cells → slots ≤ R.slots → WJ p l e R s m args below meth c Qf base D y H0 ph pc' ls' st' μ' cells slots → WJ p l e R s m args below meth c Qf base D y H0 ph pc ls st μ cells slots)
    (G : Good ph d mid pc' ls' st' μ' r ν) : Good ph d mid pc ls st μ r ν := good_of 0 0 (by rw [jloc_n hj h53]; simp) (by rw [hj 54 0 (fun q => h54 q.1.symm) 0]; simp) hl h G
theorem jk53 {t k : Nat} (h : jkt t = k) (hk : k ≠ 9) : t ≠ 53 ∧ t ≠ 54 := ⟨fun q => by rw [q] at h; exact hk (h.symm.trans (by decide)), fun q => by rw [q] at h; exact hk (h.symm.trans (by decide))⟩
theorem o_ldcwf {p : Program} {l : Launch} {e : Env} {R : Room} {s : State} {m : MethodId} {args : Array Value} {below : List Frame} {meth : Method} {c : Code} {Qf : State → Prop} {base : Nat} {D : va_G} {y : Nat → ClassId} {H0 : Heap} {ph : Bool} {cc : ByteArray} {pc : Nat} {ls st : List JV} {μ : JM} {cells slots : Nat} (hx : p.tables.exec = Jvm.exec) (hb : c.code = cc) {own : String} {i v : Nat} (ho : s.vm.findClass own = some m.cls) (hw : (Jvm.Cond.constantFloat own i (jf v)).before args s = true) (hd : decode cc pc = .ok (.ldc_w i, 3)) (k : WJ p l e R s m args below meth c Qf base D y H0 ph (pc + 3) ls ((2, (v : Int)) :: st) μ cells slots) : WJ p l e R s m args below meth c Qf base D y H0 ph pc ls st μ cells slots := by
  refine o_push (len := 3) (Nat.le_of_ble_eq_true rfl) (fun ad H locs lsR hk => ?_) k
  intro T hT X
  obtain ⟨t, a, b⟩ := hk T hT X
  refine ⟨t, ?_, b⟩
  obtain ⟨k, cf, hk, hcf, hcp⟩ := Cond.constantFloat_spec ho hw
  obtain ⟨k', hk', he⟩ := X.warmed.alike.2.2 _ _ hk
  jvm_step X.here [hx, hb, hd, ldc_w.wp_float (s := T) (f := F0 m pc lsR (st.map (jval ad))) X.here.top hk' (by rw [he]; exact hcf) hcp]
  exact a
theorem jT_lt : ∀ c, c < 11 → (vwCl[c]? = some (jT c) ∧ jT c = vwCl.getD c (RX8, TX8, 0) ∧ (jT c).2.2 = jnf c) := by
  intro c hc
  match c, hc with
  | 0, _ => exact ⟨rfl, rfl, rfl⟩
  | 1, _ => exact ⟨rfl, rfl, rfl⟩
  | 2, _ => exact ⟨rfl, rfl, rfl⟩
  | 3, _ => exact ⟨rfl, rfl, rfl⟩
  | 4, _ => exact ⟨rfl, rfl, rfl⟩
  | 5, _ => exact ⟨rfl, rfl, rfl⟩
  | 6, _ => exact ⟨rfl, rfl, rfl⟩
  | 7, _ => exact ⟨rfl, rfl, rfl⟩
  | 8, _ => exact ⟨rfl, rfl, rfl⟩
  | 9, _ => exact ⟨rfl, rfl, rfl⟩
  | 10, _ => exact ⟨rfl, rfl, rfl⟩
theorem gw_cl0 : ((List.range 11).all fun c => (u_ws (jT c).1 (jT c).2.1 (jT c).2.2).all goodWord) = true := by decide +kernel
theorem lw_cl {c : Nat} (hc : c < 11) : ∀ w ∈ u_ws (jT c).1 (jT c).2.1 (jT c).2.2, w ∈ GW := by
  intro w hw
  have hg := List.all_eq_true.mp (List.all_eq_true.mp gw_cl0 c (List.mem_range.mpr hc)) w hw
  refine List.mem_filter.mpr ⟨?_, hg⟩
  match c, hc, hw with
  | 0, _, hw => exact innX0 w hw
  | 1, _, hw => exact innX1 w hw
  | 2, _, hw => exact innX2 w hw
  | 3, _, hw => exact innX3 w hw
  | 4, _, hw => exact innX5 w hw
  | 5, _, hw => exact innX6 w hw
  | 6, _, hw => exact innX7 w hw
  | 7, _, hw => exact innX8 w hw
  | 8, _, hw => exact innX9 w hw
  | 9, _, hw => exact innX10 w hw
  | 10, _, hw => exact innX11 w hw
theorem nm_cl {c : Nat} (hc : c < 11) : ∀ a, a < (jT c).2.2 → ∀ b, b < (jT c).2.2 → a ≠ b → ((jT c).2.1 a).2.1 ≠ ((jT c).2.1 b).2.1 := by
  match c, hc with
  | 0, _ => exact nmX0
  | 1, _ => exact nmX1
  | 2, _ => exact nmX2
  | 3, _ => exact nmX3
  | 4, _ => exact nmX5
  | 5, _ => exact nmX6
  | 6, _ => exact nmX7
  | 7, _ => exact nmX8
  | 8, _ => exact nmX9
  | 9, _ => exact nmX10
  | 10, _ => exact nmX11
theorem ty_cl {c : Nat} (hc : c < 11) : ∀ k, k < (jT c).2.2 → parseFieldDescriptor ((jT c).2.1 k).2.2.1 = some (jty c k) := by
  match c, hc with
  | 0, _ => exact tyX0_ok
  | 1, _ => exact tyX1_ok
  | 2, _ => exact tyX2_ok
  | 3, _ => exact tyX3_ok
  | 4, _ => exact tyX5_ok
  | 5, _ => exact tyX6_ok
  | 6, _ => exact tyX7_ok
  | 7, _ => exact tyX8_ok
  | 8, _ => exact tyX9_ok
  | 9, _ => exact tyX10_ok
  | 10, _ => exact tyX11_ok

theorem g_iconst {ph : Bool} {d mid pc : Nat} {info : List Nat} {ls st ls' st' : List JV} {μ μ' ν : JM} {r : Int} {gs : List Prop} {n : Int} (hd : decode (jbytes mid) pc = .ok ((.iconst n), 1)) (hwd : jwd mid (pc, (.iconst n), info) = true) (hone : jone ph (.iconst n) info ls st μ = some (gs, ls', st', μ')) (hg : ∀ g ∈ gs, g) (G : Good ph d mid (pc + 1) ls' st' μ' r ν) : Good ph d mid pc ls st μ r ν := by
  dsimp only [jone] at hone
  cases hone
  refine good_0 (rfl) ?_ G
  intro p l e R s m args below meth c Qf base D y H0 cells slots F hRm hls hc hs k
  obtain ⟨hx, hb, hml, hrt, hlk, ho, hw, hin, hsf, hH0, hbs⟩ := F
  exact o_iconst hx hb hd k

theorem g_bipush {ph : Bool} {d mid pc : Nat} {info : List Nat} {ls st ls' st' : List JV} {μ μ' ν : JM} {r : Int} {gs : List Prop} {n : Int} (hd : decode (jbytes mid) pc = .ok ((.bipush n), 2)) (hwd : jwd mid (pc, (.bipush n), info) = true) (hone : jone ph (.bipush n) info ls st μ = some (gs, ls', st', μ')) (hg : ∀ g ∈ gs, g) (G : Good ph d mid (pc + 2) ls' st' μ' r ν) : Good ph d mid pc ls st μ r ν := by
  dsimp only [jone] at hone
  cases hone
  refine good_0 (rfl) ?_ G
  intro p l e R s m args below meth c Qf base D y H0 cells slots F hRm hls hc hs k
  obtain ⟨hx, hb, hml, hrt, hlk, ho, hw, hin, hsf, hH0, hbs⟩ := F
  exact o_bipush hx hb hd (of_decide_eq_true hwd) k

theorem g_sipush {ph : Bool} {d mid pc : Nat} {info : List Nat} {ls st ls' st' : List JV} {μ μ' ν : JM} {r : Int} {gs : List Prop} {n : Int} (hd : decode (jbytes mid) pc = .ok ((.sipush n), 3)) (hwd : jwd mid (pc, (.sipush n), info) = true) (hone : jone ph (.sipush n) info ls st μ = some (gs, ls', st', μ')) (hg : ∀ g ∈ gs, g) (G : Good ph d mid (pc + 3) ls' st' μ' r ν) : Good ph d mid pc ls st μ r ν := by
  dsimp only [jone] at hone
  cases hone
  refine good_0 (rfl) ?_ G
  intro p l e R s m args below meth c Qf base D y H0 cells slots F hRm hls hc hs k
  obtain ⟨hx, hb, hml, hrt, hlk, ho, hw, hin, hsf, hH0, hbs⟩ := F
  exact o_sipush hx hb hd (of_decide_eq_true hwd) k

theorem g_lconst {ph : Bool} {d mid pc : Nat} {info : List Nat} {ls st ls' st' : List JV} {μ μ' ν : JM} {r : Int} {gs : List Prop} {n : Fin 2} (hd : decode (jbytes mid) pc = .ok ((.lconst n), 1)) (hwd : jwd mid (pc, (.lconst n), info) = true) (hone : jone ph (.lconst n) info ls st μ = some (gs, ls', st', μ')) (hg : ∀ g ∈ gs, g) (G : Good ph d mid (pc + 1) ls' st' μ' r ν) : Good ph d mid pc ls st μ r ν := by
  dsimp only [jone] at hone
  cases hone
  refine good_0 (rfl) ?_ G
  intro p l e R s m args below meth c Qf base D y H0 cells slots F hRm hls hc hs k
  obtain ⟨hx, hb, hml, hrt, hlk, ho, hw, hin, hsf, hH0, hbs⟩ := F
  exact o_lconst hx hb hd k

theorem g_fconst {ph : Bool} {d mid pc : Nat} {info : List Nat} {ls st ls' st' : List JV} {μ μ' ν : JM} {r : Int} {gs : List Prop} {n : Fin 3} (hd : decode (jbytes mid) pc = .ok ((.fconst n), 1)) (hwd : jwd mid (pc, (.fconst n), info) = true) (hone : jone ph (.fconst n) info ls st μ = some (gs, ls', st', μ')) (hg : ∀ g ∈ gs, g) (G : Good ph d mid (pc + 1) ls' st' μ' r ν) : Good ph d mid pc ls st μ r ν := by
  dsimp only [jone] at hone
  cases hone
  refine good_0 (rfl) ?_ G
  intro p l e R s m args below meth c Qf base D y H0 cells slots F hRm hls hc hs k
  obtain ⟨hx, hb, hml, hrt, hlk, ho, hw, hin, hsf, hH0, hbs⟩ := F
  exact o_fconst hx hb hd k

theorem g_aload_n {ph : Bool} {d mid pc : Nat} {info : List Nat} {ls st ls' st' : List JV} {μ μ' ν : JM} {r : Int} {gs : List Prop} {n : Fin 4} (hd : decode (jbytes mid) pc = .ok ((.aload_n n), 1)) (hwd : jwd mid (pc, (.aload_n n), info) = true) (hone : jone ph (.aload_n n) info ls st μ = some (gs, ls', st', μ')) (hg : ∀ g ∈ gs, g) (G : Good ph d mid (pc + 1) ls' st' μ' r ν) : Good ph d mid pc ls st μ r ν := by
  dsimp only [jone] at hone
  cases hb1 : jar (jl ls n.val).1 <;> rw [hb1] at hone
  · cases hone
  · cases hone
    refine good_0 rfl ?_ G
    intro p l e R s m args below meth c Qf base D y H0 cells slots F hRm hls hc hs k
    obtain ⟨hx, hb, hml, hrt, hlk, ho, hw, hin, hsf, hH0, hbs⟩ := F
    unfold jar at hb1
    cases hb2 : Nat.beq (jl ls n.val).1 6 <;> rw [hb2] at hb1
    · exact o_aload_n hx hb hd (Nat.le_of_ble_eq_true hb1) k
    · exact o_aload_n6 hx hb hd (Nat.eq_of_beq_eq_true hb2) k

theorem g_iload_n {ph : Bool} {d mid pc : Nat} {info : List Nat} {ls st ls' st' : List JV} {μ μ' ν : JM} {r : Int} {gs : List Prop} {n : Fin 4} (hd : decode (jbytes mid) pc = .ok ((.iload_n n), 1)) (hwd : jwd mid (pc, (.iload_n n), info) = true) (hone : jone ph (.iload_n n) info ls st μ = some (gs, ls', st', μ')) (hg : ∀ g ∈ gs, g) (G : Good ph d mid (pc + 1) ls' st' μ' r ν) : Good ph d mid pc ls st μ r ν := by
  dsimp only [jone] at hone
  cases hb1 : Nat.beq (jl ls n.val).1 0 <;> rw [hb1] at hone
  · cases hone
  · cases hone
    refine good_0 rfl ?_ G
    intro p l e R s m args below meth c Qf base D y H0 cells slots F hRm hls hc hs k
    obtain ⟨hx, hb, hml, hrt, hlk, ho, hw, hin, hsf, hH0, hbs⟩ := F
    exact o_iload_n hx hb hd (Nat.eq_of_beq_eq_true hb1) k

theorem g_iload {ph : Bool} {d mid pc : Nat} {info : List Nat} {ls st ls' st' : List JV} {μ μ' ν : JM} {r : Int} {gs : List Prop} {n : Nat} (hd : decode (jbytes mid) pc = .ok ((.iload n), 2)) (hwd : jwd mid (pc, (.iload n), info) = true) (hone : jone ph (.iload n) info ls st μ = some (gs, ls', st', μ')) (hg : ∀ g ∈ gs, g) (G : Good ph d mid (pc + 2) ls' st' μ' r ν) : Good ph d mid pc ls st μ r ν := by
  dsimp only [jone] at hone
  cases hb1 : Nat.beq (jl ls n).1 0 <;> rw [hb1] at hone
  · cases hone
  · cases hone
    refine good_0 rfl ?_ G
    intro p l e R s m args below meth c Qf base D y H0 cells slots F hRm hls hc hs k
    obtain ⟨hx, hb, hml, hrt, hlk, ho, hw, hin, hsf, hH0, hbs⟩ := F
    exact o_iload hx hb hd (Nat.eq_of_beq_eq_true hb1) k

theorem g_fload_n {ph : Bool} {d mid pc : Nat} {info : List Nat} {ls st ls' st' : List JV} {μ μ' ν : JM} {r : Int} {gs : List Prop} {n : Fin 4} (hd : decode (jbytes mid) pc = .ok ((.fload_n n), 1)) (hwd : jwd mid (pc, (.fload_n n), info) = true) (hone : jone ph (.fload_n n) info ls st μ = some (gs, ls', st', μ')) (hg : ∀ g ∈ gs, g) (G : Good ph d mid (pc + 1) ls' st' μ' r ν) : Good ph d mid pc ls st μ r ν := by
  dsimp only [jone] at hone
  cases hb1 : Nat.beq (jl ls n.val).1 2 <;> rw [hb1] at hone
  · cases hone
  · cases hone
    refine good_0 rfl ?_ G
    intro p l e R s m args below meth c Qf base D y H0 cells slots F hRm hls hc hs k
    obtain ⟨hx, hb, hml, hrt, hlk, ho, hw, hin, hsf, hH0, hbs⟩ := F
    exact o_fload_n hx hb hd (Nat.eq_of_beq_eq_true hb1) k

theorem g_fload {ph : Bool} {d mid pc : Nat} {info : List Nat} {ls st ls' st' : List JV} {μ μ' ν : JM} {r : Int} {gs : List Prop} {n : Nat} (hd : decode (jbytes mid) pc = .ok ((.fload n), 2)) (hwd : jwd mid (pc, (.fload n), info) = true) (hone : jone ph (.fload n) info ls st μ = some (gs, ls', st', μ')) (hg : ∀ g ∈ gs, g) (G : Good ph d mid (pc + 2) ls' st' μ' r ν) : Good ph d mid pc ls st μ r ν := by
  dsimp only [jone] at hone
  cases hb1 : Nat.beq (jl ls n).1 2 <;> rw [hb1] at hone
  · cases hone
  · cases hone
    refine good_0 rfl ?_ G
    intro p l e R s m args below meth c Qf base D y H0 cells slots F hRm hls hc hs k
    obtain ⟨hx, hb, hml, hrt, hlk, ho, hw, hin, hsf, hH0, hbs⟩ := F
    exact o_fload hx hb hd (Nat.eq_of_beq_eq_true hb1) k

theorem g_aload {ph : Bool} {d mid pc : Nat} {info : List Nat} {ls st ls' st' : List JV} {μ μ' ν : JM} {r : Int} {gs : List Prop} {n : Nat} (hd : decode (jbytes mid) pc = .ok ((.aload n), 2)) (hwd : jwd mid (pc, (.aload n), info) = true) (hone : jone ph (.aload n) info ls st μ = some (gs, ls', st', μ')) (hg : ∀ g ∈ gs, g) (G : Good ph d mid (pc + 2) ls' st' μ' r ν) : Good ph d mid pc ls st μ r ν := by
  dsimp only [jone] at hone
  cases hb1 : Nat.ble 11 (jl ls n).1 <;> rw [hb1] at hone
  · cases hone
  · cases hone
    refine good_0 rfl ?_ G
    intro p l e R s m args below meth c Qf base D y H0 cells slots F hRm hls hc hs k
    obtain ⟨hx, hb, hml, hrt, hlk, ho, hw, hin, hsf, hH0, hbs⟩ := F
    exact o_aload hx hb hd (Nat.le_of_ble_eq_true hb1) k

theorem g_istore_n {ph : Bool} {d mid pc : Nat} {info : List Nat} {ls st ls' st' : List JV} {μ μ' ν : JM} {r : Int} {gs : List Prop} {n : Fin 4} (hd : decode (jbytes mid) pc = .ok ((.istore_n n), 1)) (hwd : jwd mid (pc, (.istore_n n), info) = true) (hone : jone ph (.istore_n n) info ls st μ = some (gs, ls', st', μ')) (hg : ∀ g ∈ gs, g) (G : Good ph d mid (pc + 1) ls' st' μ' r ν) : Good ph d mid pc ls st μ r ν := by
  dsimp only [jone] at hone
  split at hone
  case h_2 => cases hone
  rename_i v st1
  cases hb1 : Nat.beq v.1 0 <;> rw [hb1] at hone
  · cases hone
  · cases hone
    refine good_0 (List.length_set ..) ?_ G
    intro p l e R s m args below meth c Qf base D y H0 cells slots F hRm hls hc hs k
    obtain ⟨hx, hb, hml, hrt, hlk, ho, hw, hin, hsf, hH0, hbs⟩ := F
    have hn : Nat.blt n.val (jnl mid) = true := hwd
    exact o_istore_n hx hb hd (Nat.eq_of_beq_eq_true hb1) (by rw [hls]; exact Nat.le_of_ble_eq_true hn) k

theorem g_istore {ph : Bool} {d mid pc : Nat} {info : List Nat} {ls st ls' st' : List JV} {μ μ' ν : JM} {r : Int} {gs : List Prop} {n : Nat} (hd : decode (jbytes mid) pc = .ok ((.istore n), 2)) (hwd : jwd mid (pc, (.istore n), info) = true) (hone : jone ph (.istore n) info ls st μ = some (gs, ls', st', μ')) (hg : ∀ g ∈ gs, g) (G : Good ph d mid (pc + 2) ls' st' μ' r ν) : Good ph d mid pc ls st μ r ν := by
  dsimp only [jone] at hone
  split at hone
  case h_2 => cases hone
  rename_i v st1
  cases hb1 : Nat.beq v.1 0 <;> rw [hb1] at hone
  · cases hone
  · cases hone
    refine good_0 (List.length_set ..) ?_ G
    intro p l e R s m args below meth c Qf base D y H0 cells slots F hRm hls hc hs k
    obtain ⟨hx, hb, hml, hrt, hlk, ho, hw, hin, hsf, hH0, hbs⟩ := F
    have hn : Nat.blt n (jnl mid) = true := hwd
    exact o_istore hx hb hd (Nat.eq_of_beq_eq_true hb1) (by rw [hls]; exact Nat.le_of_ble_eq_true hn) k

theorem g_fstore_n {ph : Bool} {d mid pc : Nat} {info : List Nat} {ls st ls' st' : List JV} {μ μ' ν : JM} {r : Int} {gs : List Prop} {n : Fin 4} (hd : decode (jbytes mid) pc = .ok ((.fstore_n n), 1)) (hwd : jwd mid (pc, (.fstore_n n), info) = true) (hone : jone ph (.fstore_n n) info ls st μ = some (gs, ls', st', μ')) (hg : ∀ g ∈ gs, g) (G : Good ph d mid (pc + 1) ls' st' μ' r ν) : Good ph d mid pc ls st μ r ν := by
  dsimp only [jone] at hone
  split at hone
  case h_2 => cases hone
  rename_i v st1
  cases hb1 : Nat.beq v.1 2 <;> rw [hb1] at hone
  · cases hone
  · cases hone
    refine good_0 (List.length_set ..) ?_ G
    intro p l e R s m args below meth c Qf base D y H0 cells slots F hRm hls hc hs k
    obtain ⟨hx, hb, hml, hrt, hlk, ho, hw, hin, hsf, hH0, hbs⟩ := F
    have hn : Nat.blt n.val (jnl mid) = true := hwd
    exact o_fstore_n hx hb hd (Nat.eq_of_beq_eq_true hb1) (by rw [hls]; exact Nat.le_of_ble_eq_true hn) k

theorem g_fstore {ph : Bool} {d mid pc : Nat} {info : List Nat} {ls st ls' st' : List JV} {μ μ' ν : JM} {r : Int} {gs : List Prop} {n : Nat} (hd : decode (jbytes mid) pc = .ok ((.fstore n), 2)) (hwd : jwd mid (pc, (.fstore n), info) = true) (hone : jone ph (.fstore n) info ls st μ = some (gs, ls', st', μ')) (hg : ∀ g ∈ gs, g) (G : Good ph d mid (pc + 2) ls' st' μ' r ν) : Good ph d mid pc ls st μ r ν := by
  dsimp only [jone] at hone
  split at hone
  case h_2 => cases hone
  rename_i v st1
  cases hb1 : Nat.beq v.1 2 <;> rw [hb1] at hone
  · cases hone
  · cases hone
    refine good_0 (List.length_set ..) ?_ G
    intro p l e R s m args below meth c Qf base D y H0 cells slots F hRm hls hc hs k
    obtain ⟨hx, hb, hml, hrt, hlk, ho, hw, hin, hsf, hH0, hbs⟩ := F
    have hn : Nat.blt n (jnl mid) = true := hwd
    exact o_fstore hx hb hd (Nat.eq_of_beq_eq_true hb1) (by rw [hls]; exact Nat.le_of_ble_eq_true hn) k

theorem g_astore_n {ph : Bool} {d mid pc : Nat} {info : List Nat} {ls st ls' st' : List JV} {μ μ' ν : JM} {r : Int} {gs : List Prop} {n : Fin 4} (hd : decode (jbytes mid) pc = .ok ((.astore_n n), 1)) (hwd : jwd mid (pc, (.astore_n n), info) = true) (hone : jone ph (.astore_n n) info ls st μ = some (gs, ls', st', μ')) (hg : ∀ g ∈ gs, g) (G : Good ph d mid (pc + 1) ls' st' μ' r ν) : Good ph d mid pc ls st μ r ν := by
  dsimp only [jone] at hone
  split at hone
  case h_2 => cases hone
  rename_i v st1
  cases hb1 : Nat.ble 11 v.1 <;> rw [hb1] at hone
  · cases hone
  · cases hone
    refine good_0 (List.length_set ..) ?_ G
    intro p l e R s m args below meth c Qf base D y H0 cells slots F hRm hls hc hs k
    obtain ⟨hx, hb, hml, hrt, hlk, ho, hw, hin, hsf, hH0, hbs⟩ := F
    have hn : Nat.blt n.val (jnl mid) = true := hwd
    exact o_astore_n hx hb hd (Nat.le_of_ble_eq_true hb1) (by rw [hls]; exact Nat.le_of_ble_eq_true hn) k

theorem g_astore {ph : Bool} {d mid pc : Nat} {info : List Nat} {ls st ls' st' : List JV} {μ μ' ν : JM} {r : Int} {gs : List Prop} {n : Nat} (hd : decode (jbytes mid) pc = .ok ((.astore n), 2)) (hwd : jwd mid (pc, (.astore n), info) = true) (hone : jone ph (.astore n) info ls st μ = some (gs, ls', st', μ')) (hg : ∀ g ∈ gs, g) (G : Good ph d mid (pc + 2) ls' st' μ' r ν) : Good ph d mid pc ls st μ r ν := by
  dsimp only [jone] at hone
  split at hone
  case h_2 => cases hone
  rename_i v st1
  cases hb1 : Nat.ble 11 v.1 <;> rw [hb1] at hone
  · cases hone
  · cases hone
    refine good_0 (List.length_set ..) ?_ G
    intro p l e R s m args below meth c Qf base D y H0 cells slots F hRm hls hc hs k
    obtain ⟨hx, hb, hml, hrt, hlk, ho, hw, hin, hsf, hH0, hbs⟩ := F
    have hn : Nat.blt n (jnl mid) = true := hwd
    exact o_astore hx hb hd (Nat.le_of_ble_eq_true hb1) (by rw [hls]; exact Nat.le_of_ble_eq_true hn) k

theorem g_iinc {ph : Bool} {d mid pc : Nat} {info : List Nat} {ls st ls' st' : List JV} {μ μ' ν : JM} {r : Int} {gs : List Prop} {n : Nat} {z : Int} (hd : decode (jbytes mid) pc = .ok ((.iinc n z), 3)) (hwd : jwd mid (pc, (.iinc n z), info) = true) (hone : jone ph (.iinc n z) info ls st μ = some (gs, ls', st', μ')) (hg : ∀ g ∈ gs, g) (G : Good ph d mid (pc + 3) ls' st' μ' r ν) : Good ph d mid pc ls st μ r ν := by
  dsimp only [jone] at hone
  cases hb1 : Nat.beq (jl ls n).1 0 <;> rw [hb1] at hone
  · cases hone
  · cases hone
    refine good_0 (List.length_set ..) ?_ G
    intro p l e R s m args below meth c Qf base D y H0 cells slots F hRm hls hc hs k
    obtain ⟨hx, hb, hml, hrt, hlk, ho, hw, hin, hsf, hH0, hbs⟩ := F
    have hn : Nat.blt n (jnl mid) = true := hwd
    exact o_iinc hx hb hd (Nat.eq_of_beq_eq_true hb1) (by rw [hls]; exact Nat.le_of_ble_eq_true hn) k

theorem g_dup {ph : Bool} {d mid pc : Nat} {info : List Nat} {ls st ls' st' : List JV} {μ μ' ν : JM} {r : Int} {gs : List Prop}  (hd : decode (jbytes mid) pc = .ok ((.dup), 1)) (hwd : jwd mid (pc, (.dup), info) = true) (hone : jone ph (.dup) info ls st μ = some (gs, ls', st', μ')) (hg : ∀ g ∈ gs, g) (G : Good ph d mid (pc + 1) ls' st' μ' r ν) : Good ph d mid pc ls st μ r ν := by
  dsimp only [jone] at hone
  split at hone
  case h_2 => cases hone
  rename_i v st1
  cases hb1 : Nat.beq v.1 3 <;> rw [hb1] at hone
  · cases hone
    refine good_0 rfl ?_ G
    intro p l e R s m args below meth c Qf base D y H0 cells slots F hRm hls hc hs k
    obtain ⟨hx, hb, hml, hrt, hlk, ho, hw, hin, hsf, hH0, hbs⟩ := F
    exact o_dup hx hb hd (fun q => by rw [nbeq_t q] at hb1; cases hb1) k
  · cases hone

theorem g_pop {ph : Bool} {d mid pc : Nat} {info : List Nat} {ls st ls' st' : List JV} {μ μ' ν : JM} {r : Int} {gs : List Prop}  (hd : decode (jbytes mid) pc = .ok ((.pop), 1)) (hwd : jwd mid (pc, (.pop), info) = true) (hone : jone ph (.pop) info ls st μ = some (gs, ls', st', μ')) (hg : ∀ g ∈ gs, g) (G : Good ph d mid (pc + 1) ls' st' μ' r ν) : Good ph d mid pc ls st μ r ν := by
  dsimp only [jone] at hone
  split at hone
  case h_2 => cases hone
  rename_i v st1
  cases hb1 : Nat.beq v.1 3 <;> rw [hb1] at hone
  · cases hone
    refine good_0 rfl ?_ G
    intro p l e R s m args below meth c Qf base D y H0 cells slots F hRm hls hc hs k
    obtain ⟨hx, hb, hml, hrt, hlk, ho, hw, hin, hsf, hH0, hbs⟩ := F
    exact o_pop hx hb hd (fun q => by rw [nbeq_t q] at hb1; cases hb1) k
  · cases hone

theorem g_dup2 {ph : Bool} {d mid pc : Nat} {info : List Nat} {ls st ls' st' : List JV} {μ μ' ν : JM} {r : Int} {gs : List Prop}  (hd : decode (jbytes mid) pc = .ok ((.dup2), 1)) (hwd : jwd mid (pc, (.dup2), info) = true) (hone : jone ph (.dup2) info ls st μ = some (gs, ls', st', μ')) (hg : ∀ g ∈ gs, g) (G : Good ph d mid (pc + 1) ls' st' μ' r ν) : Good ph d mid pc ls st μ r ν := by
  dsimp only [jone] at hone
  split at hone
  case h_2 => cases hone
  rename_i v u st1
  cases hb1 : Nat.beq v.1 3 <;> rw [hb1] at hone
  · cases hb2 : Nat.beq u.1 3 <;> rw [hb2] at hone
    · cases hone
      refine good_0 rfl ?_ G
      intro p l e R s m args below meth c Qf base D y H0 cells slots F hRm hls hc hs k
      obtain ⟨hx, hb, hml, hrt, hlk, ho, hw, hin, hsf, hH0, hbs⟩ := F
      exact o_dup2 hx hb hd (fun q => by rw [nbeq_t q] at hb1; cases hb1) (fun q => by rw [nbeq_t q] at hb2; cases hb2) k
    · cases hone
  · cases hone

theorem g_iadd {ph : Bool} {d mid pc : Nat} {info : List Nat} {ls st ls' st' : List JV} {μ μ' ν : JM} {r : Int} {gs : List Prop}  (hd : decode (jbytes mid) pc = .ok ((.iadd), 1)) (hwd : jwd mid (pc, (.iadd), info) = true) (hone : jone ph (.iadd) info ls st μ = some (gs, ls', st', μ')) (hg : ∀ g ∈ gs, g) (G : Good ph d mid (pc + 1) ls' st' μ' r ν) : Good ph d mid pc ls st μ r ν := by
  dsimp only [jone] at hone
  split at hone
  case h_2 => cases hone
  cases hone
  refine good_0 (rfl) ?_ G
  intro p l e R s m args below meth c Qf base D y H0 cells slots F hRm hls hc hs k
  obtain ⟨hx, hb, hml, hrt, hlk, ho, hw, hin, hsf, hH0, hbs⟩ := F
  exact o_iadd hx hb hd k

theorem g_isub {ph : Bool} {d mid pc : Nat} {info : List Nat} {ls st ls' st' : List JV} {μ μ' ν : JM} {r : Int} {gs : List Prop}  (hd : decode (jbytes mid) pc = .ok ((.isub), 1)) (hwd : jwd mid (pc, (.isub), info) = true) (hone : jone ph (.isub) info ls st μ = some (gs, ls', st', μ')) (hg : ∀ g ∈ gs, g) (G : Good ph d mid (pc + 1) ls' st' μ' r ν) : Good ph d mid pc ls st μ r ν := by
  dsimp only [jone] at hone
  split at hone
  case h_2 => cases hone
  cases hone
  refine good_0 (rfl) ?_ G
  intro p l e R s m args below meth c Qf base D y H0 cells slots F hRm hls hc hs k
  obtain ⟨hx, hb, hml, hrt, hlk, ho, hw, hin, hsf, hH0, hbs⟩ := F
  exact o_isub hx hb hd k

theorem g_imul {ph : Bool} {d mid pc : Nat} {info : List Nat} {ls st ls' st' : List JV} {μ μ' ν : JM} {r : Int} {gs : List Prop}  (hd : decode (jbytes mid) pc = .ok ((.imul), 1)) (hwd : jwd mid (pc, (.imul), info) = true) (hone : jone ph (.imul) info ls st μ = some (gs, ls', st', μ')) (hg : ∀ g ∈ gs, g) (G : Good ph d mid (pc + 1) ls' st' μ' r ν) : Good ph d mid pc ls st μ r ν := by
  dsimp only [jone] at hone
  split at hone
  case h_2 => cases hone
  cases hone
  refine good_0 (rfl) ?_ G
  intro p l e R s m args below meth c Qf base D y H0 cells slots F hRm hls hc hs k
  obtain ⟨hx, hb, hml, hrt, hlk, ho, hw, hin, hsf, hH0, hbs⟩ := F
  exact o_imul hx hb hd k

theorem g_ineg {ph : Bool} {d mid pc : Nat} {info : List Nat} {ls st ls' st' : List JV} {μ μ' ν : JM} {r : Int} {gs : List Prop}  (hd : decode (jbytes mid) pc = .ok ((.ineg), 1)) (hwd : jwd mid (pc, (.ineg), info) = true) (hone : jone ph (.ineg) info ls st μ = some (gs, ls', st', μ')) (hg : ∀ g ∈ gs, g) (G : Good ph d mid (pc + 1) ls' st' μ' r ν) : Good ph d mid pc ls st μ r ν := by
  dsimp only [jone] at hone
  split at hone
  case h_2 => cases hone
  cases hone
  refine good_0 (rfl) ?_ G
  intro p l e R s m args below meth c Qf base D y H0 cells slots F hRm hls hc hs k
  obtain ⟨hx, hb, hml, hrt, hlk, ho, hw, hin, hsf, hH0, hbs⟩ := F
  exact o_ineg hx hb hd k

theorem g_iand {ph : Bool} {d mid pc : Nat} {info : List Nat} {ls st ls' st' : List JV} {μ μ' ν : JM} {r : Int} {gs : List Prop}  (hd : decode (jbytes mid) pc = .ok ((.iand), 1)) (hwd : jwd mid (pc, (.iand), info) = true) (hone : jone ph (.iand) info ls st μ = some (gs, ls', st', μ')) (hg : ∀ g ∈ gs, g) (G : Good ph d mid (pc + 1) ls' st' μ' r ν) : Good ph d mid pc ls st μ r ν := by
  dsimp only [jone] at hone
  split at hone
  case h_2 => cases hone
  cases hone
  refine good_0 (rfl) ?_ G
  intro p l e R s m args below meth c Qf base D y H0 cells slots F hRm hls hc hs k
  obtain ⟨hx, hb, hml, hrt, hlk, ho, hw, hin, hsf, hH0, hbs⟩ := F
  exact o_iand hx hb hd k

theorem g_ior {ph : Bool} {d mid pc : Nat} {info : List Nat} {ls st ls' st' : List JV} {μ μ' ν : JM} {r : Int} {gs : List Prop}  (hd : decode (jbytes mid) pc = .ok ((.ior), 1)) (hwd : jwd mid (pc, (.ior), info) = true) (hone : jone ph (.ior) info ls st μ = some (gs, ls', st', μ')) (hg : ∀ g ∈ gs, g) (G : Good ph d mid (pc + 1) ls' st' μ' r ν) : Good ph d mid pc ls st μ r ν := by
  dsimp only [jone] at hone
  split at hone
  case h_2 => cases hone
  cases hone
  refine good_0 (rfl) ?_ G
  intro p l e R s m args below meth c Qf base D y H0 cells slots F hRm hls hc hs k
  obtain ⟨hx, hb, hml, hrt, hlk, ho, hw, hin, hsf, hH0, hbs⟩ := F
  exact o_ior hx hb hd k

theorem g_ixor {ph : Bool} {d mid pc : Nat} {info : List Nat} {ls st ls' st' : List JV} {μ μ' ν : JM} {r : Int} {gs : List Prop}  (hd : decode (jbytes mid) pc = .ok ((.ixor), 1)) (hwd : jwd mid (pc, (.ixor), info) = true) (hone : jone ph (.ixor) info ls st μ = some (gs, ls', st', μ')) (hg : ∀ g ∈ gs, g) (G : Good ph d mid (pc + 1) ls' st' μ' r ν) : Good ph d mid pc ls st μ r ν := by
  dsimp only [jone] at hone
  split at hone
  case h_2 => cases hone
  cases hone
  refine good_0 (rfl) ?_ G
  intro p l e R s m args below meth c Qf base D y H0 cells slots F hRm hls hc hs k
  obtain ⟨hx, hb, hml, hrt, hlk, ho, hw, hin, hsf, hH0, hbs⟩ := F
  exact o_ixor hx hb hd k

theorem g_ishl {ph : Bool} {d mid pc : Nat} {info : List Nat} {ls st ls' st' : List JV} {μ μ' ν : JM} {r : Int} {gs : List Prop}  (hd : decode (jbytes mid) pc = .ok ((.ishl), 1)) (hwd : jwd mid (pc, (.ishl), info) = true) (hone : jone ph (.ishl) info ls st μ = some (gs, ls', st', μ')) (hg : ∀ g ∈ gs, g) (G : Good ph d mid (pc + 1) ls' st' μ' r ν) : Good ph d mid pc ls st μ r ν := by
  dsimp only [jone] at hone
  split at hone
  case h_2 => cases hone
  cases hone
  refine good_0 (rfl) ?_ G
  intro p l e R s m args below meth c Qf base D y H0 cells slots F hRm hls hc hs k
  obtain ⟨hx, hb, hml, hrt, hlk, ho, hw, hin, hsf, hH0, hbs⟩ := F
  exact o_ishl hx hb hd k

theorem g_ishr {ph : Bool} {d mid pc : Nat} {info : List Nat} {ls st ls' st' : List JV} {μ μ' ν : JM} {r : Int} {gs : List Prop}  (hd : decode (jbytes mid) pc = .ok ((.ishr), 1)) (hwd : jwd mid (pc, (.ishr), info) = true) (hone : jone ph (.ishr) info ls st μ = some (gs, ls', st', μ')) (hg : ∀ g ∈ gs, g) (G : Good ph d mid (pc + 1) ls' st' μ' r ν) : Good ph d mid pc ls st μ r ν := by
  dsimp only [jone] at hone
  split at hone
  case h_2 => cases hone
  cases hone
  refine good_0 (rfl) ?_ G
  intro p l e R s m args below meth c Qf base D y H0 cells slots F hRm hls hc hs k
  obtain ⟨hx, hb, hml, hrt, hlk, ho, hw, hin, hsf, hH0, hbs⟩ := F
  exact o_ishr hx hb hd k

theorem g_iushr {ph : Bool} {d mid pc : Nat} {info : List Nat} {ls st ls' st' : List JV} {μ μ' ν : JM} {r : Int} {gs : List Prop}  (hd : decode (jbytes mid) pc = .ok ((.iushr), 1)) (hwd : jwd mid (pc, (.iushr), info) = true) (hone : jone ph (.iushr) info ls st μ = some (gs, ls', st', μ')) (hg : ∀ g ∈ gs, g) (G : Good ph d mid (pc + 1) ls' st' μ' r ν) : Good ph d mid pc ls st μ r ν := by
  dsimp only [jone] at hone
  split at hone
  case h_2 => cases hone
  cases hone
  refine good_0 (rfl) ?_ G
  intro p l e R s m args below meth c Qf base D y H0 cells slots F hRm hls hc hs k
  obtain ⟨hx, hb, hml, hrt, hlk, ho, hw, hin, hsf, hH0, hbs⟩ := F
  exact o_iushr hx hb hd k

theorem g_i2b {ph : Bool} {d mid pc : Nat} {info : List Nat} {ls st ls' st' : List JV} {μ μ' ν : JM} {r : Int} {gs : List Prop}  (hd : decode (jbytes mid) pc = .ok ((.i2b), 1)) (hwd : jwd mid (pc, (.i2b), info) = true) (hone : jone ph (.i2b) info ls st μ = some (gs, ls', st', μ')) (hg : ∀ g ∈ gs, g) (G : Good ph d mid (pc + 1) ls' st' μ' r ν) : Good ph d mid pc ls st μ r ν := by
  dsimp only [jone] at hone
  split at hone
  case h_2 => cases hone
  cases hone
  refine good_0 (rfl) ?_ G
  intro p l e R s m args below meth c Qf base D y H0 cells slots F hRm hls hc hs k
  obtain ⟨hx, hb, hml, hrt, hlk, ho, hw, hin, hsf, hH0, hbs⟩ := F
  exact o_i2b hx hb hd k

theorem g_lshl {ph : Bool} {d mid pc : Nat} {info : List Nat} {ls st ls' st' : List JV} {μ μ' ν : JM} {r : Int} {gs : List Prop}  (hd : decode (jbytes mid) pc = .ok ((.lshl), 1)) (hwd : jwd mid (pc, (.lshl), info) = true) (hone : jone ph (.lshl) info ls st μ = some (gs, ls', st', μ')) (hg : ∀ g ∈ gs, g) (G : Good ph d mid (pc + 1) ls' st' μ' r ν) : Good ph d mid pc ls st μ r ν := by
  dsimp only [jone] at hone
  split at hone
  case h_2 => cases hone
  cases hone
  refine good_0 (rfl) ?_ G
  intro p l e R s m args below meth c Qf base D y H0 cells slots F hRm hls hc hs k
  obtain ⟨hx, hb, hml, hrt, hlk, ho, hw, hin, hsf, hH0, hbs⟩ := F
  exact o_lshl hx hb hd k

theorem g_lor {ph : Bool} {d mid pc : Nat} {info : List Nat} {ls st ls' st' : List JV} {μ μ' ν : JM} {r : Int} {gs : List Prop}  (hd : decode (jbytes mid) pc = .ok ((.lor), 1)) (hwd : jwd mid (pc, (.lor), info) = true) (hone : jone ph (.lor) info ls st μ = some (gs, ls', st', μ')) (hg : ∀ g ∈ gs, g) (G : Good ph d mid (pc + 1) ls' st' μ' r ν) : Good ph d mid pc ls st μ r ν := by
  dsimp only [jone] at hone
  split at hone
  case h_2 => cases hone
  cases hone
  refine good_0 (rfl) ?_ G
  intro p l e R s m args below meth c Qf base D y H0 cells slots F hRm hls hc hs k
  obtain ⟨hx, hb, hml, hrt, hlk, ho, hw, hin, hsf, hH0, hbs⟩ := F
  exact o_lor hx hb hd k

theorem g_lcmp {ph : Bool} {d mid pc : Nat} {info : List Nat} {ls st ls' st' : List JV} {μ μ' ν : JM} {r : Int} {gs : List Prop}  (hd : decode (jbytes mid) pc = .ok ((.lcmp), 1)) (hwd : jwd mid (pc, (.lcmp), info) = true) (hone : jone ph (.lcmp) info ls st μ = some (gs, ls', st', μ')) (hg : ∀ g ∈ gs, g) (G : Good ph d mid (pc + 1) ls' st' μ' r ν) : Good ph d mid pc ls st μ r ν := by
  dsimp only [jone] at hone
  split at hone
  case h_2 => cases hone
  cases hone
  refine good_0 (rfl) ?_ G
  intro p l e R s m args below meth c Qf base D y H0 cells slots F hRm hls hc hs k
  obtain ⟨hx, hb, hml, hrt, hlk, ho, hw, hin, hsf, hH0, hbs⟩ := F
  exact o_lcmp hx hb hd k

theorem g_i2f {ph : Bool} {d mid pc : Nat} {info : List Nat} {ls st ls' st' : List JV} {μ μ' ν : JM} {r : Int} {gs : List Prop}  (hd : decode (jbytes mid) pc = .ok ((.i2f), 1)) (hwd : jwd mid (pc, (.i2f), info) = true) (hone : jone ph (.i2f) info ls st μ = some (gs, ls', st', μ')) (hg : ∀ g ∈ gs, g) (G : Good ph d mid (pc + 1) ls' st' μ' r ν) : Good ph d mid pc ls st μ r ν := by
  dsimp only [jone] at hone
  split at hone
  case h_2 => cases hone
  cases hone
  refine good_0 (rfl) ?_ G
  intro p l e R s m args below meth c Qf base D y H0 cells slots F hRm hls hc hs k
  obtain ⟨hx, hb, hml, hrt, hlk, ho, hw, hin, hsf, hH0, hbs⟩ := F
  exact o_i2f hx hb hd k

theorem g_f2i {ph : Bool} {d mid pc : Nat} {info : List Nat} {ls st ls' st' : List JV} {μ μ' ν : JM} {r : Int} {gs : List Prop}  (hd : decode (jbytes mid) pc = .ok ((.f2i), 1)) (hwd : jwd mid (pc, (.f2i), info) = true) (hone : jone ph (.f2i) info ls st μ = some (gs, ls', st', μ')) (hg : ∀ g ∈ gs, g) (G : Good ph d mid (pc + 1) ls' st' μ' r ν) : Good ph d mid pc ls st μ r ν := by
  dsimp only [jone] at hone
  split at hone
  case h_2 => cases hone
  cases hone
  refine good_0 (rfl) ?_ G
  intro p l e R s m args below meth c Qf base D y H0 cells slots F hRm hls hc hs k
  obtain ⟨hx, hb, hml, hrt, hlk, ho, hw, hin, hsf, hH0, hbs⟩ := F
  exact o_f2i hx hb hd k

theorem g_fcmp {ph : Bool} {d mid pc : Nat} {info : List Nat} {ls st ls' st' : List JV} {μ μ' ν : JM} {r : Int} {gs : List Prop} {op : CmpOp} (hd : decode (jbytes mid) pc = .ok ((.fcmp op), 1)) (hwd : jwd mid (pc, (.fcmp op), info) = true) (hone : jone ph (.fcmp op) info ls st μ = some (gs, ls', st', μ')) (hg : ∀ g ∈ gs, g) (G : Good ph d mid (pc + 1) ls' st' μ' r ν) : Good ph d mid pc ls st μ r ν := by
  dsimp only [jone] at hone
  split at hone
  case h_2 => cases hone
  cases hone
  refine good_0 (rfl) ?_ G
  intro p l e R s m args below meth c Qf base D y H0 cells slots F hRm hls hc hs k
  obtain ⟨hx, hb, hml, hrt, hlk, ho, hw, hin, hsf, hH0, hbs⟩ := F
  exact o_fcmp hx hb hd k

theorem g_fadd {ph : Bool} {d mid pc : Nat} {info : List Nat} {ls st ls' st' : List JV} {μ μ' ν : JM} {r : Int} {gs : List Prop}  (hd : decode (jbytes mid) pc = .ok ((.fadd), 1)) (hwd : jwd mid (pc, (.fadd), info) = true) (hone : jone ph (.fadd) info ls st μ = some (gs, ls', st', μ')) (hg : ∀ g ∈ gs, g) (G : Good ph d mid (pc + 1) ls' st' μ' r ν) : Good ph d mid pc ls st μ r ν := by
  dsimp only [jone] at hone
  split at hone
  case h_2 => cases hone
  cases hone
  refine good_0 (rfl) ?_ G
  intro p l e R s m args below meth c Qf base D y H0 cells slots F hRm hls hc hs k
  obtain ⟨hx, hb, hml, hrt, hlk, ho, hw, hin, hsf, hH0, hbs⟩ := F
  exact o_fadd hx hb hd (hg _ List.mem_cons_self) k

theorem g_fsub {ph : Bool} {d mid pc : Nat} {info : List Nat} {ls st ls' st' : List JV} {μ μ' ν : JM} {r : Int} {gs : List Prop}  (hd : decode (jbytes mid) pc = .ok ((.fsub), 1)) (hwd : jwd mid (pc, (.fsub), info) = true) (hone : jone ph (.fsub) info ls st μ = some (gs, ls', st', μ')) (hg : ∀ g ∈ gs, g) (G : Good ph d mid (pc + 1) ls' st' μ' r ν) : Good ph d mid pc ls st μ r ν := by
  dsimp only [jone] at hone
  split at hone
  case h_2 => cases hone
  cases hone
  refine good_0 (rfl) ?_ G
  intro p l e R s m args below meth c Qf base D y H0 cells slots F hRm hls hc hs k
  obtain ⟨hx, hb, hml, hrt, hlk, ho, hw, hin, hsf, hH0, hbs⟩ := F
  exact o_fsub hx hb hd (hg _ List.mem_cons_self) k

theorem g_fmul {ph : Bool} {d mid pc : Nat} {info : List Nat} {ls st ls' st' : List JV} {μ μ' ν : JM} {r : Int} {gs : List Prop}  (hd : decode (jbytes mid) pc = .ok ((.fmul), 1)) (hwd : jwd mid (pc, (.fmul), info) = true) (hone : jone ph (.fmul) info ls st μ = some (gs, ls', st', μ')) (hg : ∀ g ∈ gs, g) (G : Good ph d mid (pc + 1) ls' st' μ' r ν) : Good ph d mid pc ls st μ r ν := by
  dsimp only [jone] at hone
  split at hone
  case h_2 => cases hone
  cases hone
  refine good_0 (rfl) ?_ G
  intro p l e R s m args below meth c Qf base D y H0 cells slots F hRm hls hc hs k
  obtain ⟨hx, hb, hml, hrt, hlk, ho, hw, hin, hsf, hH0, hbs⟩ := F
  exact o_fmul hx hb hd (hg _ List.mem_cons_self) k

theorem g_fdiv {ph : Bool} {d mid pc : Nat} {info : List Nat} {ls st ls' st' : List JV} {μ μ' ν : JM} {r : Int} {gs : List Prop}  (hd : decode (jbytes mid) pc = .ok ((.fdiv), 1)) (hwd : jwd mid (pc, (.fdiv), info) = true) (hone : jone ph (.fdiv) info ls st μ = some (gs, ls', st', μ')) (hg : ∀ g ∈ gs, g) (G : Good ph d mid (pc + 1) ls' st' μ' r ν) : Good ph d mid pc ls st μ r ν := by
  dsimp only [jone] at hone
  split at hone
  case h_2 => cases hone
  cases hone
  refine good_0 (rfl) ?_ G
  intro p l e R s m args below meth c Qf base D y H0 cells slots F hRm hls hc hs k
  obtain ⟨hx, hb, hml, hrt, hlk, ho, hw, hin, hsf, hH0, hbs⟩ := F
  exact o_fdiv hx hb hd (hg _ List.mem_cons_self) k

theorem g_i2l {ph : Bool} {d mid pc : Nat} {info : List Nat} {ls st ls' st' : List JV} {μ μ' ν : JM} {r : Int} {gs : List Prop}  (hd : decode (jbytes mid) pc = .ok ((.i2l), 1)) (hwd : jwd mid (pc, (.i2l), info) = true) (hone : jone ph (.i2l) info ls st μ = some (gs, ls', st', μ')) (hg : ∀ g ∈ gs, g) (G : Good ph d mid (pc + 1) ls' st' μ' r ν) : Good ph d mid pc ls st μ r ν := by
  dsimp only [jone] at hone
  split at hone
  case h_2 => cases hone
  cases hone
  refine good_0 (rfl) ?_ G
  intro p l e R s m args below meth c Qf base D y H0 cells slots F hRm hls hc hs k
  obtain ⟨hx, hb, hml, hrt, hlk, ho, hw, hin, hsf, hH0, hbs⟩ := F
  exact o_i2l hx hb hd (hg _ List.mem_cons_self) k

theorem g_idiv {ph : Bool} {d mid pc : Nat} {info : List Nat} {ls st ls' st' : List JV} {μ μ' ν : JM} {r : Int} {gs : List Prop}  (hd : decode (jbytes mid) pc = .ok ((.idiv), 1)) (hwd : jwd mid (pc, (.idiv), info) = true) (hone : jone ph (.idiv) info ls st μ = some (gs, ls', st', μ')) (hg : ∀ g ∈ gs, g) (G : Good ph d mid (pc + 1) ls' st' μ' r ν) : Good ph d mid pc ls st μ r ν := by
  dsimp only [jone] at hone
  split at hone
  case h_2 => cases hone
  cases hone
  refine good_0 (rfl) ?_ G
  intro p l e R s m args below meth c Qf base D y H0 cells slots F hRm hls hc hs k
  obtain ⟨hx, hb, hml, hrt, hlk, ho, hw, hin, hsf, hH0, hbs⟩ := F
  exact o_idiv hx hb hd (hg _ List.mem_cons_self) (hg _ (List.mem_cons_of_mem _ List.mem_cons_self)) (hg _ (List.mem_cons_of_mem _ (List.mem_cons_of_mem _ List.mem_cons_self))) (hg _ (List.mem_cons_of_mem _ (List.mem_cons_of_mem _ (List.mem_cons_of_mem _ List.mem_cons_self)))) k

theorem g_irem {ph : Bool} {d mid pc : Nat} {info : List Nat} {ls st ls' st' : List JV} {μ μ' ν : JM} {r : Int} {gs : List Prop}  (hd : decode (jbytes mid) pc = .ok ((.irem), 1)) (hwd : jwd mid (pc, (.irem), info) = true) (hone : jone ph (.irem) info ls st μ = some (gs, ls', st', μ')) (hg : ∀ g ∈ gs, g) (G : Good ph d mid (pc + 1) ls' st' μ' r ν) : Good ph d mid pc ls st μ r ν := by
  dsimp only [jone] at hone
  split at hone
  case h_2 => cases hone
  cases hone
  refine good_0 (rfl) ?_ G
  intro p l e R s m args below meth c Qf base D y H0 cells slots F hRm hls hc hs k
  obtain ⟨hx, hb, hml, hrt, hlk, ho, hw, hin, hsf, hH0, hbs⟩ := F
  exact o_irem hx hb hd (hg _ List.mem_cons_self) (hg _ (List.mem_cons_of_mem _ List.mem_cons_self)) (hg _ (List.mem_cons_of_mem _ (List.mem_cons_of_mem _ List.mem_cons_self))) (hg _ (List.mem_cons_of_mem _ (List.mem_cons_of_mem _ (List.mem_cons_of_mem _ List.mem_cons_self)))) k
