/-! EVERY WALK of the J machine is one of the real machine -/
theorem g_strs {ph : Bool} {d mid pc i : Nat} {info : List Nat} {ls st ls' st' : List JV} {μ μ' ν : JM} {r : Int} {gs : List Prop} (hd : decode (jbytes mid) pc = .ok (.invokevirtual i, 3)) (hwd : jwd mid (pc, .invokevirtual i, info) = true) (hone : jone ph (.invokevirtual i) info ls st μ = some (gs, ls', st', μ')) (hg : ∀ g ∈ gs, g) (G : Good ph d mid (pc + 3) ls' st' μ' r ν) : Good ph d mid pc ls st μ r ν := by
  dsimp only [jone] at hone
  split at hone
  · rename_i x st1
    cases hb0 : Nat.ble (jcat st1) 8 <;> rw [hb0] at hone
    · cases hone
    cases hone
    have hwd : (Nat.beq (jown mid) 10 && Nat.beq i 220) = true := hwd
    simp only [Bool.and_eq_true] at hwd
    have e1 := Nat.eq_of_beq_eq_true hwd.1
    have e2 := Nat.eq_of_beq_eq_true hwd.2
    subst e2
    refine good_0 rfl ?_ G
    intro p l e R s m args below meth c Qf base D y H0 cells slots F hRm hls hc hs k
    obtain ⟨hx, hb, hml, hrt, hlk, ho, hw, hin, hsf, hH0, hbs⟩ := F
    rw [e1] at ho
    exact o_strlen hx hb hml hw hH0 hsf (by have h1 := hRm.1; have h2 := hRm.2; omega) ho hls (Nat.le_of_ble_eq_true hb0) hc hs hd k
  · rename_i z x st1
    cases hb0 : Nat.ble (jcat st1) 8 <;> rw [hb0] at hone
    · cases hone
    cases hone
    have hwd : (Nat.beq (jown mid) 10 && Nat.beq i 226) = true := hwd
    simp only [Bool.and_eq_true] at hwd
    have e1 := Nat.eq_of_beq_eq_true hwd.1
    have e2 := Nat.eq_of_beq_eq_true hwd.2
    subst e2
    refine good_0 rfl ?_ G
    intro p l e R s m args below meth c Qf base D y H0 cells slots F hRm hls hc hs k
    obtain ⟨hx, hb, hml, hrt, hlk, ho, hw, hin, hsf, hH0, hbs⟩ := F
    rw [e1] at ho
    exact o_strat hx hb hml hw hH0 hsf (by have h1 := hRm.1; have h2 := hRm.2; omega) ho hls (Nat.le_of_ble_eq_true hb0) hc hs (hg _ List.mem_cons_self) (hg _ (List.mem_cons_of_mem _ List.mem_cons_self)) hd k
  · cases hone
theorem jcls_0s {i : Nat} {info : List Nat} (h : jcls (.invokestatic i) info = 0) : Nat.beq (info.getD 0 9) 0 = false := by
  have h : cond (Nat.beq (info.getD 0 9) 0) 4 0 = 0 := h
  cases hb : Nat.beq (info.getD 0 9) 0 with
  | false => rfl
  | true => rw [hb] at h; cases h

theorem g_one {ph : Bool} {d mid pc : Nat} {ins : Instr} {info : List Nat} {ls st ls' st' : List JV} {μ μ' ν : JM} {r : Int} {gs : List Prop} (hcls : jcls ins info = 0) (hd : decode (jbytes mid) pc = .ok (ins, jil ins)) (hwd : jwd mid (pc, ins, info) = true) (hone : jone ph ins info ls st μ = some (gs, ls', st', μ')) (hg : ∀ g ∈ gs, g) (G : Good ph d mid (pc + jil ins) ls' st' μ' r ν) : Good ph d mid pc ls st μ r ν := by
  cases ins with
  | aaload => exact g_aaload hd hwd hone hg G
  | aastore => exact g_aastore hd hwd hone hg G
  | aload a0 => exact g_aload hd hwd hone hg G
  | aload_n a0 => exact g_aload_n hd hwd hone hg G
  | anewarray a0 => exact g_anewarray hd hwd hone hg G
  | arraylength => exact g_arraylength hd hwd hone hg G
  | astore a0 => exact g_astore hd hwd hone hg G
  | astore_n a0 => exact g_astore_n hd hwd hone hg G
  | baload => exact g_baload hd hwd hone hg G
  | bastore => exact g_bastore hd hwd hone hg G
  | bipush a0 => exact g_bipush hd hwd hone hg G
  | dup => exact g_dup hd hwd hone hg G
  | dup2 => exact g_dup2 hd hwd hone hg G
  | f2i => exact g_f2i hd hwd hone hg G
  | fadd => exact g_fadd hd hwd hone hg G
  | fcmp a0 => exact g_fcmp hd hwd hone hg G
  | fconst a0 => exact g_fconst hd hwd hone hg G
  | fdiv => exact g_fdiv hd hwd hone hg G
  | fload a0 => exact g_fload hd hwd hone hg G
  | fload_n a0 => exact g_fload_n hd hwd hone hg G
  | fmul => exact g_fmul hd hwd hone hg G
  | fstore a0 => exact g_fstore hd hwd hone hg G
  | fstore_n a0 => exact g_fstore_n hd hwd hone hg G
  | fsub => exact g_fsub hd hwd hone hg G
  | getfield a0 => exact g_getfield hd hwd hone hg G
  | i2b => exact g_i2b hd hwd hone hg G
  | i2f => exact g_i2f hd hwd hone hg G
  | i2l => exact g_i2l hd hwd hone hg G
  | iadd => exact g_iadd hd hwd hone hg G
  | iaload => exact g_iaload hd hwd hone hg G
  | iand => exact g_iand hd hwd hone hg G
  | iastore => exact g_iastore hd hwd hone hg G
  | iconst a0 => exact g_iconst hd hwd hone hg G
  | idiv => exact g_idiv hd hwd hone hg G
  | iinc a0 a1 => exact g_iinc hd hwd hone hg G
  | iload a0 => exact g_iload hd hwd hone hg G
  | iload_n a0 => exact g_iload_n hd hwd hone hg G
  | imul => exact g_imul hd hwd hone hg G
  | ineg => exact g_ineg hd hwd hone hg G
  | invokespecial a0 => exact g_invokespecial hd hwd hone hg G
  | invokestatic a => exact g_invokestatic (jcls_0s hcls) hd hwd hone hg G
  | ior => exact g_ior hd hwd hone hg G
  | irem => exact g_irem hd hwd hone hg G
  | ishl => exact g_ishl hd hwd hone hg G
  | ishr => exact g_ishr hd hwd hone hg G
  | istore a0 => exact g_istore hd hwd hone hg G
  | istore_n a0 => exact g_istore_n hd hwd hone hg G
  | isub => exact g_isub hd hwd hone hg G
  | iushr => exact g_iushr hd hwd hone hg G
  | ixor => exact g_ixor hd hwd hone hg G
  | laload => exact g_laload hd hwd hone hg G
  | lastore => exact g_lastore hd hwd hone hg G
  | lcmp => exact g_lcmp hd hwd hone hg G
  | lconst a0 => exact g_lconst hd hwd hone hg G
  | ldc a0 => exact g_ldc hd hwd hone hg G
  | ldc2_w a0 => exact g_ldc2_w hd hwd hone hg G
  | ldc_w a0 => exact g_ldc_w hd hwd hone hg G
  | lor => exact g_lor hd hwd hone hg G
  | lshl => exact g_lshl hd hwd hone hg G
  | new a0 => exact g_new hd hwd hone hg G
  | newarray a0 => exact g_newarray hd hwd hone hg G
  | pop => exact g_pop hd hwd hone hg G
  | putfield a0 => exact g_putfield hd hwd hone hg G
  | sipush a0 => exact g_sipush hd hwd hone hg G
  | invokevirtual a => exact g_strs hd hwd hone hg G
  | _ => simp [jone] at hone

theorem rj_ok0 : ((List.range 20).all fun i => jrj (0 + i)) = true := by decide +kernel
theorem rj_ok20 : ((List.range 20).all fun i => jrj (20 + i)) = true := by decide +kernel
theorem rj_ok40 : ((List.range 20).all fun i => jrj (40 + i)) = true := by decide +kernel
theorem rj_ok60 : ((List.range 20).all fun i => jrj (60 + i)) = true := by decide +kernel
theorem rj_ok80 : ((List.range 20).all fun i => jrj (80 + i)) = true := by decide +kernel
theorem rj_ok100 : ((List.range 20).all fun i => jrj (100 + i)) = true := by decide +kernel
theorem rj_ok120 : ((List.range 20).all fun i => jrj (120 + i)) = true := by decide +kernel
theorem rj_ok140 : ((List.range 20).all fun i => jrj (140 + i)) = true := by decide +kernel
theorem rj_ok160 : ((List.range 20).all fun i => jrj (160 + i)) = true := by decide +kernel
theorem rj_ok180 : ((List.range 20).all fun i => jrj (180 + i)) = true := by decide +kernel
theorem rj_ok200 : ((List.range 20).all fun i => jrj (200 + i)) = true := by decide +kernel
theorem rj_ok220 : ((List.range 20).all fun i => jrj (220 + i)) = true := by decide +kernel
theorem rj_ok240 : ((List.range 20).all fun i => jrj (240 + i)) = true := by decide +kernel
theorem rj_ok260 : ((List.range 20).all fun i => jrj (260 + i)) = true := by decide +kernel
theorem rj_ok280 : ((List.range 20).all fun i => jrj (280 + i)) = true := by decide +kernel
theorem rj_ok300 : ((List.range 20).all fun i => jrj (300 + i)) = true := by decide +kernel
theorem rj_ok320 : ((List.range 2).all fun i => jrj (320 + i)) = true := by decide +kernel
theorem rj_all : ∀ id, id < 322 → jrj id = true := by
  intro id hid
  by_cases h0 : id < 20
  · have h : jrj (0 + (id - 0)) = true := List.all_eq_true.mp rj_ok0 (id - 0) (List.mem_range.mpr (by omega))
    rw [show 0 + (id - 0) = id by omega] at h
    exact h
  by_cases h20 : id < 40
  · have h : jrj (20 + (id - 20)) = true := List.all_eq_true.mp rj_ok20 (id - 20) (List.mem_range.mpr (by omega))
    rw [show 20 + (id - 20) = id by omega] at h
    exact h
  by_cases h40 : id < 60
  · have h : jrj (40 + (id - 40)) = true := List.all_eq_true.mp rj_ok40 (id - 40) (List.mem_range.mpr (by omega))
    rw [show 40 + (id - 40) = id by omega] at h
    exact h
  by_cases h60 : id < 80
  · have h : jrj (60 + (id - 60)) = true := List.all_eq_true.mp rj_ok60 (id - 60) (List.mem_range.mpr (by omega))
    rw [show 60 + (id - 60) = id by omega] at h
    exact h
  by_cases h80 : id < 100
  · have h : jrj (80 + (id - 80)) = true := List.all_eq_true.mp rj_ok80 (id - 80) (List.mem_range.mpr (by omega))
    rw [show 80 + (id - 80) = id by omega] at h
    exact h
  by_cases h100 : id < 120
  · have h : jrj (100 + (id - 100)) = true := List.all_eq_true.mp rj_ok100 (id - 100) (List.mem_range.mpr (by omega))
    rw [show 100 + (id - 100) = id by omega] at h
    exact h
  by_cases h120 : id < 140
  · have h : jrj (120 + (id - 120)) = true := List.all_eq_true.mp rj_ok120 (id - 120) (List.mem_range.mpr (by omega))
    rw [show 120 + (id - 120) = id by omega] at h
    exact h
  by_cases h140 : id < 160
  · have h : jrj (140 + (id - 140)) = true := List.all_eq_true.mp rj_ok140 (id - 140) (List.mem_range.mpr (by omega))
    rw [show 140 + (id - 140) = id by omega] at h
    exact h
  by_cases h160 : id < 180
  · have h : jrj (160 + (id - 160)) = true := List.all_eq_true.mp rj_ok160 (id - 160) (List.mem_range.mpr (by omega))
    rw [show 160 + (id - 160) = id by omega] at h
    exact h
  by_cases h180 : id < 200
  · have h : jrj (180 + (id - 180)) = true := List.all_eq_true.mp rj_ok180 (id - 180) (List.mem_range.mpr (by omega))
    rw [show 180 + (id - 180) = id by omega] at h
    exact h
  by_cases h200 : id < 220
  · have h : jrj (200 + (id - 200)) = true := List.all_eq_true.mp rj_ok200 (id - 200) (List.mem_range.mpr (by omega))
    rw [show 200 + (id - 200) = id by omega] at h
    exact h
  by_cases h220 : id < 240
  · have h : jrj (220 + (id - 220)) = true := List.all_eq_true.mp rj_ok220 (id - 220) (List.mem_range.mpr (by omega))
    rw [show 220 + (id - 220) = id by omega] at h
    exact h
  by_cases h240 : id < 260
  · have h : jrj (240 + (id - 240)) = true := List.all_eq_true.mp rj_ok240 (id - 240) (List.mem_range.mpr (by omega))
    rw [show 240 + (id - 240) = id by omega] at h
    exact h
  by_cases h260 : id < 280
  · have h : jrj (260 + (id - 260)) = true := List.all_eq_true.mp rj_ok260 (id - 260) (List.mem_range.mpr (by omega))
    rw [show 260 + (id - 260) = id by omega] at h
    exact h
  by_cases h280 : id < 300
  · have h : jrj (280 + (id - 280)) = true := List.all_eq_true.mp rj_ok280 (id - 280) (List.mem_range.mpr (by omega))
    rw [show 280 + (id - 280) = id by omega] at h
    exact h
  by_cases h300 : id < 320
  · have h : jrj (300 + (id - 300)) = true := List.all_eq_true.mp rj_ok300 (id - 300) (List.mem_range.mpr (by omega))
    rw [show 300 + (id - 300) = id by omega] at h
    exact h
  by_cases h320 : id < 322
  · have h : jrj (320 + (id - 320)) = true := List.all_eq_true.mp rj_ok320 (id - 320) (List.mem_range.mpr (by omega))
    rw [show 320 + (id - 320) = id by omega] at h
    exact h
  omega
theorem ck_lt : ∀ id, id < 322 → jck id = true := by
  intro id hid
  by_cases h0 : id < 20
  · have h : jck (0 + (id - 0)) = true := List.all_eq_true.mp ck_ok0 (id - 0) (List.mem_range.mpr (by omega))
    rw [show 0 + (id - 0) = id by omega] at h
    exact h
  by_cases h20 : id < 40
  · have h : jck (20 + (id - 20)) = true := List.all_eq_true.mp ck_ok20 (id - 20) (List.mem_range.mpr (by omega))
    rw [show 20 + (id - 20) = id by omega] at h
    exact h
  by_cases h40 : id < 60
  · have h : jck (40 + (id - 40)) = true := List.all_eq_true.mp ck_ok40 (id - 40) (List.mem_range.mpr (by omega))
    rw [show 40 + (id - 40) = id by omega] at h
    exact h
  by_cases h60 : id < 80
  · have h : jck (60 + (id - 60)) = true := List.all_eq_true.mp ck_ok60 (id - 60) (List.mem_range.mpr (by omega))
    rw [show 60 + (id - 60) = id by omega] at h
    exact h
  by_cases h80 : id < 100
  · have h : jck (80 + (id - 80)) = true := List.all_eq_true.mp ck_ok80 (id - 80) (List.mem_range.mpr (by omega))
    rw [show 80 + (id - 80) = id by omega] at h
    exact h
  by_cases h100 : id < 120
  · have h : jck (100 + (id - 100)) = true := List.all_eq_true.mp ck_ok100 (id - 100) (List.mem_range.mpr (by omega))
    rw [show 100 + (id - 100) = id by omega] at h
    exact h
  by_cases h120 : id < 140
  · have h : jck (120 + (id - 120)) = true := List.all_eq_true.mp ck_ok120 (id - 120) (List.mem_range.mpr (by omega))
    rw [show 120 + (id - 120) = id by omega] at h
    exact h
  by_cases h140 : id < 160
  · have h : jck (140 + (id - 140)) = true := List.all_eq_true.mp ck_ok140 (id - 140) (List.mem_range.mpr (by omega))
    rw [show 140 + (id - 140) = id by omega] at h
    exact h
  by_cases h160 : id < 180
  · have h : jck (160 + (id - 160)) = true := List.all_eq_true.mp ck_ok160 (id - 160) (List.mem_range.mpr (by omega))
    rw [show 160 + (id - 160) = id by omega] at h
    exact h
  by_cases h180 : id < 200
  · have h : jck (180 + (id - 180)) = true := List.all_eq_true.mp ck_ok180 (id - 180) (List.mem_range.mpr (by omega))
    rw [show 180 + (id - 180) = id by omega] at h
    exact h
  by_cases h200 : id < 220
  · have h : jck (200 + (id - 200)) = true := List.all_eq_true.mp ck_ok200 (id - 200) (List.mem_range.mpr (by omega))
    rw [show 200 + (id - 200) = id by omega] at h
    exact h
  by_cases h220 : id < 240
  · have h : jck (220 + (id - 220)) = true := List.all_eq_true.mp ck_ok220 (id - 220) (List.mem_range.mpr (by omega))
    rw [show 220 + (id - 220) = id by omega] at h
    exact h
  by_cases h240 : id < 260
  · have h : jck (240 + (id - 240)) = true := List.all_eq_true.mp ck_ok240 (id - 240) (List.mem_range.mpr (by omega))
    rw [show 240 + (id - 240) = id by omega] at h
    exact h
  by_cases h260 : id < 280
  · have h : jck (260 + (id - 260)) = true := List.all_eq_true.mp ck_ok260 (id - 260) (List.mem_range.mpr (by omega))
    rw [show 260 + (id - 260) = id by omega] at h
    exact h
  by_cases h280 : id < 300
  · have h : jck (280 + (id - 280)) = true := List.all_eq_true.mp ck_ok280 (id - 280) (List.mem_range.mpr (by omega))
    rw [show 280 + (id - 280) = id by omega] at h
    exact h
  by_cases h300 : id < 320
  · have h : jck (300 + (id - 300)) = true := List.all_eq_true.mp ck_ok300 (id - 300) (List.mem_range.mpr (by omega))
    rw [show 300 + (id - 300) = id by omega] at h
    exact h
  by_cases h320 : id < 322
  · have h : jck (320 + (id - 320)) = true := List.all_eq_true.mp ck_ok320 (id - 320) (List.mem_range.mpr (by omega))
    rw [show 320 + (id - 320) = id by omega] at h
    exact h
  omega

theorem ck_all {id : Nat} (h : id < 323) : jck id = true := by
  by_cases h2 : id < 322
  · exact ck_lt id h2
  · have e : id = 322 := by omega
    subst e
    exact ck_law
theorem jcode_hi {m : Nat} (h : 323 ≤ m) : jcode m = [] := by
  unfold jcode
  by_cases h2 : 18 ≤ m / 18
  · rw [List.getD_eq_getElem?_getD, List.getD_eq_getElem?_getD, List.getElem?_eq_none (l := jcodeT) (by show 18 ≤ m / 18; exact h2)]
    rfl
  · have e1 : m / 18 = 17 := by omega
    have e2 : m % 18 = 17 := by omega
    rw [e1, e2]
    rfl
theorem head_ok : ((List.range 323).all fun id => match jcode id with
    | [] => true
    | e :: _ => Nat.beq e.1 0) = true := by decide +kernel
theorem site_rng : (jSITE.all fun r => Nat.blt r.2.2.2.1 322) = true := by decide +kernel
theorem site_lt {own i kind id : Nat} (h : jsite own i kind id = true) : id < 322 := by
  unfold jsite at h
  obtain ⟨z, hz, h2⟩ := List.any_eq_true.mp h
  have h3 := List.all_eq_true.mp site_rng z hz
  simp only [Bool.and_eq_true] at h2
  have e4 := Nat.eq_of_beq_eq_true h2.2
  rw [e4] at h3
  exact Nat.le_of_ble_eq_true h3
theorem jsuf_sfx (t : Nat) : ∀ l : List JE, ∃ pre, l = pre ++ jsuf t l
  | [] => ⟨[], rfl⟩
  | e :: l => by
    unfold jsuf
    cases h : Nat.beq e.1 t
    · obtain ⟨pre, hp⟩ := jsuf_sfx t l
      exact ⟨e :: pre, by rw [List.cons_append]; exact congrArg _ hp⟩
    · exact ⟨[], rfl⟩
theorem jsuf_head {t : Nat} {e : JE} {r : List JE} : ∀ {l : List JE}, jsuf t l = e :: r → e.1 = t
  | [], h => by cases h
  | x :: l, h => by
    unfold jsuf at h
    cases hb : Nat.beq x.1 t <;> rw [hb] at h
    · exact jsuf_head (l := l) h
    · have h : x :: l = e :: r := h
      cases h
      exact Nat.eq_of_beq_eq_true hb
theorem jchk_sfx {b : ByteArray} {l : List JE} : ∀ pre : List JE, jchk b (pre ++ l) = true → jchk b l = true
  | [], h => h
  | e :: pre, h => by
    have h : (jdec b e && (jisw e.2.1 || (match pre ++ l with
      | [] => true
      | e' :: _ => Nat.beq e'.1 (e.1 + jil e.2.1))) && jchk b (pre ++ l)) = true := h
    simp only [Bool.and_eq_true] at h
    exact jchk_sfx pre h.2
def jnpc (n : Nat) : List JE → Bool
  | [] => true
  | e' :: _ => Nat.beq e'.1 n
theorem jchk_cons {b : ByteArray} {e : JE} {rest : List JE} (h : jchk b (e :: rest) = true) : jdec b e = true ∧ (jisw e.2.1 || jnpc (e.1 + jil e.2.1) rest) = true := by
  cases rest with
  | nil =>
    have h : (jdec b e && (jisw e.2.1 || true) && jchk b []) = true := h
    simp only [Bool.and_eq_true] at h
    exact ⟨h.1.1, h.1.2⟩
  | cons e' r =>
    have h : (jdec b e && (jisw e.2.1 || Nat.beq e'.1 (e.1 + jil e.2.1)) && jchk b (e' :: r)) = true := h
    simp only [Bool.and_eq_true] at h
    exact ⟨h.1.1, h.1.2⟩
theorem jgd_split {p : Prop} : ∀ {gs : List Prop}, jgd gs p → (∀ g ∈ gs, g) ∧ p
  | [], h => ⟨fun _ hg => absurd hg List.not_mem_nil, h⟩
  | a :: gs, h => by
    obtain ⟨h1, h2⟩ := jgd_split (gs := gs) h.2
    exact ⟨fun g hg => by
      rcases List.mem_cons.mp hg with rfl | hg
      · exact h.1
      · exact h1 g hg, h2⟩
theorem jcls_1 {ins : Instr} {info : List Nat} (h : jcls ins info = 1) : jil ins = 3 := by
  unfold jcls at h
  split at h <;> first | rfl | (cases h; done) | (revert h; cases Nat.beq (info.getD 0 9) 0 <;> cases Nat.beq (info.getD 0 9) 8 <;> intro h <;> cases h)
theorem jcls_2 {ins : Instr} {info : List Nat} (h : jcls ins info = 2) : ∃ off, ins = .goto off := by
  unfold jcls at h
  split at h <;> first | exact ⟨_, rfl⟩ | (cases h; done) | (revert h; cases Nat.beq (info.getD 0 9) 0 <;> cases Nat.beq (info.getD 0 9) 8 <;> intro h <;> cases h)
theorem jcls_3 {ins : Instr} {info : List Nat} (h : jcls ins info = 3) : (∃ a b c d, ins = .tableswitch a b c d) ∨ ∃ a b, ins = .lookupswitch a b := by
  unfold jcls at h
  split at h <;> first | exact Or.inl ⟨_, _, _, _, rfl⟩ | exact Or.inr ⟨_, _, rfl⟩ | (cases h; done) | (revert h; cases Nat.beq (info.getD 0 9) 0 <;> cases Nat.beq (info.getD 0 9) 8 <;> intro h <;> cases h)
theorem jcls_4 {ins : Instr} {info : List Nat} (h : jcls ins info = 4) : (∃ i, ins = .invokevirtual i ∨ ins = .invokestatic i ∨ ins = .invokespecial i) ∧ info.getD 0 9 = 0 := by
  unfold jcls at h
  split at h
  case h_6 => 
    refine ⟨⟨_, Or.inl rfl⟩, ?_⟩
    cases hb : Nat.beq (info.getD 0 9) 0 <;> rw [hb] at h
    · revert h
      cases Nat.beq (info.getD 0 9) 8 <;> intro h <;> cases h
    · exact Nat.eq_of_beq_eq_true hb
  case h_7 => 
    refine ⟨⟨_, Or.inr (Or.inl rfl)⟩, ?_⟩
    cases hb : Nat.beq (info.getD 0 9) 0 <;> rw [hb] at h
    · cases h
    · exact Nat.eq_of_beq_eq_true hb
  case h_8 => 
    refine ⟨⟨_, Or.inr (Or.inr rfl)⟩, ?_⟩
    cases hb : Nat.beq (info.getD 0 9) 0 <;> rw [hb] at h
    · cases h
    · exact Nat.eq_of_beq_eq_true hb
  all_goals cases h
theorem jcls_5 {ins : Instr} {info : List Nat} (h : jcls ins info = 5) : jil ins = 1 := by
  unfold jcls at h
  split at h <;> first | rfl | (cases h; done) | (revert h; cases Nat.beq (info.getD 0 9) 0 <;> cases Nat.beq (info.getD 0 9) 8 <;> intro h <;> cases h)
theorem jcls_6 {ins : Instr} {info : List Nat} (h : jcls ins info = 6) : ∃ i, ins = .invokevirtual i ∧ info.getD 0 9 = 8 := by
  unfold jcls at h
  split at h
  case h_6 => 
    refine ⟨_, rfl, ?_⟩
    cases hb : Nat.beq (info.getD 0 9) 0 <;> rw [hb] at h
    · cases hb8 : Nat.beq (info.getD 0 9) 8 <;> rw [hb8] at h
      · cases h
      · exact Nat.eq_of_beq_eq_true hb8
    · cases h
  case h_7 => revert h; cases Nat.beq (info.getD 0 9) 0 <;> intro h <;> cases h
  case h_8 => revert h; cases Nat.beq (info.getD 0 9) 0 <;> intro h <;> cases h
  all_goals cases h
def XG (ph : Bool) : JX := fun d m pc ls st μ Q => ∃ r ν, Q r ν ∧ Good ph d m pc ls st μ r ν
def XR (ph : Bool) (rec : JR) : Prop := ∀ (d m : Nat) (l : List JE) (ls st : List JV) (μ : JM) (Q : JQ), (∃ pre, jcode m = pre ++ l) → rec d m l ls st μ Q → ∃ e rest, l = e :: rest ∧ ∃ r ν, Q r ν ∧ Good ph d m e.1 ls st μ r ν
theorem jgo_good {ph : Bool} {rec : JR} (hrec : XR ph rec) {d m t : Nat} {ls st : List JV} {μ : JM} {Q : JQ} (h : jgo (XG ph) rec d m t ls st μ Q) : ∃ r ν, Q r ν ∧ Good ph d m t ls st μ r ν := by
  unfold jgo at h
  cases hc : jin t (jcut m) <;> rw [hc] at h
  · obtain ⟨e, rest, he, r, ν, hq, hg⟩ := hrec _ _ _ _ _ _ _ (jsuf_sfx t (jcode m)) h
    rw [jsuf_head he] at hg
    exact ⟨r, ν, hq, hg⟩
  · exact h
theorem jnx_good {ph : Bool} {rec : JR} (hrec : XR ph rec) {d m n : Nat} {rest : List JE} {ls st : List JV} {μ : JM} {Q : JQ} (hs : ∃ pre, jcode m = pre ++ rest) (hn : ∀ e r, rest = e :: r → e.1 = n) (h : jnx (XG ph) rec d m rest ls st μ Q) : ∃ r ν, Q r ν ∧ Good ph d m n ls st μ r ν := by
  cases rest with
  | nil => exact h.elim
  | cons e r =>
    have hn := hn e r rfl
    unfold jnx at h
    dsimp only at h
    cases hc : jin e.1 (jcut m) <;> rw [hc] at h
    · obtain ⟨e', rest', he, r', ν, hq, hg⟩ := hrec _ _ _ _ _ _ _ hs h
      cases he
      rw [hn] at hg
      exact ⟨r', ν, hq, hg⟩
    · rw [hn] at h
      exact h
theorem jcall_good {ph : Bool} {rec : JR} (hrec : XR ph rec) {d id : Nat} {al : List JV} {μ : JM} {Q : JQ} (hid : id < 323) (h : jcall (XG ph) rec d id al μ Q) : ∃ d', d = d' + 1 ∧ ∃ r ν, Q r ν ∧ Good ph d' id 0 (jinit (jnl id) al) [] μ r ν := by
  cases d with
  | zero => exact h.elim
  | succ d =>
    unfold jcall at h
    dsimp only at h
    refine ⟨d, rfl, ?_⟩
    cases hc : jinl id <;> rw [hc] at h
    · exact h
    · obtain ⟨e, rest, he, r, ν, hq, hg⟩ := hrec d id (jcode id) _ _ _ _ ⟨[], rfl⟩ h
      have h0 := List.all_eq_true.mp head_ok id (List.mem_range.mpr hid)
      rw [he] at h0
      rw [Nat.eq_of_beq_eq_true h0] at hg
      exact ⟨r, ν, hq, hg⟩
theorem m_row : jown 94 = 7 ∧ jown 48 = 2 ∧ jown 59 = 4 ∧ jnp 94 = 1 ∧ jnp 48 = 1 ∧ jnp 59 = 1 ∧ jstat 94 = false ∧ jstat 48 = false ∧ jstat 59 = false ∧ jrt 94 = 8 ∧ jrt 48 = 8 ∧ jrt 59 = 8 ∧ (parseMethodDescriptor "(I)V").map (fun d => d.parameters.length) = some 1 := by decide +kernel
theorem slwB_good {ph : Bool} {rec : JR} (hrec : XR ph rec) {d m : Nat} {e : JE} {rest : List JE} {ls st : List JV} {μ : JM} {Q : JQ} (hs : ∃ pre, jcode m = pre ++ e :: rest) (h : slwB (XG ph) rec ph d m e rest ls st μ Q) : ∃ r ν, Q r ν ∧ Good ph d m e.1 ls st μ r ν := by
  obtain ⟨pre, hp⟩ := hs
  have hm : m < 323 := by
    rcases Nat.lt_or_ge m 323 with h | h
    · exact h
    · rw [jcode_hi h] at hp
      cases pre <;> cases hp
  have hck := ck_all hm
  unfold jck at hck
  simp only [Bool.and_eq_true] at hck
  obtain ⟨hk1, hk2⟩ := hck
  rw [hp] at hk1 hk2
  have hk1 := jchk_sfx pre hk1
  have hwd : jwd m e = true := List.all_eq_true.mp hk2 e (List.mem_append_right _ List.mem_cons_self)
  have hs' : ∃ pre, jcode m = pre ++ rest := ⟨pre ++ [e], by rw [hp, List.append_assoc]; rfl⟩
  obtain ⟨hde, hnx⟩ := jchk_cons hk1
  obtain ⟨pc, ins, info⟩ := e
  unfold jdec at hde
  dsimp only at hde hnx hwd ⊢
  split at hde
  case h_2 => cases hde
  rename_i i n hdec
  simp only [Bool.and_eq_true, decide_eq_true_eq] at hde
  obtain ⟨rfl, hln⟩ := hde
  have hd : jisw i = false → decode (jbytes m) pc = .ok (i, jil i) := fun hsw => by
    rw [hsw] at hln
    have := Nat.eq_of_beq_eq_true hln
    rw [← this]
    exact hdec
  have hn : jisw i = false → ∀ e' r', rest = e' :: r' → e'.1 = pc + jil i := fun hsw e' r' hr => by
    rw [hsw, hr] at hnx
    exact Nat.eq_of_beq_eq_true hnx
  unfold slwB at h
  dsimp only at h
  split at h
  · rename_i hcls
    have hsw : jisw i = false := by
      unfold jisw
      split
      · cases hcls
      · cases hcls
      · rfl
    split at h
    · rename_i gs ls' st' μ' hone
      obtain ⟨hg, h⟩ := jgd_split h
      obtain ⟨r, ν, hq, hG⟩ := jnx_good hrec hs' (hn hsw) h
      exact ⟨r, ν, hq, g_one hcls (hd hsw) hwd hone hg hG⟩
    · exact h.elim
  · rename_i hcls
    have hl := jcls_1 hcls
    have hsw : jisw i = false := by
      unfold jisw
      split
      · cases hcls
      · cases hcls
      · rfl
    split at h
    · rename_i g c st' hbr
      obtain ⟨hg, ht, hf⟩ := h
      have hd3 := hd hsw
      rw [hl] at hd3
      by_cases hc : c
      · obtain ⟨r, ν, hq, hG⟩ := jgo_good hrec (ht hc)
        exact ⟨r, ν, hq, g_brt hd3 hwd hbr hg hc rfl hG⟩
      · obtain ⟨r, ν, hq, hG⟩ := jnx_good hrec hs' (hn hsw) (hf hc)
        rw [hl] at hG
        exact ⟨r, ν, hq, g_brf hd3 hwd hbr hg hc hG⟩
    · exact h.elim
  · rename_i hcls
    obtain ⟨off, rfl⟩ := jcls_2 hcls
    obtain ⟨r, ν, hq, hG⟩ := jgo_good hrec h
    exact ⟨r, ν, hq, g_goto (hd rfl) hwd hG⟩
  · rename_i hcls
    split at h
    · rename_i x st'
      obtain ⟨hx, h⟩ := h
      obtain ⟨t, ht, hsel⟩ := jsw_sel h
      obtain ⟨r, ν, hq, hG⟩ := jgo_good hrec ht
      refine ⟨r, ν, hq, ?_⟩
      rcases jcls_3 hcls with ⟨a, b, c, f, rfl⟩ | ⟨a, b, rfl⟩
      · exact g_tsw hdec hwd hx hsel hG
      · exact g_lsw hdec hwd hx hsel hG
    · exact h.elim
  · rename_i hcls
    obtain ⟨hins, hinfo⟩ := jcls_4 hcls
    cases h1 : Nat.ble (info.getD 2 0) st.length <;> rw [h1] at h
    · exact h.elim
    cases h2 : Nat.ble (jcat (st.drop (info.getD 2 0))) 8 <;> rw [h2] at h
    · exact h.elim
    cases h3 : jrc i m (info.getD 1 0) (st.take (info.getD 2 0)).reverse <;> rw [h3] at h
    · exact h.elim
    have h1 := Nat.le_of_ble_eq_true h1
    have h2 := Nat.le_of_ble_eq_true h2
    have hinf : ∃ id n rt, info = [0, id, n, rt] ∧ id < 322 := by
      rcases info with _ | ⟨a, info⟩
      · cases hinfo
      have ha : a = 0 := hinfo
      subst ha
      have hj0 : ∀ own i, jjdk own i 0 = false := by
        intro own i
        have h : jJS.all (fun r => !Nat.beq r.2.2.1 0) = true := by decide +kernel
        cases hh : jjdk own i 0 with
        | false => rfl
        | true =>
          obtain ⟨r, hr, h2⟩ := List.any_eq_true.mp hh
          have h3 := List.all_eq_true.mp h r hr
          simp only [Bool.and_eq_true] at h2
          rw [h2.2] at h3
          cases h3
      rcases hins with ⟨j, rfl | rfl | rfl⟩ <;> rcases info with _ | ⟨a1, _ | ⟨a2, _ | ⟨a3, _ | ⟨a4, info⟩⟩⟩⟩ <;> first | (cases hwd; done) | (exact absurd ((hj0 _ _).symm.trans hwd) (by decide)) | skip
      · refine ⟨a1, a2, a3, rfl, ?_⟩
        have hwd : (Nat.beq a2 (jnp a1 + 1) && Nat.beq a3 (jrt a1) && cond (jstat a1) false true && ((jsite (jown m) j 0 a1 && Nat.ble (jmw a1).2.2.2 9998) || (jsite (jown m) j 5 a1 && Nat.beq a1 55))) = true := hwd
        simp only [Bool.and_eq_true, Bool.or_eq_true] at hwd
        rcases hwd.2 with z | z <;> exact site_lt z.1
      · refine ⟨a1, a2, a3, rfl, ?_⟩
        have hwd : (Nat.beq a2 (jnp a1) && Nat.beq a3 (jrt a1) && jstat a1 && (jsite (jown m) j 1 a1 || jsite (jown m) j 4 a1)) = true := hwd
        simp only [Bool.and_eq_true, Bool.or_eq_true] at hwd
        rcases hwd.2 with z | z <;> exact site_lt z
      · refine ⟨a1, a2, a3, rfl, ?_⟩
        have hwd : (Nat.beq a2 (jnp a1 + 1) && Nat.beq a3 (jrt a1) && cond (jstat a1) false true && jini a1 && decide (jret a1 = none) && (jsite (jown m) j 2 a1 || jsite (jown m) j 3 a1)) = true := hwd
        simp only [Bool.and_eq_true, Bool.or_eq_true] at hwd
        rcases hwd.2 with z | z <;> exact site_lt z
    obtain ⟨id, n, rt, rfl, hid⟩ := hinf
    obtain ⟨d', rfl, r, ν, hq, hG⟩ := jcall_good hrec (by show id < 323; omega) h
    have h3' : jisw i = false ∧ jil i = 3 := by rcases hins with ⟨j, rfl | rfl | rfl⟩ <;> exact ⟨rfl, rfl⟩
    obtain ⟨r2, ν2, hq2, hG2⟩ := jnx_good hrec hs' (hn h3'.1) hq
    rw [h3'.2] at hG2
    have hd3 := hd h3'.1
    rw [h3'.2] at hd3
    refine ⟨r2, ν2, hq2, ?_⟩
    rcases hins with ⟨j, rfl | rfl | rfl⟩
    · exact g_call_v (by omega) (rj_all id hid) hd3 hwd h1 h2 h3 hG hG2
    · exact g_call_s (by omega) (rj_all id hid) hd3 hwd h1 h2 h3 hG hG2
    · exact g_call_c (by omega) (rj_all id hid) hd3 hwd h1 h2 h3 hG hG2
  · rename_i hcls
    have hl := jcls_5 hcls
    have hsw : jisw i = false := by
      unfold jisw
      split
      · cases hcls
      · cases hcls
      · rfl
    split at h
    · rename_i gs x hr
      obtain ⟨hg, hq⟩ := jgd_split h
      have hd1 := hd hsw
      rw [hl] at hd1
      exact ⟨x, μ, hq, g_ret hd1 hwd hr hg⟩
    · exact h.elim
  · rename_i hcls
    obtain ⟨j, rfl, hinfo⟩ := jcls_6 hcls
    split at h
    · rename_i v u st'
      cases h0 : Nat.beq v.1 0 <;> rw [h0] at h
      · exact h.elim
      cases h2 : Nat.beq u.1 22 <;> rw [h2] at h
      · exact h.elim
      cases h1 : Nat.ble (jcat st') 8 <;> rw [h1] at h
      · exact h.elim
      have h0 := Nat.eq_of_beq_eq_true h0
      have h2 := Nat.eq_of_beq_eq_true h2
      have h1 := Nat.le_of_ble_eq_true h1
      rcases info with _ | ⟨a, info⟩
      · cases hinfo
      have ha : a = 8 := hinfo
      subst ha
      rcases info with _ | ⟨a1, _ | ⟨a2, _ | ⟨a3, _ | ⟨a4, info⟩⟩⟩⟩ <;> try (cases hwd; done)
      have hwd : (jsite (jown m) j 6 a1 && Nat.beq a1 94 && Nat.beq a2 48 && Nat.beq a3 59) = true := hwd
      simp only [Bool.and_eq_true] at hwd
      obtain ⟨⟨⟨w0, w1⟩, w2⟩, w3⟩ := hwd
      have w1 := Nat.eq_of_beq_eq_true w1
      have w2 := Nat.eq_of_beq_eq_true w2
      have w3 := Nat.eq_of_beq_eq_true w3
      subst w1 w2 w3
      obtain ⟨o1, o2, o3, p1, p2, p3, s1, s2, s3, t1, t2, t3, hdesc⟩ := m_row
      obtain ⟨hu, k0, k1, k2⟩ := h
      rcases hu with hu | hu | hu
      · obtain ⟨d', rfl, r, ν, hq, hG⟩ := jcall_good hrec (by show 94 < 323; decide) (k0 hu)
        obtain ⟨r2, ν2, hq2, hG2⟩ := jnx_good hrec hs' (hn rfl) hq
        exact ⟨r2, ν2, hq2, g_meet1 (by decide) (rj_all _ (by decide)) p1 s1 t1 (by rw [hu, o1]; rfl) (by rw [o1]; decide) (by rw [o1]; exact jwp_in wm_X8) hdesc (hd rfl) (site6 w0) h0 h2 h1 hG hG2⟩
      · obtain ⟨d', rfl, r, ν, hq, hG⟩ := jcall_good hrec (by show 48 < 323; decide) (k1 hu)
        obtain ⟨r2, ν2, hq2, hG2⟩ := jnx_good hrec hs' (hn rfl) hq
        exact ⟨r2, ν2, hq2, g_meet1 (by decide) (rj_all _ (by decide)) p2 s2 t2 (by rw [hu, o2]; rfl) (by rw [o2]; decide) (by rw [o2]; exact jwp_in wm_X2) hdesc (hd rfl) (site6 w0) h0 h2 h1 hG hG2⟩
      · obtain ⟨d', rfl, r, ν, hq, hG⟩ := jcall_good hrec (by show 59 < 323; decide) (k2 hu)
        obtain ⟨r2, ν2, hq2, hG2⟩ := jnx_good hrec hs' (hn rfl) hq
        exact ⟨r2, ν2, hq2, g_meet1 (by decide) (rj_all _ (by decide)) p3 s3 t3 (by rw [hu, o3]; rfl) (by rw [o3]; decide) (by rw [o3]; exact jwp_in wm_X5) hdesc (hd rfl) (site6 w0) h0 h2 h1 hG hG2⟩
    · exact h.elim
  · exact h.elim
theorem slw_good {ph : Bool} : ∀ k : Nat, XR ph (slw (XG ph) ph k)
  | 0 => fun _ _ _ _ _ _ _ _ h => h.elim
  | k + 1 => fun d m l ls st μ Q hs h => by
    cases l with
    | nil => exact h.elim
    | cons e r => exact ⟨e, r, rfl, slwB_good (slw_good k) hs h⟩
theorem XG_cl {ph : Bool} : jcl ph (XG ph) := by
  intro k d m pc ls st μ Q h
  obtain ⟨e, rest, he, r, ν, hq, hg⟩ := slw_good k d m _ ls st μ Q (jsuf_sfx pc (jcode m)) h
  rw [jsuf_head he] at hg
  exact ⟨r, ν, hq, hg⟩
/-- what a walk of the J machine ends with, the real machine ends with -/
theorem wp_good {ph : Bool} {d m pc : Nat} {ls st : List JV} {μ : JM} {Q : JQ} (h : wp ph d m pc ls st μ Q) : ∃ r ν, Q r ν ∧ Good ph d m pc ls st μ r ν := h (XG ph) XG_cl
