/-! fields, arrays, new cells, the JDK's own: their Good -/
theorem fld_facts {own i c k : Nat} (h : jfld own i c k = true) : k < (jT c).2.2 ∧ ∃ ref, Cond.fieldLink (jon own) i (jon ref) ((jT c).2.1 k).2.1 ((jT c).2.1 k).2.2.1 ∈ GW ∧ (jon ref = ((jT c).2.1 k).1 ∨ Cond.sameField (jon ref) ((jT c).2.1 k).1 ((jT c).2.1 k).2.1 ((jT c).2.1 k).2.2.1 ∈ GW) := by
  unfold jfld at h
  obtain ⟨q, hq, h2⟩ := List.any_eq_true.mp h
  have h3 := List.all_eq_true.mp ft_ok q hq
  obtain ⟨q1, q2, q3, q4, q5, q6, q7⟩ := q
  simp only [Bool.and_eq_true] at h2
  obtain ⟨⟨⟨e1, e2⟩, e4⟩, e5⟩ := h2
  have e1 := Nat.eq_of_beq_eq_true e1
  have e2 := Nat.eq_of_beq_eq_true e2
  have e4 := Nat.eq_of_beq_eq_true e4
  have e5 := Nat.eq_of_beq_eq_true e5
  subst e1 e2 e4 e5
  unfold jftk at h3
  dsimp only at h3
  simp only [Bool.and_eq_true, Bool.or_eq_true, decide_eq_true_eq] at h3
  refine ⟨Nat.le_of_ble_eq_true h3.1.1, q3, jwp_in h3.1.2, ?_⟩
  rcases h3.2 with z | z
  · exact Or.inl z
  · exact Or.inr (jwp_in z)
theorem hunt_rows : ∀ k, k < 4 → TX2 k = TX8 k ∧ TX5 k = TX8 k ∧ tyX2 k = tyX8 k ∧ tyX5 k = tyX8 k := by
  intro k hk
  match k, hk with
  | 0, _ => exact ⟨rfl, rfl, rfl, rfl⟩
  | 1, _ => exact ⟨rfl, rfl, rfl, rfl⟩
  | 2, _ => exact ⟨rfl, rfl, rfl, rfl⟩
  | 3, _ => exact ⟨rfl, rfl, rfl, rfl⟩
/-- the object's class against the field's -/
theorem jok_cls {c t k : Nat} {x : Int} (h : jok c t x = true) (hk : k < (jT c).2.2) : jkc t x < 11 ∧ (jT (jkc t x)).2.1 k = (jT c).2.1 k ∧ k < (jT (jkc t x)).2.2 ∧ jfty c k = jty (jkc t x) k := by
  unfold jok at h
  by_cases hc : c = 11
  · subst hc
    have ht : t = 22 := Nat.eq_of_beq_eq_true h
    subst ht
    have hk4 : k < 4 := hk
    obtain ⟨r1, r2, r3, r4⟩ := hunt_rows k hk4
    have hj : jkc 22 x = cond (decide (x = 0)) 7 (cond (decide (x = 1)) 2 4) := rfl
    rw [hj]
    cases decide (x = 0)
    · cases decide (x = 1)
      · exact ⟨by decide, r2, Nat.lt_of_lt_of_le hk4 (by decide), r4.symm⟩
      · exact ⟨by decide, r1, Nat.lt_of_lt_of_le hk4 (by decide), r3.symm⟩
    · exact ⟨show 7 < 11 by decide, rfl, Nat.lt_of_lt_of_le hk4 (show 4 ≤ (jT 7).2.2 by decide), rfl⟩
  · rw [nbeq_f hc] at h
    have h : jkc t x = c := Nat.eq_of_beq_eq_true h
    subst h
    refine ⟨?_, rfl, hk, by unfold jfty; rw [nbeq_f hc]; rfl⟩
    rcases Nat.lt_or_ge (jkc t x) 11 with z | z
    · exact z
    · have e : (jT (jkc t x)).2.2 = 0 := by
        unfold jT
        rw [nbeq_f hc]
        show (vwCl.getD (jkc t x) (RX8, TX8, 0)).2.2 = 0
        rw [List.getD_eq_getElem?_getD, List.getElem?_eq_none (by show 11 ≤ jkc t x; exact z)]
        rfl
      rw [e] at hk
      exact absurd hk (Nat.not_lt_zero _)
theorem same_of {args : Array Value} {s : State} {ref o n d : String} (hw : ∀ w ∈ GW, w.before args s = true) (h : ref = o ∨ Cond.sameField ref o n d ∈ GW) : ∀ z, s.fieldFound? o n d = some z → s.fieldFound? ref n d = some z := by
  intro z hz
  rcases h with h | h
  · rw [h]; exact hz
  · exact u_same (hw _ h) z hz

theorem g_getfield {ph : Bool} {d mid pc : Nat} {info : List Nat} {ls st ls' st' : List JV} {μ μ' ν : JM} {r : Int} {gs : List Prop} {i : Nat} (hd : decode (jbytes mid) pc = .ok ((.getfield i), 3)) (hwd : jwd mid (pc, (.getfield i), info) = true) (hone : jone ph (.getfield i) info ls st μ = some (gs, ls', st', μ')) (hg : ∀ g ∈ gs, g) (G : Good ph d mid (pc + 3) ls' st' μ' r ν) : Good ph d mid pc ls st μ r ν := by
  dsimp only [jone] at hone
  split at hone
  case h_2 => cases hone
  rename_i c k t x st1
  cases hb0 : Nat.beq (jkt t) 0 <;> rw [hb0] at hone
  · cases hone
  cases hb1 : jok c t x <;> rw [hb1] at hone
  · cases hone
  cases hone
  have h0 := Nat.eq_of_beq_eq_true hb0
  have hf : jfld (jown mid) i c k = true := hwd
  obtain ⟨hk, ref, hl, hsm⟩ := fld_facts hf
  obtain ⟨hc11, e1, e2, -⟩ := jok_cls hb1 hk
  rw [← e1] at hl hsm
  refine good_0 rfl ?_ G
  intro p l e R s m args below meth c' Qf base D y H0 cells slots F hRm hls hc hs kk
  obtain ⟨hx, hb, hml, hrt, hlk, ho, hw, hin, hsf, hH0, hbs⟩ := F
  exact o_getf hx hb hw (lw_cl hc11) ho hsf.1 h0 (jT_lt _ hc11).1 e2 (hw _ hl) (same_of hw hsm) hd hg kk

theorem g_putfield {ph : Bool} {d mid pc : Nat} {info : List Nat} {ls st ls' st' : List JV} {μ μ' ν : JM} {r : Int} {gs : List Prop} {i : Nat} (hd : decode (jbytes mid) pc = .ok ((.putfield i), 3)) (hwd : jwd mid (pc, (.putfield i), info) = true) (hone : jone ph (.putfield i) info ls st μ = some (gs, ls', st', μ')) (hg : ∀ g ∈ gs, g) (G : Good ph d mid (pc + 3) ls' st' μ' r ν) : Good ph d mid pc ls st μ r ν := by
  dsimp only [jone] at hone
  split at hone
  case h_2 => cases hone
  rename_i c k z g v t x st1
  cases hb0 : Nat.beq (jkt t) 0 <;> rw [hb0] at hone
  · cases hone
  cases hb1 : jok c t x <;> rw [hb1] at hone
  · cases hone
  cases hb2 : cond (Nat.beq g 11) (Nat.ble 11 v.1) (Nat.beq v.1 g) <;> rw [hb2] at hone
  · cases hone
  dsimp only [cond_true] at hone
  split at hone
  case h_2 => cases hone
  rename_i gs1 w hp
  cases hone
  have h0 := Nat.eq_of_beq_eq_true hb0
  have hf : (jfld (jown mid) i c k && jputk mid c k z g) = true := hwd
  simp only [Bool.and_eq_true] at hf
  obtain ⟨hf, hpk⟩ := hf
  obtain ⟨hk, ref, hl, hsm⟩ := fld_facts hf
  obtain ⟨hc11, e1, e2, e3⟩ := jok_cls hb1 hk
  rw [← e1] at hl hsm
  have hg1 : ∀ g ∈ gs1, g := fun g hgm => hg g (by cases Nat.beq z 1; exact hgm; exact List.mem_cons_of_mem _ (List.mem_cons_of_mem _ hgm))
  unfold jputk at hpk
  simp only [Bool.and_eq_true] at hpk
  obtain ⟨hty, hfin⟩ := hpk
  rw [e3] at hty
  rw [← e1] at hfin
  have hnf : ∀ ad : Nat → Nat, narrow (jty (jkc t x) k) (jval ad v) = jval ad v ∧ fits (jty (jkc t x) k) (jval ad v) = true := by
    intro ad
    by_cases hg0 : g = 0
    · subst hg0
      have hv : v.1 = 0 := Nat.eq_of_beq_eq_true hb2
      rw [jval_0 hv]
      by_cases hz : z = 1
      · subst hz
        have hb : jty (jkc t x) k = .boolean := of_decide_eq_true hty
        rw [hb]
        have a0 : 0 ≤ v.2 := hg _ List.mem_cons_self
        have a1 : v.2 ≤ 1 := hg _ (List.mem_cons_of_mem _ List.mem_cons_self)
        rcases (by omega : v.2 = 0 ∨ v.2 = 1) with q | q <;> rw [q] <;> exact ⟨by decide, by decide⟩
      · rw [nbeq_f hz] at hty
        have hb : jty (jkc t x) k = .int := of_decide_eq_true hty
        rw [hb]
        exact ⟨rfl, rfl⟩
    · rw [nbeq_f hg0] at hty
      by_cases hg3 : g = 3
      · subst hg3
        have hty : (Nat.beq z 0 && decide (jty (jkc t x) k = .long)) = true := hty
        simp only [Bool.and_eq_true, decide_eq_true_eq] at hty
        have hv : v.1 = 3 := Nat.eq_of_beq_eq_true hb2
        rw [hty.2]
        obtain ⟨vt, vx⟩ := v
        have hv : vt = 3 := hv
        subst hv
        exact ⟨rfl, rfl⟩
      · rw [nbeq_f hg3] at hty
        dsimp only [cond_false] at hty
        simp only [Bool.and_eq_true] at hty
        have hg11 : g = 11 := Nat.eq_of_beq_eq_true hty.1.1
        subst hg11
        have hv : 11 ≤ v.1 := Nat.le_of_ble_eq_true hb2
        rw [jval_r hv]
        have h3 := hty.2
        cases hT : jty (jkc t x) k <;> rw [hT] at h3 <;> first | exact ⟨rfl, rfl⟩ | cases h3
  obtain ⟨n53, n54⟩ := jk53 h0 (by decide)
  refine good_w (t := t) (x := x) jloc_jw n53 n54 rfl ?_ G
  intro p l e R s m args below meth c' Qf base D y H0 cells slots F hRm hls hc hs kk
  obtain ⟨hx, hb, hml, hrt, hlk, ho, hw, hin, hsf, hH0, hbs⟩ := F
  cases hfn : ((jT (jkc t x)).2.1 k).2.2.2 with
  | false => exact o_putf hx hb hw (lw_cl hc11) (jty (jkc t x)) (ty_cl hc11) (nm_cl hc11) ho hsf.1 h0 (jT_lt _ hc11).1 e2 (hw _ hl) (same_of hw hsm) hfn (fun ad => (hnf ad).1) (fun ad => (hnf ad).2) hd hp hg1 kk
  | true =>
    rw [hfn] at hfin
    have hfin : (jini mid && decide (((jT (jkc t x)).2.1 k).1 = jon (jown mid))) = true := hfin
    simp only [Bool.and_eq_true, decide_eq_true_eq] at hfin
    exact o_putF hx hb hw (lw_cl hc11) (jty (jkc t x)) (ty_cl hc11) (nm_cl hc11) ho hsf.1 h0 (jT_lt _ hc11).1 e2 (hw _ hl) (same_of hw hsm) hfn (hin hfin.1) hfin.2 (fun ad => (hnf ad).1) (fun ad => (hnf ad).2) hd hp hg1 kk

theorem g_laload {ph : Bool} {d mid pc : Nat} {info : List Nat} {ls st ls' st' : List JV} {μ μ' ν : JM} {r : Int} {gs : List Prop}  (hd : decode (jbytes mid) pc = .ok ((.laload), 1)) (hwd : jwd mid (pc, (.laload), info) = true) (hone : jone ph (.laload) info ls st μ = some (gs, ls', st', μ')) (hg : ∀ g ∈ gs, g) (G : Good ph d mid (pc + 1) ls' st' μ' r ν) : Good ph d mid pc ls st μ r ν := by
  dsimp only [jone] at hone
  split at hone
  case h_2 => cases hone
  rename_i i t x st1
  cases hb0 : Nat.beq (jkt t) 2 <;> rw [hb0] at hone
  · cases hone
  cases hone
  have h0 := Nat.eq_of_beq_eq_true hb0
  refine good_0 rfl ?_ G
  intro p l e R s m args below meth c Qf base D y H0 cells slots F hRm hls hc hs k
  obtain ⟨hx, hb, hml, hrt, hlk, ho, hw, hin, hsf, hH0, hbs⟩ := F
  exact o_laload hx hb hsf.1 h0 hd (hg _ List.mem_cons_self) (hg _ (List.mem_cons_of_mem _ List.mem_cons_self)) k

theorem g_iaload {ph : Bool} {d mid pc : Nat} {info : List Nat} {ls st ls' st' : List JV} {μ μ' ν : JM} {r : Int} {gs : List Prop}  (hd : decode (jbytes mid) pc = .ok ((.iaload), 1)) (hwd : jwd mid (pc, (.iaload), info) = true) (hone : jone ph (.iaload) info ls st μ = some (gs, ls', st', μ')) (hg : ∀ g ∈ gs, g) (G : Good ph d mid (pc + 1) ls' st' μ' r ν) : Good ph d mid pc ls st μ r ν := by
  dsimp only [jone] at hone
  split at hone
  case h_2 => cases hone
  rename_i i t x st1
  cases hb6 : Nat.beq t 6 <;> rw [hb6] at hone
  · cases hb0 : Nat.beq (jkt t) 1 <;> rw [hb0] at hone
    · cases hone
    cases hone
    have h0 := Nat.eq_of_beq_eq_true hb0
    refine good_0 rfl ?_ G
    intro p l e R s m args below meth c Qf base D y H0 cells slots F hRm hls hc hs k
    obtain ⟨hx, hb, hml, hrt, hlk, ho, hw, hin, hsf, hH0, hbs⟩ := F
    exact o_iaload hx hb hsf.1 h0 hd (hg _ List.mem_cons_self) (hg _ (List.mem_cons_of_mem _ List.mem_cons_self)) k
  · cases hone
    have h6 := Nat.eq_of_beq_eq_true hb6
    subst h6
    refine good_0 rfl ?_ G
    intro p l e R s m args below meth c Qf base D y H0 cells slots F hRm hls hc hs k
    obtain ⟨hx, hb, hml, hrt, hlk, ho, hw, hin, hsf, hH0, hbs⟩ := F
    exact o_iaload6 hx hb hsf.2.2.2 hH0 hd (hg _ List.mem_cons_self) (hg _ (List.mem_cons_of_mem _ List.mem_cons_self)) k

theorem g_baload {ph : Bool} {d mid pc : Nat} {info : List Nat} {ls st ls' st' : List JV} {μ μ' ν : JM} {r : Int} {gs : List Prop}  (hd : decode (jbytes mid) pc = .ok ((.baload), 1)) (hwd : jwd mid (pc, (.baload), info) = true) (hone : jone ph (.baload) info ls st μ = some (gs, ls', st', μ')) (hg : ∀ g ∈ gs, g) (G : Good ph d mid (pc + 1) ls' st' μ' r ν) : Good ph d mid pc ls st μ r ν := by
  dsimp only [jone] at hone
  split at hone
  case h_2 => cases hone
  rename_i i t x st1
  cases hb0 : Nat.beq (jkt t) 3 <;> rw [hb0] at hone
  · cases hb1 : Nat.beq (jkt t) 4 <;> rw [hb1] at hone
    · cases hone
    · cases hone
      have h0 := Nat.eq_of_beq_eq_true hb1
      refine good_0 rfl ?_ G
      intro p l e R s m args below meth c Qf base D y H0 cells slots F hRm hls hc hs k
      obtain ⟨hx, hb, hml, hrt, hlk, ho, hw, hin, hsf, hH0, hbs⟩ := F
      exact o_zaload hx hb hsf.1 h0 hd (hg _ List.mem_cons_self) (hg _ (List.mem_cons_of_mem _ List.mem_cons_self)) k
  · cases hone
    have h0 := Nat.eq_of_beq_eq_true hb0
    refine good_0 rfl ?_ G
    intro p l e R s m args below meth c Qf base D y H0 cells slots F hRm hls hc hs k
    obtain ⟨hx, hb, hml, hrt, hlk, ho, hw, hin, hsf, hH0, hbs⟩ := F
    exact o_baload hx hb hsf.1 h0 hd (hg _ List.mem_cons_self) (hg _ (List.mem_cons_of_mem _ List.mem_cons_self)) k

theorem g_aaload {ph : Bool} {d mid pc : Nat} {info : List Nat} {ls st ls' st' : List JV} {μ μ' ν : JM} {r : Int} {gs : List Prop}  (hd : decode (jbytes mid) pc = .ok ((.aaload), 1)) (hwd : jwd mid (pc, (.aaload), info) = true) (hone : jone ph (.aaload) info ls st μ = some (gs, ls', st', μ')) (hg : ∀ g ∈ gs, g) (G : Good ph d mid (pc + 1) ls' st' μ' r ν) : Good ph d mid pc ls st μ r ν := by
  dsimp only [jone] at hone
  split at hone
  case h_2 => cases hone
  rename_i i t x st1
  cases hb0 : Nat.beq (jkt t) 5 <;> rw [hb0] at hone
  · cases hone
  cases hone
  have h0 := Nat.eq_of_beq_eq_true hb0
  refine good_0 rfl ?_ G
  intro p l e R s m args below meth c Qf base D y H0 cells slots F hRm hls hc hs k
  obtain ⟨hx, hb, hml, hrt, hlk, ho, hw, hin, hsf, hH0, hbs⟩ := F
  exact o_aaload hx hb hsf.1 h0 hd (hg _ List.mem_cons_self) (hg _ (List.mem_cons_of_mem _ List.mem_cons_self)) (fun g hgm => hg g (List.mem_cons_of_mem _ (List.mem_cons_of_mem _ hgm))) k

theorem g_iastore {ph : Bool} {d mid pc : Nat} {info : List Nat} {ls st ls' st' : List JV} {μ μ' ν : JM} {r : Int} {gs : List Prop}  (hd : decode (jbytes mid) pc = .ok ((.iastore), 1)) (hwd : jwd mid (pc, (.iastore), info) = true) (hone : jone ph (.iastore) info ls st μ = some (gs, ls', st', μ')) (hg : ∀ g ∈ gs, g) (G : Good ph d mid (pc + 1) ls' st' μ' r ν) : Good ph d mid pc ls st μ r ν := by
  dsimp only [jone] at hone
  split at hone
  case h_2 => cases hone
  rename_i v i t x st1
  cases hb0 : Nat.beq (jkt t) 1 <;> rw [hb0] at hone
  · cases hone
  cases hone
  have h0 := Nat.eq_of_beq_eq_true hb0
  obtain ⟨n53, n54⟩ := jk53 h0 (by decide)
  refine good_w (t := t) (x := x) jloc_jw n53 n54 rfl ?_ G
  intro p l e R s m args below meth c Qf base D y H0 cells slots F hRm hls hc hs k
  obtain ⟨hx, hb, hml, hrt, hlk, ho, hw, hin, hsf, hH0, hbs⟩ := F
  exact o_iastore hx hb hsf.1 h0 hd (hg _ List.mem_cons_self) (hg _ (List.mem_cons_of_mem _ List.mem_cons_self)) k

theorem g_lastore {ph : Bool} {d mid pc : Nat} {info : List Nat} {ls st ls' st' : List JV} {μ μ' ν : JM} {r : Int} {gs : List Prop}  (hd : decode (jbytes mid) pc = .ok ((.lastore), 1)) (hwd : jwd mid (pc, (.lastore), info) = true) (hone : jone ph (.lastore) info ls st μ = some (gs, ls', st', μ')) (hg : ∀ g ∈ gs, g) (G : Good ph d mid (pc + 1) ls' st' μ' r ν) : Good ph d mid pc ls st μ r ν := by
  dsimp only [jone] at hone
  split at hone
  case h_2 => cases hone
  rename_i v i t x st1
  cases hb0 : Nat.beq (jkt t) 2 <;> rw [hb0] at hone
  · cases hone
  cases hone
  have h0 := Nat.eq_of_beq_eq_true hb0
  obtain ⟨n53, n54⟩ := jk53 h0 (by decide)
  refine good_w (t := t) (x := x) jloc_jw n53 n54 rfl ?_ G
  intro p l e R s m args below meth c Qf base D y H0 cells slots F hRm hls hc hs k
  obtain ⟨hx, hb, hml, hrt, hlk, ho, hw, hin, hsf, hH0, hbs⟩ := F
  exact o_lastore hx hb hsf.1 h0 hd (hg _ List.mem_cons_self) (hg _ (List.mem_cons_of_mem _ List.mem_cons_self)) k

theorem nar_b {v : Int} (h0 : -128 ≤ v) (h1 : v < 128) : vp_nar .byte (Int32.ofInt v) = Int32.ofInt v := by
  rw [vp_nar_byte]
  have e : ∀ n : Nat, n < 256 → (Int32.ofInt ((n : Int) - 128)).toInt8.toInt32 = Int32.ofInt ((n : Int) - 128) := by decide +kernel
  have := e (v + 128).toNat (by omega)
  rw [show (((v + 128).toNat : Nat) : Int) - 128 = v by omega] at this
  exact this

theorem g_bastore {ph : Bool} {d mid pc : Nat} {info : List Nat} {ls st ls' st' : List JV} {μ μ' ν : JM} {r : Int} {gs : List Prop}  (hd : decode (jbytes mid) pc = .ok ((.bastore), 1)) (hwd : jwd mid (pc, (.bastore), info) = true) (hone : jone ph (.bastore) info ls st μ = some (gs, ls', st', μ')) (hg : ∀ g ∈ gs, g) (G : Good ph d mid (pc + 1) ls' st' μ' r ν) : Good ph d mid pc ls st μ r ν := by
  dsimp only [jone] at hone
  split at hone
  case h_2 => cases hone
  rename_i v i t x st1
  cases hb0 : Nat.beq (jkt t) 3 <;> rw [hb0] at hone
  · cases hb1 : Nat.beq (jkt t) 4 <;> rw [hb1] at hone
    · cases hone
    · cases hone
      have h0 := Nat.eq_of_beq_eq_true hb1
      obtain ⟨n53, n54⟩ := jk53 h0 (by decide)
      refine good_w (t := t) (x := x) jloc_jw n53 n54 rfl ?_ G
      intro p l e R s m args below meth c Qf base D y H0 cells slots F hRm hls hc hs k
      obtain ⟨hx, hb, hml, hrt, hlk, ho, hw, hin, hsf, hH0, hbs⟩ := F
      have a0 : 0 ≤ v := hg _ (List.mem_cons_of_mem _ (List.mem_cons_of_mem _ List.mem_cons_self))
      have a1 : v ≤ 1 := hg _ (List.mem_cons_of_mem _ (List.mem_cons_of_mem _ (List.mem_cons_of_mem _ List.mem_cons_self)))
      exact o_zastore hx hb hsf.1 h0 hd (hg _ List.mem_cons_self) (hg _ (List.mem_cons_of_mem _ List.mem_cons_self)) (by rcases (by omega : v = 0 ∨ v = 1) with q | q <;> rw [q] <;> decide) k
  · cases hone
    have h0 := Nat.eq_of_beq_eq_true hb0
    obtain ⟨n53, n54⟩ := jk53 h0 (by decide)
    refine good_w (t := t) (x := x) jloc_jw n53 n54 rfl ?_ G
    intro p l e R s m args below meth c Qf base D y H0 cells slots F hRm hls hc hs k
    obtain ⟨hx, hb, hml, hrt, hlk, ho, hw, hin, hsf, hH0, hbs⟩ := F
    exact o_bastore hx hb hsf.1 h0 hd (hg _ List.mem_cons_self) (hg _ (List.mem_cons_of_mem _ List.mem_cons_self)) (nar_b (hg _ (List.mem_cons_of_mem _ (List.mem_cons_of_mem _ List.mem_cons_self))) (hg _ (List.mem_cons_of_mem _ (List.mem_cons_of_mem _ (List.mem_cons_of_mem _ List.mem_cons_self))))) k

theorem g_aastore {ph : Bool} {d mid pc : Nat} {info : List Nat} {ls st ls' st' : List JV} {μ μ' ν : JM} {r : Int} {gs : List Prop}  (hd : decode (jbytes mid) pc = .ok ((.aastore), 1)) (hwd : jwd mid (pc, (.aastore), info) = true) (hone : jone ph (.aastore) info ls st μ = some (gs, ls', st', μ')) (hg : ∀ g ∈ gs, g) (G : Good ph d mid (pc + 1) ls' st' μ' r ν) : Good ph d mid pc ls st μ r ν := by
  dsimp only [jone] at hone
  split at hone
  case h_2 => cases hone
  rename_i v i t x st1
  cases hb0 : Nat.beq (jkt t) 5 <;> rw [hb0] at hone
  · cases hone
  dsimp only [cond_true] at hone
  split at hone
  case h_2 => cases hone
  rename_i gs1 w hp
  cases hone
  have h0 := Nat.eq_of_beq_eq_true hb0
  obtain ⟨n53, n54⟩ := jk53 h0 (by decide)
  refine good_w (t := t) (x := x) jloc_jw n53 n54 rfl ?_ G
  intro p l e R s m args below meth c Qf base D y H0 cells slots F hRm hls hc hs k
  obtain ⟨hx, hb, hml, hrt, hlk, ho, hw, hin, hsf, hH0, hbs⟩ := F
  exact o_aastore hx hb hsf.1 h0 hd (hg _ List.mem_cons_self) (hg _ (List.mem_cons_of_mem _ List.mem_cons_self)) hp (fun g hgm => hg g (List.mem_cons_of_mem _ (List.mem_cons_of_mem _ hgm))) k

theorem g_arraylength {ph : Bool} {d mid pc : Nat} {info : List Nat} {ls st ls' st' : List JV} {μ μ' ν : JM} {r : Int} {gs : List Prop}  (hd : decode (jbytes mid) pc = .ok ((.arraylength), 1)) (hwd : jwd mid (pc, (.arraylength), info) = true) (hone : jone ph (.arraylength) info ls st μ = some (gs, ls', st', μ')) (hg : ∀ g ∈ gs, g) (G : Good ph d mid (pc + 1) ls' st' μ' r ν) : Good ph d mid pc ls st μ r ν := by
  dsimp only [jone] at hone
  split at hone
  case h_2 => cases hone
  rename_i t x st1
  cases hb6 : Nat.beq t 6 <;> rw [hb6] at hone
  · cases hb0 : Nat.beq (jkt t) 1 <;> rw [hb0] at hone
    · cases hone
    cases hone
    have h0 := Nat.eq_of_beq_eq_true hb0
    refine good_0 rfl ?_ G
    intro p l e R s m args below meth c Qf base D y H0 cells slots F hRm hls hc hs k
    obtain ⟨hx, hb, hml, hrt, hlk, ho, hw, hin, hsf, hH0, hbs⟩ := F
    exact o_alen hx hb hsf.1 h0 hd k
  · cases hone
    have h6 := Nat.eq_of_beq_eq_true hb6
    subst h6
    refine good_0 rfl ?_ G
    intro p l e R s m args below meth c Qf base D y H0 cells slots F hRm hls hc hs k
    obtain ⟨hx, hb, hml, hrt, hlk, ho, hw, hin, hsf, hH0, hbs⟩ := F
    exact o_alen6 hx hb hsf.2.2.2 hH0 hd k
