/-! MEETINGS, BRANCHES, RETURNS: their Good -/
theorem g_meet1 {ph : Bool} {d mid pc idx q : Nat} {ls st : List JV} {v u : JV} {μ ν ν2 : JM} {r r2 : Int} (hid : q ≠ 322) (hj : jrj q = true) (hnp : jnp q = 1) (hst : jstat q = false) (hrt : jrt q = 8) (hk : jkc 22 u.2 = jown q) (h11 : jown q < 11)
    (hsel : Cond.selects (jon (jown q)) ⟨"RoundTrips$Hunt", "meet", "(I)V"⟩ (jy q) ∈ GW) (hdesc : (parseMethodDescriptor "(I)V").map (fun d => d.parameters.length) = some 1) (hd : decode (jbytes mid) pc = .ok (.invokevirtual idx, 3)) (hs6 : Cond.methodLink (jon (jown mid)) idx ⟨"RoundTrips$Hunt", "meet", "(I)V"⟩ ∈ GW) (hv : v.1 = 0) (hu : u.1 = 22) (hc8 : jcat st ≤ 8)
    (GC : Good ph d q 0 (jinit (jnl q) [u, v]) [] μ r ν) (GR : Good ph (d + 1) mid (pc + 3) ls st ν r2 ν2) : Good ph (d + 1) mid pc ls (v :: u :: st) μ r2 ν2 := by
  unfold jrj at hj
  simp only [Bool.and_eq_true] at hj
  obtain ⟨⟨⟨hm, hrk⟩, h11'⟩, h9⟩ := hj
  obtain ⟨m1, m2, m3, m4, m5, m6, m7, m8, m9, m10⟩ := mwk_facts hid hm
  rw [hst, hnp] at m10
  rw [hst] at m2
  have h3 : jno3 [u, v] = true := by
    unfold jno3
    rw [nbeq_f (by rw [hu]; decide)]
    show jno3 [v] = true
    unfold jno3
    rw [nbeq_f (by rw [hv]; decide)]
    rfl
  refine g_callx (n := 2) (rt := 8) (st := v :: u :: st) hc8 GC GR ?_
  intro p l e R s m args below meth c base D y H0 cells slots ad H locs lsR F hRm hsz hc hs hR hS hO
  obtain ⟨hx, hb, hml, hrt', hlk, ho, hw, hin, hsf, hH0, hbs⟩ := F
  have hokl : ∀ w ∈ [u, v], jokv μ w := fun w hw' => by
    simp only [List.mem_cons, List.not_mem_nil, or_false] at hw'
    rcases hw' with rfl | rfl
    · exact hO _ (List.mem_cons_of_mem _ List.mem_cons_self)
    · exact hO _ List.mem_cons_self
  have hM := good_met (l := l) (base := base) (D := D) (y := jy2 y (jn μ) ad) (ad := ad) (al := [u, v]) hid hm hrk (by simpa using m10) h3 hokl GC
  have hp := jpre (av := [u, v].map (jval ad)) hR hS hH0 hsf
  have hu11 : 11 ≤ u.1 := by rw [hu]; decide
  have hvu : jval ad u = .ref (ad (jix u.1 u.2)) := jval_r hu11
  have hcell := jrecv (ad := ad) hR hsf (t := u.1) (by rw [hu]; decide) (hO u (List.mem_cons_of_mem _ List.mem_cons_self) hu11) (by rw [hu, hk]; exact h11)
  rw [hu, hk] at hcell
  rw [← hu] at hcell
  rw [hrt] at hM
  have e1 : [u, v].map (jval ad) = .ref (ad (jix u.1 u.2)) :: [jval ad v] := by rw [List.map_cons, hvu]; rfl
  rw [e1] at hM hp
  refine ⟨#[], ?_⟩
  show va_Run p l e R s m args below meth c H locs cells slots _ _ (F0 m pc lsR (jval ad v :: jval ad u :: st.map (jval ad))) (st.map (jval ad)) _ _
  rw [hvu]
  exact va_runU (index := idx) (n := 1) (own := jon (jown mid)) (cc := jbytes mid) (nL := jnl mid) (As := [jval ad v]) (C := jon (jown q)) (owner := "RoundTrips$Hunt") (x := ⟨"RoundTrips$Hunt", "meet", "(I)V"⟩) ⟨hx, hb, hml, ho, hw⟩ hM (va_cwA 1 hw (gw_of (fun w hw' => by
    unfold va_wsU at hw'
    rcases List.mem_append.mp hw' with h | h
    · simp only [List.mem_cons, List.not_mem_nil, or_false] at h
      rcases h with rfl | rfl | rfl | rfl | rfl
      · exact hs6
      · exact jwp_in wm_same
      · exact hsel
      · exact m2
      · exact m3
    · exact gw_cons m1 w h)) rfl rfl rfl (hsf.2.1 _ (jwn_in wm_decl)) ⟨by decide, by decide, hdesc⟩ (jroom hRm m9)) ⟨hp.1, hcell, hp.2⟩ rfl rfl hsz rfl (jmr hc8) hd ⟨hc, hs⟩
/-- a branch taken; one not taken -/
theorem g_brt {ph : Bool} {d mid pc tgt : Nat} {ins : Instr} {info : List Nat} {ls st st' : List JV} {μ ν : JM} {r : Int} {g c : Prop} (hd : decode (jbytes mid) pc = .ok (ins, 3)) (hwd : jwd mid (pc, ins, info) = true) (hbr : jbrn ins st = some (g, c, st')) (hg : g) (hc : c) (ht : info.getD 0 0 = tgt) (G : Good ph d mid tgt ls st' μ r ν) : Good ph d mid pc ls st μ r ν := by
  subst ht
  unfold jbrn at hbr
  split at hbr
  · split at hbr
    · cases hbr
      refine good_0 rfl ?_ G
      intro p l e R s m args below meth c Qf base D y H0 cells slots F hRm hls hcc hs k
      obtain ⟨hx, hb, -⟩ := F
      exact o_icmp hx hb hd (of_decide_eq_true hwd) hg (fun _ => k) (fun h => absurd hc h)
    · cases hbr
  · split at hbr
    · cases hbr
      refine good_0 rfl ?_ G
      intro p l e R s m args below meth c Qf base D y H0 cells slots F hRm hls hcc hs k
      obtain ⟨hx, hb, -⟩ := F
      exact o_if hx hb hd (of_decide_eq_true hwd) hg (fun _ => k) (fun h => absurd hc h)
    · cases hbr
  · cases hbr
theorem g_brf {ph : Bool} {d mid pc : Nat} {ins : Instr} {info : List Nat} {ls st st' : List JV} {μ ν : JM} {r : Int} {g c : Prop} (hd : decode (jbytes mid) pc = .ok (ins, 3)) (hwd : jwd mid (pc, ins, info) = true) (hbr : jbrn ins st = some (g, c, st')) (hg : g) (hc : ¬ c) (G : Good ph d mid (pc + 3) ls st' μ r ν) : Good ph d mid pc ls st μ r ν := by
  unfold jbrn at hbr
  split at hbr
  · split at hbr
    · cases hbr
      refine good_0 rfl ?_ G
      intro p l e R s m args below meth c Qf base D y H0 cells slots F hRm hls hcc hs k
      obtain ⟨hx, hb, -⟩ := F
      exact o_icmp hx hb hd (of_decide_eq_true hwd) hg (fun h => absurd h hc) (fun _ => k)
    · cases hbr
  · split at hbr
    · cases hbr
      refine good_0 rfl ?_ G
      intro p l e R s m args below meth c Qf base D y H0 cells slots F hRm hls hcc hs k
      obtain ⟨hx, hb, -⟩ := F
      exact o_if hx hb hd (of_decide_eq_true hwd) hg (fun h => absurd h hc) (fun _ => k)
    · cases hbr
  · cases hbr
theorem g_goto {ph : Bool} {d mid pc : Nat} {off : Int} {info : List Nat} {ls st : List JV} {μ ν : JM} {r : Int} (hd : decode (jbytes mid) pc = .ok (.goto off, 3)) (hwd : jwd mid (pc, .goto off, info) = true) (G : Good ph d mid (info.getD 0 0) ls st μ r ν) : Good ph d mid pc ls st μ r ν := by
  refine good_0 rfl ?_ G
  intro p l e R s m args below meth c Qf base D y H0 cells slots F hRm hls hcc hs k
  obtain ⟨hx, hb, -⟩ := F
  exact o_goto hx hb hd (of_decide_eq_true hwd) k
/-- the case that a switch takes -/
theorem jsw_sel {x : Int} {J : Nat → Prop} {dflt : Nat} : ∀ {l : List Nat}, jsw x J dflt l → ∃ t, J t ∧ ∀ K : Nat → Prop, K t → jsw x K dflt l
  | [], h => ⟨dflt, h, fun _ k => k⟩
  | [_], h => ⟨dflt, h, fun _ k => k⟩
  | k :: t :: r, h => by
    by_cases hx : x = (k : Int)
    · exact ⟨t, h.1 hx, fun K hk => ⟨fun _ => hk, fun z => absurd hx z⟩⟩
    · obtain ⟨t', h1, h2⟩ := jsw_sel (h.2 hx)
      exact ⟨t', h1, fun K hk => ⟨fun z => absurd z hx, fun _ => h2 K hk⟩⟩
theorem g_tsw {ph : Bool} {d mid pc t len : Nat} {x df lo hi : Int} {offs : Array Int} {info : List Nat} {ls st : List JV} {μ ν : JM} {r : Int} (hd : decode (jbytes mid) pc = .ok (.tableswitch df lo hi offs, len)) (hwd : jwd mid (pc, .tableswitch df lo hi offs, info) = true) (hx2 : inR x) (hsel : ∀ K : Nat → Prop, K t → jsw x K (info.getD 0 0) (info.drop 1)) (G : Good ph d mid t ls st μ r ν) : Good ph d mid pc ls ((0, x) :: st) μ r ν := by
  have hwd : (decide ((pc : Int) + df = ((info.getD 0 0 : Nat) : Int)) && decide (hi = lo + offs.toList.length - 1) && jtb pc lo offs.toList (info.drop 1)) = true := hwd
  simp only [Bool.and_eq_true, decide_eq_true_eq] at hwd
  refine good_0 rfl ?_ G
  intro p l e R s m args below meth c Qf base D y H0 cells slots F hRm hls hcc hs k
  obtain ⟨hx, hb, -⟩ := F
  exact o_tsw hx hb hd hx2 hwd.1.1 hwd.1.2 hwd.2 (hsel _ k)
theorem g_lsw {ph : Bool} {d mid pc t len : Nat} {x df : Int} {ps : Array (Int × Int)} {info : List Nat} {ls st : List JV} {μ ν : JM} {r : Int} (hd : decode (jbytes mid) pc = .ok (.lookupswitch df ps, len)) (hwd : jwd mid (pc, .lookupswitch df ps, info) = true) (hx2 : inR x) (hsel : ∀ K : Nat → Prop, K t → jsw x K (info.getD 0 0) (info.drop 1)) (G : Good ph d mid t ls st μ r ν) : Good ph d mid pc ls ((0, x) :: st) μ r ν := by
  have hwd : (decide ((pc : Int) + df = ((info.getD 0 0 : Nat) : Int)) && (ps.toList.zip (ps.toList.drop 1)).all (fun (a, next) => a.1 < next.1) && jlb pc ps.toList (info.drop 1)) = true := hwd
  simp only [Bool.and_eq_true, decide_eq_true_eq] at hwd
  refine good_0 rfl ?_ G
  intro p l e R s m args below meth c Qf base D y H0 cells slots F hRm hls hcc hs k
  obtain ⟨hx, hb, -⟩ := F
  exact o_lsw hx hb hd hx2 hwd.1.1 hwd.1.2 hwd.2 (hsel _ k)
/-- a return -/
theorem g_retx {ph : Bool} {d mid pc : Nat} {ls st : List JV} {μ : JM} {r : Int} (hd : decode (jbytes mid) pc = .ok (jri mid, 1)) (hst : st = jpush (jrt mid) r []) (h22 : jrt mid = 22 → r = 0) (h01 : jret mid = some .boolean → 0 ≤ r ∧ r ≤ 1) : Good ph d mid pc ls st μ r μ := by
  subst hst
  refine ⟨⟨Int.le_refl _, Int.le_refl _⟩, ⟨h22, h01⟩, ?_⟩
  intro p l e R s m args below meth c Qf base D y H0 cells slots F hRm hls hcc hs k
  have hk := k pc ls hls hd
  rw [Int.sub_self, Int.sub_self] at hk
  exact hk
theorem g_ret {ph : Bool} {d mid pc : Nat} {ins : Instr} {info : List Nat} {ls st : List JV} {μ : JM} {gs : List Prop} {r : Int} (hd : decode (jbytes mid) pc = .ok (ins, 1)) (hwd : jwd mid (pc, ins, info) = true) (hr : jrtn ins info st = some (gs, r)) (hg : ∀ g ∈ gs, g) : Good ph d mid pc ls st μ r μ := by
  unfold jrtn at hr
  split at hr
  · split at hr
    · cases hr
      have hwd : (decide (jret mid = some .int) && Nat.beq (jrt mid) 0) = true := hwd
      simp only [Bool.and_eq_true, decide_eq_true_eq] at hwd
      have e0 := Nat.eq_of_beq_eq_true hwd.2
      refine g_retx (by unfold jri; rw [hwd.1]; exact hd) (by rw [e0]; rfl) (fun z => by rw [e0] at z; cases z) (fun z => by rw [hwd.1] at z; cases z)
    · cases hr
      have hwd : (decide (jret mid = some .boolean) && Nat.beq (jrt mid) 0) = true := hwd
      simp only [Bool.and_eq_true, decide_eq_true_eq] at hwd
      have e0 := Nat.eq_of_beq_eq_true hwd.2
      refine g_retx (by unfold jri; rw [hwd.1]; exact hd) (by rw [e0]; rfl) (fun z => by rw [e0] at z; cases z) (fun _ => ⟨hg _ List.mem_cons_self, hg _ (List.mem_cons_of_mem _ List.mem_cons_self)⟩)
    · cases hr
  · split at hr
    · cases hr
      have hwd : (decide (jret mid = some .float) && Nat.beq (jrt mid) 2) = true := hwd
      simp only [Bool.and_eq_true, decide_eq_true_eq] at hwd
      have e0 := Nat.eq_of_beq_eq_true hwd.2
      refine g_retx (by unfold jri; rw [hwd.1]; exact hd) (by rw [e0]; rfl) (fun z => by rw [e0] at z; cases z) (fun z => by rw [hwd.1] at z; cases z)
    · cases hr
  · split at hr
    · rename_i t t' x
      cases h1 : Nat.beq t t' <;> rw [h1] at hr
      · cases hr
      have h1 := Nat.eq_of_beq_eq_true h1
      subst h1
      cases h2 : Nat.beq t 22 <;> rw [h2] at hr
      · cases hr
        have h50 : t = 50 ∧ jret mid = some (.array .int) ∧ jrt mid = 50 := by
          by_cases h50 : t = 50
          · subst h50
            have hwd : (decide (jret mid = some (.array .int)) && Nat.beq (jrt mid) 50) = true := hwd
            simp only [Bool.and_eq_true, decide_eq_true_eq] at hwd
            exact ⟨rfl, hwd.1, Nat.eq_of_beq_eq_true hwd.2⟩
          · exfalso
            have h22 : t ≠ 22 := fun q => by rw [nbeq_t q] at h2; cases h2
            unfold jwd at hwd
            dsimp only at hwd
            split at hwd
            · rename_i z; exact h22 (by simpa using z)
            · rename_i z; exact h50 (by simpa using z)
            · cases hwd
            · rename_i z; exact z _ rfl
        obtain ⟨rfl, e1, e0⟩ := h50
        refine g_retx (by unfold jri; rw [e1]; exact hd) (by rw [e0]; rfl) (fun z => by rw [e0] at z; cases z) (fun z => by rw [e1] at z; cases z)
      · cases hr
        have h2 := Nat.eq_of_beq_eq_true h2
        subst h2
        have hwd : (decide (jret mid = some (.object "RoundTrips$Rounds")) && Nat.beq (jrt mid) 22) = true := hwd
        simp only [Bool.and_eq_true, decide_eq_true_eq] at hwd
        have e0 := Nat.eq_of_beq_eq_true hwd.2
        have hr0 : r = 0 := hg _ List.mem_cons_self
        refine g_retx (by unfold jri; rw [hwd.1]; exact hd) (by rw [e0, hr0]; rfl) (fun _ => hr0) (fun z => by rw [hwd.1] at z; cases z)
    · cases hr
  · split at hr
    · cases hr
      have hwd : (decide (jret mid = none) && Nat.beq (jrt mid) 8) = true := hwd
      simp only [Bool.and_eq_true, decide_eq_true_eq] at hwd
      have e0 := Nat.eq_of_beq_eq_true hwd.2
      refine g_retx (by unfold jri; rw [hwd.1]; exact hd) (by rw [e0] <;> rfl) (fun _ => rfl) (fun z => by rw [hwd.1] at z; cases z)
    · cases hr
  · cases hr
