/-! AT THE LAW'S ENTRY -/
theorem w_call_c {ph : Bool} {d mid pc idx id n rt : Nat} {ls st : List JV} {μ ν : JM} {r : Int} {p : Program} {l : Launch} {e : Env} {R : Room} {s : State} {m : MethodId} {args : Array Value} {below : List Frame} {meth : Method} {c : Code} {Qf : State → Prop} {base : Nat} {D : va_G} {y : Nat → ClassId} {H0 : Heap} {cells slots : Nat} (hid : id ≠ 322) (hj : jrj id = true) (hd : decode (jbytes mid) pc = .ok (.invokespecial idx, 3)) (hwd : jwd mid (pc, .invokespecial idx, [0, id, n, rt]) = true) (hn : n ≤ st.length) (hc8 : jcat (st.drop n) ≤ 8) (hrc : jrc (.invokespecial idx) mid id (st.take n).reverse = true)
    (GC : Good ph d id 0 (jinit (jnl id) (st.take n).reverse) [] μ r ν) (F : JF p s m args meth c base D y H0 mid) (hRm : JRm (d + 1) R) (hls : ls.length = jnl mid) (hc : cells + (ν 53 0 0 - μ 53 0 0).toNat ≤ R.cells) (hs : slots + (ν 54 0 0 - μ 54 0 0).toNat ≤ R.slots)
    (k : WJ p l e R s m args below meth c Qf base D y H0 ph (pc + 3) ls (jpush rt r (st.drop n)) ν (cells + (ν 53 0 0 - μ 53 0 0).toNat) (slots + (ν 54 0 0 - μ 54 0 0).toNat)) : WJ p l e R s m args below meth c Qf base D y H0 ph pc ls st μ cells slots := by
  unfold jrj at hj
  simp only [Bool.and_eq_true] at hj
  obtain ⟨⟨⟨hm, hrk⟩, h11⟩, h9⟩ := hj
  obtain ⟨m1, m2, m3, m4, m5, m6, m7, m8, m9, m10⟩ := mwk_facts hid hm
  have hwd : (Nat.beq n (jnp id + 1) && Nat.beq rt (jrt id) && cond (jstat id) false true && jini id && decide (jret id = none) && (jsite (jown mid) idx 2 id || jsite (jown mid) idx 3 id)) = true := hwd
  simp only [Bool.and_eq_true, Bool.or_eq_true, decide_eq_true_eq] at hwd
  obtain ⟨⟨⟨⟨⟨en, ert⟩, est⟩, eini⟩, eret⟩, hsite⟩ := hwd
  have en := Nat.eq_of_beq_eq_true en
  have ert := Nat.eq_of_beq_eq_true ert
  subst en ert
  have est : jstat id = false := by
    cases h : jstat id with
    | false => rfl
    | true => rw [h] at est; cases est
  rw [est] at m2 m10
  have h3 := jrc_n hrc
  have hl := jtake_len hn
  intro ad H locs lsR hR hS hJ hO
  have hsz : lsR.size = jnl mid := hJ.1.1.trans hls
  suffices hr : ∃ a', va_Run p l e R s m args below meth c H locs cells slots (ν 53 0 0 - μ 53 0 0).toNat (ν 54 0 0 - μ 54 0 0).toNat (F0 m pc lsR (st.map (jval ad))) ((st.drop (jnp id + 1)).map (jval ad)) (JQc base D (jy2 y (jn μ) ad) ph ν (jrt id) r a') (fun q => base ≤ q) by
    obtain ⟨a', hr⟩ := hr
    exact jback hR hS hJ (jtake_ok hO).2 hr k
  obtain ⟨hx, hb, hml, hrt, hlk, ho, hw, hin, hsf, hH0, hbs⟩ := F
  have hM := good_met (l := l) (base := base) (D := D) (y := jy2 y (jn μ) ad) (ad := ad) hid hm hrk (by rw [hl]; simpa using m10) h3 (jtake_ok hO).1 GC
  have hp := jpre (av := (st.take (jnp id + 1)).reverse.map (jval ad)) hR hS hH0 hsf
  rw [jstk_split (n := jnp id + 1)]
  unfold jrc at hrc
  rw [h3] at hrc
  cases hal : (st.take (jnp id + 1)).reverse with
  | nil => rw [hal] at hl; cases hl
  | cons v al =>
    rw [hal] at hrc hM hp hl
    have h11 : 11 ≤ v.1 := Nat.le_of_ble_eq_true hrc
    have hv : jval ad v = .ref (ad (jix v.1 v.2)) := jval_r h11
    rw [List.map_cons, hv] at hM hp ⊢
    rw [List.reverse_cons, List.append_assoc]
    have hla : (al.map (jval ad)).length = jnp id := by rw [List.length_map]; simpa using hl
    rw [eret] at hM
    have hin2 : (Cond.instanceMethod (jy id)).before args s = true := hw _ m2
    rw [eret] at m1
    refine ⟨#[], ?_⟩
    rcases hsite with hsite | hsite
    · exact va_runI (index := idx) (n := jnp id) (own := jon (jown mid)) (cc := jbytes mid) (nL := jnl mid) ⟨hx, hb, hml, ho, hw⟩ hM (cwI (jnp id) hw (gw_of (fun w hw' => by
        rcases List.mem_cons.mp hw' with rfl | h
        · exact m1
        · exact h)) rfl rfl rfl (hw _ m3) (hw _ (site2 hsite)) hin2 (m8 eini) m6 (jroom hRm m9)) hp rfl hla hsz rfl (jmr hc8) hd ⟨hc, hs⟩
    · exact va_runIN (index := idx) (n := jnp id) (own := jon (jown mid)) (host := "RoundTrips") (cc := jbytes mid) (nL := jnl mid) ⟨hx, hb, hml, ho, hw⟩ hM ⟨va_cnB (jnp id) hw (gw_of (fun w hw' => by
        rcases List.mem_cons.mp hw' with rfl | h
        · exact m1
        · exact h)) rfl rfl rfl (hsf.2.1 _ (site3 hsite)) (hw _ m3) m6 (jroom hRm m9), m8 eini, hin2⟩ hp rfl hla hsz rfl (jmr hc8) hd ⟨hc, hs⟩
theorem w_new {mid pc i cc t n : Nat} {ls st : List JV} {μ : JM} {p : Program} {l : Launch} {e : Env} {R : Room} {s : State} {m : MethodId} {args : Array Value} {below : List Frame} {meth : Method} {c : Code} {Qf : State → Prop} {base : Nat} {D : va_G} {y : Nat → ClassId} {H0 : Heap} {cells slots : Nat} (hd : decode (jbytes mid) pc = .ok (.new i, 3)) (hn : jnwo (jown mid) i cc t n = true) (a0 : jkc t (jlab (μ 53 0 0)).2 = cc) (a1 : jlab (μ 53 0 0) = (t, (jlab (μ 53 0 0)).2)) (a2 : 0 ≤ μ 53 0 0) (a3 : μ 53 0 0 < 600000) (F : JF p s m args meth c base D y H0 mid) (hc : cells + 1 ≤ R.cells) (hs : slots + n ≤ R.slots)
    (k : WJ p l e R s m args below meth c Qf base D y H0 false (pc + 3) ls ((t, (jlab (μ 53 0 0)).2) :: st) (jnw μ t (n : Int)) (cells + 1) (slots + n)) : WJ p l e R s m args below meth c Qf base D y H0 false pc ls st μ cells slots := by
  obtain ⟨c11, eN, ht, w1, w2, w3⟩ := nwo_facts hn
  obtain ⟨hx, hb, hml, hrt, hlk, ho, hw, hin, hsf, hH0, hbs⟩ := F
  have e1 : (jT (jkc t (jlab (μ 53 0 0)).2)).2.2 = n := by rw [a0]; exact eN
  have hdf := df_of a2 a1 ht
  rw [← e1] at hs k
  refine o_new hx hb rfl hw (lw_cl (c := jkc t (jlab (μ 53 0 0)).2) (by rw [a0]; exact c11)) (jty (jkc t (jlab (μ 53 0 0)).2)) (ty_cl (by rw [a0]; exact c11)) ho (hw _ (by rw [a0]; exact w1)) (hw _ (by rw [e1, a0]; exact w2)) (hw _ (by rw [a0]; exact w3)) hsf.1 (by rw [hH0]; exact hbs) a1 (jT_lt _ (by rw [a0]; exact c11)).1 ht a3 hdf hc hs hd ?_
  exact k
theorem jev_new {μ : JM} (hμ : ∀ t x i, t ≠ 80 → μ t x i = 0) {t : Nat} {n : Int} {l : AL} {q : List JV × List JV × AL} (h : jevn t n [] [] l = some q) : jnw (jmem μ l) t n = jmem μ q.2.2 ∧ jlab (jmem μ l 53 0 0) = (t, (jlab (jmem μ l 53 0 0)).2) ∧ 0 ≤ jmem μ l 53 0 0 ∧ jmem μ l 53 0 0 < 600000 ∧ 0 ≤ n ∧ 0 ≤ jmem μ l 54 0 0 ∧ jmem μ l 54 0 0 + n ≤ 7302250 := by
  obtain ⟨gs, e, hg⟩ := jevn_ok hμ (ls' := q.1) (st' := q.2.1) (l' := q.2.2) h
  unfold jnew at e
  injection e with e
  injection e with e1 e
  injection e with e2 e
  injection e with e3 e4
  subst e1
  exact ⟨e4, hg _ List.mem_cons_self, hg _ (List.mem_cons_of_mem _ List.mem_cons_self), hg _ (List.mem_cons_of_mem _ (List.mem_cons_of_mem _ List.mem_cons_self)), hg _ (List.mem_cons_of_mem _ (List.mem_cons_of_mem _ (List.mem_cons_of_mem _ List.mem_cons_self))), hg _ (List.mem_cons_of_mem _ (List.mem_cons_of_mem _ (List.mem_cons_of_mem _ (List.mem_cons_of_mem _ List.mem_cons_self)))), hg _ (List.mem_cons_of_mem _ (List.mem_cons_of_mem _ (List.mem_cons_of_mem _ (List.mem_cons_of_mem _ (List.mem_cons_of_mem _ List.mem_cons_self)))))⟩
/-! the tables' classes, the nests, the text -/
theorem inst_in {cc : Nat} (hc : cc < 11) : ∃ n, Cond.instantiable (jT cc).1 n ∈ GW := by
  have h : ((List.range 11).all fun c => jNT.any fun r => Nat.beq r.2.2.1 c) = true := by decide +kernel
  obtain ⟨q, hq, e⟩ := List.any_eq_true.mp (List.all_eq_true.mp h cc (List.mem_range.mpr hc))
  have h3 := List.all_eq_true.mp nt_ok q hq
  obtain ⟨q1, q2, q3, q4, q5, q6, q7, q8⟩ := q
  have h3 : (decide (q3 < 11) && Nat.beq (jT q3).2.2 q5 && Nat.beq (jkt q4) 0 && jwp q6 (.classLink (jon q1) q2 (jT q3).1) && jwp q7 (.instantiable (jT q3).1 q5) && jwp q8 (.initialized (jT q3).1)) = true := h3
  simp only [Bool.and_eq_true] at h3
  have e : q3 = cc := Nat.eq_of_beq_eq_true e
  subst e
  exact ⟨q5, jwp_in h3.1.2⟩
theorem w_cls {A : Array Value} {s : State} (hG : ∀ w ∈ GW, w.before A s = true) : ∃ D : va_G, ∀ (c : Nat) (q : vw_C), vwCl[c]? = some q → u_Kn s q.1 q.2.1 q.2.2 (D.1 c) (D.2 c) := by
  have h0 : ∀ c : Nat, ∃ z : ClassId × (Nat → Nat), c < 11 → u_Kn s (jT c).1 (jT c).2.1 (jT c).2.2 z.1 z.2 := by
    intro c
    by_cases hc : c < 11
    · obtain ⟨n, hn⟩ := inst_in hc
      obtain ⟨cC, iS, h⟩ := u_known (C := (jT c).1) (T := (jT c).2.1) (N := (jT c).2.2) (n := n) hG (lw_cl hc) (hG _ hn)
      exact ⟨(cC, iS), fun _ => h⟩
    · exact ⟨(0, fun _ => 0), fun h => absurd h hc⟩
  obtain ⟨z, hz⟩ := Classical.axiomOfChoice h0
  refine ⟨(fun c => (z c).1, fun c => (z c).2), fun c q hq => ?_⟩
  have hc : c < 11 := (List.getElem?_eq_some_iff.mp hq).1
  rw [(jT_lt c hc).1] at hq
  cases hq
  exact hz c hc
theorem w_arrp {A : Array Value} {s : State} {ty : FieldType} (h : (Cond.arrayClass ty).before A s = true) (hty : ∀ C, ty ≠ .object C) : ∃ cA : ClassId, ArrOfT s cA ty ∧ va_RA s cA ty := by
  obtain ⟨c, k, comp, h1, h2, h3⟩ := Cond.arrayClass_spec h
  refine ⟨c, fun n z => ⟨(fun k h => by cases h), k, h2, comp, h3⟩, ?_⟩
  cases ty with
  | object C => exact absurd rfl (hty C)
  | _ => exact h1
theorem w_arrq {A : Array Value} {s : State} {C : String} (h : (Cond.arrayOver (.object C)).before A s = true) : ∃ cA : ClassId, ArrOfT s cA (.object C) ∧ va_RA s cA (.object C) := by
  obtain ⟨comp, c, k, h1, h2, h3, h4, h5⟩ := Cond.arrayOver_spec h
  exact ⟨c, fun n z => ⟨fun k h => (by cases h), k, h3, comp, h4⟩, k, comp, h3, h4, h1, h5⟩
theorem w_nest {A : Array Value} {s : State} (hts : ∀ w ∈ lw_tbl, w.before A s = true) : ∀ w ∈ NW, va_Nw w s := by
  intro w hw
  have h := hts w (List.mem_filter.mp hw).1
  have h1 := List.all_eq_true.mp nw_ao w hw
  have h2 := (List.mem_filter.mp hw).2
  cases w with
  | methodLinkNest a i x hh => exact va_Nw.of rfl h
  | declares x => exact va_Nw.of rfl h
  | arrayOver ty => cases ty with
    | object C => exact va_AO.of h
    | _ => cases h1
  | _ => cases h2
def tmk : Term := .string "RoundTripsModel" 218
theorem tx_el : ∀ j, j < 39 → (Cond.eq (.elem (.field tmk "java/lang/String" "value" "[B") (.int (Int32.ofNat j))) (.int (jkb.getD j 0))) ∈ flatC (Jvm.Cond.and given_1 narrow_1) := by decide +kernel
theorem w_text {A : Array Value} {s : State} {B : Nat → Prop} (hg : (Jvm.Cond.and given_1 narrow_1).before A s = true) (hts : ∀ w ∈ lw_tbl, w.before A s = true) (hB : ∀ a : Nat, a < s.heap.size → ¬ B a) : ∃ k0 v0 : Nat, vk_S 1 [jkeys.length] [jkb] (fun _ => k0) (fun _ => v0) B s s.heap ∧ vk_R "RoundTripsModel" 218 jtx k0 s := by
  have hs := flat_of_before _ hg
  obtain ⟨adK, adV, h1, h2⟩ := vk_Sof (args := A) (s := s) (N := 1) (tm := fun _ => tmk) (len := [jkeys.length]) (byt := [jkb]) (A := B) (fun i hi => by
    obtain rfl : i = 0 := by omega
    decide) (fun i hi => hs _ (by decide +kernel)) (fun i hi => hs _ (by decide +kernel)) (fun i hi => hs _ (by decide +kernel)) (fun i hi => by
    obtain rfl : i = 0 := by omega
    exact hs _ (by decide +kernel)) (fun i hi j hj => by
    obtain rfl : i = 0 := by omega
    exact hs _ (tx_el j hj)) (fun i j hi hj hne => absurd (show i = j by omega) hne) hB
  refine ⟨adK 0, adV 0, ⟨fun i hi => ?_, fun i j hi hj _ => by omega⟩, vk_R.of (A := A) (hts _ (List.mem_of_getElem? (i := 1604) (by decide +kernel))) (h2 0 (by decide))⟩
  obtain rfl : i = 0 := by omega
  exact h1.1 0 (by decide)
/-- the names of what is there at the start -/
def yy0 (yi yl yb yz yq k0 v0 b L : Nat) (xs : Nat → Int32) : Nat → ClassId := fun k => if k = 1 then yi else if k = 2 then yl else if k = 3 then yb else if k = 4 then yz else if k = 5 then yq else if k = 100 then k0 else if k = 101 then v0 else if k = 197 then 0 else if k = 198 then L else if k = 199 then b else ((xs (k - 200)).toInt + 2147483648).toNat
theorem jsc_yy {yi yl yb yz yq k0 v0 b L : Nat} {xs : Nat → Int32} (j : Nat) : jsc (yy0 yi yl yb yz yq k0 v0 b L xs) j = (xs j).toInt := by
  have h := inR_i32 (xs j)
  unfold jsc jyn yy0
  rw [if_neg (by omega), if_neg (by omega), if_neg (by omega), if_neg (by omega), if_neg (by omega), if_neg (by omega), if_neg (by omega), if_neg (by omega), if_neg (by omega), if_neg (by omega), show 200 + j - 200 = j by omega]
  omega
def mu0 (y : Nat → ClassId) : JM := fun t x i => if t = 80 then (if x = 1 then (jyn y 198 : Int) else jsc y i.toNat) else 0
theorem mu0_0 (y : Nat → ClassId) : ∀ t x i, t ≠ 80 → mu0 y t x i = 0 := fun t x i h => if_neg h
def ad0 (y : Nat → ClassId) : Nat → Nat := fun k => if k = 1000000000 then y 100 else if k = 1000000001 then y 199 else 0
theorem JRel_0 {base : Nat} {D : va_G} {y : Nat → ClassId} {H : Heap} (h197 : jyn y 197 = 0) (h198 : jyn y 198 ≤ 3072) : JRel base (ad0 y) D y false (mu0 y) H := by
  have hn : jn (mu0 y) = 0 := rfl
  have hw : jws (ad0 y) false (mu0 y) y = [] := by
    unfold jws
    rw [hn]
    rfl
  refine ⟨by rw [hw]; exact fun k q h => by simp at h, by rw [hw]; exact ⟨fun i j p q h => by simp at h, fun k q h => by simp at h⟩, Int.le_refl _, fun i hi => absurd hi (by rw [hn]; omega), fun x ⟨i, hi, _⟩ => absurd hi (by rw [hn]; omega), ⟨rfl, ?_⟩, fun i hi => absurd hi (by omega), by omega, h198, fun k hk => ?_, ?_⟩
  · show (if 1000000001 = 1000000000 then y 100 else if 1000000001 = 1000000001 then y 199 else 0) = y 199
    rw [if_neg (by omega), if_pos rfl]
  · show (if 80 = 80 then (if (0 : Int) = 1 then (jyn y 198 : Int) else jsc y ((k : Int)).toNat) else 0) = jsc y k
    rw [if_pos rfl, if_neg (by omega), Int.toNat_natCast]
  · show (if 80 = 80 then (if (1 : Int) = 1 then (jyn y 198 : Int) else jsc y ((0 : Int)).toNat) else 0) = (jyn y 198 : Int)
    rw [if_pos rfl, if_pos rfl]
theorem dl_0 : decode (jbytes 322) 0 = .ok (.new 7, 3) := by decide +kernel
theorem dl_3 : decode (jbytes 322) 3 = .ok (.dup, 1) := by decide +kernel
theorem dl_4 : decode (jbytes 322) 4 = .ok (.invokespecial 9, 3) := by decide +kernel
theorem dl_7 : decode (jbytes 322) 7 = .ok (.astore_n 1, 1) := by decide +kernel
theorem dl_8 : decode (jbytes 322) 8 = .ok (.new 10, 3) := by decide +kernel
theorem dl_11 : decode (jbytes 322) 11 = .ok (.dup, 1) := by decide +kernel
theorem dl_12 : decode (jbytes 322) 12 = .ok (.invokespecial 12, 3) := by decide +kernel
theorem dl_15 : decode (jbytes 322) 15 = .ok (.astore_n 2, 1) := by decide +kernel
theorem dl_16 : decode (jbytes 322) 16 = .ok (.iconst 0, 1) := by decide +kernel
theorem dl_17 : decode (jbytes 322) 17 = .ok (.istore_n 3, 1) := by decide +kernel
/-- the law's ints -/
theorem law_wp {y : Nat → ClassId} {l : AL} (h198 : jyn y 198 ≤ 3072) (hR : ∀ k, inR (jsc y k)) (h : chk l = true) : wp true 21 322 18 [(6, 0), (11, 0), (40, 0), (0, 0)] [] (jmem (mu0 y) l) (fun r ζ => r = 1 ∧ ζ 53 0 0 ≤ 600000 ∧ ζ 54 0 0 ≤ 7302250) := by
  have I := SI_0 (mu0_0 y) h
  refine law_loop (l0 := 0) (L := (jyn y 198 : Int)) (σ := mu0 y 80) ⟨by omega, by omega⟩ ?_ (fun k k0 k1 => ?_) 513 0 0 ss0 _ (by omega) (Int.le_refl _) (by omega) (by omega) I
  · show (if 80 = 80 then (if (1 : Int) = 1 then (jyn y 198 : Int) else jsc y ((0 : Int)).toNat) else 0) = (jyn y 198 : Int)
    rw [if_pos rfl, if_pos rfl]
  · have : mu0 y 80 0 k = jsc y k.toNat := by
      show (if 80 = 80 then (if (0 : Int) = 1 then (jyn y 198 : Int) else jsc y k.toNat) else 0) = jsc y k.toNat
      rw [if_pos rfl, if_neg (by omega)]
    rw [this]
    exact hR _
/-- from the entry: the objects are made, then the loop -/
theorem law_enter {p : Program} {l : Launch} {e : Env} {R : Room} {s : State} {m : MethodId} {args : Array Value} {below : List Frame} {meth : Method} {c : Code} {Qf : State → Prop} {base : Nat} {D : va_G} {y : Nat → ClassId} {H0 : Heap} (h198 : jyn y 198 ≤ 3072) (hR : ∀ k, inR (jsc y k)) (F : JF p s m args meth c base D y H0 322) (hRm : JRm 21 R) (hcl : 600000 ≤ R.cells) (hsl : 7302250 ≤ R.slots)
    (fin : ∀ (pcr : Nat) (lsr : List JV) (ν : JM) (cells slots : Nat), decode (jbytes 322) pcr = .ok (.ireturn, 1) → cells ≤ 600000 → slots ≤ 7302250 → WJ p l e R s m args below meth c Qf base D y H0 true pcr lsr [(0, 1)] ν cells slots) : WJ p l e R s m args below meth c Qf base D y H0 false 0 (jinit 4 [(6, 0)]) [] (mu0 y) 0 0 := by
  have hμ := mu0_0 y
  obtain ⟨q1, n1, h⟩ := oany_t made0
  obtain ⟨l1, r1, h⟩ := oany_t h
  obtain ⟨hlb, h⟩ := band h
  obtain ⟨q2, n2, h⟩ := oany_t h
  obtain ⟨l3, r2, hk⟩ := oany_t h
  obtain ⟨e1, b1, b2, b3, b4, b5, b6⟩ := jev_new hμ n1
  obtain ⟨e2, c1, c2, c3, c4, c5, c6⟩ := jev_new hμ n2
  obtain ⟨v1, ν1, ⟨rfl, rfl⟩, G1⟩ := wp_good (jevl_wp hμ r1)
  obtain ⟨v2, ν2, ⟨rfl, rfl⟩, G2⟩ := wp_good (jevl_wp hμ r2)
  obtain ⟨v3, ν3, ⟨rfl, k53, k54⟩, G3⟩ := wp_good (law_wp h198 hR hk)
  have z53 : mu0 y 53 0 0 = 0 := rfl
  have z54 : mu0 y 54 0 0 = 0 := rfl
  have a53 : jmem (mu0 y) q1.2.2 53 0 0 = 1 := by
    rw [← e1]
    exact (jw_t (by decide)).trans (jw_eq _ _ _ _ _)
  have a54 : jmem (mu0 y) q1.2.2 54 0 0 = 10 := by
    rw [← e1]
    exact jw_eq _ _ _ _ _
  have d53 : jmem (mu0 y) q2.2.2 53 0 0 = jmem (mu0 y) l1 53 0 0 + 1 := by
    rw [← e2]
    exact (jw_t (by decide)).trans (jw_eq _ _ _ _ _)
  have d54 : jmem (mu0 y) q2.2.2 54 0 0 = jmem (mu0 y) l1 54 0 0 + 37 := by
    rw [← e2]
    exact jw_eq _ _ _ _ _
  have f53 := vl_of hμ hk (t := 53) (x := 0) (v := 169) (by decide) (by decide)
  have g1 := G1.1
  have g2 := G2.1
  have g3 := G3.1
  have lb : (jlab (jmem (mu0 y) l1 53 0 0)).2 = 0 := by
    rw [jgt_ok hμ l1 (by decide)]
    exact ieq_t hlb
  obtain ⟨hx, hb, hml, hrt, hlk, ho, hw, hin, hsf, hH0, hbs⟩ := id F
  refine w_new (i := 7) (cc := 9) (t := 11) (n := 10) dl_0 (by decide +kernel) (by rw [z53]; decide) b1 b2 b3 F (by omega) (by omega) ?_
  rw [show jnw (mu0 y) 11 ((10 : Nat) : Int) = jmem (mu0 y) q1.2.2 from e1]
  refine o_dup (v := (11, 0)) hx hb dl_3 (by decide) ?_
  refine w_call_c (d := 20) (mid := 322) (idx := 9) (id := 127) (n := 1) (rt := 8) (by decide) (rj_all 127 (by decide)) dl_4 (by decide +kernel) (by decide) (by decide) (by decide +kernel) G1 F hRm rfl (by omega) (by omega) ?_
  refine o_astore_n (n := 1) (v := (11, 0)) hx hb dl_7 (by decide) (by decide) ?_
  refine w_new (i := 10) (cc := 10) (t := 40) (n := 37) dl_8 (by decide +kernel) (by rw [lb]; decide) c1 c2 c3 F (by omega) (by omega) ?_
  rw [show jnw (jmem (mu0 y) l1) 40 ((37 : Nat) : Int) = jmem (mu0 y) q2.2.2 from e2, lb]
  refine o_dup (v := (40, 0)) hx hb dl_11 (by decide) ?_
  refine w_call_c (d := 20) (mid := 322) (idx := 12) (id := 188) (n := 1) (rt := 8) (by decide) (rj_all 188 (by decide)) dl_12 (by decide +kernel) (by decide) (by decide) (by decide +kernel) G2 F hRm rfl (by omega) (by omega) ?_
  refine o_astore_n (n := 2) (v := (40, 0)) hx hb dl_15 (by decide) (by decide) ?_
  refine o_iconst (n := 0) hx hb dl_16 ?_
  refine o_istore_n (n := 3) (v := (0, 0)) hx hb dl_17 rfl (by decide) ?_
  have K := G3.2.2 (l := l) (e := e) (below := below) (Qf := Qf) (cells := 0 + 1 + (jmem (mu0 y) l1 53 0 0 - jmem (mu0 y) q1.2.2 53 0 0).toNat + 1 + (jmem (mu0 y) l3 53 0 0 - jmem (mu0 y) q2.2.2 53 0 0).toNat) (slots := 0 + 10 + (jmem (mu0 y) l1 54 0 0 - jmem (mu0 y) q1.2.2 54 0 0).toNat + 37 + (jmem (mu0 y) l3 54 0 0 - jmem (mu0 y) q2.2.2 54 0 0).toNat) F hRm rfl (by omega) (by omega) (fun pcr lsr h1 h2 => fin pcr lsr ν3 _ _ h2 (by omega) (by omega))
  intro ad H locs lsR hR' hS hJ hO
  exact K ad H locs lsR (JRel_up (nzr_of hμ hk) hR') hS hJ hO
