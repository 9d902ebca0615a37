/-! THE TEXT CONSTANT: what its length and its letters are -/
def ys_coder : MethodName := ⟨"java/lang/String", "coder", "()B"⟩
abbrev bs_coder : ByteArray := prog_19_method_152_code
theorem wc_coder : jwp 1612 (.code ys_coder bs_coder 1 (some .byte)) = true := by decide +kernel
theorem wi_coder : jwp 1610 (.instanceMethod ys_coder) = true := by decide +kernel
theorem ws_coder : jwp 1611 (.selects "java/lang/String" ys_coder ys_coder) = true := by decide +kernel
def ys_lat : MethodName := ⟨"java/lang/String", "isLatin1", "()Z"⟩
abbrev bs_lat : ByteArray := prog_19_method_154_code
theorem wc_lat : jwp 1622 (.code ys_lat bs_lat 1 (some .boolean)) = true := by decide +kernel
theorem wi_lat : jwp 1620 (.instanceMethod ys_lat) = true := by decide +kernel
theorem ws_lat : jwp 1621 (.selects "java/lang/String" ys_lat ys_lat) = true := by decide +kernel
def ys_len : MethodName := ⟨"java/lang/String", "length", "()I"⟩
abbrev bs_len : ByteArray := prog_19_method_54_code
theorem wc_len : jwp 1608 (.code ys_len bs_len 1 (some .int)) = true := by decide +kernel
theorem wi_len : jwp 1606 (.instanceMethod ys_len) = true := by decide +kernel
theorem ws_len : jwp 1607 (.selects "java/lang/String" ys_len ys_len) = true := by decide +kernel
def ys_ck3 : MethodName := ⟨"jdk/internal/util/Preconditions", "checkIndex", "(IILjava/util/function/BiFunction;)I"⟩
abbrev bs_ck3 : ByteArray := prog_24_method_11_code
theorem wc_ck3 : jwp 1633 (.code ys_ck3 bs_ck3 3 (some .int)) = true := by decide +kernel
theorem wi_ck3 : jwp 1632 (.static ys_ck3) = true := by decide +kernel
def ys_ck2 : MethodName := ⟨"java/lang/String", "checkIndex", "(II)V"⟩
abbrev bs_ck2 : ByteArray := prog_19_method_155_code
theorem wc_ck2 : jwp 1628 (.code ys_ck2 bs_ck2 2 (none)) = true := by decide +kernel
theorem wi_ck2 : jwp 1627 (.static ys_ck2) = true := by decide +kernel
def ys_at1 : MethodName := ⟨"java/lang/StringLatin1", "charAt", "([BI)C"⟩
abbrev bs_at1 : ByteArray := prog_20_method_2_code
theorem wc_at1 : jwp 1625 (.code ys_at1 bs_at1 2 (some .char)) = true := by decide +kernel
theorem wi_at1 : jwp 1624 (.static ys_at1) = true := by decide +kernel
def ys_at0 : MethodName := ⟨"java/lang/String", "charAt", "(I)C"⟩
abbrev bs_at0 : ByteArray := prog_19_method_56_code
theorem wc_at0 : jwp 1618 (.code ys_at0 bs_at0 2 (some .char)) = true := by decide +kernel
theorem wi_at0 : jwp 1616 (.instanceMethod ys_at0) = true := by decide +kernel
theorem ws_at0 : jwp 1617 (.selects "java/lang/String" ys_at0 ys_at0) = true := by decide +kernel
theorem wn_S : jwp 143 (.initialized "java/lang/String") = true := by decide +kernel
theorem wn_L : jwp 144 (.initialized "java/lang/StringLatin1") = true := by decide +kernel
theorem wn_P : jwp 145 (.initialized "jdk/internal/util/Preconditions") = true := by decide +kernel
theorem wl_len : jwp 1605 (.methodLink "RoundTripsModel" 220 ys_len) = true := by decide +kernel
theorem wl_coder : jwp 1609 (.methodLink "java/lang/String" 335 ys_coder) = true := by decide +kernel
theorem wl_at0 : jwp 1615 (.methodLink "RoundTripsModel" 226 ys_at0) = true := by decide +kernel
theorem wl_lat : jwp 1619 (.methodLink "java/lang/String" 492 ys_lat) = true := by decide +kernel
theorem wl_at1 : jwp 1623 (.methodLink "java/lang/String" 495 ys_at1) = true := by decide +kernel
theorem wl_ck2 : jwp 1626 (.methodLink "java/lang/StringLatin1" 9 ys_ck2) = true := by decide +kernel
theorem wl_ck3 : jwp 1631 (.methodLink "java/lang/String" 1059 ys_ck3) = true := by decide +kernel
theorem wf_cs : jwp 1613 (.fieldLink "java/lang/String" 38 "java/lang/String" "COMPACT_STRINGS" "Z") = true := by decide +kernel
theorem wf_so : jwp 1629 (.fieldLink "java/lang/String" 1053 "jdk/internal/util/Preconditions" "SIOOBE_FORMATTER" "Ljava/util/function/BiFunction;") = true := by decide +kernel
theorem wf_va : jwp 2021 (.fieldLink "java/lang/String" 9 "java/lang/String" "value" "[B") = true := by decide +kernel
theorem wf_co : jwp 2022 (.fieldLink "java/lang/String" 15 "java/lang/String" "coder" "B") = true := by decide +kernel
theorem d_coder_0 : decode bs_coder 0 = .ok (.getstatic 38, 3) := by decide +kernel
theorem d_coder_3 : decode bs_coder 3 = .ok (.ifCond .eq 10, 3) := by decide +kernel
theorem d_coder_6 : decode bs_coder 6 = .ok (.aload_n 0, 1) := by decide +kernel
theorem d_coder_7 : decode bs_coder 7 = .ok (.getfield 15, 3) := by decide +kernel
theorem d_coder_10 : decode bs_coder 10 = .ok (.goto 4, 3) := by decide +kernel
theorem d_coder_14 : decode bs_coder 14 = .ok (.ireturn, 1) := by decide +kernel
theorem d_lat_0 : decode bs_lat 0 = .ok (.getstatic 38, 3) := by decide +kernel
theorem d_lat_3 : decode bs_lat 3 = .ok (.ifCond .eq 14, 3) := by decide +kernel
theorem d_lat_6 : decode bs_lat 6 = .ok (.aload_n 0, 1) := by decide +kernel
theorem d_lat_7 : decode bs_lat 7 = .ok (.getfield 15, 3) := by decide +kernel
theorem d_lat_10 : decode bs_lat 10 = .ok (.ifCond .ne 7, 3) := by decide +kernel
theorem d_lat_13 : decode bs_lat 13 = .ok (.iconst 1, 1) := by decide +kernel
theorem d_lat_14 : decode bs_lat 14 = .ok (.goto 4, 3) := by decide +kernel
theorem d_lat_18 : decode bs_lat 18 = .ok (.ireturn, 1) := by decide +kernel
theorem d_len_0 : decode bs_len 0 = .ok (.aload_n 0, 1) := by decide +kernel
theorem d_len_1 : decode bs_len 1 = .ok (.getfield 9, 3) := by decide +kernel
theorem d_len_4 : decode bs_len 4 = .ok (.arraylength, 1) := by decide +kernel
theorem d_len_5 : decode bs_len 5 = .ok (.aload_n 0, 1) := by decide +kernel
theorem d_len_6 : decode bs_len 6 = .ok (.invokevirtual 335, 3) := by decide +kernel
theorem d_len_9 : decode bs_len 9 = .ok (.ishr, 1) := by decide +kernel
theorem d_len_10 : decode bs_len 10 = .ok (.ireturn, 1) := by decide +kernel
theorem d_ck3_0 : decode bs_ck3 0 = .ok (.iload_n 0, 1) := by decide +kernel
theorem d_ck3_1 : decode bs_ck3 1 = .ok (.ifCond .lt 8, 3) := by decide +kernel
theorem d_ck3_4 : decode bs_ck3 4 = .ok (.iload_n 0, 1) := by decide +kernel
theorem d_ck3_5 : decode bs_ck3 5 = .ok (.iload_n 1, 1) := by decide +kernel
theorem d_ck3_6 : decode bs_ck3 6 = .ok (.if_icmp .lt 10, 3) := by decide +kernel
theorem d_ck3_16 : decode bs_ck3 16 = .ok (.iload_n 0, 1) := by decide +kernel
theorem d_ck3_17 : decode bs_ck3 17 = .ok (.ireturn, 1) := by decide +kernel
theorem d_ck2_0 : decode bs_ck2 0 = .ok (.iload_n 0, 1) := by decide +kernel
theorem d_ck2_1 : decode bs_ck2 1 = .ok (.iload_n 1, 1) := by decide +kernel
theorem d_ck2_2 : decode bs_ck2 2 = .ok (.getstatic 1053, 3) := by decide +kernel
theorem d_ck2_5 : decode bs_ck2 5 = .ok (.invokestatic 1059, 3) := by decide +kernel
theorem d_ck2_8 : decode bs_ck2 8 = .ok (.pop, 1) := by decide +kernel
theorem d_ck2_9 : decode bs_ck2 9 = .ok (.return_, 1) := by decide +kernel
theorem d_at1_0 : decode bs_at1 0 = .ok (.iload_n 1, 1) := by decide +kernel
theorem d_at1_1 : decode bs_at1 1 = .ok (.aload_n 0, 1) := by decide +kernel
theorem d_at1_2 : decode bs_at1 2 = .ok (.arraylength, 1) := by decide +kernel
theorem d_at1_3 : decode bs_at1 3 = .ok (.invokestatic 9, 3) := by decide +kernel
theorem d_at1_6 : decode bs_at1 6 = .ok (.aload_n 0, 1) := by decide +kernel
theorem d_at1_7 : decode bs_at1 7 = .ok (.iload_n 1, 1) := by decide +kernel
theorem d_at1_8 : decode bs_at1 8 = .ok (.baload, 1) := by decide +kernel
theorem d_at1_9 : decode bs_at1 9 = .ok (.sipush 255, 3) := by decide +kernel
theorem d_at1_12 : decode bs_at1 12 = .ok (.iand, 1) := by decide +kernel
theorem d_at1_13 : decode bs_at1 13 = .ok (.i2c, 1) := by decide +kernel
theorem d_at1_14 : decode bs_at1 14 = .ok (.ireturn, 1) := by decide +kernel
theorem d_at0_0 : decode bs_at0 0 = .ok (.aload_n 0, 1) := by decide +kernel
theorem d_at0_1 : decode bs_at0 1 = .ok (.invokevirtual 492, 3) := by decide +kernel
theorem d_at0_4 : decode bs_at0 4 = .ok (.ifCond .eq 12, 3) := by decide +kernel
theorem d_at0_7 : decode bs_at0 7 = .ok (.aload_n 0, 1) := by decide +kernel
theorem d_at0_8 : decode bs_at0 8 = .ok (.getfield 9, 3) := by decide +kernel
theorem d_at0_11 : decode bs_at0 11 = .ok (.iload_n 1, 1) := by decide +kernel
theorem d_at0_12 : decode bs_at0 12 = .ok (.invokestatic 495, 3) := by decide +kernel
theorem d_at0_15 : decode bs_at0 15 = .ok (.ireturn, 1) := by decide +kernel
def jrs (d a b : Nat) : Room := { frames := d, locals := 60 * d, cells := a, slots := b }
def SQ (r : Option Value) : Array Value → State → Outcome → State → Prop := fun _ st oc t => oc = .returned r ∧ t.heap = st.heap
theorem key_ok : ∀ i, i < 39 → (narrow .char (.int (Int32.ofNat (jkeys.getD i 0))) = .int (Int32.ofNat (jkeys.getD i 0)) ∧ ((Int32.ofNat (jkeys.getD i 0) &&& 255).toUInt32 % 65536).toInt32 = Int32.ofNat (jkeys.getD i 0) ∧ jkb.getD i 0 = Int32.ofNat (jkeys.getD i 0)) := by decide +kernel
theorem smet {l : Launch} {y : MethodName} {b : ByteArray} {nl d : Nat} {ret : Option FieldType} {base : Nat} {D : va_G} {yy : Nat → ClassId} {av : List Value} {r : Option Value} (hy : plainFor y = true)
    (body : ∀ {p : Program} {e : Env} {s : State} {m : MethodId} {args : Array Value} {below : List Frame} {meth : Method} {c : Code}, p.tables.exec = Jvm.exec → c.code = b → c.maxLocals = nl → meth.sig.returnType = ret → meth.locks = false → s.vm.findClass y.cls = some m.cls → (∀ w ∈ GW, w.before args s = true) → JSF base D yy s →
      W p l e (jrs d 0 0) s m args below meth c s.heap [] 0 0 (MQ below (SQ r) args s 0 0 (fun _ => False)) (F0 m 0 ((lg_sl av ++ List.replicate (nl - (lg_sl av).length) Slot.unset).toArray) [])) :
    Met l y (Cond.code y b nl ret :: GW) (jrs d 0 0) (va_Pc av (JSF base D yy)) (SQ r) 0 0 (fun _ => False) := by
  refine va_MetF hy rfl ?_
  intro p e s m args below meth c s₁ B hml hP
  obtain ⟨hav, hS⟩ := hP
  subst hav
  have ht := atoms_spec B.pre
  rw [lg_entry_eq]
  exact body B.exec B.bytes hml B.returns B.notSynchronized (findClass_of_methodNamed B.named) (fun w hw => ht w (List.mem_cons_of_mem _ hw)) hS
theorem JSF_blind {base : Nat} {D : va_G} {yy : Nat → ClassId} {av : List Value} : FrameBlind (va_Pc av (JSF base D yy)) := fun _ U _ _ h => ⟨h.1, JSF_move (State.WarmedH.refl U) (Nat.le_refl _) (fun _ _ _ => rfl) h.2⟩
section
variable {p : Program} {l : Launch} {e : Env} {R : Room} {s : State} {m : MethodId} {args : Array Value} {below : List Frame} {meth : Method} {c : Code} {Qf : State → Prop} {base : Nat} {D : va_G} {yy : Nat → ClassId} {H : Heap} {locs : List Loc} {cells slots : Nat}
theorem sback {pc : Nat} {lsR : Array Slot} {stk rest : List Value} {r : Option Value} {a' : Array Value} (hr : va_Run p l e R s m args below meth c H locs cells slots 0 0 (F0 m pc lsR stk) rest (SQ r a') (fun _ => False)) (k : W p l e R s m args below meth c H locs cells slots Qf (F0 m (pc + 3) lsR (r.toList ++ rest))) : W p l e R s m args below meth c H locs cells slots Qf (F0 m pc lsR stk) := by
  intro T hT X
  obtain ⟨v, st₀, t, T', L, h0, X', hL, e1, e2, ⟨hv, hh⟩, stp⟩ := hr T hT X
  cases hv
  have hnil : L = [] := by
    cases L with
    | nil => rfl
    | cons q L' => exact (hL q List.mem_cons_self).elim
  subst hnil
  rw [List.append_nil] at X'
  obtain ⟨t2, a1, b1⟩ := k T' (by rw [e1, hh, h0]) X'
  exact ⟨t2, stp t2 a1, b1⟩
theorem spre {av : List Value} (hS : va_S (fun q => base ≤ q) s.heap H locs) (hsf : JSF base D yy s) : PreS s H (va_Pc av (JSF base D yy)) av :=
  ⟨JSF_blind, fun U hU hW => ⟨rfl, JSF_move hW (by rw [hU]; exact hS.1) (fun q h1 h2 => by rw [hU]; exact hS.2.1 q h1 h2) hsf⟩⟩
theorem sroom {d n : Nat} (hR : d + 1 ≤ R.frames ∧ 60 * (d + 1) ≤ R.locals) (h20 : n ≤ 20) : (jrs d 0 0).frames + 1 ≤ R.frames ∧ 8 + (n + 11) + (jrs d 0 0).locals ≤ R.locals := by
  obtain ⟨h1, h2⟩ := hR
  show d + 1 ≤ R.frames ∧ 8 + (n + 11) + 60 * d ≤ R.locals
  omega
end
theorem wcG {w : Cond} {i : Nat} (h : jwp i w = true) : ∀ z ∈ w :: GW, z ∈ GW := fun z hz => by
  rcases List.mem_cons.mp hz with rfl | hz
  · exact jwp_in h
  · exact hz
theorem m_coder {l : Launch} {base d : Nat} {D : va_G} {yy : Nat → ClassId} : Met l ys_coder (Cond.code ys_coder bs_coder 1 (some .byte) :: GW) (jrs d 0 0) (va_Pc [.ref (yy 100)] (JSF base D yy)) (SQ (some (.int 0))) 0 0 (fun _ => False) := by
  refine smet (by decide +kernel) ?_
  intro p e s m args below meth c hx hb hml hrt hlk ho hw hsf
  have hk := hsf.2.2.1
  have hZ := hk.2.2.1
  refine va_gets hx hb hZ va_S.rf ho (hw _ (jwp_in wf_cs)) (fun _ h => h) d_coder_0 ?_
  refine lv_if_eq (tgt := 13) hx hb d_coder_3 rfl (fun h => absurd h (by decide)) (fun _ => ?_)
  refine lv_aload_n (i := 0) (x := yy 100) hx hb d_coder_6 rfl rfl ?_
  refine vk_getf hx hb ((hk.1.1 0 (by decide)).2.1) va_S.rf ho (hw _ (jwp_in wf_co)) (fun _ h => h) d_coder_7 ?_
  refine lv_goto (tgt := 14) hx hb d_coder_10 rfl ?_
  exact W.zret hx hb hrt rfl (fun t ht _ => ⟨rfl, ht⟩) (fun q hq => absurd hq List.not_mem_nil) d_coder_14
theorem m_lat {l : Launch} {base d : Nat} {D : va_G} {yy : Nat → ClassId} : Met l ys_lat (Cond.code ys_lat bs_lat 1 (some .boolean) :: GW) (jrs d 0 0) (va_Pc [.ref (yy 100)] (JSF base D yy)) (SQ (some (.int 1))) 0 0 (fun _ => False) := by
  refine smet (by decide +kernel) ?_
  intro p e s m args below meth c hx hb hml hrt hlk ho hw hsf
  have hk := hsf.2.2.1
  have hZ := hk.2.2.1
  refine va_gets hx hb hZ va_S.rf ho (hw _ (jwp_in wf_cs)) (fun _ h => h) d_lat_0 ?_
  refine lv_if_eq (tgt := 17) hx hb d_lat_3 rfl (fun h => absurd h (by decide)) (fun _ => ?_)
  refine lv_aload_n (i := 0) (x := yy 100) hx hb d_lat_6 rfl rfl ?_
  refine vk_getf hx hb ((hk.1.1 0 (by decide)).2.1) va_S.rf ho (hw _ (jwp_in wf_co)) (fun _ h => h) d_lat_7 ?_
  refine lv_if_ne (tgt := 17) hx hb d_lat_10 rfl (fun h => absurd rfl h) (fun _ => ?_)
  refine lv_iconst (v := 1) hx hb d_lat_13 rfl ?_
  refine lv_goto (tgt := 18) hx hb d_lat_14 rfl ?_
  exact W.zret hx hb hrt rfl (fun t ht _ => ⟨rfl, ht⟩) (fun q hq => absurd hq List.not_mem_nil) d_lat_18
theorem m_len {l : Launch} {base d : Nat} {D : va_G} {yy : Nat → ClassId} : Met l ys_len (Cond.code ys_len bs_len 1 (some .int) :: GW) (jrs (d + 1) 0 0) (va_Pc [.ref (yy 100)] (JSF base D yy)) (SQ (some (.int 39))) 0 0 (fun _ => False) := by
  refine smet (by decide +kernel) ?_
  intro p e s m args below meth c hx hb hml hrt hlk ho hw hsf
  have hk := hsf.2.2.1
  refine lv_aload_n (i := 0) (x := yy 100) hx hb d_len_0 rfl rfl ?_
  refine vk_getf hx hb ((hk.1.1 0 (by decide)).2.2.1) va_S.rf ho (hw _ (jwp_in wf_va)) (fun _ h => h) d_len_1 ?_
  refine va_tlen (v := 39) hx hb ((hk.1.1 0 (by decide)).2.2.2) va_S.rf rfl d_len_4 ?_
  refine lv_aload_n (i := 0) (x := yy 100) hx hb d_len_5 rfl rfl ?_
  have hp := spre (av := [.ref (yy 100)]) va_S.rf hsf
  refine sback (va_runV (index := 335) (n := 0) (own := "java/lang/String") (cc := bs_len) (nL := 1) (C := "java/lang/String") (As := []) (b := yy 100) (rest := [.int 39]) ⟨hx, hb, hml, ho, hw⟩ (m_coder (d := d) (base := base) (D := D) (yy := yy)) (cwV 0 hw (gw_of (fun w hw' => by
    unfold wsV at hw'
    rcases List.mem_append.mp hw' with h | h
    · simp only [List.mem_cons, List.not_mem_nil, or_false] at h
      rcases h with rfl | rfl | rfl | rfl
      · exact jwp_in wl_coder
      · exact jwp_in wi_coder
      · exact jwp_in ws_coder
      · exact jwp_in wn_S
    · exact wcG wc_coder w h)) rfl rfl rfl ⟨rfl, by decide +kernel⟩ (sroom ⟨Nat.le_refl _, Nat.le_refl _⟩ (by decide))) ⟨hp.1, vk_recv hk.1 (i := 0) (by decide) va_S.rf, hp.2⟩ rfl rfl rfl rfl (Nat.le_of_ble_eq_true rfl) d_len_6 ⟨Nat.le_refl _, Nat.le_refl _⟩) ?_
  refine lv_ishr hx hb d_len_9 ?_
  exact W.iret hx hb hrt (fun t ht _ => ⟨rfl, ht⟩) (fun q hq => absurd hq List.not_mem_nil) d_len_10
theorem m_ck3 {l : Launch} {base d i n f : Nat} {D : va_G} {yy : Nat → ClassId} (hi : i < n) (hn : n < 2147483648) : Met l ys_ck3 (Cond.code ys_ck3 bs_ck3 3 (some .int) :: GW) (jrs d 0 0) (va_Pc [.int (Int32.ofNat i), .int (Int32.ofNat n), .ref f] (JSF base D yy)) (SQ (some (.int (Int32.ofNat i)))) 0 0 (fun _ => False) := by
  refine smet (by decide +kernel) ?_
  intro p e s m args below meth c hx hb hml hrt hlk ho hw hsf
  have e1 : Int32.ofNat i = Int32.ofInt (i : Int) := (Int32.ofInt_eq_ofNat).symm
  have e2 : Int32.ofNat n = Int32.ofInt (n : Int) := (Int32.ofInt_eq_ofNat).symm
  have h0 : ¬ Int32.ofNat i < 0 := by rw [e1, i32_0, i32_lt ⟨by omega, by omega⟩ ⟨by decide, by decide⟩]; omega
  have h1 : Int32.ofNat i < Int32.ofNat n := by rw [e1, e2, i32_lt ⟨by omega, by omega⟩ ⟨by omega, by omega⟩]; omega
  refine lv_iload_n (i := 0) (x := Int32.ofNat i) hx hb d_ck3_0 rfl rfl ?_
  refine lv_if_lt (tgt := 9) hx hb d_ck3_1 rfl (fun h => absurd h h0) (fun _ => ?_)
  refine lv_iload_n (i := 0) (x := Int32.ofNat i) hx hb d_ck3_4 rfl rfl ?_
  refine lv_iload_n (i := 1) (x := Int32.ofNat n) hx hb d_ck3_5 rfl rfl ?_
  refine lv_icmp_lt (tgt := 16) hx hb d_ck3_6 rfl (fun _ => ?_) (fun h => absurd h1 h)
  refine lv_iload_n (i := 0) (x := Int32.ofNat i) hx hb d_ck3_16 rfl rfl ?_
  exact W.iret hx hb hrt (fun t ht _ => ⟨rfl, ht⟩) (fun q hq => absurd hq List.not_mem_nil) d_ck3_17
theorem m_ck3n {l : Launch} {base d i n : Nat} {D : va_G} {yy : Nat → ClassId} (hi : i < n) (hn : n < 2147483648) : Met l ys_ck3 (Cond.code ys_ck3 bs_ck3 3 (some .int) :: GW) (jrs d 0 0) (va_Pc [.int (Int32.ofNat i), .int (Int32.ofNat n), .null] (JSF base D yy)) (SQ (some (.int (Int32.ofNat i)))) 0 0 (fun _ => False) := by
  refine smet (by decide +kernel) ?_
  intro p e s m args below meth c hx hb hml hrt hlk ho hw hsf
  have e1 : Int32.ofNat i = Int32.ofInt (i : Int) := (Int32.ofInt_eq_ofNat).symm
  have e2 : Int32.ofNat n = Int32.ofInt (n : Int) := (Int32.ofInt_eq_ofNat).symm
  have h0 : ¬ Int32.ofNat i < 0 := by rw [e1, i32_0, i32_lt ⟨by omega, by omega⟩ ⟨by decide, by decide⟩]; omega
  have h1 : Int32.ofNat i < Int32.ofNat n := by rw [e1, e2, i32_lt ⟨by omega, by omega⟩ ⟨by omega, by omega⟩]; omega
  refine lv_iload_n (i := 0) (x := Int32.ofNat i) hx hb d_ck3_0 rfl rfl ?_
  refine lv_if_lt (tgt := 9) hx hb d_ck3_1 rfl (fun h => absurd h h0) (fun _ => ?_)
  refine lv_iload_n (i := 0) (x := Int32.ofNat i) hx hb d_ck3_4 rfl rfl ?_
  refine lv_iload_n (i := 1) (x := Int32.ofNat n) hx hb d_ck3_5 rfl rfl ?_
  refine lv_icmp_lt (tgt := 16) hx hb d_ck3_6 rfl (fun _ => ?_) (fun h => absurd h1 h)
  refine lv_iload_n (i := 0) (x := Int32.ofNat i) hx hb d_ck3_16 rfl rfl ?_
  exact W.iret hx hb hrt (fun t ht _ => ⟨rfl, ht⟩) (fun q hq => absurd hq List.not_mem_nil) d_ck3_17
theorem m_ck2 {l : Launch} {base d i n : Nat} {D : va_G} {yy : Nat → ClassId} (hi : i < n) (hn : n < 2147483648) : Met l ys_ck2 (Cond.code ys_ck2 bs_ck2 2 none :: GW) (jrs (d + 1) 0 0) (va_Pc [.int (Int32.ofNat i), .int (Int32.ofNat n)] (JSF base D yy)) (SQ none) 0 0 (fun _ => False) := by
  refine smet (by decide +kernel) ?_
  intro p e s m args below meth c hx hb hml hrt hlk ho hw hsf
  have hk := hsf.2.2.1
  refine lv_iload_n (i := 0) (x := Int32.ofNat i) hx hb d_ck2_0 rfl rfl ?_
  refine lv_iload_n (i := 1) (x := Int32.ofNat n) hx hb d_ck2_1 rfl rfl ?_
  rcases hk.2.2.2 with hz | ⟨t, hz⟩
  · refine va_gets hx hb hz va_S.rf ho (hw _ (jwp_in wf_so)) (fun _ h => h) d_ck2_2 ?_
    have hp := spre (av := [.int (Int32.ofNat i), .int (Int32.ofNat n), .null]) va_S.rf hsf
    refine sback (va_runS (index := 1059) (n := 3) (own := "java/lang/String") (cc := bs_ck2) (nL := 2) (As := [.int (Int32.ofNat i), .int (Int32.ofNat n), .null]) (rest := []) ⟨hx, hb, hml, ho, hw⟩ (m_ck3n (d := d) (base := base) (D := D) (yy := yy) hi hn) (va_cwS 3 hw (gw_of (fun w hw' => by
      unfold va_wsS at hw'
      rcases List.mem_append.mp hw' with h | h
      · simp only [List.mem_cons, List.not_mem_nil, or_false] at h
        rcases h with rfl | rfl | rfl
        · exact jwp_in wl_ck3
        · exact jwp_in wi_ck3
        · exact jwp_in wn_P
      · exact wcG wc_ck3 w h)) rfl rfl rfl (by decide +kernel) (sroom ⟨Nat.le_refl _, Nat.le_refl _⟩ (by decide))) hp rfl rfl rfl rfl (Nat.le_of_ble_eq_true rfl) d_ck2_5 ⟨Nat.le_refl _, Nat.le_refl _⟩) ?_
    refine lv_pop hx hb d_ck2_8 rfl ?_
    exact W.vret hx hb hrt (fun t ht _ => ⟨rfl, ht⟩) (fun q hq => absurd hq List.not_mem_nil) d_ck2_9
  · refine va_gets hx hb hz va_S.rf ho (hw _ (jwp_in wf_so)) (fun _ h => h) d_ck2_2 ?_
    have hp := spre (av := [.int (Int32.ofNat i), .int (Int32.ofNat n), .ref t]) va_S.rf hsf
    refine sback (va_runS (index := 1059) (n := 3) (own := "java/lang/String") (cc := bs_ck2) (nL := 2) (As := [.int (Int32.ofNat i), .int (Int32.ofNat n), .ref t]) (rest := []) ⟨hx, hb, hml, ho, hw⟩ (m_ck3 (d := d) (base := base) (D := D) (yy := yy) hi hn) (va_cwS 3 hw (gw_of (fun w hw' => by
      unfold va_wsS at hw'
      rcases List.mem_append.mp hw' with h | h
      · simp only [List.mem_cons, List.not_mem_nil, or_false] at h
        rcases h with rfl | rfl | rfl
        · exact jwp_in wl_ck3
        · exact jwp_in wi_ck3
        · exact jwp_in wn_P
      · exact wcG wc_ck3 w h)) rfl rfl rfl (by decide +kernel) (sroom ⟨Nat.le_refl _, Nat.le_refl _⟩ (by decide))) hp rfl rfl rfl rfl (Nat.le_of_ble_eq_true rfl) d_ck2_5 ⟨Nat.le_refl _, Nat.le_refl _⟩) ?_
    refine lv_pop hx hb d_ck2_8 rfl ?_
    exact W.vret hx hb hrt (fun t ht _ => ⟨rfl, ht⟩) (fun q hq => absurd hq List.not_mem_nil) d_ck2_9
theorem m_at1 {l : Launch} {base d i : Nat} {D : va_G} {yy : Nat → ClassId} (hi : i < 39) : Met l ys_at1 (Cond.code ys_at1 bs_at1 2 (some .char) :: GW) (jrs (d + 2) 0 0) (va_Pc [.ref (yy 101), .int (Int32.ofNat i)] (JSF base D yy)) (SQ (some (.int (Int32.ofNat (jkeys.getD i 0))))) 0 0 (fun _ => False) := by
  refine smet (by decide +kernel) ?_
  intro p e s m args below meth c hx hb hml hrt hlk ho hw hsf
  have hk := hsf.2.2.1
  obtain ⟨k1, k2, k3⟩ := key_ok i hi
  have hT := (hk.1.1 0 (by decide)).2.2.2
  have e1 : Int32.ofNat i = Int32.ofInt (i : Int) := (Int32.ofInt_eq_ofNat).symm
  have hcl : (Int32.ofNat i).toNatClampNeg = i := by rw [e1, i32_clamp (by omega) (by omega)]; omega
  have hin : vp_in (Int32.ofNat i) 39 := by
    have := jvin (i := (i : Int)) (n := 39) (by omega) (by omega) (by decide)
    rw [e1]
    exact this
  refine lv_iload_n (i := 1) (x := Int32.ofNat i) hx hb d_at1_0 rfl rfl ?_
  refine lv_aload_n (i := 0) (x := yy 101) hx hb d_at1_1 rfl rfl ?_
  refine va_tlen (v := Int32.ofNat 39) hx hb hT va_S.rf rfl d_at1_2 ?_
  have hp := spre (av := [.int (Int32.ofNat i), .int (Int32.ofNat 39)]) va_S.rf hsf
  refine sback (va_runS (index := 9) (n := 2) (own := "java/lang/StringLatin1") (cc := bs_at1) (nL := 2) (As := [.int (Int32.ofNat i), .int (Int32.ofNat 39)]) (rest := []) ⟨hx, hb, hml, ho, hw⟩ (m_ck2 (d := d) (base := base) (D := D) (yy := yy) hi (by decide)) (va_cwS 2 hw (gw_of (fun w hw' => by
    unfold va_wsS at hw'
    rcases List.mem_append.mp hw' with h | h
    · simp only [List.mem_cons, List.not_mem_nil, or_false] at h
      rcases h with rfl | rfl | rfl
      · exact jwp_in wl_ck2
      · exact jwp_in wi_ck2
      · exact jwp_in wn_S
    · exact wcG wc_ck2 w h)) rfl rfl rfl (by decide +kernel) (sroom ⟨Nat.le_refl _, Nat.le_refl _⟩ (by decide))) hp rfl rfl rfl rfl (Nat.le_of_ble_eq_true rfl) d_at1_3 ⟨Nat.le_refl _, Nat.le_refl _⟩) ?_
  refine lv_aload_n (i := 0) (x := yy 101) hx hb d_at1_6 rfl rfl ?_
  refine lv_iload_n (i := 1) (x := Int32.ofNat i) hx hb d_at1_7 rfl rfl ?_
  refine va_tb (v := .int (Int32.ofNat (jkeys.getD i 0))) hx hb hT va_S.rf hin (by rw [hcl, ← k3]; rfl) d_at1_8 ?_
  refine lv_sipush (v := 255) hx hb d_at1_9 rfl ?_
  refine lv_iand hx hb d_at1_12 ?_
  refine lv_i2c hx hb d_at1_13 k2 ?_
  exact W.zret hx hb hrt k1 (fun t ht _ => ⟨rfl, ht⟩) (fun q hq => absurd hq List.not_mem_nil) d_at1_14
theorem m_at0 {l : Launch} {base d i : Nat} {D : va_G} {yy : Nat → ClassId} (hi : i < 39) : Met l ys_at0 (Cond.code ys_at0 bs_at0 2 (some .char) :: GW) (jrs (d + 3) 0 0) (va_Pc [.ref (yy 100), .int (Int32.ofNat i)] (JSF base D yy)) (SQ (some (.int (Int32.ofNat (jkeys.getD i 0))))) 0 0 (fun _ => False) := by
  refine smet (by decide +kernel) ?_
  intro p e s m args below meth c hx hb hml hrt hlk ho hw hsf
  have hk := hsf.2.2.1
  obtain ⟨k1, k2, k3⟩ := key_ok i hi
  refine lv_aload_n (i := 0) (x := yy 100) hx hb d_at0_0 rfl rfl ?_
  have hp := spre (av := [.ref (yy 100)]) va_S.rf hsf
  refine sback (va_runV (index := 492) (n := 0) (own := "java/lang/String") (cc := bs_at0) (nL := 2) (C := "java/lang/String") (As := []) (b := yy 100) (rest := []) ⟨hx, hb, hml, ho, hw⟩ (m_lat (d := d + 2) (base := base) (D := D) (yy := yy)) (cwV 0 hw (gw_of (fun w hw' => by
    unfold wsV at hw'
    rcases List.mem_append.mp hw' with h | h
    · simp only [List.mem_cons, List.not_mem_nil, or_false] at h
      rcases h with rfl | rfl | rfl | rfl
      · exact jwp_in wl_lat
      · exact jwp_in wi_lat
      · exact jwp_in ws_lat
      · exact jwp_in wn_S
    · exact wcG wc_lat w h)) rfl rfl rfl ⟨rfl, by decide +kernel⟩ (sroom ⟨Nat.le_refl _, Nat.le_refl _⟩ (by decide))) ⟨hp.1, vk_recv hk.1 (i := 0) (by decide) va_S.rf, hp.2⟩ rfl rfl rfl rfl (Nat.le_of_ble_eq_true rfl) d_at0_1 ⟨Nat.le_refl _, Nat.le_refl _⟩) ?_
  refine lv_if_eq (tgt := 16) hx hb d_at0_4 rfl (fun h => absurd h (by decide)) (fun _ => ?_)
  refine lv_aload_n (i := 0) (x := yy 100) hx hb d_at0_7 rfl rfl ?_
  refine vk_getf hx hb ((hk.1.1 0 (by decide)).2.2.1) va_S.rf ho (hw _ (jwp_in wf_va)) (fun _ h => h) d_at0_8 ?_
  refine lv_iload_n (i := 1) (x := Int32.ofNat i) hx hb d_at0_11 rfl rfl ?_
  have hp := spre (av := [.ref (yy 101), .int (Int32.ofNat i)]) va_S.rf hsf
  refine sback (va_runS (index := 495) (n := 2) (own := "java/lang/String") (cc := bs_at0) (nL := 2) (As := [.ref (yy 101), .int (Int32.ofNat i)]) (rest := []) ⟨hx, hb, hml, ho, hw⟩ (m_at1 (d := d) (base := base) (D := D) (yy := yy) hi) (va_cwS 2 hw (gw_of (fun w hw' => by
    unfold va_wsS at hw'
    rcases List.mem_append.mp hw' with h | h
    · simp only [List.mem_cons, List.not_mem_nil, or_false] at h
      rcases h with rfl | rfl | rfl
      · exact jwp_in wl_at1
      · exact jwp_in wi_at1
      · exact jwp_in wn_L
    · exact wcG wc_at1 w h)) rfl rfl rfl (by decide +kernel) (sroom ⟨Nat.le_refl _, Nat.le_refl _⟩ (by decide))) hp rfl rfl rfl rfl (Nat.le_of_ble_eq_true rfl) d_at0_12 ⟨Nat.le_refl _, Nat.le_refl _⟩) ?_
  exact W.zret hx hb hrt k1 (fun t ht _ => ⟨rfl, ht⟩) (fun q hq => absurd hq List.not_mem_nil) d_at0_15
section
variable {p : Program} {l : Launch} {e : Env} {R : Room} {s : State} {m : MethodId} {args : Array Value} {below : List Frame} {meth : Method} {c : Code} {Qf : State → Prop} {base : Nat} {D : va_G} {y : Nat → ClassId} {H0 : Heap} {ph : Bool} {pc : Nat} {ls st : List JV} {μ ν : JM} {cells slots : Nat}
/-- the J machine's text, with the JDK's walks -/
theorem o_strlen {cc : ByteArray} {xx : Int} (hx : p.tables.exec = Jvm.exec) (hb : c.code = cc) {nL : Nat} (hml : c.maxLocals = nL) (hw : ∀ w ∈ GW, w.before args s = true) (hH0 : H0 = s.heap) (hsf : JSF base D y s) (hR6 : 2 + 1 ≤ R.frames ∧ 60 * (2 + 1) ≤ R.locals) (ho : s.vm.findClass "RoundTripsModel" = some m.cls) (hls : ls.length = nL) (hst : jcat st ≤ 8) (hc : cells ≤ R.cells) (hs : slots ≤ R.slots) (hd : decode cc pc = .ok (.invokevirtual 220, 3)) (k : WJ p l e R s m args below meth c Qf base D y H0 ph (pc + 3) ls ((0, (jkeys.length : Int)) :: st) μ cells slots) : WJ p l e R s m args below meth c Qf base D y H0 ph pc ls ((5, xx) :: st) μ cells slots := by
  intro ad H locs lsR hR hS hJ hO
  subst hH0
  have e1 : ad 1000000000 = y 100 := hR.2.2.2.2.2.1.1
  have hp := spre (av := [.ref (y 100)]) hS hsf
  have hk := k ad H locs lsR hR hS hJ (ok_cons (jokv_of (Nat.le_of_ble_eq_true rfl)) (ok_tail hO))
  show W p l e R s m args below meth c H locs cells slots Qf (F0 m pc lsR (.ref (ad 1000000000) :: st.map (jval ad)))
  rw [e1]
  exact sback (va_runV (index := 220) (n := 0) (own := "RoundTripsModel") (cc := cc) (nL := nL) (C := "java/lang/String") (As := []) (b := y 100) (rest := st.map (jval ad)) ⟨hx, hb, hml, ho, hw⟩ (m_len (d := 1) (base := base) (D := D) (yy := y)) (cwV 0 hw (gw_of (fun w hw' => by
    unfold wsV at hw'
    rcases List.mem_append.mp hw' with h | h
    · simp only [List.mem_cons, List.not_mem_nil, or_false] at h
      rcases h with rfl | rfl | rfl | rfl
      · exact jwp_in wl_len
      · exact jwp_in wi_len
      · exact jwp_in ws_len
      · exact jwp_in wn_S
    · exact wcG wc_len w h)) rfl rfl rfl ⟨rfl, by decide +kernel⟩ (sroom (d := 2) hR6 (by decide))) ⟨hp.1, vk_recv hsf.2.2.1.1 (i := 0) (by decide) hS, hp.2⟩ rfl rfl (hJ.1.1.trans hls) rfl (jmr hst) hd ⟨hc, hs⟩) hk
theorem o_strat {cc : ByteArray} {xx : Int} (hx : p.tables.exec = Jvm.exec) (hb : c.code = cc) {nL : Nat} {i : Int} (hml : c.maxLocals = nL) (hw : ∀ w ∈ GW, w.before args s = true) (hH0 : H0 = s.heap) (hsf : JSF base D y s) (hR6 : 3 + 1 ≤ R.frames ∧ 60 * (3 + 1) ≤ R.locals) (ho : s.vm.findClass "RoundTripsModel" = some m.cls) (hls : ls.length = nL) (hst : jcat st ≤ 8) (hc : cells ≤ R.cells) (hs : slots ≤ R.slots) (h0 : 0 ≤ i) (h1 : i < (jkeys.length : Int)) (hd : decode cc pc = .ok (.invokevirtual 226, 3)) (k : WJ p l e R s m args below meth c Qf base D y H0 ph (pc + 3) ls ((0, ((jkeys.getD i.toNat 0 : Nat) : Int)) :: st) μ cells slots) : WJ p l e R s m args below meth c Qf base D y H0 ph pc ls ((0, i) :: (5, xx) :: st) μ cells slots := by
  intro ad H locs lsR hR hS hJ hO
  subst hH0
  have hi : i.toNat < 39 := by
    have : jkeys.length = 39 := rfl
    omega
  have e1 : ad 1000000000 = y 100 := hR.2.2.2.2.2.1.1
  have e2 : Int32.ofInt i = Int32.ofNat i.toNat := by rw [← Int32.ofInt_eq_ofNat, Int.toNat_of_nonneg h0]
  have hp := spre (av := [.ref (y 100), .int (Int32.ofNat i.toNat)]) hS hsf
  have hk := k ad H locs lsR hR hS hJ (ok_cons (jokv_of (Nat.le_of_ble_eq_true rfl)) (ok_tail (ok_tail hO)))
  have e3 : jval ad (0, ((jkeys.getD i.toNat 0 : Nat) : Int)) = .int (Int32.ofNat (jkeys.getD i.toNat 0)) := by
    show Value.int (Int32.ofInt _) = _
    rw [Int32.ofInt_eq_ofNat]
  rw [List.map_cons, e3] at hk
  show W p l e R s m args below meth c H locs cells slots Qf (F0 m pc lsR (.int (Int32.ofInt i) :: .ref (ad 1000000000) :: st.map (jval ad)))
  rw [e1, e2]
  exact sback (va_runV (index := 226) (n := 1) (own := "RoundTripsModel") (cc := cc) (nL := nL) (C := "java/lang/String") (As := [.int (Int32.ofNat i.toNat)]) (b := y 100) (rest := st.map (jval ad)) ⟨hx, hb, hml, ho, hw⟩ (m_at0 (d := 0) (base := base) (D := D) (yy := y) hi) (cwV 1 hw (gw_of (fun w hw' => by
    unfold wsV at hw'
    rcases List.mem_append.mp hw' with h | h
    · simp only [List.mem_cons, List.not_mem_nil, or_false] at h
      rcases h with rfl | rfl | rfl | rfl
      · exact jwp_in wl_at0
      · exact jwp_in wi_at0
      · exact jwp_in ws_at0
      · exact jwp_in wn_S
    · exact wcG wc_at0 w h)) rfl rfl rfl ⟨rfl, by decide +kernel⟩ (sroom (d := 3) hR6 (by decide))) ⟨hp.1, vk_recv hsf.2.2.1.1 (i := 0) (by decide) hS, hp.2⟩ rfl rfl (hJ.1.1.trans hls) rfl (jmr hst) hd ⟨hc, hs⟩) hk
end
