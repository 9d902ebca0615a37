/-! the reference's alarms -/
def MLn (b : BK) (F : LL) (n : Nat) (ν : JM) : Prop := ν 40 0 11 = ((pal b F n).length : Int) ∧ (∀ r : Nat, r < n → ν 63 0 (r : Int) = (aix b F r : Int)) ∧ ∀ a : Nat, a < (pal b F n).length → ν 64 0 (a : Int) = (pfst b F ((pal b F n).getD a []) n : Int)
abbrev ML (b : BK) (F : LL) (ν : JM) : Prop := LM b F ν ∧ MLn b F F.length ν
abbrev PLy : Nat → Int → Int → Prop := fun t y i => y = 0 ∧ ((60 ≤ t ∧ t ≤ 65) ∨ (t = 40 ∧ (i = 10 ∨ i = 11 ∨ i = 12)))
theorem m_lays {d : Nat} {b : BK} {ν0 : JM} {Q : JQ} (hv : vb b) (hM0 : isM ν0 b) (h12 : (ν0 40 0 12 = 0 ∨ inR (ν0 40 0 12))) (hl : ν0 40 0 12 ≠ 0 → ML b (pro b (fun _ => b 4 0)) ν0) (k : ∀ ξ, jfr PLy ν0 ξ → ML b (pro b (fun _ => b 4 0)) ξ → ξ 40 0 12 ≠ 0 → inR (ξ 40 0 12) → Q 0 ξ) : wp true (d + 12) 229 0 [(40, 0), (9, 0), (9, 0)] [] ν0 Q := by
  have hm := vb_m hv
  have hn := vb_n hv
  have hlo := vb_lo hv
  have hnm : (nm b : Int) = b 5 1 := by have := nm_eq hv; omega
  have hF := rounds_le hv (b 4 0)
  have hg : gd b (pro b (fun _ => b 4 0)) := pro_good hv _
  refine s_X11_lays_0 _ _ _ ⟨by rcases h12 with h | h; exact Or.inl h; exact Or.inr ⟨h, by omega, by omega⟩, fun _ => ⟨by omega, by omega, ?_⟩, fun h => k ν0 (jfr_refl _ _) (hl h) h (by rcases h12 with h2 | h2; exact absurd h2 h; exact h2)⟩
  have f0 : jfr PLy ν0 (jw (jw (jw ν0 40 0 12 1) 40 0 10 0) 40 0 11 0) := jfr_jw (jfr_jw (jfr_jw (jfr_refl _ _) (by omega)) (by omega)) (by omega)
  have z10 : (jw (jw (jw ν0 40 0 12 1) 40 0 10 0) 40 0 11 0) 40 0 10 = 0 := by rw [jw_i (by omega), jw_eq]
  have z11 : (jw (jw (jw ν0 40 0 12 1) 40 0 10 0) 40 0 11 0) 40 0 11 = 0 := by rw [jw_eq]
  have z12 : (jw (jw (jw ν0 40 0 12 1) 40 0 10 0) 40 0 11 0) 40 0 12 = 1 := by rw [jw_i (by omega), jw_i (by omega), jw_eq]
  generalize jw (jw (jw ν0 40 0 12 1) 40 0 10 0) 40 0 11 0 = ν1 at f0 z10 z11 z12 ⊢
  -- alarms
  have second : ∀ ν, jfr PLy ν0 ν → ν 40 0 12 = 1 → ν 40 0 11 = 0 → LM b (pro b (fun _ => b 4 0)) ν → ∀ u, wp true (d + 12) 229 80 [(40, 0), (0, 0), u] [] ν Q := by
    generalize pro b (fun _ => b 4 0) = F at hF hg k
    intro ν hf h12' h11 hL u
    have key : ∀ (q n : Nat) (ξ : JM) (u : JV), n + q = F.length → jfr PLy ν0 ξ → ξ 40 0 12 = 1 → LM b F ξ → MLn b F n ξ → wp true (d + 12) 229 80 [(40, 0), (0, (n : Int)), u] [] ξ Q := by
      intro q
      induction q with
      | zero =>
        intro n ξ u h1 h2 h3 h4 h5
        have en : n = F.length := by omega
        subst en
        refine s_X11_lays_80 _ _ _ _ _ ?_
        rw [h4.1]
        exact ⟨⟨⟨by omega, by omega⟩, ⟨by omega, by omega⟩⟩, fun _ => k ξ h2 ⟨h4, h5⟩ (by omega) (by rw [h3]; exact ⟨by omega, by omega⟩), fun h => absurd (Int.le_refl _) h⟩
      | succ q ih =>
        intro n ξ u h1 h2 h3 h4 h5
        have hn' : n < F.length := by omega
        have hMx : isM ξ b := isM_fr hM0 (fun i => h2 _ _ _ (by omega))
        have pl := pal_len b F n
        have fin : ∀ a : Nat, a = ixo (rgn b F n) (pal b F n) → wp true (d + 12) 229 118 [(40, 0), (0, (n : Int)), (0, (a : Int))] [] ξ Q := by
          intro a ha
          have nxt : (n : Int) + 1 = ((n + 1 : Nat) : Int) := by omega
          refine s_X11_lays_118 (d + 12) _ _ _ _ ?_
          rw [jw_t (by omega), jw_t (by omega), jw_t (by omega), h5.1, nxt]
          by_cases hmm : rgn b F n ∈ pal b F n
          · have q0 := ixo_lt hmm
            have ep : pal b F (n + 1) = pal b F n := by
              conv => lhs; unfold pal
              rw [if_pos hmm]
            refine ⟨by omega, by omega, ⟨⟨by omega, by omega⟩, ⟨by omega, by omega⟩⟩, fun h => absurd h (by omega), fun _ => ?_⟩
            refine ih (n + 1) _ _ (by omega) (jfr_jw h2 (by omega)) (by rw [jw_t (by omega)]; exact h3) (LM_fr h4 (fun t i h => jw_t (by omega))) ⟨by rw [jw_t (by omega), ep]; exact h5.1, fun r hr => ?_, fun x hx => ?_⟩
            · by_cases hrn : r = n
              · subst hrn
                rw [jw_eq, ha]
                unfold aix
                rw [ep]
              · rw [jw_i (by omega)]
                exact h5.2.1 r (by omega)
            · rw [jw_t (by omega)]
              rw [ep] at hx ⊢
              have e : pfst b F ((pal b F n).getD x []) (n + 1) = pfst b F ((pal b F n).getD x []) n := by
                conv => lhs; unfold pfst
                rw [if_pos (gdl_mem hx)]
              rw [e]
              exact h5.2.2 x hx
          · have ha2 : a = (pal b F n).length := by rw [ha]; exact ixo_out hmm
            have ep : pal b F (n + 1) = pal b F n ++ [rgn b F n] := by
              conv => lhs; unfold pal
              rw [if_neg hmm]
            refine ⟨by omega, by omega, ⟨⟨by omega, by omega⟩, ⟨by omega, by omega⟩⟩, fun _ => ⟨by omega, by omega, ?_⟩, fun h => absurd (by omega) h⟩
            refine ih (n + 1) _ _ (by omega) (jfr_jw (jfr_jw (jfr_jw h2 (by omega)) (by omega)) (by omega)) (by rw [jw_i (by omega), jw_t (by omega), jw_t (by omega)]; exact h3) (LM_fr h4 (fun t i h => by rw [show jw (jw (jw ξ 63 0 (n : Int) (a : Int)) 64 0 ((pal b F n).length : Int) (n : Int)) 40 0 11 (((pal b F n).length : Int) + 1) t 0 i = jw (jw ξ 63 0 (n : Int) (a : Int)) 64 0 ((pal b F n).length : Int) (n : Int) t 0 i from by unfold jw; rw [if_neg (by omega)], jw_t (by omega), jw_t (by omega)])) ⟨?_, fun r hr => ?_, fun x hx => ?_⟩
            · rw [jw_eq, ep]; simp
            · rw [jw_t (by omega), jw_t (by omega)]
              by_cases hrn : r = n
              · subst hrn
                rw [jw_eq, ha2]
                unfold aix
                rw [ep, ixo_uniq (i := (pal b F r).length) (by rw [← ep]; exact pal_nodup b F (r + 1)) (by simp) (by rw [gda_r (Nat.le_refl _)]; simp)]
              · rw [jw_i (by omega)]
                exact h5.2.1 r (by omega)
            · rw [jw_t (by omega)]
              have hx' : x < (pal b F n).length + 1 := by rw [ep] at hx; simpa using hx
              by_cases hxl : x = (pal b F n).length
              · subst hxl
                have gx : (pal b F (n + 1)).getD (pal b F n).length [] = rgn b F n := by
                  rw [ep, gda_r (Nat.le_refl _)]
                  simp
                rw [jw_eq, gx]
                have e : pfst b F (rgn b F n) (n + 1) = n := by
                  unfold pfst
                  rw [if_neg hmm]
                rw [e]
              · have gx : (pal b F (n + 1)).getD x [] = (pal b F n).getD x [] := by rw [ep, gda_l (by omega)]
                have e : pfst b F ((pal b F n).getD x []) (n + 1) = pfst b F ((pal b F n).getD x []) n := by
                  conv => lhs; unfold pfst
                  rw [if_pos (gdl_mem (by omega))]
                rw [jw_i (by omega), jw_t (by omega), gx, e]
                exact h5.2.2 x (by omega)
        have find : ∀ (p a : Nat), a + p = (pal b F n).length → (∀ j, j < a → (pal b F n).getD j [] ≠ rgn b F n) → wp true (d + 12) 229 90 [(40, 0), (0, (n : Int)), (0, (a : Int))] [] ξ Q := by
          intro p
          induction p with
          | zero =>
            intro a ha hno
            have hmm : ¬ rgn b F n ∈ pal b F n := fun h => by
              have q0 := ixo_lt h
              exact hno _ (by omega) q0.2
            refine s_X11_lays_90 (d + 11) _ _ _ _ ?_
            rw [h5.1]
            exact ⟨⟨⟨by omega, by omega⟩, ⟨by omega, by omega⟩⟩, fun _ => fin a (by rw [ixo_out hmm]; omega), fun h => absurd (by omega) h⟩
          | succ p ihp =>
            intro a ha hno
            have fs := pfst_spec b F ((pal b F n).getD a []) n (gdl_mem (by omega))
            refine s_X11_lays_90 (d + 11) _ _ _ _ ?_
            rw [h5.1, h5.2.2 a (by omega)]
            refine ⟨⟨⟨by omega, by omega⟩, ⟨by omega, by omega⟩⟩, fun h => absurd h (by omega), fun _ => ⟨by omega, by omega, ?_⟩⟩
            refine m_isLike hv hMx h4 hF hg hn' (by omega) (fun e => ⟨by decide, fun _ => fin a ?_, fun h => absurd (by decide) h⟩) (fun e => ⟨by decide, fun h => absurd rfl h, fun _ => ?_⟩)
            · exact (ixo_uniq (pal_nodup b F n) (by omega) (by rw [e, fs.2.1])).symm
            · rw [show (a : Int) + 1 = ((a + 1 : Nat) : Int) by omega]
              refine ihp (a + 1) (by omega) (fun j hj => ?_)
              by_cases hja : j = a
              · subst hja
                exact fun h => e (by rw [fs.2.1, h])
              · exact hno j (by omega)
        refine s_X11_lays_80 _ _ _ _ _ ?_
        rw [h4.1]
        exact ⟨⟨⟨by omega, by omega⟩, ⟨by omega, by omega⟩⟩, fun h => absurd h (by omega), fun _ => find (pal b F n).length 0 (by omega) (fun j hj => by omega)⟩
    exact key F.length 0 ν u (by omega) hf h12' hL ⟨h11, fun r hr => by omega, fun a ha => by cases ha⟩
  -- rounds
  refine fup_loop (W := fun i (L : LL) => ∀ ν, jfr PLy ν0 ν → ν 40 0 12 = 1 → ν 40 0 11 = 0 → LM b L ν → wp true (d + 12) 229 25 [(40, 0), (0, i), (9, 0)] [] ν Q) (g := prog b (fun _ => b 4 0)) (fun i L => fup (prog b (fun _ => b 4 0)) (b 5 1 - i).toNat i L <+: pro b (fun _ => b 4 0)) (lo := 0) (n := b 5 1) (fun i L a0 a1 hi => ?_) (fun i L a0 a1 hi hW ν hf h12' h11 hL => ?_) (nm b) 0 [] (by omega) (nm_eq hv) ?_ (fun _ ν hf h12' h11 hL => ?_) ν1 f0 z12 z11 ⟨z10, fun r hr => by cases hr⟩
  · rw [show (b 5 1 - i).toNat = (b 5 1 - (i + 1)).toNat + 1 by omega] at hi
    exact hi
  · have hM : isM ν b := isM_fr hM0 (fun i => hf _ _ _ (by omega))
    have ti := isM_t hM a0 a1
    have bi := vb_t hv a0 a1
    refine s_X11_lays_25 (d + 10) _ _ _ ?_
    rw [isM_m hM, isM_tr hM, ti.1]
    refine ⟨by omega, by omega, ⟨⟨by omega, by omega⟩, ⟨by omega, by omega⟩⟩, fun h => absurd h (by omega), fun _ => ⟨by omega, by omega, by omega, by omega, ?_⟩⟩
    refine w_has ⟨by omega, by omega⟩ (fun hc => ⟨by decide, fun h => absurd h (by decide), fun _ => ?_⟩) (fun hc => ⟨by decide, fun _ => ⟨by omega, by omega, by omega, by omega, ?_⟩, fun h => absurd rfl h⟩)
    · unfold prog at hW
      rw [if_pos (Or.inl hc)] at hW
      exact hW ν hf h12' h11 hL
    · rw [jw_t (by omega), ti.1]
      have hp : pin b [i] := ⟨by simp, by simp, fun t ht => by
        have : t = i := by simpa using ht
        subst this
        exact ⟨a0, a1⟩⟩
      have hnt : ¬ ptst b (b 0 i) := fun h => by rw [ptst, hc] at h; cases h
      have eg : pgo b (fun _ => b 4 0) ((b 4 1).toNat - 1) [i] L = prog b (fun _ => b 4 0) L i := by
        unfold pgo prog
        rw [if_neg (show ¬ b 1 (hd [i]) = b 0 (lst [i]) from fun h => bi.2.2.1 h.symm)]
        by_cases hto : ptst b (b 1 i)
        · rw [if_pos (show ptst b (b 1 (hd [i])) ∨ _ from Or.inl hto), if_pos (Or.inr hto)]
        · rw [if_neg, if_neg]
          · rintro (h | h)
            · exact hnt h
            · exact hto h
          · rintro (h | ⟨t, ht, h⟩)
            · exact hto h
            · have : t = i := by simpa using ht
              subst this
              exact bi.2.2.1 h
      have ce : wp true (d + 11 - 5 - ((b 4 1).toNat - 1) + ((b 4 1).toNat - 1) + 5) 226 0 [(40, 0), (0, (([i] : List Int).length : Int)), (0, (jshl 1 (b 0 i))), (9, 0), (9, 0)] [] (jw ν 65 0 0 i) (fun _ μ2 => wp true (d + 12) 229 25 [(40, 0), (0, (i + 1)), (9, 0)] [] μ2 Q) := by
        refine m_goesOn hv hF ((b 4 1).toNat - 1) _ [i] _ L _ _ hp (by simp; omega) (isM_fr hM (fun j => jw_t (by omega))) (LM_fr hL (fun t j h => jw_t (by omega))) ?_ ⟨inR_shl _ _, fun j hj => ?_⟩ ?_ (fun ξ h1 h2 => ?_)
        · intro j hj
          have : j = 0 := by simpa using hj
          subst this
          exact jw_eq _ _ _ _ _
        · rw [bt_bitz (by omega) (by omega)]
          constructor
          · intro h
            exact ⟨i, by simp, by have := of_decide_eq_true h; omega⟩
          · rintro ⟨u, h1, h2⟩
            have : u = i := by simpa using h1
            subst this
            exact decide_eq_true (by omega)
        · rw [eg]
          have hi2 := hi
          rw [show (b 5 1 - i).toNat = (b 5 1 - (i + 1)).toNat + 1 by omega] at hi2
          refine List.IsPrefix.trans ?_ hi2
          exact fup_pre (prog_pre b _) _ _ _
        · rw [eg] at h2
          refine hW ξ (jfr_trans hf (jfr_trans (jfr_jw (jfr_refl _ _) (by omega)) (jfr_mono h1 (fun t y i h => by omega)))) ?_ ?_ h2
          · rw [h1 _ _ _ (by omega), jw_t (by omega)]; exact h12'
          · rw [h1 _ _ _ (by omega), jw_t (by omega)]; exact h11
      have e5 : d + 11 = (d + 11 - 5 - ((b 4 1).toNat - 1)) + ((b 4 1).toNat - 1) + 5 := by omega
      rw [← e5] at ce
      exact ce
  · rw [show (b 5 1 - 0).toNat = nm b by omega]
    exact List.prefix_rfl
  · have hM : isM ν b := isM_fr hM0 (fun i => hf _ _ _ (by omega))
    refine s_X11_lays_25 (d + 10) _ _ _ ?_
    rw [isM_m hM]
    exact ⟨by omega, by omega, ⟨⟨by omega, by omega⟩, ⟨by omega, by omega⟩⟩, fun _ => second ν hf h12' h11 hL _, fun h => absurd h (by omega)⟩
