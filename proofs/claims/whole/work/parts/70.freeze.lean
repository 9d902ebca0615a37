/-! funnels; counting bits; freeze -/
def oFunnel (b : BK) (t w x : Int) : Int × Int := if t < 0 ∨ ¬ (0 ≤ w ∧ w ≤ 9999) ∨ ¬ (0 ≤ x ∧ x ≤ 5) then (-1, 1) else if ¬ t < b 5 1 then (-1, 5) else (if x % 3 = 0 then pfc b t w (decide (3 ≤ x)) else if x % 3 = 1 then pfa b t w (decide (3 ≤ x)) else if pfun b t w (decide (3 ≤ x)) then 1 else 0, 0)
theorem c_funnel67 {d : Nat} {b : BK} {A K : List BK} {c : Int} {ν : JM} {Q : JQ} (hV : VS b A K) (h : CI b A K c ν) {t w x s o : Int} (ht : 0 ≤ t ∧ t < b 5 1) (hw : 0 ≤ w ∧ w ≤ 9999) (hs : 0 ≤ s ∧ s ≤ 2) (ho : o = 0 ∨ o = 1) (k : KC b A K c ν Q (if s = 0 then pfc b t w (decide (o = 1)) else if s = 1 then pfa b t w (decide (o = 1)) else if pfun b t w (decide (o = 1)) then 1 else 0, 0)) : wp true (d + 14) 168 67 [(11, 0), (0, t), (0, w), (0, x), (0, o)] [(0, s)] ν Q := by
  refine s_X10_funnel_67 (d + 13) _ _ _ _ _ _ _ ⟨⟨by omega, by omega⟩, fun e => ?_, fun n0 => ⟨fun e => ?_, fun n1 => ?_⟩⟩
  · rw [if_pos e] at k
    exact c_funnelCount h.1 hV.1 ht.1 ht.2 hw ho (KC_fin k h (jfr_refl _ _))
  · rw [if_neg n0, if_pos e] at k
    exact c_funnelAmount h.1 hV.1 ht.1 ht.2 hw ho (KC_fin k h (jfr_refl _ _))
  · rw [if_neg n0, if_neg n1] at k
    refine c_isFunnel h.1 hV.1 ht.1 ht.2 hw ho (fun hp => ⟨by decide, fun h => absurd h (by decide), fun _ => ?_⟩) (fun hp => ⟨by decide, fun _ => ?_, fun h => absurd rfl h⟩)
    · rw [if_pos hp] at k
      exact KC_fin k h (jfr_refl _ _)
    · rw [if_neg hp] at k
      exact KC_fin k h (jfr_refl _ _)
theorem c_funnel {d : Nat} {b : BK} {A K : List BK} {c : Int} {ν : JM} {Q : JQ} (hV : VS b A K) (h : CI b A K c ν) {t w x : Int} (ht : inR t) (hw : inR w) (hx : inR x) (k : KC b A K c ν Q (oFunnel b t w x)) : wp true (d + 14) 168 0 [(11, 0), (0, t), (0, w), (0, x), (9, 0)] [] ν Q := by
  unfold oFunnel at k
  refine s_X10_funnel_0 (d + 13) _ _ _ _ _ ⟨⟨ht, ⟨by omega, by omega⟩⟩, fun h0 => ?_, fun h0 => w_notTime (d := d + 12) hw (fun w0 w1 => ⟨by decide, fun h => absurd rfl h, fun _ => ?_⟩) (fun w2 => ⟨by decide, fun _ => ?_, fun h => absurd (by decide) h⟩)⟩
  · rw [if_pos (by omega)] at k
    exact KC_fin k h (jfr_refl _ _)
  · refine w_outside hx ⟨by omega, by omega⟩ ⟨by omega, by omega⟩ (fun x0 x1 => ⟨by decide, fun _ => ?_, fun h => absurd rfl h⟩) (fun x2 => ⟨by decide, fun h => absurd h (by decide), fun _ => ?_⟩)
    · rw [if_neg (by omega)] at k
      refine w_hasTransfer h.1 hV.1 ht (fun t0 t1 => ⟨by decide, fun _ => ?_, fun h => absurd (by decide) h⟩) (fun a => ⟨by decide, fun h => absurd rfl h, fun _ => ?_⟩)
      · rw [if_neg (by omega)] at k
        refine ⟨⟨hx, ⟨by omega, by omega⟩⟩, fun lt => ⟨by decide, fun _ => ?_, fun h => absurd rfl h⟩, fun ge => ⟨by decide, fun h => absurd h (by decide), fun _ => ?_⟩⟩
        · rw [decide_eq_false (show ¬ 3 ≤ x by omega), show x % 3 = x by omega] at k
          exact c_funnel67 (o := 0) hV h ⟨t0, t1⟩ ⟨w0, w1⟩ ⟨by omega, by omega⟩ (Or.inl rfl) k
        · rw [decide_eq_true (show 3 ≤ x by omega), show x % 3 = x - 3 by omega] at k
          exact c_funnel67 (o := 1) hV h ⟨t0, t1⟩ ⟨w0, w1⟩ ⟨by omega, by omega⟩ (Or.inr rfl) k
      · rw [if_pos (by omega)] at k
        exact KC_fin k h (jfr_refl _ _)
    · rw [if_pos (Or.inr (Or.inr x2))] at k
      exact KC_fin k h (jfr_refl _ _)
  · rw [if_pos (Or.inr (Or.inl w2))] at k
    exact KC_fin k h (jfr_refl _ _)
theorem m_funnel57 {d : Nat} {b : BK} {A K : List BK} {ν : JM} {Q : JQ} (hV : VS b A K) (h : MI b A K ν) {a1 a2 t w x o : Int} (ht : 0 ≤ t ∧ t < b 5 1) (hw : 0 ≤ w ∧ w ≤ 9999) (hx : 0 ≤ x ∧ x ≤ 5) (ho : o = 0 ∨ o = 1) (k : KM b A K ν Q (if x % 3 = 0 then pfc b t w (decide (o = 1)) else if x % 3 = 1 then pfa b t w (decide (o = 1)) else if pfun b t w (decide (o = 1)) then 1 else 0, 0)) : wp true (d + 13) 315 57 [(40, 0), (0, a1), (0, a2), (0, x), (9, 0)] [(0, o), (0, w), (0, t), (40, 0)] ν Q := by
  refine s_X11_funnel_57 (d + 12) _ _ _ _ _ _ _ _ (m_isFunnel (d := d + 8) h.1 hV.1 ht.1 ht.2 hw ho (fun ξ hf e35 e36 => ?_))
  have h2 : MI b A K ξ := MI_fr hV.2.1 hV.2.2 h (fun t i h => hf _ _ _ (by omega))
  have hff : jfr PQm ν ξ := jfr_mono hf (fun t y i h => by omega)
  refine ⟨fun hp => ?_, fun hp => ?_⟩
  · rw [e35, e36]
    refine ⟨by omega, by omega, by omega, by omega, Or.inr ⟨⟨by omega, by omega⟩, ⟨by omega, by omega⟩⟩, fun n0 => ⟨by omega, by omega, by omega, by omega, Or.inr ⟨⟨by omega, by omega⟩, ⟨by omega, by omega⟩⟩, fun n1 => ⟨by decide, fun h => absurd h (by decide), fun _ => ?_⟩, fun e1 => ?_⟩, fun e0 => ?_⟩
    · rw [if_neg n0, if_neg n1, if_pos hp] at k
      exact KM_fin hV k h2 hff
    · rw [if_neg n0, if_pos (by omega)] at k
      exact KM_fin hV k h2 hff
    · rw [if_pos (by omega)] at k
      exact KM_fin hV k h2 hff
  · rw [e35, e36]
    refine ⟨by omega, by omega, by omega, by omega, Or.inr ⟨⟨by omega, by omega⟩, ⟨by omega, by omega⟩⟩, fun n0 => ⟨by omega, by omega, by omega, by omega, Or.inr ⟨⟨by omega, by omega⟩, ⟨by omega, by omega⟩⟩, fun n1 => ⟨by decide, fun _ => ?_, fun h => absurd rfl h⟩, fun e1 => ?_⟩, fun e0 => ?_⟩
    · rw [if_neg n0, if_neg n1, if_neg hp] at k
      exact KM_fin hV k h2 hff
    · rw [if_neg n0, if_pos (by omega)] at k
      exact KM_fin hV k h2 hff
    · rw [if_pos (by omega)] at k
      exact KM_fin hV k h2 hff
theorem m_funnel {d : Nat} {b : BK} {A K : List BK} {ν : JM} {Q : JQ} (hV : VS b A K) (h : MI b A K ν) {t w x : Int} (ht : inR t) (hw : inR w) (hx : inR x) (k : KM b A K ν Q (oFunnel b t w x)) : wp true (d + 13) 315 0 [(40, 0), (0, t), (0, w), (0, x), (9, 0)] [] ν Q := by
  unfold oFunnel at k
  refine s_X11_funnel_0 (d + 12) _ _ _ _ _ ⟨⟨ht, ⟨by omega, by omega⟩⟩, fun h0 => ?_, fun h0 => w_isFrom hw ⟨by omega, by omega⟩ ⟨by omega, by omega⟩ (fun w0 w1 => ⟨by decide, fun h => absurd h (by decide), fun _ => ?_⟩) (fun w2 => ⟨by decide, fun _ => ?_, fun h => absurd rfl h⟩)⟩
  · rw [if_pos (by omega)] at k
    exact KM_fin hV k h (jfr_refl _ _)
  · refine w_isFrom hx ⟨by omega, by omega⟩ ⟨by omega, by omega⟩ (fun x0 x1 => ⟨by decide, fun _ => ?_, fun h => absurd (by decide) h⟩) (fun x2 => ⟨by decide, fun h => absurd rfl h, fun _ => ?_⟩)
    · rw [if_neg (by omega)] at k
      refine w_isTransfer h.1 hV.1 ht (fun t0 t1 => ⟨by decide, fun _ => ?_, fun h => absurd (by decide) h⟩) (fun a => ⟨by decide, fun h => absurd rfl h, fun _ => ?_⟩)
      · rw [if_neg (by omega)] at k
        refine ⟨⟨hx, ⟨by omega, by omega⟩⟩, fun lt => ?_, fun ge => ?_⟩
        · rw [decide_eq_false (show ¬ 3 ≤ x by omega)] at k
          exact m_funnel57 (o := 0) hV h ⟨t0, t1⟩ ⟨w0, w1⟩ ⟨x0, x1⟩ (Or.inl rfl) k
        · rw [decide_eq_true (show 3 ≤ x by omega)] at k
          exact m_funnel57 (o := 1) hV h ⟨t0, t1⟩ ⟨w0, w1⟩ ⟨x0, x1⟩ (Or.inr rfl) k
      · rw [if_pos (by omega)] at k
        exact KM_fin hV k h (jfr_refl _ _)
    · rw [if_pos (Or.inr (Or.inr x2))] at k
      exact KM_fin hV k h (jfr_refl _ _)
  · rw [if_pos (Or.inr (Or.inl w2))] at k
    exact KM_fin hV k h (jfr_refl _ _)
def oFunnels (b : BK) (w o : Int) : Int × Int := if ¬ (0 ≤ w ∧ w ≤ 9999) then (-1, 1) else (pfuns b w (decide (o = 1)), 0)
theorem c_funnels {d : Nat} {b : BK} {A K : List BK} {c : Int} {ν : JM} {Q : JQ} (hV : VS b A K) (h : CI b A K c ν) {w o : Int} (hw : inR w) (ho : o = 0 ∨ o = 1) (k : KC b A K c ν Q (oFunnels b w o)) : wp true (d + 14) 169 0 [(11, 0), (0, w), (0, o), (9, 0), (9, 0)] [] ν Q := by
  unfold oFunnels at k
  have hm := vb_m hV.1
  have hn := nm_eq hV.1
  refine s_X10_funnels_0 (d + 13) _ _ _ _ (w_notTime (d := d + 12) hw (fun w0 w1 => ⟨by decide, fun _ => ?_, fun h => absurd rfl h⟩) (fun w2 => ⟨by decide, fun h => absurd h (by decide), fun _ => ?_⟩))
  · rw [if_neg (by omega)] at k
    refine fup_lp (W := fun i (c : Int) => wp true (d + 14) 169 18 [(11, 0), (0, w), (0, o), (0, c), (0, i)] [] ν Q) (g := fun c t => c + if pfun b t w (decide (o = 1)) then 1 else 0) (lo := 0) (n := b 5 1) (fun i c i0 i1 hW => ?_) (nm b) 0 0 (by omega) hn ?_
    · refine s_X10_funnels_18 (d + 13) _ _ _ _ _ _ ?_
      rw [isC_m h.1]
      refine ⟨⟨⟨by omega, by omega⟩, ⟨by omega, by omega⟩⟩, fun h => absurd h (by omega), fun _ => c_isFunnel (d := d + 11) h.1 hV.1 i0 i1 ⟨w0, w1⟩ ho (fun hp => ⟨by decide, fun h => absurd h (by decide), fun _ => ?_⟩) (fun hp => ⟨by decide, fun _ => ?_, fun h => absurd rfl h⟩)⟩
      · rw [if_pos hp] at hW
        exact hW
      · rw [if_neg hp, Int.add_zero] at hW
        exact hW
    · refine s_X10_funnels_18 (d + 13) _ _ _ _ _ _ ?_
      rw [isC_m h.1]
      exact ⟨⟨⟨by omega, by omega⟩, ⟨by omega, by omega⟩⟩, fun _ => KC_fin k h (jfr_refl _ _), fun h => absurd (Int.le_refl _) h⟩
  · rw [if_pos (by omega)] at k
    exact KC_fin k h (jfr_refl _ _)
theorem m_funnels {d : Nat} {b : BK} {A K : List BK} {ν : JM} {Q : JQ} (hV : VS b A K) (h : MI b A K ν) {w o : Int} (hw : inR w) (ho : o = 0 ∨ o = 1) (k : KM b A K ν Q (oFunnels b w o)) : wp true (d + 13) 316 0 [(40, 0), (0, w), (0, o), (9, 0), (9, 0)] [] ν Q := by
  unfold oFunnels at k
  have hm := vb_m hV.1
  have hn := nm_eq hV.1
  refine s_X11_funnels_0 (d + 12) _ _ _ _ (w_isFrom hw ⟨by omega, by omega⟩ ⟨by omega, by omega⟩ (fun w0 w1 => ⟨by decide, fun _ => ?_, fun h => absurd (by decide) h⟩) (fun w2 => ⟨by decide, fun h => absurd rfl h, fun _ => ?_⟩))
  · rw [if_neg (by omega)] at k
    refine fup_lp (W := fun i (c : Int) => ∀ ζ, MI b A K ζ → jfr PQm ν ζ → wp true (d + 13) 316 22 [(40, 0), (0, w), (0, o), (0, c), (0, i)] [] ζ Q) (g := fun c t => c + if pfun b t w (decide (o = 1)) then 1 else 0) (lo := 0) (n := b 5 1) (fun i c i0 i1 hW ζ h2 hf => ?_) (nm b) 0 0 (by omega) hn (fun ζ h2 hf => ?_) ν h (jfr_refl _ _)
    · refine s_X11_funnels_22 (d + 12) _ _ _ _ _ _ ?_
      rw [isM_m h2.1]
      refine ⟨by omega, by omega, ⟨⟨by omega, by omega⟩, ⟨by omega, by omega⟩⟩, fun h => absurd h (by omega), fun _ => m_isFunnel (d := d + 8) h2.1 hV.1 i0 i1 ⟨w0, w1⟩ ho (fun ξ hf2 _ _ => ?_)⟩
      have hW' := hW ξ (MI_fr hV.2.1 hV.2.2 h2 (fun t i h => hf2 _ _ _ (by omega))) (jfr_trans hf (jfr_mono hf2 (fun t y i h => by omega)))
      refine ⟨fun hp => ⟨by decide, fun h => absurd h (by decide), fun _ => ?_⟩, fun hp => ⟨by decide, fun _ => ?_, fun h => absurd rfl h⟩⟩
      · rw [if_pos hp] at hW'
        exact hW'
      · rw [if_neg hp] at hW'
        exact hW'
    · refine s_X11_funnels_22 (d + 12) _ _ _ _ _ _ ?_
      rw [isM_m h2.1]
      exact ⟨by omega, by omega, ⟨⟨by omega, by omega⟩, ⟨by omega, by omega⟩⟩, fun _ => KM_fin hV k h2 hf, fun h => absurd (Int.le_refl _) h⟩
  · rw [if_pos (by omega)] at k
    exact KM_fin hV k h (jfr_refl _ _)
/-- how many bits, by clearing the lowest -/
theorem pop_clr0 : ∀ a : Nat, a < 64 → ∀ c : Nat, c < 64 → 64 * a + c = 0 ∨ pop12 ((64 * a + c) &&& (64 * a + c - 1)) + 1 = pop12 (64 * a + c) := by decide +kernel
theorem pop_clr {n : Nat} (h : n < 4096) : n = 0 ∨ pop12 (n &&& (n - 1)) + 1 = pop12 n := by
  have := pop_clr0 (n / 64) (by omega) (n % 64) (by omega)
  rw [show 64 * (n / 64) + n % 64 = n by omega] at this
  exact this
theorem m_bits {d : Nat} {n : Nat} {μ : JM} {Q : JQ} (hn : n < 4096) (k : Q (pop12 n : Int) μ) : wp true d 195 0 [(0, (n : Int)), (9, 0), (9, 0)] [] μ Q := by
  have key : ∀ (f x : Nat) (l : Int), x < 4096 → pop12 x = f → Q (l + (f : Int)) μ → wp true d 195 4 [(0, (n : Int)), (0, l), (0, (x : Int))] [] μ Q := by
    intro f
    induction f with
    | zero =>
      intro x l hx hp hQ
      have e : x = 0 := by
        rcases pop_clr hx with e | e
        · exact e
        · omega
      subst e
      rw [show l + ((0 : Nat) : Int) = l by omega] at hQ
      exact s_X11_bits_4 _ _ _ _ _ _ ⟨Or.inl rfl, fun _ => hQ, fun h => absurd rfl h⟩
    | succ f ih =>
      intro x l hx hp hQ
      have hx0 : x ≠ 0 := fun e => by
        subst e
        cases hp
      have hc := (pop_clr hx).resolve_left hx0
      have hle : x &&& (x - 1) ≤ x := Nat.and_le_left
      refine s_X11_bits_4 _ _ _ _ _ _ ⟨Or.inr ⟨⟨by omega, by omega⟩, ⟨by omega, by omega⟩⟩, fun h => absurd h (by omega), fun _ => ?_⟩
      rw [show ((x : Int) - 1) = ((x - 1 : Nat) : Int) by omega, and_n (by omega) (by omega)]
      refine ih _ _ (by omega) (by omega) ?_
      rw [show l + 1 + (f : Int) = l + ((f + 1 : Nat) : Int) by omega]
      exact hQ
  have := key (pop12 n) n 0 hn rfl (by rw [Int.zero_add]; exact k)
  exact s_X11_bits_0 _ _ _ _ this
/-- alarms have accounts of the book -/
theorem ral_mem {b : BK} (hv : vb b) {F : LL} (hg : gd b F) {a : Int} (ha : 0 ≤ a ∧ a < nal b F) : (2 ≤ (ral b F a).length ∧ (ral b F a).length ≤ 5) ∧ ∀ x ∈ ral b F a, 0 ≤ x ∧ x < b 5 0 := by
  have en : nal b F = ((pal b F F.length).length : Int) := rfl
  obtain ⟨r, hr, e⟩ := pal_of b F F.length (ral b F a) (gdl_mem (by omega))
  have g := gd_get hg hr
  have gl := gr_len g
  rw [← e]
  refine ⟨by show 2 ≤ (pring b (F.getD r [])).length ∧ (pring b (F.getD r [])).length ≤ 5; rw [pring_len]; exact gl, fun x hx => ?_⟩
  obtain ⟨t, ht, rfl⟩ := (mem_pring gl x).1 hx
  have gi := gr_in g ht
  exact (vb_t hv gi.1 gi.2).1
/-- does a set meet all alarms -/
def pht (b : BK) (F : LL) (s : Int) : Bool := decide (ffst (fun a => decide (jand (pmk (ral b F a)) s = 0)) (pal b F F.length).length 0 = nal b F)
theorem pht_no {b : BK} {F : LL} {s i : Int} (h0 : 0 ≤ i) (h1 : i < nal b F) (hp : decide (jand (pmk (ral b F i)) s = 0) = true) (hb : ∀ j, 0 ≤ j → j < i → decide (jand (pmk (ral b F j)) s = 0) = false) : pht b F s = false := by
  have en : nal b F = ((pal b F F.length).length : Int) := rfl
  have e := ffst_eq (p := fun a => decide (jand (pmk (ral b F a)) s = 0)) (k := (pal b F F.length).length) h0 (by omega) hp hb
  unfold pht
  rw [e]
  exact decide_eq_false (by omega)
theorem pht_ok {b : BK} {F : LL} {s : Int} (hb : ∀ j, 0 ≤ j → j < nal b F → decide (jand (pmk (ral b F j)) s = 0) = false) : pht b F s = true := by
  have en : nal b F = ((pal b F F.length).length : Int) := rfl
  have e := ffst_no (p := fun a => decide (jand (pmk (ral b F a)) s = 0)) (k := (pal b F F.length).length) (lo := 0) (fun j h0 h1 => hb j h0 (by omega))
  unfold pht
  rw [e]
  exact decide_eq_true (by omega)
theorem c_allMeet {d : Nat} {b : BK} {F : LL} {ν : JM} {Q : JQ} {s : Int} (hv : vb b) (hg : gd b F) (hR : RS b F ν) (k1 : pht b F s = true → Q 1 ν) (k0 : pht b F s = false → Q 0 ν) : wp true d 20 0 [(27, 0), (0, s), (9, 0)] [] ν Q := by
  have na := nal_in b F hR.2.1.2.1
  have en : nal b F = ((pal b F F.length).length : Int) := rfl
  have e0 : ν 27 0 0 = nal b F := hR.2.2.2.1.1
  refine s_X0_allMeet_0 _ _ _ _ (ffst_lp (p := fun a => decide (jand (pmk (ral b F a)) s = 0)) (W := fun i => wp true d 20 2 [(27, 0), (0, s), (0, i)] [] ν Q) (lo := 0) (n := nal b F) (fun i i0 i1 hp hb => ?_) (fun i i0 i1 hp hW => ?_) (fun hb => ?_) (pal b F F.length).length 0 (by omega) (by omega) (fun j h1 h2 => by omega))
  · have q := (RS_al hv hg hR ⟨i0, i1⟩).2.1
    have e2 := of_decide_eq_true hp
    refine s_X0_allMeet_2 _ _ _ _ _ ?_
    rw [e0, q.2.2]
    exact ⟨⟨⟨by omega, by omega⟩, ⟨by omega, by omega⟩⟩, fun h => absurd h (by omega), fun _ => ⟨q.1, i0, q.2.1, Or.inl e2, fun h => absurd e2 h, fun _ => ⟨by omega, by omega, k0 (pht_no i0 i1 hp hb)⟩⟩⟩
  · have q := (RS_al hv hg hR ⟨i0, i1⟩).2.1
    have e2 := of_decide_eq_false hp
    refine s_X0_allMeet_2 _ _ _ _ _ ?_
    rw [e0, q.2.2]
    exact ⟨⟨⟨by omega, by omega⟩, ⟨by omega, by omega⟩⟩, fun h => absurd h (by omega), fun _ => ⟨q.1, i0, q.2.1, Or.inr ⟨inR_and _ _, ⟨by omega, by omega⟩⟩, fun _ => hW, fun h => absurd e2 h⟩⟩
  · refine s_X0_allMeet_2 _ _ _ _ _ ?_
    rw [e0]
    exact ⟨⟨⟨by omega, by omega⟩, ⟨by omega, by omega⟩⟩, fun _ => ⟨by omega, by omega, k1 (pht_ok hb)⟩, fun h => absurd (Int.le_refl _) h⟩
theorem m_isHit {d : Nat} {b : BK} {F : LL} {ν : JM} {Q : JQ} {s : Int} (hv : vb b) (hg : gd b F) (hL : ML b F ν) (hF : F.length ≤ 12000) (k1 : pht b F s = true → Q 1 ν) (k0 : pht b F s = false → Q 0 ν) : wp true d 312 0 [(40, 0), (0, s), (9, 0)] [] ν Q := by
  have na := nal_in b F hF
  have en : nal b F = ((pal b F F.length).length : Int) := rfl
  have e0 : ν 40 0 11 = nal b F := hL.2.1
  refine s_X11_isHit_0 _ _ _ _ (ffst_lp (p := fun a => decide (jand (pmk (ral b F a)) s = 0)) (W := fun i => wp true d 312 2 [(40, 0), (0, s), (0, i)] [] ν Q) (lo := 0) (n := nal b F) (fun i i0 i1 hp hb => ?_) (fun i i0 i1 hp hW => ?_) (fun hb => ?_) (pal b F F.length).length 0 (by omega) (by omega) (fun j h1 h2 => by omega))
  · have q := ML_al hv hg hL ⟨i0, i1⟩
    have e2 := of_decide_eq_true hp
    refine s_X11_isHit_2 _ _ _ _ _ ?_
    rw [e0, q.2.2.1]
    exact ⟨⟨⟨by omega, by omega⟩, ⟨by omega, by omega⟩⟩, fun h => absurd h (by omega), fun _ => ⟨by omega, by omega, by omega, by omega, Or.inl e2, fun h => absurd e2 h, fun _ => ⟨by omega, by omega, k0 (pht_no i0 i1 hp hb)⟩⟩⟩
  · have q := ML_al hv hg hL ⟨i0, i1⟩
    have e2 := of_decide_eq_false hp
    refine s_X11_isHit_2 _ _ _ _ _ ?_
    rw [e0, q.2.2.1]
    exact ⟨⟨⟨by omega, by omega⟩, ⟨by omega, by omega⟩⟩, fun h => absurd h (by omega), fun _ => ⟨by omega, by omega, by omega, by omega, Or.inr ⟨inR_and _ _, ⟨by omega, by omega⟩⟩, fun _ => hW, fun h => absurd e2 h⟩⟩
  · refine s_X11_isHit_2 _ _ _ _ _ ?_
    rw [e0]
    exact ⟨⟨⟨by omega, by omega⟩, ⟨by omega, by omega⟩⟩, fun _ => ⟨by omega, by omega, k1 (pht_ok hb)⟩, fun h => absurd (Int.le_refl _) h⟩
