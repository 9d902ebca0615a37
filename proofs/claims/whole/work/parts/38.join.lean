/-! the reference's join: from the last transfer down -/
def pjs (b : BK) (l g i : Int) (K : List Int) : BK := fun j s => if j = 5 then (if s = 1 then i + (K.length : Int) else b 5 s) else if j = 4 then b 4 s else if s < i then b j s else if j = 0 ∨ j = 1 then ren l g (b j (K.getD (s - i).toNat 0)) else b j (K.getD (s - i).toNat 0)
theorem prem_pjs (b : BK) (l g t : Int) (K : List Int) : prem (pjs b l g t (t :: K)) t = pjs b l g t K := by
  funext j s
  unfold prem pjs
  by_cases h5 : j = 5
  · subst h5
    simp
    split
    · omega
    · rfl
  · by_cases h4 : j = 4
    · subst h4; simp
    · by_cases hs : s < t
      · simp [h5, h4, hs]
      · have e : (s + 1 - t).toNat = (s - t).toNat + 1 := by omega
        have h2 : ¬ (s + 1 < t) := by omega
        simp [h5, h4, hs, h2, e]
theorem m_join75 {d : Nat} {a1 a2 l g c t k v : Int} {ν : JM} {Q : JQ} (ht : 0 ≤ t ∧ t < 32) (hk : k = 8 + 4 * t ∨ k = 8 + 4 * t + 1) (hv : ν 41 0 k = v) (hvr : inR v) (hg : inR g) (h : ∀ ξ, jfr (fun t x i => t = 41 ∧ x = 0 ∧ i = k) ν ξ → ξ 41 0 k = ren l g v → wp true (d + 2) 217 75 [(40, 0), (0, a1), (0, a2), (0, l), (0, g), (0, c), (0, t), (0, k + 1)] [] ξ Q) : wp true (d + 2) 217 75 [(40, 0), (0, a1), (0, a2), (0, l), (0, g), (0, c), (0, t), (0, k)] [] ν Q := by
  refine s_X11_join_75 _ _ _ _ _ _ _ _ _ _ ?_
  rw [hv]
  unfold ren at h
  refine ⟨⟨⟨by omega, by omega⟩, ⟨by omega, by omega⟩⟩, fun h => absurd h (by omega), fun _ => ⟨by omega, by omega, Or.inr ⟨hvr, hg⟩, fun h1 => ⟨by omega, by omega, ⟨hvr, hg⟩, fun h2 => ?_, fun h2 => ⟨by omega, by omega, by omega, by omega, ?_⟩⟩, fun h1 => ⟨by omega, by omega, ?_⟩⟩⟩
  · refine h ν (jfr_refl _ _) ?_
    rw [if_neg h1, if_neg (by omega), hv]
  · refine h _ (jfr_jw (jfr_refl _ _) ⟨rfl, rfl, rfl⟩) ?_
    rw [if_neg h1, if_pos (by omega), jw_eq]
  · refine h _ (jfr_jw (jfr_refl _ _) ⟨rfl, rfl, rfl⟩) ?_
    rw [if_pos (by omega), jw_eq]
theorem m_joinloop {d : Nat} {a1 a2 l g : Int} {b : BK} {μ : JM} {Q : JQ} (hM : isM μ b) (hv : vb b) (hl : 0 ≤ l) (hlg : l < g) (hg : g < b 5 0) (k : ∀ ν, jfr (fun t x i => PMb t x i ∨ (t = 40 ∧ x = 0 ∧ i = 1)) μ ν → isM ν (pmrg b l g) → ν 40 0 1 = 0 → (ν 40 0 12 = 0 ∨ ν 40 0 12 = μ 40 0 12) → Q (b 5 1 - ((pkl b l g).length : Int)) ν) : wp true (d + 3) 217 63 [(40, 0), (0, a1), (0, a2), (0, l), (0, g), (0, 0), (0, b 5 1 - 1), (9, 0)] [] μ Q := by
  have hm := vb_m hv
  have hn := vb_n hv
  have hnm : (nm b : Int) = b 5 1 := by have := nm_eq hv; omega
  have key : ∀ (n : Nat) (c : Int) (u : JV) (ν : JM), (n : Int) ≤ b 5 1 → c = b 5 1 - n - ((fk (pkp b l g) (nm b - n) n).length : Int) → jfr PMb μ ν → isM ν (pjs b l g n (fk (pkp b l g) (nm b - n) n)) → (ν 40 0 12 = 0 ∨ ν 40 0 12 = μ 40 0 12) → wp true (d + 3) 217 63 [(40, 0), (0, a1), (0, a2), (0, l), (0, g), (0, c), (0, (n : Int) - 1), u] [] ν Q := by
    intro n
    induction n with
    | zero =>
      intro c u ν h1 h2 h3 h4 h5
      have hc : c = b 5 1 - ((pkl b l g).length : Int) := by
        rw [h2]
        simp only [Nat.sub_zero]
        unfold pkl
        simp
      have e2 : ν 41 0 2 = b 5 2 := by rw [isM_tr h4]; simp [pjs]
      have e0 : ν 41 0 0 = b 5 0 := by rw [isM_n h4]; simp [pjs]
      have ek : fk (pkp b l g) (nm b - 0) ((0 : Nat) : Int) = pkl b l g := rfl
      rw [ek] at h4
      refine s_X11_join_63 (d + 2) _ _ _ _ _ _ _ _ _ ⟨⟨⟨by omega, by omega⟩, ⟨by omega, by omega⟩⟩, fun _ => ⟨by omega, by omega, by omega, by omega, by omega, by omega, by omega, by omega, by omega, by omega, ?_⟩, fun h => absurd (by omega) h⟩
      rw [hc, e2, shr_eq (vb_tr hv) (by omega) (by omega)]
      refine k _ ?_ ?_ (by rw [jw_eq]) ?_
      · refine jfr_jw (jfr_jw (jfr_jw (jfr_mono h3 (fun t x i h => Or.inl h)) ?_) ?_) (Or.inr ⟨rfl, rfl, rfl⟩) <;> exact Or.inl (Or.inl ⟨rfl, rfl, by omega, by omega⟩)
      · refine ⟨?_, ?_, ?_, ?_, ?_⟩
        · simp [jw, pmrg, e0]
        · rw [jw_t (by omega), jw_i (by omega), jw_i (by omega), isM_m h4]
          simp [pjs, pmrg]
        · simp [jw, pmrg, ptr]
        · intro i a1 a2
          rw [jw_t (by omega), jw_i (by omega), jw_i (by omega), isM_b h4 a1 a2]
          simp [pjs, pmrg]
        · intro t a1 a2
          have a2' : t < ((pkl b l g).length : Int) := a2
          have q := isM_t h4 (t := t) a1 (by simp [pjs]; omega)
          have fr : ∀ j, 8 ≤ j → jw (jw (jw ν 41 0 2 (jor (jand (b 5 2) (jshl 1 g - 1)) (jshl (jushr (b 5 2) (g + 1)) g))) 41 0 0 (jw ν 41 0 2 (jor (jand (b 5 2) (jshl 1 g - 1)) (jshl (jushr (b 5 2) (g + 1)) g)) 41 0 0 - 1)) 40 0 1 0 41 0 j = ν 41 0 j := by
            intro j hj
            rw [jw_t (by omega), jw_i (by omega), jw_i (by omega)]
          rw [fr _ (by omega), fr _ (by omega), fr _ (by omega), fr _ (by omega), q.1, q.2.1, q.2.2.1, q.2.2.2]
          have h0 : ¬ t < 0 := by omega
          simp [pjs, pmrg, h0]
      · rw [jw_i (by omega), jw_t (by omega), jw_t (by omega)]
        exact h5
    | succ n ih =>
      intro c u ν h1 h2 h3 h4 h5
      have hb := vb_t hv (t := (n : Int)) (by omega) (by omega)
      have ln := fk_len (P := pkp b l g) (nm b - (n + 1)) ((n + 1 : Nat) : Int)
      generalize hK : fk (pkp b l g) (nm b - (n + 1)) ((n + 1 : Nat) : Int) = K at h2 h4 ln
      have e5 : pjs b l g ((n + 1 : Nat) : Int) K 5 1 = ((n + 1 : Nat) : Int) + (K.length : Int) := by simp [pjs]
      have r := isM_t h4 (t := (n : Int)) (by omega) (by omega)
      have hlt : (n : Int) < ((n + 1 : Nat) : Int) := by omega
      have r0 : ν 41 0 (8 + 4 * (n : Int) + 0) = b 0 n := by rw [r.1]; unfold pjs; rw [if_neg (by omega), if_neg (by omega), if_pos hlt]
      have r1 : ν 41 0 (8 + 4 * (n : Int) + 1) = b 1 n := by rw [r.2.1]; unfold pjs; rw [if_neg (by omega), if_neg (by omega), if_pos hlt]
      have r2 : ν 41 0 (8 + 4 * (n : Int) + 2) = b 2 n := by rw [r.2.2.1]; unfold pjs; rw [if_neg (by omega), if_neg (by omega), if_pos hlt]
      have r3 : ν 41 0 (8 + 4 * (n : Int) + 3) = b 3 n := by rw [r.2.2.2]; unfold pjs; rw [if_neg (by omega), if_neg (by omega), if_pos hlt]
      have en : ((n + 1 : Nat) : Int) - 1 = (n : Int) := by omega
      have fkn : fk (pkp b l g) (nm b - n) (n : Int) = if pkp b l g n = true then (n : Int) :: K else K := by
        rw [show nm b - n = (nm b - (n + 1)) + 1 by omega]
        conv => lhs; unfold fk
        rw [show (n : Int) + 1 = ((n + 1 : Nat) : Int) by omega, hK]
      refine s_X11_join_63 (d + 2) _ _ _ _ _ _ _ _ _ ?_
      rw [en]
      refine ⟨⟨⟨by omega, by omega⟩, ⟨by omega, by omega⟩⟩, fun h => absurd h (by omega), fun _ => ?_⟩
      refine m_join75 (v := b 0 n) ⟨by omega, by omega⟩ (Or.inl rfl) (by rw [← r0, Int.add_zero]) ⟨by omega, by omega⟩ ⟨by omega, by omega⟩ (fun ξ f1 x1 => ?_)
      refine m_join75 (v := b 1 n) ⟨by omega, by omega⟩ (Or.inr rfl) (by rw [f1 _ _ _ (fun h => by omega), r1]) ⟨by omega, by omega⟩ ⟨by omega, by omega⟩ (fun ζ f2 x2 => ?_)
      have z0 : ζ 41 0 (8 + 4 * (n : Int) + 0) = ren l g (b 0 n) := by rw [f2 _ _ _ (fun h => by omega), Int.add_zero, x1]
      have z1 : ζ 41 0 (8 + 4 * (n : Int) + 1) = ren l g (b 1 n) := x2
      have fz : ∀ j, j ≠ 8 + 4 * (n : Int) → j ≠ 8 + 4 * (n : Int) + 1 → ζ 41 0 j = ν 41 0 j := fun j g1 g2 => by rw [f2 _ _ _ (fun h => g2 h.2.2), f1 _ _ _ (fun h => g1 h.2.2)]
      have fz12 : ζ 40 0 12 = ν 40 0 12 := by rw [f2 _ _ _ (fun h => by omega), f1 _ _ _ (fun h => by omega)]
      have f3 : jfr PMb μ ζ := jfr_trans h3 (jfr_trans (jfr_mono f1 (fun t x i h => Or.inl ⟨h.1, h.2.1, by omega, by omega⟩)) (jfr_mono f2 (fun t x i h => Or.inl ⟨h.1, h.2.1, by omega, by omega⟩)))
      have hZ : isM ζ (pjs b l g n ((n : Int) :: K)) := by
        refine ⟨?_, ?_, ?_, ?_, ?_⟩
        · rw [fz _ (by omega) (by omega), isM_n h4]; simp [pjs]
        · rw [fz _ (by omega) (by omega), isM_m h4]; simp [pjs]; omega
        · rw [fz _ (by omega) (by omega), isM_tr h4]; simp [pjs]
        · intro i a1 a2
          rw [fz _ (by omega) (by omega), isM_b h4 a1 a2]; simp [pjs]
        · intro t a1 a2
          have a2' : t < (n : Int) + ((K.length : Int) + 1) := by simpa [pjs] using a2
          by_cases ht : t = n
          · subst ht
            rw [z0, z1, fz _ (by omega) (by omega), fz _ (by omega) (by omega), r2, r3]
            simp [pjs]
          · have q := isM_t h4 (t := t) a1 (by omega)
            rw [fz _ (by omega) (by omega), fz _ (by omega) (by omega), fz _ (by omega) (by omega), fz _ (by omega) (by omega), q.1, q.2.1, q.2.2.1, q.2.2.2]
            by_cases hlt : t < n
            · have h2 : t < ((n + 1 : Nat) : Int) := by omega
              unfold pjs
              simp only [if_pos hlt, if_pos h2]
              exact ⟨rfl, rfl, rfl, rfl⟩
            · have h2 : ¬ t < ((n + 1 : Nat) : Int) := by omega
              have e : (t - (n : Int)).toNat = (t - ((n + 1 : Nat) : Int)).toNat + 1 := by omega
              unfold pjs
              simp only [if_neg hlt, if_neg h2, e, List.getD_cons_succ]
              exact ⟨rfl, rfl, rfl, rfl⟩
      refine s_X11_join_75 (d + 1) _ _ _ _ _ _ _ _ _ ?_
      rw [z0, z1]
      have i0 : inR (ren l g (b 0 n)) := by unfold ren; constructor <;> split <;> first | omega | (split <;> omega)
      have i1 : inR (ren l g (b 1 n)) := by unfold ren; constructor <;> split <;> first | omega | (split <;> omega)
      have en2 : (n : Int) + -1 = (n : Int) - 1 := by omega
      refine ⟨⟨⟨by omega, by omega⟩, ⟨by omega, by omega⟩⟩, fun _ => ⟨by omega, by omega, by omega, by omega, Or.inr ⟨i0, i1⟩, fun hc => ?_, fun hc => ?_⟩, fun h => absurd (by omega) h⟩
      · have hp : ¬ pkp b l g n = true := by simp [hc]
        rw [if_neg hp] at fkn
        refine m_goes hZ (by simp [pjs]; omega) (by omega) (by simp [pjs]; omega) (fun ω f4 hW h12 => ?_)
        rw [en2]
        rw [prem_pjs] at hW
        exact ih _ _ ω (by omega) (by rw [fkn]; omega) (jfr_trans f3 f4) (by rw [fkn]; exact hW) (Or.inl h12)
      · have hp : pkp b l g n = true := by simp [hc]
        rw [if_pos hp] at fkn
        rw [en2]
        exact ih _ _ ζ (by omega) (by rw [fkn]; simp; omega) f3 (by rw [fkn]; exact hZ) (by rw [fz12]; exact h5)
  have := key (nm b) 0 (9, 0) μ (by omega) (by simp [fk]; omega) (jfr_refl _ _) (by
    rw [Nat.sub_self]
    refine ⟨?_, ?_, ?_, ?_, ?_⟩
    · rw [isM_n hM]; simp [pjs]
    · rw [isM_m hM]; simp [pjs, fk]; omega
    · rw [isM_tr hM]; simp [pjs]
    · intro i a1 a2
      rw [isM_b hM a1 a2]; simp [pjs]
    · intro t a1 a2
      have a2' : t < (nm b : Int) := by simpa [pjs, fk] using a2
      have q := isM_t hM (t := t) a1 (by omega)
      rw [q.1, q.2.1, q.2.2.1, q.2.2.2]
      unfold pjs
      simp only [if_pos a2']
      exact ⟨rfl, rfl, rfl, rfl⟩) (Or.inr rfl)
  rw [hnm] at this
  exact this
