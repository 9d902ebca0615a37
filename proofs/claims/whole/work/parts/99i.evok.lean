/-! what a run shows, a walk shows -/
theorem slw_up {ph : Bool} : ∀ (k d m : Nat) (l : List JE) (ls st : List JV) (μ : JM) (Q Q' : JQ), (∀ r μ, Q r μ → Q' r μ) → slw (wp ph) ph k d m l ls st μ Q → slw (wp ph) ph (k + 1) d m l ls st μ Q'
  | 0, _, _, _, _, _, _, _, _, _, h => h.elim
  | k + 1, d, m, l, ls, st, μ, Q, Q', hQ, h => by
    cases l with
    | nil => exact h
    | cons e r => exact slwB_mono (X := wp ph) (Y := wp ph) (fun d m pc ls st μ Q Q' hQ h => wp_mono hQ h) (slw_up k) hQ h
theorem slw_add {ph : Bool} {k d m : Nat} {l : List JE} {ls st : List JV} {μ : JM} {Q : JQ} (h : slw (wp ph) ph k d m l ls st μ Q) : ∀ j, slw (wp ph) ph (k + j) d m l ls st μ Q
  | 0 => h
  | j + 1 => slw_up (k + j) d m l ls st μ Q Q (fun _ _ h => h) (slw_add h j)
theorem jgd_of {p : Prop} (hp : p) : ∀ {gs : List Prop}, (∀ g ∈ gs, g) → jgd gs p
  | [], _ => hp
  | g :: gs, h => ⟨h g List.mem_cons_self, jgd_of hp (fun q hq => h q (List.mem_cons_of_mem _ hq))⟩
theorem jnx_of {k d m : Nat} {e' : JE} {r : List JE} {ls st : List JV} {μ : JM} {Q : JQ} (h : slw (wp false) false k d m (cond (jin e'.1 (jcut m)) (jsuf e'.1 (jcode m)) (e' :: r)) ls st μ Q) : jnx (wp false) (slw (wp false) false k) d m (e' :: r) ls st μ Q := by
  unfold jnx
  dsimp only
  cases hc : jin e'.1 (jcut m) with
  | true =>
    rw [hc] at h
    exact wp_roll k h
  | false =>
    rw [hc] at h
    exact h
theorem jgo_of {k d m t : Nat} {ls st : List JV} {μ : JM} {Q : JQ} (h : slw (wp false) false k d m (jsuf t (jcode m)) ls st μ Q) : jgo (wp false) (slw (wp false) false k) d m t ls st μ Q := by
  unfold jgo
  cases jin t (jcut m) with
  | true => exact wp_roll k h
  | false => exact h
theorem jevl_ok {μ : JM} (hμ : ∀ t x i, t ≠ 80 → μ t x i = 0) : ∀ (n d m : Nat) (code : List JE) (ls st : List JV) (l l' : AL), jevl n d m code ls st l = some l' → ∀ Q : JQ, Q 0 (jmem μ l') → ∃ k, slw (wp false) false k d m code ls st (jmem μ l) Q
  | 0, _, _, _, _, _, _, _, h, _, _ => by cases h
  | n + 1, d, m, code, ls, st, l, l', h, Q, hQ => by
    unfold jevl at h
    split at h
    · cases h
    · rename_i e rest
      split at h
      · rename_i hc
        split at h
        · rename_i ls' st' l1 e' r he
          obtain ⟨k, hk⟩ := jevl_ok hμ n _ _ _ _ _ _ _ h Q hQ
          obtain ⟨gs, h1, h2⟩ := jev1_ok hμ he
          refine ⟨k + 1, ?_⟩
          show slwB (wp false) (slw (wp false) false k) false d m e (e' :: r) ls st (jmem μ l) Q
          unfold slwB
          rw [hc]
          try dsimp only
          rw [h1]
          exact jgd_of (jnx_of hk) h2
        · cases h
      · rename_i hc
        split at h
        · rename_i a y x st' e' r he
          obtain ⟨h1, h⟩ := condn h
          obtain ⟨b1, h1⟩ := band h1
          obtain ⟨b2, h1⟩ := band h1
          obtain ⟨b3, b4⟩ := band h1
          have hb : jbrn e.2.1 ((0, y) :: (0, x) :: st') = some (jcg .ge x y, jcmp .ge x y, st') := by
            rw [he]
            rfl
          have hg : jcg .ge x y := ⟨⟨of_decide_eq_true b1, of_decide_eq_true b2⟩, ⟨of_decide_eq_true b3, of_decide_eq_true b4⟩⟩
          cases hle : ile y x with
          | true =>
            rw [hle] at h
            obtain ⟨k, hk⟩ := jevl_ok hμ n _ _ _ _ _ _ _ h Q hQ
            have hle := of_decide_eq_true hle
            refine ⟨k + 1, ?_⟩
            show slwB (wp false) (slw (wp false) false k) false d m e (e' :: r) ls ((0, y) :: (0, x) :: st') (jmem μ l) Q
            unfold slwB
            rw [hc]
            try dsimp only
            rw [hb]
            exact ⟨hg, fun _ => jgo_of hk, fun hn => absurd hle hn⟩
          | false =>
            rw [hle] at h
            obtain ⟨k, hk⟩ := jevl_ok hμ n _ _ _ _ _ _ _ h Q hQ
            have hle := of_decide_eq_false hle
            refine ⟨k + 1, ?_⟩
            show slwB (wp false) (slw (wp false) false k) false d m e (e' :: r) ls ((0, y) :: (0, x) :: st') (jmem μ l) Q
            unfold slwB
            rw [hc]
            try dsimp only
            rw [hb]
            exact ⟨hg, fun hn => absurd hn hle, fun _ => jnx_of hk⟩
        · cases h
      · rename_i hc
        obtain ⟨k, hk⟩ := jevl_ok hμ n _ _ _ _ _ _ _ h Q hQ
        refine ⟨k + 1, ?_⟩
        show slwB (wp false) (slw (wp false) false k) false d m e rest ls st (jmem μ l) Q
        unfold slwB
        rw [hc]
        exact jgo_of hk
      · rename_i hc
        obtain ⟨h1, h⟩ := condn h
        obtain ⟨b1, h1⟩ := band h1
        obtain ⟨b2, h1⟩ := band h1
        obtain ⟨b3, h1⟩ := band h1
        obtain ⟨b4, b5⟩ := band h1
        cases d with
        | zero => cases h
        | succ d' =>
          cases rest with
          | nil => cases h
          | cons e' r =>
            dsimp only at h
            split at h
            · rename_i l1 he
              obtain ⟨k, hk⟩ := jevl_ok hμ n _ _ _ _ _ _ _ h Q hQ
              have b5 := Nat.eq_of_beq_eq_true b5
              obtain ⟨k2, hk2⟩ := jevl_ok hμ n _ _ _ _ _ _ _ he (fun r' μ' => jnx (wp false) (slw (wp false) false k) (d' + 1) m (e' :: r) ls (jpush (e.2.2.getD 3 0) r' (st.drop (e.2.2.getD 2 0))) μ' Q) (by rw [b5]; exact jnx_of hk)
              refine ⟨k + 1, ?_⟩
              show slwB (wp false) (slw (wp false) false k) false (d' + 1) m e (e' :: r) ls st (jmem μ l) Q
              unfold slwB
              rw [hc]
              try dsimp only
              rw [b1, b2, b3]
              show jcall (wp false) (slw (wp false) false k) (d' + 1) (e.2.2.getD 1 0) (st.take (e.2.2.getD 2 0)).reverse (jmem μ l) _
              unfold jcall
              try dsimp only
              rw [bnot b4]
              exact wp_roll k2 hk2
            · cases h
      · rename_i hc
        split at h
        · rename_i he
          cases h
          refine ⟨1, ?_⟩
          show slwB (wp false) (slw (wp false) false 0) false d m e rest ls [] (jmem μ l) Q
          unfold slwB
          rw [hc]
          try dsimp only
          rw [he]
          exact hQ
        · cases h
      · cases h
theorem jevl_wp {μ : JM} (hμ : ∀ t x i, t ≠ 80 → μ t x i = 0) {n d m : Nat} {ls : List JV} {l l' : AL} (h : jevl n d m (jsuf 0 (jcode m)) ls [] l = some l') : wp false d m 0 ls [] (jmem μ l) (fun r ν => r = 0 ∧ ν = jmem μ l') := by
  obtain ⟨k, hk⟩ := jevl_ok hμ n d m _ ls [] l l' h (fun r ν => r = 0 ∧ ν = jmem μ l') ⟨rfl, rfl⟩
  exact wp_roll k hk
