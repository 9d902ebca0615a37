/-! ALARMS: the unlike rings in the order of their first rounds -/
/-- the place of a thing in a row; its length if it isn't there -/
def ixo (x : List Int) : LL → Nat
  | [] => 0
  | y :: l => if y = x then 0 else ixo x l + 1
theorem ixo_lt {x : List Int} : ∀ {l : LL}, x ∈ l → ixo x l < l.length ∧ l.getD (ixo x l) [] = x
  | [], h => by cases h
  | y :: l, h => by
    unfold ixo
    by_cases e : y = x
    · rw [if_pos e]
      exact ⟨by simp, by simpa using e⟩
    · rw [if_neg e]
      have := ixo_lt (l := l) (by rcases List.mem_cons.mp h with h | h; exact absurd h.symm e; exact h)
      exact ⟨by simp; exact this.1, by simpa using this.2⟩
theorem ixo_out {x : List Int} : ∀ {l : LL}, ¬ x ∈ l → ixo x l = l.length
  | [], _ => rfl
  | y :: l, h => by
    unfold ixo
    rw [if_neg (fun (e : y = x) => h (e ▸ List.mem_cons_self ..)), ixo_out (l := l) (fun hm => h (List.mem_cons_of_mem _ hm))]
    rfl
theorem ixo_bef {x : List Int} : ∀ {l : LL} {j : Nat}, j < ixo x l → l.getD j [] ≠ x
  | [], j, h => by cases h
  | y :: l, j, h => by
    unfold ixo at h
    by_cases e : y = x
    · rw [if_pos e] at h
      cases h
    · rw [if_neg e] at h
      cases j with
      | zero => simpa using e
      | succ j =>
        simp only [List.getD_cons_succ]
        exact ixo_bef (l := l) (by omega)
theorem ixo_app {x : List Int} {k : LL} : ∀ {l : LL}, x ∈ l → ixo x (l ++ k) = ixo x l
  | [], h => by cases h
  | y :: l, h => by
    show ixo x (y :: (l ++ k)) = _
    unfold ixo
    by_cases e : y = x
    · rw [if_pos e, if_pos e]
    · rw [if_neg e, if_neg e, ixo_app (l := l) (by rcases List.mem_cons.mp h with h | h; exact absurd h.symm e; exact h)]
theorem ixo_uniq {x : List Int} : ∀ {l : LL} {i : Nat}, l.Nodup → i < l.length → l.getD i [] = x → ixo x l = i
  | [], i, _, h, _ => by cases h
  | y :: l, i, hn, h, e => by
    have hn' := List.nodup_cons.mp hn
    unfold ixo
    cases i with
    | zero =>
      rw [if_pos (by simpa using e)]
    | succ i =>
      simp only [List.getD_cons_succ] at e
      have hi : i < l.length := by simpa using h
      have hm : x ∈ l := by
        rw [← e, List.getD_eq_getElem?_getD, List.getElem?_eq_getElem hi]
        exact List.getElem_mem hi
      rw [if_neg (fun (e2 : y = x) => hn'.1 (by rw [e2]; exact hm)), ixo_uniq hn'.2 hi e]
theorem gdl_mem {l : LL} {i : Nat} (h : i < l.length) : l.getD i [] ∈ l := by
  rw [List.getD_eq_getElem?_getD, List.getElem?_eq_getElem h]
  exact List.getElem_mem h
/-- the ring of round r -/
abbrev rgn (b : BK) (F : LL) (r : Nat) : List Int := pring b (F.getD r [])
def pal (b : BK) (F : LL) : Nat → LL
  | 0 => []
  | n + 1 => if rgn b F n ∈ pal b F n then pal b F n else pal b F n ++ [rgn b F n]
def aix (b : BK) (F : LL) (r : Nat) : Nat := ixo (rgn b F r) (pal b F (r + 1))
theorem pal_nodup (b : BK) (F : LL) : ∀ n, (pal b F n).Nodup
  | 0 => List.nodup_nil
  | n + 1 => by
    unfold pal
    split
    · exact pal_nodup b F n
    · rename_i h
      refine List.nodup_append.mpr ⟨pal_nodup b F n, List.nodup_cons.mpr ⟨by simp, List.nodup_nil⟩, fun r hr s hs e => ?_⟩
      have : s = rgn b F n := by simpa using hs
      exact h (by rw [← this, ← e]; exact hr)
theorem pal_pre (b : BK) (F : LL) (n : Nat) : ∀ k, pal b F n <+: pal b F (n + k)
  | 0 => List.prefix_rfl
  | k + 1 => by
    refine List.IsPrefix.trans (pal_pre b F n k) ?_
    show _ <+: pal b F (n + k + 1)
    conv => rhs; unfold pal
    split
    · exact List.prefix_rfl
    · exact List.prefix_append _ _
theorem pal_mem (b : BK) (F : LL) {r n : Nat} (h : r < n) : rgn b F r ∈ pal b F n := by
  have h1 : rgn b F r ∈ pal b F (r + 1) := by
    unfold pal
    split
    · assumption
    · simp
  have := pal_pre b F (r + 1) (n - (r + 1))
  rw [show r + 1 + (n - (r + 1)) = n by omega] at this
  exact List.IsPrefix.subset this h1
theorem pal_of (b : BK) (F : LL) : ∀ (n : Nat) (x : List Int), x ∈ pal b F n → ∃ r, r < n ∧ rgn b F r = x
  | 0, x, h => by cases h
  | n + 1, x, h => by
    unfold pal at h
    split at h
    · obtain ⟨r, hr, e⟩ := pal_of b F n x h
      exact ⟨r, by omega, e⟩
    · rcases List.mem_append.mp h with h | h
      · obtain ⟨r, hr, e⟩ := pal_of b F n x h
        exact ⟨r, by omega, e⟩
      · exact ⟨n, by omega, by have : x = rgn b F n := by simpa using h
                               exact this.symm⟩
theorem pal_len (b : BK) (F : LL) : ∀ n, (pal b F n).length ≤ n
  | 0 => Nat.le_refl _
  | n + 1 => by
    have := pal_len b F n
    unfold pal
    split
    · omega
    · simp
      omega
theorem aix_eq (b : BK) (F : LL) {r n : Nat} (h : r < n) : aix b F r = ixo (rgn b F r) (pal b F n) := by
  obtain ⟨s, hs⟩ := pal_pre b F (r + 1) (n - (r + 1))
  rw [show r + 1 + (n - (r + 1)) = n by omega] at hs
  rw [← hs, ixo_app (pal_mem b F (by omega))]
  rfl
theorem aix_lt (b : BK) (F : LL) {r n : Nat} (h : r < n) : aix b F r < (pal b F n).length ∧ (pal b F n).getD (aix b F r) [] = rgn b F r := by
  rw [aix_eq b F h]
  exact ixo_lt (pal_mem b F h)
/-- a round belongs to an alarm when its ring is the alarm's -/
theorem aix_iff (b : BK) (F : LL) {r n a : Nat} (h : r < n) (ha : a < (pal b F n).length) : aix b F r = a ↔ rgn b F r = (pal b F n).getD a [] := by
  constructor
  · intro e
    rw [← e]
    exact (aix_lt b F h).2.symm
  · intro e
    rw [aix_eq b F h]
    exact ixo_uniq (pal_nodup b F n) ha e.symm
/-- the first round of a ring -/
def pfst (b : BK) (F : LL) (g : List Int) : Nat → Nat
  | 0 => 0
  | n + 1 => if g ∈ pal b F n then pfst b F g n else n
theorem pfst_spec (b : BK) (F : LL) (g : List Int) : ∀ n, g ∈ pal b F n → pfst b F g n < n ∧ rgn b F (pfst b F g n) = g ∧ ∀ r, r < pfst b F g n → rgn b F r ≠ g
  | 0, h => by cases h
  | n + 1, h => by
    unfold pfst
    by_cases hc : g ∈ pal b F n
    · rw [if_pos hc]
      have := pfst_spec b F g n hc
      exact ⟨by omega, this.2⟩
    · rw [if_neg hc]
      refine ⟨by omega, ?_, fun r hr e => hc (e ▸ pal_mem b F hr)⟩
      unfold pal at h
      split at h
      · exact absurd h hc
      · rcases List.mem_append.mp h with h | h
        · exact absurd h hc
        · have : g = rgn b F n := by simpa using h
          exact this.symm
/-- how long a round takes; what it carries -/
abbrev rst (r : List Int) : Int := r.getD 0 0
abbrev rls (r : List Int) : Int := r.getD (r.length - 1) 0
abbrev spn (b : BK) (F : LL) (r : Int) : Int := b 2 (rls (F.getD r.toNat [])) - b 2 (rst (F.getD r.toNat []))
def pflow (b : BK) (r : List Int) : Int := fup (fun m k => jmin m (b 3 (r.getD k.toNat 0))) r.length 0 9999
/-- of the first n rounds: how many go a ring, what they carry, the first of the shortest -/
def pcn (b : BK) (F : LL) (g : List Int) : Nat → Int
  | 0 => 0
  | n + 1 => if rgn b F n = g then pcn b F g n + 1 else pcn b F g n
def pfl (b : BK) (F : LL) (g : List Int) : Nat → Int
  | 0 => 0
  | n + 1 => if rgn b F n = g then pfl b F g n + pflow b (F.getD n []) else pfl b F g n
def pwi (b : BK) (F : LL) (g : List Int) : Nat → Int
  | 0 => -1
  | n + 1 => if rgn b F n = g ∧ (pwi b F g n = -1 ∨ spn b F n < spn b F (pwi b F g n)) then (n : Int) else pwi b F g n
theorem pcn_le (b : BK) (F : LL) (g : List Int) : ∀ n, 0 ≤ pcn b F g n ∧ pcn b F g n ≤ n ∧ (g ∈ pal b F n ↔ 1 ≤ pcn b F g n)
  | 0 => by unfold pcn pal; exact ⟨by omega, by omega, by simp⟩
  | n + 1 => by
    have ih := pcn_le b F g n
    unfold pcn pal
    by_cases hc : rgn b F n = g
    · rw [if_pos hc]
      refine ⟨by omega, by omega, ⟨fun _ => by omega, fun _ => ?_⟩⟩
      split
      · rename_i h; rw [← hc]; exact h
      · rw [← hc]; simp
    · rw [if_neg hc]
      refine ⟨by omega, by omega, ?_⟩
      split
      · exact ih.2.2
      · constructor
        · intro h
          rcases List.mem_append.mp h with h | h
          · exact ih.2.2.mp h
          · have : g = rgn b F n := by simpa using h
            exact absurd this.symm hc
        · intro h
          exact List.mem_append_left _ (ih.2.2.mpr h)
theorem pwi_le (b : BK) (F : LL) (g : List Int) : ∀ n, -1 ≤ pwi b F g n ∧ pwi b F g n < n ∧ (pwi b F g n = -1 ↔ pcn b F g n = 0)
  | 0 => by unfold pwi pcn; exact ⟨by omega, by omega, by simp⟩
  | n + 1 => by
    have ih := pwi_le b F g n
    have h0 := pcn_le b F g n
    unfold pwi pcn
    by_cases hc : rgn b F n = g
    · rw [if_pos hc]
      split
      · exact ⟨by omega, by omega, by omega⟩
      · rename_i h
        refine ⟨by omega, by omega, ?_⟩
        constructor
        · intro e
          exact absurd ⟨hc, Or.inl e⟩ h
        · intro e; omega
    · rw [if_neg (fun h => hc h.1), if_neg hc]
      exact ⟨by omega, by omega, ih.2.2⟩
/-- the class's heads: the newest of a head's alarms -/
def jhash (c : Int) : Int := jand (jxor (jxor c (jushr c 6)) (jushr c 12)) 63
theorem jhash_in (c : Int) : 0 ≤ jhash c ∧ jhash c < 64 := by
  have := lt_of_bt (inR_and (jxor (jxor c (jushr c 6)) (jushr c 12)) 63) (n := 6) (by omega) (fun k h1 h2 => by
    rw [bt_and, bt_lt (x := 63) (by omega) (n := 6) (by omega) h1, Bool.and_false])
  exact ⟨this.1, by have := this.2; unfold jhash; omega⟩
def pvh (A : LL) (h : Int) : Nat → Int
  | 0 => -1
  | n + 1 => if jhash (pcode (A.getD n [])) = h then (n : Int) else pvh A h n
theorem pvh_le (A : LL) (h : Int) : ∀ n, -1 ≤ pvh A h n ∧ pvh A h n < n
  | 0 => by unfold pvh; omega
  | n + 1 => by
    have := pvh_le A h n
    unfold pvh
    split <;> omega
theorem pvh_spec (A : LL) (h : Int) : ∀ n, (0 ≤ pvh A h n → jhash (pcode (A.getD (pvh A h n).toNat [])) = h) ∧ ∀ i : Nat, pvh A h n < i → i < n → jhash (pcode (A.getD i [])) ≠ h
  | 0 => by
    refine ⟨fun h1 => by unfold pvh at h1; omega, fun i h1 h2 => by omega⟩
  | n + 1 => by
    have ih := pvh_spec A h n
    unfold pvh
    split
    · rename_i hc
      refine ⟨fun _ => by simpa using hc, fun i h1 h2 => by omega⟩
    · rename_i hc
      refine ⟨ih.1, fun i h1 h2 => ?_⟩
      by_cases hi : i = n
      · subst hi; exact hc
      · exact ih.2 i h1 (by omega)
theorem pvh_app (A : LL) (x : List Int) (h : Int) : ∀ n, n ≤ A.length → pvh (A ++ [x]) h n = pvh A h n
  | 0, _ => rfl
  | n + 1, hn => by
    unfold pvh
    rw [gda_l (by omega), pvh_app A x h n (by omega)]
