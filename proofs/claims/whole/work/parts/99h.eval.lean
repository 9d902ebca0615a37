/-! THE CONSTRUCTORS, run: a memory told by a list of what was written; what a run of it shows, a walk shows -/
abbrev AE : Type := Nat × Int × Int × Int × Bool
abbrev AL : Type := List AE
def jmem (μ : JM) : AL → JM
  | [] => μ
  | e :: l => cond e.2.2.2.2 (jz (jmem μ l) e.1 e.2.1) (jw (jmem μ l) e.1 e.2.1 e.2.2.1 e.2.2.2.1)
def ieq (a b : Int) : Bool := match a, b with
  | .ofNat n, .ofNat m => Nat.beq n m
  | .negSucc n, .negSucc m => Nat.beq n m
  | _, _ => false
theorem ieq_t {a b : Int} (h : ieq a b = true) : a = b := by
  unfold ieq at h
  split at h
  · rw [Nat.eq_of_beq_eq_true h]
  · rw [Nat.eq_of_beq_eq_true h]
  · cases h
theorem ieq_r (a : Int) : ieq a a = true := by
  cases a with
  | ofNat n => exact Nat.beq_refl n
  | negSucc n => exact Nat.beq_refl n
theorem ieq_f {a b : Int} (h : ieq a b = false) : a ≠ b := fun e => by
  rw [e, ieq_r] at h
  cases h
def jgt : AL → Nat → Int → Int → Int
  | [], _, _, _ => 0
  | e :: l, t, x, i => cond (Nat.beq e.1 t && (ieq e.2.1 x && (e.2.2.2.2 || ieq e.2.2.1 i))) (cond e.2.2.2.2 0 e.2.2.2.1) (jgt l t x i)
theorem jgt_ok {μ : JM} (hμ : ∀ t x i, t ≠ 80 → μ t x i = 0) : ∀ (l : AL) {t : Nat} {x i : Int}, t ≠ 80 → jmem μ l t x i = jgt l t x i
  | [], t, x, i, h => hμ t x i h
  | (t', x', i', v, b) :: l, t, x, i, h => by
    have ih := jgt_ok hμ l (t := t) (x := x) (i := i) h
    unfold jmem jgt
    dsimp only
    cases h1 : Nat.beq t' t with
    | false =>
      have n1 : ¬ t = t' := fun e => by
        rw [e, Nat.beq_refl] at h1
        cases h1
      cases b with
      | true =>
        show jz (jmem μ l) t' x' t x i = jgt l t x i
        unfold jz
        rw [if_neg (fun h => n1 h.1)]
        exact ih
      | false =>
        show jw (jmem μ l) t' x' i' v t x i = jgt l t x i
        unfold jw
        rw [if_neg (fun h => n1 h.1)]
        exact ih
    | true =>
      have e1 := Nat.eq_of_beq_eq_true h1
      cases h2 : ieq x' x with
      | false =>
        have n2 : ¬ x = x' := fun e => ieq_f h2 e.symm
        cases b with
        | true =>
          show jz (jmem μ l) t' x' t x i = jgt l t x i
          unfold jz
          rw [if_neg (fun h => n2 h.2)]
          exact ih
        | false =>
          show jw (jmem μ l) t' x' i' v t x i = jgt l t x i
          unfold jw
          rw [if_neg (fun h => n2 h.2.1)]
          exact ih
      | true =>
        have e2 := ieq_t h2
        cases b with
        | true =>
          show jz (jmem μ l) t' x' t x i = 0
          unfold jz
          rw [if_pos ⟨e1.symm, e2.symm⟩]
        | false =>
          cases h3 : ieq i' i with
          | false =>
            have n3 : ¬ i = i' := fun e => ieq_f h3 e.symm
            show jw (jmem μ l) t' x' i' v t x i = jgt l t x i
            unfold jw
            rw [if_neg (fun h => n3 h.2.2)]
            exact ih
          | true =>
            have e3 := ieq_t h3
            show jw (jmem μ l) t' x' i' v t x i = v
            unfold jw
            rw [if_pos ⟨e1.symm, e2.symm, e3.symm⟩]
theorem jgt80 {μ : JM} : ∀ (l : AL), (l.all fun e => !Nat.beq e.1 80) = true → ∀ x i, jmem μ l 80 x i = μ 80 x i
  | [], _, _, _ => rfl
  | (t', x', i', v, b) :: l, h, x, i => by
    simp only [List.all_cons, Bool.and_eq_true] at h
    have ih := jgt80 (μ := μ) l h.2 x i
    have n1 : ¬ 80 = t' := fun e => by
      have := h.1
      rw [← e] at this
      cases this
    cases b with
    | true =>
      show jz (jmem μ l) t' x' 80 x i = μ 80 x i
      unfold jz
      rw [if_neg (fun h => n1 h.1)]
      exact ih
    | false =>
      show jw (jmem μ l) t' x' i' v 80 x i = μ 80 x i
      unfold jw
      rw [if_neg (fun h => n1 h.1)]
      exact ih
/-- a number, worked out before it is used -/
def jfz {α : Type} (v : Int) (k : Int → α) : α := match v with
  | .ofNat 0 => k (.ofNat 0)
  | .ofNat (n + 1) => k (.ofNat (n + 1))
  | .negSucc n => k (.negSucc n)
theorem jfz_eq {α : Type} (v : Int) (k : Int → α) : jfz v k = k v := by
  cases v with
  | ofNat n => cases n <;> rfl
  | negSucc n => rfl
abbrev E1 : Type := Option (List JV × List JV × AL)
def ile (a b : Int) : Bool := decide (a ≤ b)
def ilt (a b : Int) : Bool := decide (a < b)
theorem band {a b : Bool} (h : (a && b) = true) : a = true ∧ b = true := by
  cases a <;> cases b <;> first | exact ⟨rfl, rfl⟩ | cases h
/-- a new cell -/
def jevn (t : Nat) (n : Int) (ls st : List JV) (l : AL) : E1 :=
  jfz (jgt l 53 0 0) fun a => jfz (jgt l 54 0 0) fun b => jfz (jlab a).2 fun x =>
    cond (Nat.beq (jlab a).1 t && (ile 0 a && (ilt a 600000 && (ile 0 n && (ile 0 b && ile (b + n) 7302250)))))
      (jfz (cond (Nat.beq t 50) n (jgt l 51 x 0)) fun v => jfz (a + 1) fun a1 => jfz (b + n) fun bn => some (ls, (t, x) :: st, (54, 0, 0, bn, false) :: (53, 0, 0, a1, false) :: (51, x, 0, v, false) :: (t, x, 0, 0, true) :: l)) none
def jev1 (ins : Instr) (info : List Nat) (ls st : List JV) (l : AL) : E1 :=
  match ins with
  | .iconst n => some (ls, (0, n) :: st, l)
  | .bipush n => some (ls, (0, n) :: st, l)
  | .sipush n => some (ls, (0, n) :: st, l)
  | .ldc _ => match info with
    | [t, v] => some (ls, (t, (v : Int)) :: st, l)
    | _ => none
  | .iload_n n => cond (Nat.beq (jl ls n.val).1 0) (some (ls, jl ls n.val :: st, l)) none
  | .aload_n n => cond (jar (jl ls n.val).1) (some (ls, jl ls n.val :: st, l)) none
  | .istore_n n => match st with
    | v :: st' => cond (Nat.beq v.1 0) (some (ls.set n.val v, st', l)) none
    | _ => none
  | .iinc n d => cond (Nat.beq (jl ls n).1 0) (jfz ((jl ls n).2 + d) fun w => some (ls.set n (0, w), st, l)) none
  | .dup => match st with
    | v :: st' => cond (Nat.beq v.1 3) none (some (ls, v :: v :: st', l))
    | _ => none
  | .getfield _ => match info, st with
    | [c, k], (t, x) :: st' => cond (Nat.beq (jkt t) 0 && (jok c t x && (!Nat.beq (jft t k x).1 0 && (!Nat.beq (jft t k x).1 3 && (!Nat.beq (jft t k x).1 1 && (!Nat.beq t 80 && !ieq (jgt l t x (k : Int)) 0)))))) (some (ls, jft t k x :: st', l)) none
    | _, _ => none
  | .putfield _ => match info, st with
    | [c, k, z, g], v :: (t, x) :: st' => cond (Nat.beq (jkt t) 0 && (jok c t x && (cond (Nat.beq g 11) (Nat.ble 11 v.1) (Nat.beq v.1 g) && cond (Nat.beq z 1) (ile 0 v.2 && ile v.2 1) true)))
      (cond (Nat.beq (jft t k x).1 0) (cond (Nat.beq v.1 0) (some (ls, st', (t, x, (k : Int), v.2, false) :: l)) none)
        (cond (Nat.beq (jft t k x).1 3) none
          (cond (Nat.beq (jft t k x).1 1) (cond (Nat.beq v.1 50 && ile 0 v.2) (jfz (v.2 + 1) fun w => some (ls, st', (t, x, (k : Int), w, false) :: l)) none)
            (cond (Nat.beq (jft t k x).1 v.1 && ieq v.2 (jft t k x).2) (some (ls, st', (t, x, (k : Int), 1, false) :: l)) none)))) none
    | _, _ => none
  | .iastore => match st with
    | (0, v) :: (0, i) :: (t, x) :: st' => cond (Nat.beq (jkt t) 1 && (!Nat.beq t 50 && (ile 0 i && ilt i (jlt t)))) (some (ls, st', (t, x, i, v, false) :: l)) none
    | _ => none
  | .aastore => match st with
    | v :: (0, i) :: (t, x) :: st' => cond (Nat.beq (jkt t) 5 && (!Nat.beq t 50 && (ile 0 i && (ilt i (jlt t) && (Nat.beq (jbk t i).1 12 && (Nat.beq v.1 12 && ieq v.2 (jbk t i).2)))))) (some (ls, st', (t, x, i, 1, false) :: l)) none
    | _ => none
  | .new _ => match info with
    | [c, t, n] => cond (Nat.beq (jkt t) 0 && Nat.beq (jkc t (jlab (jgt l 53 0 0)).2) c) (jevn t n ls st l) none
    | _ => none
  | .newarray _ => match info, st with
    | [q, t], (0, n) :: st' => cond (Nat.beq (jkt t) q && (Nat.beq t 50 || ieq n (jlt t))) (jevn t n ls st' l) none
    | _, _ => none
  | .anewarray _ => match info, st with
    | [t], (0, n) :: st' => cond (Nat.beq (jkt t) 5 && ieq n (jlt t)) (jevn t n ls st' l) none
    | _, _ => none
  | .invokespecial _ => match info, st with
    | [4], (t, _) :: st' => cond (Nat.ble 11 t) (cond (Nat.ble (jcat st') 20) (some (ls, st', l)) none) none
    | _, _ => none
  | _ => none
theorem condn {α : Type} {c : Bool} {x : Option α} {y : α} (h : cond c x none = some y) : c = true ∧ x = some y := by
  cases c with
  | true => exact ⟨rfl, h⟩
  | false => cases h
theorem gs0 : ∀ g ∈ ([] : List Prop), g := fun g h => absurd h List.not_mem_nil
theorem gsc {a : Prop} {l : List Prop} (ha : a) (h : ∀ g ∈ l, g) : ∀ g ∈ a :: l, g := fun g hg => by
  rcases List.mem_cons.mp hg with rfl | h2
  · exact ha
  · exact h g h2
theorem jevn_ok {μ : JM} (hμ : ∀ t x i, t ≠ 80 → μ t x i = 0) {t : Nat} {n : Int} {ls st ls' st' : List JV} {l l' : AL} (h : jevn t n ls st l = some (ls', st', l')) : ∃ gs, jnew t n ls st (jmem μ l) = some (gs, ls', st', jmem μ l') ∧ ∀ g ∈ gs, g := by
  unfold jevn at h
  simp only [jfz_eq] at h
  obtain ⟨h1, h2⟩ := condn h
  cases h2
  obtain ⟨b1, h1⟩ := band h1
  obtain ⟨b2, h1⟩ := band h1
  obtain ⟨b3, h1⟩ := band h1
  obtain ⟨b4, h1⟩ := band h1
  obtain ⟨b5, b6⟩ := band h1
  have e53 : jmem μ l 53 0 0 = jgt l 53 0 0 := jgt_ok hμ l (by decide)
  have e54 : jmem μ l 54 0 0 = jgt l 54 0 0 := jgt_ok hμ l (by decide)
  have e51 : jmem μ l 51 (jlab (jgt l 53 0 0)).2 0 = jgt l 51 (jlab (jgt l 53 0 0)).2 0 := jgt_ok hμ l (by decide)
  have e1 := Nat.eq_of_beq_eq_true b1
  unfold jnew
  rw [e53, e54, e51]
  refine ⟨_, rfl, gsc ?_ (gsc (of_decide_eq_true b2) (gsc (of_decide_eq_true b3) (gsc (of_decide_eq_true b4) (gsc (of_decide_eq_true b5) (gsc (of_decide_eq_true b6) gs0)))))⟩
  rw [← e1]
theorem bnot {b : Bool} (h : (!b) = true) : b = false := by
  cases b with
  | false => rfl
  | true => cases h
theorem jev1_ok {μ : JM} (hμ : ∀ t x i, t ≠ 80 → μ t x i = 0) {ins : Instr} {info : List Nat} {ls st ls' st' : List JV} {l l' : AL} (h : jev1 ins info ls st l = some (ls', st', l')) : ∃ gs, jone false ins info ls st (jmem μ l) = some (gs, ls', st', jmem μ l') ∧ ∀ g ∈ gs, g := by
  cases ins with
  | iconst n => cases h; exact ⟨[], rfl, gs0⟩
  | bipush n => cases h; exact ⟨[], rfl, gs0⟩
  | sipush n => cases h; exact ⟨[], rfl, gs0⟩
  | ldc i =>
    dsimp only [jev1] at h
    split at h
    · cases h; exact ⟨[], rfl, gs0⟩
    · cases h
  | iload_n n =>
    obtain ⟨h1, h2⟩ := condn h
    cases h2
    exact ⟨[], by dsimp only [jone]; rw [h1]; rfl, gs0⟩
  | aload_n n =>
    obtain ⟨h1, h2⟩ := condn h
    cases h2
    exact ⟨[], by dsimp only [jone]; rw [h1]; rfl, gs0⟩
  | istore_n n =>
    dsimp only [jev1] at h
    split at h
    · obtain ⟨h1, h2⟩ := condn h
      cases h2
      exact ⟨[], by dsimp only [jone]; rw [h1]; rfl, gs0⟩
    · cases h
  | iinc n d =>
    dsimp only [jev1] at h
    obtain ⟨h1, h2⟩ := condn h
    rw [jfz_eq] at h2
    cases h2
    exact ⟨[], by dsimp only [jone]; rw [h1]; rfl, gs0⟩
  | dup =>
    dsimp only [jev1] at h
    split at h
    · rename_i v st1
      cases hb : Nat.beq v.1 3 <;> rw [hb] at h
      · cases h
        exact ⟨[], by dsimp only [jone]; rw [hb]; rfl, gs0⟩
      · cases h
    · cases h
  | getfield i =>
    dsimp only [jev1] at h
    split at h
    · rename_i c k t x st1
      obtain ⟨h1, h2⟩ := condn h
      cases h2
      obtain ⟨b1, h1⟩ := band h1
      obtain ⟨b2, h1⟩ := band h1
      obtain ⟨b3, h1⟩ := band h1
      obtain ⟨b4, h1⟩ := band h1
      obtain ⟨b5, h1⟩ := band h1
      obtain ⟨b6, b7⟩ := band h1
      have n80 : t ≠ 80 := fun q => by
        have := bnot b6
        rw [q] at this
        cases this
      have e := jgt_ok hμ l (t := t) (x := x) (i := (k : Int)) n80
      have nz := ieq_f (bnot b7)
      refine ⟨[jmem μ l t x (k : Int) ≠ 0], ?_, gsc (by rw [e]; exact nz) gs0⟩
      dsimp only [jone]
      rw [b1, b2]
      unfold jfg jfv
      rw [bnot b3, bnot b4, bnot b5]
      rfl
    · cases h
  | putfield i =>
    dsimp only [jev1] at h
    split at h
    · rename_i c k z g v t x st1
      obtain ⟨h1, h2⟩ := condn h
      obtain ⟨b1, h1⟩ := band h1
      obtain ⟨b2, h1⟩ := band h1
      obtain ⟨b3, b4⟩ := band h1
      have zz : ∀ gs : List Prop, (∀ q ∈ gs, q) → ∀ q ∈ cond (Nat.beq z 1) ((0 ≤ v.2) :: (v.2 ≤ 1) :: gs) gs, q := fun gs hg => by
        cases hz : Nat.beq z 1 with
        | false => exact hg
        | true =>
          rw [hz] at b4
          obtain ⟨c1, c2⟩ := band b4
          exact gsc (of_decide_eq_true c1) (gsc (of_decide_eq_true c2) hg)
      have fin : ∀ (gs : List Prop) (w : Int), jput (jft t k x) v = some (gs, w) → (∀ q ∈ gs, q) → ∃ gs', jone false (.putfield i) [c, k, z, g] ls (v :: (t, x) :: st1) (jmem μ l) = some (gs', ls, st1, jmem μ ((t, x, (k : Int), w, false) :: l)) ∧ ∀ q ∈ gs', q := fun gs w hp hg => by
        refine ⟨cond (Nat.beq z 1) ((0 ≤ v.2) :: (v.2 ≤ 1) :: gs) gs, ?_, zz gs hg⟩
        dsimp only [jone]
        rw [b1, b2, b3, hp]
        rfl
      cases f0 : Nat.beq (jft t k x).1 0 with
      | true =>
        rw [f0] at h2
        obtain ⟨c1, h2⟩ := condn (c := Nat.beq v.1 0) h2
        cases h2
        refine fin [] v.2 ?_ gs0
        unfold jput
        rw [f0, c1]
        rfl
      | false =>
        rw [f0] at h2
        cases f3 : Nat.beq (jft t k x).1 3 with
        | true => rw [f3] at h2; cases h2
        | false =>
          rw [f3] at h2
          cases f1 : Nat.beq (jft t k x).1 1 with
          | true =>
            rw [f1] at h2
            obtain ⟨c1, h2⟩ := condn (c := Nat.beq v.1 50 && ile 0 v.2) h2
            rw [jfz_eq] at h2
            cases h2
            obtain ⟨c1, c2⟩ := band c1
            refine fin [0 ≤ v.2] (v.2 + 1) ?_ (gsc (of_decide_eq_true c2) gs0)
            unfold jput
            rw [f0, f3, f1, c1]
            rfl
          | false =>
            rw [f1] at h2
            obtain ⟨c1, h2⟩ := condn (c := Nat.beq (jft t k x).1 v.1 && ieq v.2 (jft t k x).2) h2
            cases h2
            obtain ⟨c1, c2⟩ := band c1
            refine fin [v.2 = (jft t k x).2] 1 ?_ (gsc (ieq_t c2) gs0)
            unfold jput
            rw [f0, f3, f1, c1]
            rfl
    · cases h
  | iastore =>
    dsimp only [jev1] at h
    split at h
    · rename_i v i t x st1
      obtain ⟨h1, h2⟩ := condn h
      cases h2
      obtain ⟨b1, h1⟩ := band h1
      obtain ⟨b2, h1⟩ := band h1
      obtain ⟨b3, b4⟩ := band h1
      refine ⟨[0 ≤ i, i < jlen (jmem μ l) t x], ?_, gsc (of_decide_eq_true b3) (gsc ?_ gs0)⟩
      · show cond (Nat.beq (jkt t) 1) (some (_, _, _, _)) none = _
        rw [b1]
        rfl
      · unfold jlen
        rw [bnot b2]
        exact of_decide_eq_true b4
    · cases h
  | aastore =>
    dsimp only [jev1] at h
    split at h
    · rename_i v i t x st1
      obtain ⟨h1, h2⟩ := condn h
      cases h2
      obtain ⟨b1, h1⟩ := band h1
      obtain ⟨b2, h1⟩ := band h1
      obtain ⟨b3, h1⟩ := band h1
      obtain ⟨b4, h1⟩ := band h1
      obtain ⟨b5, h1⟩ := band h1
      obtain ⟨b6, b7⟩ := band h1
      have e5 := Nat.eq_of_beq_eq_true b5
      have e6 := Nat.eq_of_beq_eq_true b6
      have hp : jput (jbk t i) v = some ([v.2 = (jbk t i).2], 1) := by
        unfold jput
        rw [e5, e6]
        rfl
      refine ⟨(0 ≤ i) :: (i < jlen (jmem μ l) t x) :: [v.2 = (jbk t i).2], ?_, gsc (of_decide_eq_true b3) (gsc ?_ (gsc (ieq_t b7) gs0))⟩
      · show cond (Nat.beq (jkt t) 5) (match jput (jbk t i) v with
          | some (gs, w) => some ((0 ≤ i) :: (i < jlen (jmem μ l) t x) :: gs, _, _, jw (jmem μ l) t x i w)
          | none => none) none = _
        rw [b1, hp]
        rfl
      · unfold jlen
        rw [bnot b2]
        exact of_decide_eq_true b4
    · cases h
  | new i =>
    dsimp only [jev1] at h
    split at h
    · rename_i c t n
      obtain ⟨h1, h2⟩ := condn h
      obtain ⟨b1, b2⟩ := band h1
      obtain ⟨gs, e, hg⟩ := jevn_ok hμ h2
      have e53 : jmem μ l 53 0 0 = jgt l 53 0 0 := jgt_ok hμ l (by decide)
      refine ⟨(jkc t (jlab (jmem μ l 53 0 0)).2 = c) :: gs, ?_, gsc (by rw [e53]; exact Nat.eq_of_beq_eq_true b2) hg⟩
      dsimp only [jone]
      rw [b1, e]
      rfl
    · cases h
  | newarray a =>
    dsimp only [jev1] at h
    split at h
    · rename_i q t n st1
      obtain ⟨h1, h2⟩ := condn h
      obtain ⟨b1, b2⟩ := band h1
      obtain ⟨gs, e, hg⟩ := jevn_ok hμ h2
      refine ⟨cond (Nat.beq t 50) gs ((n = jlt t) :: gs), ?_, ?_⟩
      · show cond (Nat.beq (jkt t) q) (match jnew t n ls st1 (jmem μ l) with
          | some (gs, ls', st'', μ') => some (cond (Nat.beq t 50) gs ((n = jlt t) :: gs), ls', st'', μ')
          | none => none) none = _
        rw [b1, e]
        rfl
      · cases h5 : Nat.beq t 50 with
        | true => exact hg
        | false =>
          rw [h5] at b2
          exact gsc (ieq_t b2) hg
    · cases h
  | anewarray i =>
    dsimp only [jev1] at h
    split at h
    · rename_i t n st1
      obtain ⟨h1, h2⟩ := condn h
      obtain ⟨b1, b2⟩ := band h1
      obtain ⟨gs, e, hg⟩ := jevn_ok hμ h2
      refine ⟨(n = jlt t) :: gs, ?_, gsc (ieq_t b2) hg⟩
      show cond (Nat.beq (jkt t) 5) (match jnew t n ls st1 (jmem μ l) with
        | some (gs, ls', st'', μ') => some ((n = jlt t) :: gs, ls', st'', μ')
        | none => none) none = _
      rw [b1, e]
      rfl
    · cases h
  | invokespecial i =>
    dsimp only [jev1] at h
    split at h
    · rename_i t x st1
      obtain ⟨h1, h2⟩ := condn h
      obtain ⟨h3, h2⟩ := condn h2
      cases h2
      exact ⟨[], by show cond (Nat.ble 11 t) (cond (Nat.ble (jcat _) 20) (some (_, _, _, _)) none) none = _; rw [h1, h3]; rfl, gs0⟩
    · cases h
  | _ => cases h
/-- a run: fuel, depth, method, the code left, locals, stack, memory -/
def jevl : Nat → Nat → Nat → List JE → List JV → List JV → AL → Option AL
  | 0, _, _, _, _, _, _ => none
  | k + 1, d, m, code, ls, st, l => match code with
    | [] => none
    | e :: rest => match jcls e.2.1 e.2.2 with
      | 0 => match jev1 e.2.1 e.2.2 ls st l, rest with
        | some (ls', st', l'), e' :: r => jevl k d m (cond (jin e'.1 (jcut m)) (jsuf e'.1 (jcode m)) (e' :: r)) ls' st' l'
        | _, _ => none
      | 1 => match e.2.1, st, rest with
        | .if_icmp .ge _, (0, y) :: (0, x) :: st', e' :: r => cond (ile (-2147483648) x && (ilt x 2147483648 && (ile (-2147483648) y && ilt y 2147483648)))
            (cond (ile y x) (jevl k d m (jsuf (e.2.2.getD 0 0) (jcode m)) ls st' l) (jevl k d m (cond (jin e'.1 (jcut m)) (jsuf e'.1 (jcode m)) (e' :: r)) ls st' l)) none
        | _, _, _ => none
      | 2 => jevl k d m (jsuf (e.2.2.getD 0 0) (jcode m)) ls st l
      | 4 => cond (Nat.ble (e.2.2.getD 2 0) st.length && (Nat.ble (jcat (st.drop (e.2.2.getD 2 0))) 8 && (jrc e.2.1 m (e.2.2.getD 1 0) (st.take (e.2.2.getD 2 0)).reverse && (!jinl (e.2.2.getD 1 0) && Nat.beq (e.2.2.getD 3 0) 8))))
          (match d, rest with
            | d' + 1, e' :: r => match jevl k d' (e.2.2.getD 1 0) (jsuf 0 (jcode (e.2.2.getD 1 0))) (jinit (jnl (e.2.2.getD 1 0)) (st.take (e.2.2.getD 2 0)).reverse) [] l with
              | some l' => jevl k d m (cond (jin e'.1 (jcut m)) (jsuf e'.1 (jcode m)) (e' :: r)) ls (st.drop (e.2.2.getD 2 0)) l'
              | none => none
            | _, _ => none) none
      | 5 => match e.2.1, st with
        | .return_, [] => some l
        | _, _ => none
      | _ => none
