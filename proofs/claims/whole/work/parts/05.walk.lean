/-! WALKS over the J machine: from a label to the next labels, and to a method's end -/
abbrev JR : Type := Nat → Nat → List JE → List JV → List JV → JM → JQ → Prop
def jgo (X : JX) (rec : JR) (d m t : Nat) (ls st : List JV) (μ : JM) (Q : JQ) : Prop :=
  cond (jin t (jcut m)) (X d m t ls st μ Q) (rec d m (jsuf t (jcode m)) ls st μ Q)
def jnx (X : JX) (rec : JR) (d m : Nat) (rest : List JE) (ls st : List JV) (μ : JM) (Q : JQ) : Prop :=
  match rest with
  | [] => False
  | e :: r => cond (jin e.1 (jcut m)) (X d m e.1 ls st μ Q) (rec d m (e :: r) ls st μ Q)
def jcall (X : JX) (rec : JR) (d id : Nat) (args : List JV) (μ : JM) (Q : JQ) : Prop :=
  match d with
  | 0 => False
  | d' + 1 => cond (jinl id) (rec d' id (jcode id) (jinit (jnl id) args) [] μ Q) (X d' id 0 (jinit (jnl id) args) [] μ Q)
def jno3 : List JV → Bool
  | [] => true
  | v :: l => cond (Nat.beq v.1 3) false (jno3 l)
/-- may a call be made: its receiver, no long among what it is given -/
def jrc (ins : Instr) (m id : Nat) (l : List JV) : Bool := cond (jno3 l) (match ins with
  | .invokestatic _ => true
  | .invokevirtual _ => match l with
    | v :: _ => cond (Nat.beq (jown id) 11) (cond (Nat.beq v.1 22) (Nat.beq (jkc v.1 v.2) (jown m)) false) (cond (Nat.beq (jkt v.1) 0) (Nat.beq (jkc v.1 v.2) (jown id)) false)
    | [] => false
  | _ => match l with
    | v :: _ => Nat.ble 11 v.1
    | [] => false) false
def slwB (X : JX) (rec : JR) (ph : Bool) (d m : Nat) (e : JE) (rest : List JE) (ls st : List JV) (μ : JM) (Q : JQ) : Prop :=
  match jcls e.2.1 e.2.2 with
  | 0 => match jone ph e.2.1 e.2.2 ls st μ with
    | some (gs, ls', st', μ') => jgd gs (jnx X rec d m rest ls' st' μ' Q)
    | none => False
  | 1 => match jbrn e.2.1 st with
    | some (g, c, st') => g ∧ (c → jgo X rec d m (e.2.2.getD 0 0) ls st' μ Q) ∧ (¬ c → jnx X rec d m rest ls st' μ Q)
    | none => False
  | 2 => jgo X rec d m (e.2.2.getD 0 0) ls st μ Q
  | 3 => match st with
    | (0, x) :: st' => inR x ∧ jsw x (fun t => jgo X rec d m t ls st' μ Q) (e.2.2.getD 0 0) (e.2.2.drop 1)
    | _ => False
  | 4 => cond (Nat.ble (e.2.2.getD 2 0) st.length) (cond (Nat.ble (jcat (st.drop (e.2.2.getD 2 0))) 8) (cond (jrc e.2.1 m (e.2.2.getD 1 0) (st.take (e.2.2.getD 2 0)).reverse)
      (jcall X rec d (e.2.2.getD 1 0) (st.take (e.2.2.getD 2 0)).reverse μ (fun r μ' => jnx X rec d m rest ls (jpush (e.2.2.getD 3 0) r (st.drop (e.2.2.getD 2 0))) μ' Q)) False) False) False
  | 5 => match jrtn e.2.1 e.2.2 st with
    | some (gs, x) => jgd gs (Q x μ)
    | none => False
  | 6 => match st with
    | v :: u :: st' => cond (Nat.beq v.1 0) (cond (Nat.beq u.1 22) (cond (Nat.ble (jcat st') 8) ((u.2 = 0 ∨ u.2 = 1 ∨ u.2 = 2) ∧
        (u.2 = 0 → jcall X rec d (e.2.2.getD 1 0) [u, v] μ (fun _ μ' => jnx X rec d m rest ls st' μ' Q)) ∧
        (u.2 = 1 → jcall X rec d (e.2.2.getD 2 0) [u, v] μ (fun _ μ' => jnx X rec d m rest ls st' μ' Q)) ∧
        (u.2 = 2 → jcall X rec d (e.2.2.getD 3 0) [u, v] μ (fun _ μ' => jnx X rec d m rest ls st' μ' Q))) False) False) False
    | _ => False
  | _ => False
def slw (X : JX) (ph : Bool) : Nat → JR
  | 0 => fun _ _ _ _ _ _ _ => False
  | k + 1 => fun d m l ls st μ Q => match l with
    | [] => False
    | e :: rest => slwB X (slw X ph k) ph d m e rest ls st μ Q
def jcl (ph : Bool) (X : JX) : Prop := ∀ (k d m pc : Nat) (ls st : List JV) (μ : JM) (Q : JQ), slw X ph k d m (jsuf pc (jcode m)) ls st μ Q → X d m pc ls st μ Q
/-- from the label pc of the method m on, with d calls to go deeper, a walk ends, with a value and a memory of which Q holds -/
def wp (ph : Bool) : JX := fun d m pc ls st μ Q => ∀ X : JX, jcl ph X → X d m pc ls st μ Q
theorem jgd_mono {gs : List Prop} {p q : Prop} (h : p → q) (hg : jgd gs p) : jgd gs q := by
  induction gs with
  | nil => exact h hg
  | cons a l ih => exact ⟨hg.1, ih hg.2⟩
theorem jsw_mono {x : Int} {J K : Nat → Prop} (h : ∀ t, J t → K t) {dflt : Nat} : ∀ {l : List Nat}, jsw x J dflt l → jsw x K dflt l
  | [], hg => h _ hg
  | [_], hg => h _ hg
  | _ :: _ :: _, hg => ⟨fun e => h _ (hg.1 e), fun e => jsw_mono h (hg.2 e)⟩
theorem jgo_mono {X Y : JX} (hXY : ∀ (d m pc : Nat) (ls st : List JV) (μ : JM) (Q Q' : JQ), (∀ r μ, Q r μ → Q' r μ) → X d m pc ls st μ Q → Y d m pc ls st μ Q') {R S : JR} (hRS : ∀ (d m : Nat) (l : List JE) (ls st : List JV) (μ : JM) (Q Q' : JQ), (∀ r μ, Q r μ → Q' r μ) → R d m l ls st μ Q → S d m l ls st μ Q') {d m t : Nat} {ls st : List JV} {μ : JM} {Q Q' : JQ} (hQ : ∀ r μ, Q r μ → Q' r μ) (h : jgo X R d m t ls st μ Q) : jgo Y S d m t ls st μ Q' := by
  unfold jgo at h ⊢
  cases hc : jin t (jcut m) <;> rw [hc] at h
  · exact hRS _ _ _ _ _ _ _ _ hQ h
  · exact hXY _ _ _ _ _ _ _ _ hQ h
theorem jnx_mono {X Y : JX} (hXY : ∀ (d m pc : Nat) (ls st : List JV) (μ : JM) (Q Q' : JQ), (∀ r μ, Q r μ → Q' r μ) → X d m pc ls st μ Q → Y d m pc ls st μ Q') {R S : JR} (hRS : ∀ (d m : Nat) (l : List JE) (ls st : List JV) (μ : JM) (Q Q' : JQ), (∀ r μ, Q r μ → Q' r μ) → R d m l ls st μ Q → S d m l ls st μ Q') {d m : Nat} {rest : List JE} {ls st : List JV} {μ : JM} {Q Q' : JQ} (hQ : ∀ r μ, Q r μ → Q' r μ) (h : jnx X R d m rest ls st μ Q) : jnx Y S d m rest ls st μ Q' := by
  cases rest with
  | nil => exact h
  | cons e r =>
    unfold jnx at h ⊢
    dsimp only at h ⊢
    cases hc : jin e.1 (jcut m) <;> rw [hc] at h
    · exact hRS _ _ _ _ _ _ _ _ hQ h
    · exact hXY _ _ _ _ _ _ _ _ hQ h
theorem jcall_mono {X Y : JX} (hXY : ∀ (d m pc : Nat) (ls st : List JV) (μ : JM) (Q Q' : JQ), (∀ r μ, Q r μ → Q' r μ) → X d m pc ls st μ Q → Y d m pc ls st μ Q') {R S : JR} (hRS : ∀ (d m : Nat) (l : List JE) (ls st : List JV) (μ : JM) (Q Q' : JQ), (∀ r μ, Q r μ → Q' r μ) → R d m l ls st μ Q → S d m l ls st μ Q') {d id : Nat} {args : List JV} {μ : JM} {Q Q' : JQ} (hQ : ∀ r μ, Q r μ → Q' r μ) (h : jcall X R d id args μ Q) : jcall Y S d id args μ Q' := by
  cases d with
  | zero => exact h
  | succ d =>
    unfold jcall at h ⊢
    dsimp only at h ⊢
    cases hc : jinl id <;> rw [hc] at h
    · exact hXY _ _ _ _ _ _ _ _ hQ h
    · exact hRS _ _ _ _ _ _ _ _ hQ h
theorem slwB_mono {X Y : JX} (hXY : ∀ (d m pc : Nat) (ls st : List JV) (μ : JM) (Q Q' : JQ), (∀ r μ, Q r μ → Q' r μ) → X d m pc ls st μ Q → Y d m pc ls st μ Q') {R S : JR} (hRS : ∀ (d m : Nat) (l : List JE) (ls st : List JV) (μ : JM) (Q Q' : JQ), (∀ r μ, Q r μ → Q' r μ) → R d m l ls st μ Q → S d m l ls st μ Q') {ph : Bool} {d m : Nat} {e : JE} {rest : List JE} {ls st : List JV} {μ : JM} {Q Q' : JQ} (hQ : ∀ r μ, Q r μ → Q' r μ) (h : slwB X R ph d m e rest ls st μ Q) : slwB Y S ph d m e rest ls st μ Q' := by
  have hn : ∀ {l ls st μ} {Q Q' : JQ}, (∀ r μ, Q r μ → Q' r μ) → jnx X R d m l ls st μ Q → jnx Y S d m l ls st μ Q' := fun hq => jnx_mono hXY hRS hq
  have hg : ∀ {t ls st μ}, jgo X R d m t ls st μ Q → jgo Y S d m t ls st μ Q' := jgo_mono hXY hRS hQ
  have hc : ∀ {id args μ} {Q Q' : JQ}, (∀ r μ, Q r μ → Q' r μ) → jcall X R d id args μ Q → jcall Y S d id args μ Q' := fun hq => jcall_mono hXY hRS hq
  unfold slwB at h ⊢
  split at h
  · split at h
    · exact jgd_mono (hn hQ) h
    · exact h
  · split at h
    · exact ⟨h.1, fun c => hg (h.2.1 c), fun c => hn hQ (h.2.2 c)⟩
    · exact h
  · exact hg h
  · split at h
    · exact ⟨h.1, jsw_mono (fun _ => hg) h.2⟩
    · exact h
  · cases h1 : Nat.ble (e.2.2.getD 2 0) st.length <;> rw [h1] at h
    · exact h
    · cases h2 : Nat.ble (jcat (st.drop (e.2.2.getD 2 0))) 8 <;> rw [h2] at h
      · exact h
      · cases h3 : jrc e.2.1 m (e.2.2.getD 1 0) (st.take (e.2.2.getD 2 0)).reverse <;> rw [h3] at h
        · exact h
        · exact hc (fun _ _ => hn hQ) h
  · split at h
    · exact jgd_mono (hQ _ _) h
    · exact h
  · split at h
    · rename_i v u st'
      cases h0 : Nat.beq v.1 0 <;> rw [h0] at h
      · exact h
      cases h2 : Nat.beq u.1 22 <;> rw [h2] at h
      · exact h
      cases h1 : Nat.ble (jcat st') 8 <;> rw [h1] at h
      · exact h
      · exact ⟨h.1, fun c => hc (fun _ _ => hn hQ) (h.2.1 c), fun c => hc (fun _ _ => hn hQ) (h.2.2.1 c), fun c => hc (fun _ _ => hn hQ) (h.2.2.2 c)⟩
    · exact h
  · exact h
theorem slw_mono {X Y : JX} (hXY : ∀ (d m pc : Nat) (ls st : List JV) (μ : JM) (Q Q' : JQ), (∀ r μ, Q r μ → Q' r μ) → X d m pc ls st μ Q → Y d m pc ls st μ Q') {ph : Bool} : ∀ (k d m : Nat) (l : List JE) (ls st : List JV) (μ : JM) (Q Q' : JQ), (∀ r μ, Q r μ → Q' r μ) → slw X ph k d m l ls st μ Q → slw Y ph k d m l ls st μ Q'
  | 0, _, _, _, _, _, _, _, _, _, h => h
  | k + 1, d, m, l, ls, st, μ, Q, Q', hQ, h => by
    cases l with
    | nil => exact h
    | cons e r => exact slwB_mono hXY (slw_mono hXY k) hQ h
theorem wp_mono {ph : Bool} {d m pc : Nat} {ls st : List JV} {μ : JM} {Q Q' : JQ} (hQ : ∀ r μ, Q r μ → Q' r μ) (h : wp ph d m pc ls st μ Q) : wp ph d m pc ls st μ Q' := by
  intro X hX
  refine h (fun d m pc ls st μ Q => ∀ Q' : JQ, (∀ r μ, Q r μ → Q' r μ) → X d m pc ls st μ Q') ?_ Q' hQ
  intro k d m pc ls st μ Q h Q' hQ
  exact hX k d m pc ls st μ Q' (slw_mono (fun d m pc ls st μ Q Q' hQ h => h Q' hQ) k _ _ _ _ _ _ Q Q' hQ h)
theorem wp_roll {ph : Bool} {d m pc : Nat} {ls st : List JV} {μ : JM} {Q : JQ} (k : Nat) (h : slw (wp ph) ph k d m (jsuf pc (jcode m)) ls st μ Q) : wp ph d m pc ls st μ Q := by
  intro X hX
  exact hX k d m pc ls st μ Q (slw_mono (X := wp ph) (Y := X) (fun d m pc ls st μ Q Q' hQ h => wp_mono hQ h X hX) k _ _ _ _ _ _ Q Q (fun _ _ h => h) h)
