/-! the law's own check, piece by piece -/
def jchq (b : ByteArray) : List JE → Nat → Bool
  | [], _ => true
  | [e], n => jdec b e && (jisw e.2.1 || Nat.beq n (e.1 + jil e.2.1))
  | e :: e' :: r, n => jdec b e && (jisw e.2.1 || Nat.beq e'.1 (e.1 + jil e.2.1)) && jchq b (e' :: r) n
theorem jchq_app {b : ByteArray} {e : JE} {r : List JE} : ∀ (a : List JE), jchq b a e.1 = true → jchk b (e :: r) = true → jchk b (a ++ e :: r) = true
  | [], _, h => h
  | [x], h, h2 => by
    unfold jchq at h
    simp only [Bool.and_eq_true] at h
    show (jdec b x && (jisw x.2.1 || Nat.beq e.1 (x.1 + jil x.2.1)) && jchk b (e :: r)) = true
    rw [h.1, h.2, h2]
    rfl
  | x :: x' :: l, h, h2 => by
    unfold jchq at h
    simp only [Bool.and_eq_true] at h
    show (jdec b x && (jisw x.2.1 || Nat.beq x'.1 (x.1 + jil x.2.1)) && jchk b (x' :: l ++ e :: r)) = true
    rw [h.1.1, h.1.2, jchq_app (x' :: l) h.2 h2]
    rfl
def jpc0 : List JE → Nat
  | [] => 0
  | e :: _ => e.1
def lwl (i : Nat) : List JE := (jcode 322).drop (12 * i)
def lwP (i : Nat) : Prop := jchk (jbytes 322) (lwl i) = true ∧ (lwl i).all (jwd 322) = true
def lwQ (i : Nat) : Bool := jchq (jbytes 322) ((lwl i).take 12) (jpc0 (lwl (i + 1))) && !(lwl (i + 1)).isEmpty && ((lwl i).take 12).all (jwd 322)
theorem lw_cut {i : Nat} (h : lwQ i = true) (h2 : lwP (i + 1)) : lwP i := by
  unfold lwQ at h
  simp only [Bool.and_eq_true] at h
  obtain ⟨⟨h1, h3⟩, h4⟩ := h
  have e : lwl i = (lwl i).take 12 ++ lwl (i + 1) := by
    have : lwl (i + 1) = (lwl i).drop 12 := by
      unfold lwl
      rw [List.drop_drop]
      congr 1
    rw [this, List.take_append_drop]
  unfold lwP at h2 ⊢
  cases hl : lwl (i + 1) with
  | nil => rw [hl] at h3; cases h3
  | cons x r =>
    rw [hl] at h1 h2 e
    rw [e]
    refine ⟨jchq_app _ h1 h2.1, ?_⟩
    rw [List.all_append, h4, h2.2]
    rfl
set_option maxRecDepth 20000 in
theorem lq0 : lwQ 0 = true := by decide +kernel
set_option maxRecDepth 20000 in
theorem lq1 : lwQ 1 = true := by decide +kernel
set_option maxRecDepth 20000 in
theorem lq2 : lwQ 2 = true := by decide +kernel
set_option maxRecDepth 20000 in
theorem lq3 : lwQ 3 = true := by decide +kernel
set_option maxRecDepth 20000 in
theorem lq4 : lwQ 4 = true := by decide +kernel
set_option maxRecDepth 20000 in
theorem lq5 : lwQ 5 = true := by decide +kernel
set_option maxRecDepth 20000 in
theorem lq6 : lwQ 6 = true := by decide +kernel
set_option maxRecDepth 20000 in
theorem lq7 : lwQ 7 = true := by decide +kernel
set_option maxRecDepth 20000 in
theorem lq8 : lwQ 8 = true := by decide +kernel
set_option maxRecDepth 20000 in
theorem lq9 : lwQ 9 = true := by decide +kernel
set_option maxRecDepth 20000 in
theorem lq10 : lwQ 10 = true := by decide +kernel
set_option maxRecDepth 20000 in
theorem lq11 : lwQ 11 = true := by decide +kernel
set_option maxRecDepth 20000 in
theorem lq12 : lwQ 12 = true := by decide +kernel
set_option maxRecDepth 20000 in
theorem lq13 : lwQ 13 = true := by decide +kernel
set_option maxRecDepth 20000 in
theorem lq14 : lwQ 14 = true := by decide +kernel
set_option maxRecDepth 20000 in
theorem lq15 : lwQ 15 = true := by decide +kernel
set_option maxRecDepth 20000 in
theorem lq16 : lwQ 16 = true := by decide +kernel
set_option maxRecDepth 20000 in
theorem lq17 : lwQ 17 = true := by decide +kernel
set_option maxRecDepth 20000 in
theorem lq18 : lwQ 18 = true := by decide +kernel
set_option maxRecDepth 20000 in
theorem lq19 : lwQ 19 = true := by decide +kernel
set_option maxRecDepth 20000 in
theorem lq20 : lwQ 20 = true := by decide +kernel
set_option maxRecDepth 20000 in
theorem lq21 : lwQ 21 = true := by decide +kernel
set_option maxRecDepth 20000 in
theorem lq22 : lwQ 22 = true := by decide +kernel
set_option maxRecDepth 20000 in
theorem lq23 : lwQ 23 = true := by decide +kernel
set_option maxRecDepth 20000 in
theorem lq24 : lwQ 24 = true := by decide +kernel
set_option maxRecDepth 20000 in
theorem lq25 : lwQ 25 = true := by decide +kernel
set_option maxRecDepth 20000 in
theorem lq26 : lwQ 26 = true := by decide +kernel
set_option maxRecDepth 20000 in
theorem lq27 : lwQ 27 = true := by decide +kernel
set_option maxRecDepth 20000 in
theorem lq28 : lwQ 28 = true := by decide +kernel
set_option maxRecDepth 20000 in
theorem lq29 : lwQ 29 = true := by decide +kernel
set_option maxRecDepth 20000 in
theorem lq30 : lwQ 30 = true := by decide +kernel
set_option maxRecDepth 20000 in
theorem lq31 : lwQ 31 = true := by decide +kernel
set_option maxRecDepth 20000 in
theorem lq32 : lwQ 32 = true := by decide +kernel
set_option maxRecDepth 20000 in
theorem lq33 : lwQ 33 = true := by decide +kernel
set_option maxRecDepth 20000 in
theorem lq34 : lwQ 34 = true := by decide +kernel
set_option maxRecDepth 20000 in
theorem lq35 : lwQ 35 = true := by decide +kernel
set_option maxRecDepth 20000 in
theorem lq36 : lwQ 36 = true := by decide +kernel
set_option maxRecDepth 20000 in
theorem lq37 : lwQ 37 = true := by decide +kernel
set_option maxRecDepth 20000 in
theorem lq38 : lwQ 38 = true := by decide +kernel
set_option maxRecDepth 20000 in
theorem lq39 : lwQ 39 = true := by decide +kernel
set_option maxRecDepth 20000 in
theorem lq40 : lwQ 40 = true := by decide +kernel
set_option maxRecDepth 20000 in
theorem lq41 : lwQ 41 = true := by decide +kernel
set_option maxRecDepth 20000 in
theorem lq42 : lwQ 42 = true := by decide +kernel
set_option maxRecDepth 20000 in
theorem lq43 : lwQ 43 = true := by decide +kernel
set_option maxRecDepth 20000 in
theorem lq44 : lwQ 44 = true := by decide +kernel
set_option maxRecDepth 20000 in
theorem lq45 : lwQ 45 = true := by decide +kernel
set_option maxRecDepth 20000 in
theorem lq46 : lwQ 46 = true := by decide +kernel
set_option maxRecDepth 20000 in
theorem lq47 : lwQ 47 = true := by decide +kernel
set_option maxRecDepth 20000 in
theorem lq48 : lwQ 48 = true := by decide +kernel
set_option maxRecDepth 20000 in
theorem lq49 : lwQ 49 = true := by decide +kernel
set_option maxRecDepth 20000 in
theorem lq50 : lwQ 50 = true := by decide +kernel
set_option maxRecDepth 20000 in
theorem lq51 : lwQ 51 = true := by decide +kernel
set_option maxRecDepth 20000 in
theorem lq52 : lwQ 52 = true := by decide +kernel
set_option maxRecDepth 20000 in
theorem lq53 : lwQ 53 = true := by decide +kernel
set_option maxRecDepth 20000 in
theorem lq54 : lwQ 54 = true := by decide +kernel
set_option maxRecDepth 20000 in
theorem lq55 : lwQ 55 = true := by decide +kernel
set_option maxRecDepth 20000 in
theorem lq56 : lwQ 56 = true := by decide +kernel
set_option maxRecDepth 20000 in
theorem lq57 : lwQ 57 = true := by decide +kernel
set_option maxRecDepth 20000 in
theorem lq58 : lwQ 58 = true := by decide +kernel
set_option maxRecDepth 20000 in
theorem lq59 : lwQ 59 = true := by decide +kernel
set_option maxRecDepth 20000 in
theorem lq60 : lwQ 60 = true := by decide +kernel
set_option maxRecDepth 20000 in
theorem lq61 : lwQ 61 = true := by decide +kernel
set_option maxRecDepth 20000 in
theorem lq62 : lwQ 62 = true := by decide +kernel
set_option maxRecDepth 20000 in
theorem lq63 : lwQ 63 = true := by decide +kernel
set_option maxRecDepth 20000 in
theorem lq64 : lwQ 64 = true := by decide +kernel
set_option maxRecDepth 20000 in
theorem lq65 : lwQ 65 = true := by decide +kernel
set_option maxRecDepth 20000 in
theorem lq66 : lwQ 66 = true := by decide +kernel
set_option maxRecDepth 20000 in
theorem lq67 : lwQ 67 = true := by decide +kernel
set_option maxRecDepth 20000 in
theorem lq68 : lwQ 68 = true := by decide +kernel
set_option maxRecDepth 20000 in
theorem lq69 : lwQ 69 = true := by decide +kernel
set_option maxRecDepth 20000 in
theorem lq70 : lwQ 70 = true := by decide +kernel
set_option maxRecDepth 20000 in
theorem lq71 : lwQ 71 = true := by decide +kernel
set_option maxRecDepth 20000 in
theorem lq72 : lwQ 72 = true := by decide +kernel
set_option maxRecDepth 20000 in
theorem lq73 : lwQ 73 = true := by decide +kernel
set_option maxRecDepth 20000 in
theorem lq74 : lwQ 74 = true := by decide +kernel
set_option maxRecDepth 20000 in
theorem lq75 : lwQ 75 = true := by decide +kernel
set_option maxRecDepth 20000 in
theorem lq76 : lwQ 76 = true := by decide +kernel
set_option maxRecDepth 20000 in
theorem lq77 : lwQ 77 = true := by decide +kernel
set_option maxRecDepth 20000 in
theorem lq78 : lwQ 78 = true := by decide +kernel
set_option maxRecDepth 20000 in
theorem lq79 : lwQ 79 = true := by decide +kernel
set_option maxRecDepth 20000 in
theorem lq80 : lwQ 80 = true := by decide +kernel
set_option maxRecDepth 20000 in
theorem lq81 : lwQ 81 = true := by decide +kernel
set_option maxRecDepth 20000 in
theorem lq82 : lwQ 82 = true := by decide +kernel
set_option maxRecDepth 20000 in
theorem lq83 : lwQ 83 = true := by decide +kernel
set_option maxRecDepth 20000 in
theorem lq84 : lwQ 84 = true := by decide +kernel
set_option maxRecDepth 20000 in
theorem lq85 : lwQ 85 = true := by decide +kernel
set_option maxRecDepth 20000 in
theorem lq86 : lwQ 86 = true := by decide +kernel
set_option maxRecDepth 20000 in
theorem lq87 : lwQ 87 = true := by decide +kernel
set_option maxRecDepth 20000 in
theorem lq88 : lwQ 88 = true := by decide +kernel
set_option maxRecDepth 20000 in
theorem lq89 : lwQ 89 = true := by decide +kernel
set_option maxRecDepth 20000 in
theorem lq90 : lwQ 90 = true := by decide +kernel
set_option maxRecDepth 20000 in
theorem lq91 : lwQ 91 = true := by decide +kernel
set_option maxRecDepth 20000 in
theorem lq92 : lwQ 92 = true := by decide +kernel
set_option maxRecDepth 20000 in
theorem lq93 : (jchk (jbytes 322) (lwl 93) && (lwl 93).all (jwd 322)) = true := by decide +kernel
theorem lr93 : lwP 93 := by
  have h := lq93
  simp only [Bool.and_eq_true] at h
  exact h
theorem lr92 : lwP 92 := lw_cut lq92 lr93
theorem lr91 : lwP 91 := lw_cut lq91 lr92
theorem lr90 : lwP 90 := lw_cut lq90 lr91
theorem lr89 : lwP 89 := lw_cut lq89 lr90
theorem lr88 : lwP 88 := lw_cut lq88 lr89
theorem lr87 : lwP 87 := lw_cut lq87 lr88
theorem lr86 : lwP 86 := lw_cut lq86 lr87
theorem lr85 : lwP 85 := lw_cut lq85 lr86
theorem lr84 : lwP 84 := lw_cut lq84 lr85
theorem lr83 : lwP 83 := lw_cut lq83 lr84
theorem lr82 : lwP 82 := lw_cut lq82 lr83
theorem lr81 : lwP 81 := lw_cut lq81 lr82
theorem lr80 : lwP 80 := lw_cut lq80 lr81
theorem lr79 : lwP 79 := lw_cut lq79 lr80
theorem lr78 : lwP 78 := lw_cut lq78 lr79
theorem lr77 : lwP 77 := lw_cut lq77 lr78
theorem lr76 : lwP 76 := lw_cut lq76 lr77
theorem lr75 : lwP 75 := lw_cut lq75 lr76
theorem lr74 : lwP 74 := lw_cut lq74 lr75
theorem lr73 : lwP 73 := lw_cut lq73 lr74
theorem lr72 : lwP 72 := lw_cut lq72 lr73
theorem lr71 : lwP 71 := lw_cut lq71 lr72
theorem lr70 : lwP 70 := lw_cut lq70 lr71
theorem lr69 : lwP 69 := lw_cut lq69 lr70
theorem lr68 : lwP 68 := lw_cut lq68 lr69
theorem lr67 : lwP 67 := lw_cut lq67 lr68
theorem lr66 : lwP 66 := lw_cut lq66 lr67
theorem lr65 : lwP 65 := lw_cut lq65 lr66
theorem lr64 : lwP 64 := lw_cut lq64 lr65
theorem lr63 : lwP 63 := lw_cut lq63 lr64
theorem lr62 : lwP 62 := lw_cut lq62 lr63
theorem lr61 : lwP 61 := lw_cut lq61 lr62
theorem lr60 : lwP 60 := lw_cut lq60 lr61
theorem lr59 : lwP 59 := lw_cut lq59 lr60
theorem lr58 : lwP 58 := lw_cut lq58 lr59
theorem lr57 : lwP 57 := lw_cut lq57 lr58
theorem lr56 : lwP 56 := lw_cut lq56 lr57
theorem lr55 : lwP 55 := lw_cut lq55 lr56
theorem lr54 : lwP 54 := lw_cut lq54 lr55
theorem lr53 : lwP 53 := lw_cut lq53 lr54
theorem lr52 : lwP 52 := lw_cut lq52 lr53
theorem lr51 : lwP 51 := lw_cut lq51 lr52
theorem lr50 : lwP 50 := lw_cut lq50 lr51
theorem lr49 : lwP 49 := lw_cut lq49 lr50
theorem lr48 : lwP 48 := lw_cut lq48 lr49
theorem lr47 : lwP 47 := lw_cut lq47 lr48
theorem lr46 : lwP 46 := lw_cut lq46 lr47
theorem lr45 : lwP 45 := lw_cut lq45 lr46
theorem lr44 : lwP 44 := lw_cut lq44 lr45
theorem lr43 : lwP 43 := lw_cut lq43 lr44
theorem lr42 : lwP 42 := lw_cut lq42 lr43
theorem lr41 : lwP 41 := lw_cut lq41 lr42
theorem lr40 : lwP 40 := lw_cut lq40 lr41
theorem lr39 : lwP 39 := lw_cut lq39 lr40
theorem lr38 : lwP 38 := lw_cut lq38 lr39
theorem lr37 : lwP 37 := lw_cut lq37 lr38
theorem lr36 : lwP 36 := lw_cut lq36 lr37
theorem lr35 : lwP 35 := lw_cut lq35 lr36
theorem lr34 : lwP 34 := lw_cut lq34 lr35
theorem lr33 : lwP 33 := lw_cut lq33 lr34
theorem lr32 : lwP 32 := lw_cut lq32 lr33
theorem lr31 : lwP 31 := lw_cut lq31 lr32
theorem lr30 : lwP 30 := lw_cut lq30 lr31
theorem lr29 : lwP 29 := lw_cut lq29 lr30
theorem lr28 : lwP 28 := lw_cut lq28 lr29
theorem lr27 : lwP 27 := lw_cut lq27 lr28
theorem lr26 : lwP 26 := lw_cut lq26 lr27
theorem lr25 : lwP 25 := lw_cut lq25 lr26
theorem lr24 : lwP 24 := lw_cut lq24 lr25
theorem lr23 : lwP 23 := lw_cut lq23 lr24
theorem lr22 : lwP 22 := lw_cut lq22 lr23
theorem lr21 : lwP 21 := lw_cut lq21 lr22
theorem lr20 : lwP 20 := lw_cut lq20 lr21
theorem lr19 : lwP 19 := lw_cut lq19 lr20
theorem lr18 : lwP 18 := lw_cut lq18 lr19
theorem lr17 : lwP 17 := lw_cut lq17 lr18
theorem lr16 : lwP 16 := lw_cut lq16 lr17
theorem lr15 : lwP 15 := lw_cut lq15 lr16
theorem lr14 : lwP 14 := lw_cut lq14 lr15
theorem lr13 : lwP 13 := lw_cut lq13 lr14
theorem lr12 : lwP 12 := lw_cut lq12 lr13
theorem lr11 : lwP 11 := lw_cut lq11 lr12
theorem lr10 : lwP 10 := lw_cut lq10 lr11
theorem lr9 : lwP 9 := lw_cut lq9 lr10
theorem lr8 : lwP 8 := lw_cut lq8 lr9
theorem lr7 : lwP 7 := lw_cut lq7 lr8
theorem lr6 : lwP 6 := lw_cut lq6 lr7
theorem lr5 : lwP 5 := lw_cut lq5 lr6
theorem lr4 : lwP 4 := lw_cut lq4 lr5
theorem lr3 : lwP 3 := lw_cut lq3 lr4
theorem lr2 : lwP 2 := lw_cut lq2 lr3
theorem lr1 : lwP 1 := lw_cut lq1 lr2
theorem lr0 : lwP 0 := lw_cut lq0 lr1
theorem ck_law : jck 322 = true := by
  unfold jck
  simp only [Bool.and_eq_true]
  exact lr0
