/-! THE CLASS RUNS, 4: plain operations -/
/-- how many operands an operation takes and puts, as the class says -/
def tkO (o : Int32) : Option (Nat × Nat) := if ¬ o < 40 ∧ o < 54 then some (1, 1) else if ¬ o < 54 ∧ ¬ 62 < o then some (2, 0) else if o = 1 then some (0, 0) else if o = 26 then some (1, 0) else if o = 27 then some (3, 1) else if o = 32 then some (0, 1) else if o = 33 then some (1, 0) else if o = 34 then some (1, 1) else if o = 35 then some (0, 1) else if o = 36 then some (1, 0) else if o = 63 then some (0, 1) else if o = 64 then some (1, 1) else if o = 65 then some (0, 1) else if o = 66 then some (0, 1) else if o = 69 then some (1, 1) else if o = 70 then some (2, 1) else if o = 71 then some (2, 1) else if o = 72 then some (2, 1) else if o = 73 then some (2, 1) else if o = 80 then some (1, 1) else if o = 81 then some (2, 1) else if o = 83 then some (2, 1) else if o = 106 then some (2, 1) else if o = 107 then some (2, 1) else if o = 108 then some (2, 1) else if o = 110 then some (2, 1) else if o = 113 then some (2, 1) else if o = 116 then some (2, 1) else if o = 124 then some (2, 1) else if o = 125 then some (2, 1) else if o = 126 then some (2, 1) else if o = 167 then some (1, 1) else if o = 173 then some (1, 1) else none
section CO
variable {h : Hp} {Q : Option TV → Hp → Prop} {o : Int32}
theorem c_taken (k : Q (some (tI (match tkO o with
      | some q => nI q.1
      | none => -1))) h) : tX7_takenBy o h Q := by
  have c28 : ¬ (¬ o < 40 ∧ o < 54) → ¬ (¬ o < 54 ∧ ¬ 62 < o) → tX7_takenBy_28 o h Q := by
    intro n1 n2
    unfold tkO at k
    rw [if_neg n1, if_neg n2] at k
    refine wX7_takenBy_28 o h Q ?_
    by_cases c1 : o = 1
    · rw [if_pos c1] at k ⊢
      exact k
    rw [if_neg c1] at k ⊢
    by_cases c26 : o = 26
    · rw [if_pos c26] at k ⊢
      exact k
    rw [if_neg c26] at k ⊢
    by_cases c27 : o = 27
    · rw [if_pos c27] at k ⊢
      exact k
    rw [if_neg c27] at k ⊢
    by_cases c32 : o = 32
    · rw [if_pos c32] at k ⊢
      exact k
    rw [if_neg c32] at k ⊢
    by_cases c33 : o = 33
    · rw [if_pos c33] at k ⊢
      exact k
    rw [if_neg c33] at k ⊢
    by_cases c34 : o = 34
    · rw [if_pos c34] at k ⊢
      exact k
    rw [if_neg c34] at k ⊢
    by_cases c35 : o = 35
    · rw [if_pos c35] at k ⊢
      exact k
    rw [if_neg c35] at k ⊢
    by_cases c36 : o = 36
    · rw [if_pos c36] at k ⊢
      exact k
    rw [if_neg c36] at k ⊢
    by_cases c63 : o = 63
    · rw [if_pos c63] at k ⊢
      exact k
    rw [if_neg c63] at k ⊢
    by_cases c64 : o = 64
    · rw [if_pos c64] at k ⊢
      exact k
    rw [if_neg c64] at k ⊢
    by_cases c65 : o = 65
    · rw [if_pos c65] at k ⊢
      exact k
    rw [if_neg c65] at k ⊢
    by_cases c66 : o = 66
    · rw [if_pos c66] at k ⊢
      exact k
    rw [if_neg c66] at k ⊢
    by_cases c69 : o = 69
    · rw [if_pos c69] at k ⊢
      exact k
    rw [if_neg c69] at k ⊢
    by_cases c70 : o = 70
    · rw [if_pos c70] at k ⊢
      exact k
    rw [if_neg c70] at k ⊢
    by_cases c71 : o = 71
    · rw [if_pos c71] at k ⊢
      exact k
    rw [if_neg c71] at k ⊢
    by_cases c72 : o = 72
    · rw [if_pos c72] at k ⊢
      exact k
    rw [if_neg c72] at k ⊢
    by_cases c73 : o = 73
    · rw [if_pos c73] at k ⊢
      exact k
    rw [if_neg c73] at k ⊢
    by_cases c80 : o = 80
    · rw [if_pos c80] at k ⊢
      exact k
    rw [if_neg c80] at k ⊢
    by_cases c81 : o = 81
    · rw [if_pos c81] at k ⊢
      exact k
    rw [if_neg c81] at k ⊢
    by_cases c83 : o = 83
    · rw [if_pos c83] at k ⊢
      exact k
    rw [if_neg c83] at k ⊢
    by_cases c106 : o = 106
    · rw [if_pos c106] at k ⊢
      exact k
    rw [if_neg c106] at k ⊢
    by_cases c107 : o = 107
    · rw [if_pos c107] at k ⊢
      exact k
    rw [if_neg c107] at k ⊢
    by_cases c108 : o = 108
    · rw [if_pos c108] at k ⊢
      exact k
    rw [if_neg c108] at k ⊢
    by_cases c110 : o = 110
    · rw [if_pos c110] at k ⊢
      exact k
    rw [if_neg c110] at k ⊢
    by_cases c113 : o = 113
    · rw [if_pos c113] at k ⊢
      exact k
    rw [if_neg c113] at k ⊢
    by_cases c116 : o = 116
    · rw [if_pos c116] at k ⊢
      exact k
    rw [if_neg c116] at k ⊢
    by_cases c124 : o = 124
    · rw [if_pos c124] at k ⊢
      exact k
    rw [if_neg c124] at k ⊢
    by_cases c125 : o = 125
    · rw [if_pos c125] at k ⊢
      exact k
    rw [if_neg c125] at k ⊢
    by_cases c126 : o = 126
    · rw [if_pos c126] at k ⊢
      exact k
    rw [if_neg c126] at k ⊢
    by_cases c167 : o = 167
    · rw [if_pos c167] at k ⊢
      exact k
    rw [if_neg c167] at k ⊢
    by_cases c173 : o = 173
    · rw [if_pos c173] at k ⊢
      exact k
    rw [if_neg c173] at k ⊢
    exact k
  have c14 : ¬ (¬ o < 40 ∧ o < 54) → tX7_takenBy_14 o h Q := by
    intro n1
    refine wX7_takenBy_14 o h Q ?_
    by_cases c1 : o < 54
    · rw [if_pos c1]
      exact c28 n1 (fun z => z.1 c1)
    · rw [if_neg c1]
      by_cases c2 : 62 < o
      · rw [if_pos c2]
        exact c28 n1 (fun z => z.2 c2)
      · rw [if_neg c2]
        unfold tkO at k
        rw [if_neg n1, if_pos ⟨c1, c2⟩] at k
        exact k
  refine wX7_takenBy o h Q ?_
  by_cases c1 : o < 40
  · rw [if_pos c1]
    exact c14 (fun z => z.1 c1)
  · rw [if_neg c1]
    by_cases c2 : o < 54
    · rw [if_pos c2]
      unfold tkO at k
      rw [if_pos ⟨c1, c2⟩] at k
      exact k
    · rw [if_neg c2]
      exact c14 (fun z => c2 z.2)
theorem c_putBy {q : Nat × Nat} (ht : tkO o = some q) (k : Q (some (tI (nI q.2))) h) : tX7_putBy o h Q := by
  unfold tkO at ht
  have c14 : (∀ x : Int32, x = 1 ∨ x = 26 ∨ x = 33 ∨ x = 36 → ¬ o = x) → q.2 = 1 → tX7_putBy_14 o h Q := by
    intro n1 e
    refine wX7_putBy_14 o h Q ?_
    rw [if_neg (n1 1 (by simp)), if_neg (n1 26 (by simp)), if_neg (n1 33 (by simp)), if_neg (n1 36 (by simp))]
    rw [e] at k
    exact k
  by_cases c1 : ¬ o < 40 ∧ o < 54
  · rw [if_pos c1] at ht
    cases ht
    refine wX7_putBy o h Q ?_
    rw [if_pos c1.2]
    refine c14 (fun x hx e => c1.1 ?_) rfl
    rcases hx with rfl | rfl | rfl | rfl <;> (rw [e]; decide)
  rw [if_neg c1] at ht
  by_cases c2 : ¬ o < 54 ∧ ¬ 62 < o
  · rw [if_pos c2] at ht
    cases ht
    refine wX7_putBy o h Q ?_
    rw [if_neg c2.1, if_neg c2.2]
    exact k
  rw [if_neg c2] at ht
  have go : tX7_putBy_14 o h Q → tX7_putBy o h Q := by
    intro z
    refine wX7_putBy o h Q ?_
    by_cases d1 : o < 54
    · rw [if_pos d1]; exact z
    · rw [if_neg d1]
      by_cases d2 : 62 < o
      · rw [if_pos d2]; exact z
      · exact absurd ⟨d1, d2⟩ c2
  refine go ?_
  by_cases c1 : o = 1
  · rw [if_pos c1] at ht
    cases ht
    refine wX7_putBy_14 o h Q ?_
    subst c1
    rw [if_pos rfl]
    exact k
  rw [if_neg c1] at ht
  by_cases c26 : o = 26
  · rw [if_pos c26] at ht
    cases ht
    refine wX7_putBy_14 o h Q ?_
    subst c26
    rw [if_neg (by decide), if_pos rfl]
    exact k
  rw [if_neg c26] at ht
  by_cases c27 : o = 27
  · rw [if_pos c27] at ht
    cases ht
    exact c14 (fun x hx e => by subst e; rcases hx with rfl | rfl | rfl | rfl <;> exact absurd c27 (by decide)) rfl
  rw [if_neg c27] at ht
  by_cases c32 : o = 32
  · rw [if_pos c32] at ht
    cases ht
    exact c14 (fun x hx e => by subst e; rcases hx with rfl | rfl | rfl | rfl <;> exact absurd c32 (by decide)) rfl
  rw [if_neg c32] at ht
  by_cases c33 : o = 33
  · rw [if_pos c33] at ht
    cases ht
    refine wX7_putBy_14 o h Q ?_
    subst c33
    rw [if_neg (by decide), if_neg (by decide), if_pos rfl]
    exact k
  rw [if_neg c33] at ht
  by_cases c34 : o = 34
  · rw [if_pos c34] at ht
    cases ht
    exact c14 (fun x hx e => by subst e; rcases hx with rfl | rfl | rfl | rfl <;> exact absurd c34 (by decide)) rfl
  rw [if_neg c34] at ht
  by_cases c35 : o = 35
  · rw [if_pos c35] at ht
    cases ht
    exact c14 (fun x hx e => by subst e; rcases hx with rfl | rfl | rfl | rfl <;> exact absurd c35 (by decide)) rfl
  rw [if_neg c35] at ht
  by_cases c36 : o = 36
  · rw [if_pos c36] at ht
    cases ht
    refine wX7_putBy_14 o h Q ?_
    subst c36
    rw [if_neg (by decide), if_neg (by decide), if_neg (by decide), if_pos rfl]
    exact k
  rw [if_neg c36] at ht
  by_cases c63 : o = 63
  · rw [if_pos c63] at ht
    cases ht
    exact c14 (fun x hx e => by subst e; rcases hx with rfl | rfl | rfl | rfl <;> exact absurd c63 (by decide)) rfl
  rw [if_neg c63] at ht
  by_cases c64 : o = 64
  · rw [if_pos c64] at ht
    cases ht
    exact c14 (fun x hx e => by subst e; rcases hx with rfl | rfl | rfl | rfl <;> exact absurd c64 (by decide)) rfl
  rw [if_neg c64] at ht
  by_cases c65 : o = 65
  · rw [if_pos c65] at ht
    cases ht
    exact c14 (fun x hx e => by subst e; rcases hx with rfl | rfl | rfl | rfl <;> exact absurd c65 (by decide)) rfl
  rw [if_neg c65] at ht
  by_cases c66 : o = 66
  · rw [if_pos c66] at ht
    cases ht
    exact c14 (fun x hx e => by subst e; rcases hx with rfl | rfl | rfl | rfl <;> exact absurd c66 (by decide)) rfl
  rw [if_neg c66] at ht
  by_cases c69 : o = 69
  · rw [if_pos c69] at ht
    cases ht
    exact c14 (fun x hx e => by subst e; rcases hx with rfl | rfl | rfl | rfl <;> exact absurd c69 (by decide)) rfl
  rw [if_neg c69] at ht
  by_cases c70 : o = 70
  · rw [if_pos c70] at ht
    cases ht
    exact c14 (fun x hx e => by subst e; rcases hx with rfl | rfl | rfl | rfl <;> exact absurd c70 (by decide)) rfl
  rw [if_neg c70] at ht
  by_cases c71 : o = 71
  · rw [if_pos c71] at ht
    cases ht
    exact c14 (fun x hx e => by subst e; rcases hx with rfl | rfl | rfl | rfl <;> exact absurd c71 (by decide)) rfl
  rw [if_neg c71] at ht
  by_cases c72 : o = 72
  · rw [if_pos c72] at ht
    cases ht
    exact c14 (fun x hx e => by subst e; rcases hx with rfl | rfl | rfl | rfl <;> exact absurd c72 (by decide)) rfl
  rw [if_neg c72] at ht
  by_cases c73 : o = 73
  · rw [if_pos c73] at ht
    cases ht
    exact c14 (fun x hx e => by subst e; rcases hx with rfl | rfl | rfl | rfl <;> exact absurd c73 (by decide)) rfl
  rw [if_neg c73] at ht
  by_cases c80 : o = 80
  · rw [if_pos c80] at ht
    cases ht
    exact c14 (fun x hx e => by subst e; rcases hx with rfl | rfl | rfl | rfl <;> exact absurd c80 (by decide)) rfl
  rw [if_neg c80] at ht
  by_cases c81 : o = 81
  · rw [if_pos c81] at ht
    cases ht
    exact c14 (fun x hx e => by subst e; rcases hx with rfl | rfl | rfl | rfl <;> exact absurd c81 (by decide)) rfl
  rw [if_neg c81] at ht
  by_cases c83 : o = 83
  · rw [if_pos c83] at ht
    cases ht
    exact c14 (fun x hx e => by subst e; rcases hx with rfl | rfl | rfl | rfl <;> exact absurd c83 (by decide)) rfl
  rw [if_neg c83] at ht
  by_cases c106 : o = 106
  · rw [if_pos c106] at ht
    cases ht
    exact c14 (fun x hx e => by subst e; rcases hx with rfl | rfl | rfl | rfl <;> exact absurd c106 (by decide)) rfl
  rw [if_neg c106] at ht
  by_cases c107 : o = 107
  · rw [if_pos c107] at ht
    cases ht
    exact c14 (fun x hx e => by subst e; rcases hx with rfl | rfl | rfl | rfl <;> exact absurd c107 (by decide)) rfl
  rw [if_neg c107] at ht
  by_cases c108 : o = 108
  · rw [if_pos c108] at ht
    cases ht
    exact c14 (fun x hx e => by subst e; rcases hx with rfl | rfl | rfl | rfl <;> exact absurd c108 (by decide)) rfl
  rw [if_neg c108] at ht
  by_cases c110 : o = 110
  · rw [if_pos c110] at ht
    cases ht
    exact c14 (fun x hx e => by subst e; rcases hx with rfl | rfl | rfl | rfl <;> exact absurd c110 (by decide)) rfl
  rw [if_neg c110] at ht
  by_cases c113 : o = 113
  · rw [if_pos c113] at ht
    cases ht
    exact c14 (fun x hx e => by subst e; rcases hx with rfl | rfl | rfl | rfl <;> exact absurd c113 (by decide)) rfl
  rw [if_neg c113] at ht
  by_cases c116 : o = 116
  · rw [if_pos c116] at ht
    cases ht
    exact c14 (fun x hx e => by subst e; rcases hx with rfl | rfl | rfl | rfl <;> exact absurd c116 (by decide)) rfl
  rw [if_neg c116] at ht
  by_cases c124 : o = 124
  · rw [if_pos c124] at ht
    cases ht
    exact c14 (fun x hx e => by subst e; rcases hx with rfl | rfl | rfl | rfl <;> exact absurd c124 (by decide)) rfl
  rw [if_neg c124] at ht
  by_cases c125 : o = 125
  · rw [if_pos c125] at ht
    cases ht
    exact c14 (fun x hx e => by subst e; rcases hx with rfl | rfl | rfl | rfl <;> exact absurd c125 (by decide)) rfl
  rw [if_neg c125] at ht
  by_cases c126 : o = 126
  · rw [if_pos c126] at ht
    cases ht
    exact c14 (fun x hx e => by subst e; rcases hx with rfl | rfl | rfl | rfl <;> exact absurd c126 (by decide)) rfl
  rw [if_neg c126] at ht
  by_cases c167 : o = 167
  · rw [if_pos c167] at ht
    cases ht
    exact c14 (fun x hx e => by subst e; rcases hx with rfl | rfl | rfl | rfl <;> exact absurd c167 (by decide)) rfl
  rw [if_neg c167] at ht
  by_cases c173 : o = 173
  · rw [if_pos c173] at ht
    cases ht
    exact c14 (fun x hx e => by subst e; rcases hx with rfl | rfl | rfl | rfl <;> exact absurd c173 (by decide)) rfl
  rw [if_neg c173] at ht
  cases ht
theorem c_sizeOf (h1 : ¬ o < 40) (h2 : o < 63) (k : Q (some (tI (nI (sizeN o)))) h) : tX7_sizeOf o h Q := by
  have h0 : ¬ o < 0 := fun z => h1 (Int32.lt_trans z (by decide))
  obtain ⟨a1, a2⟩ := o_small (n := 63) h0 h2 (by decide)
  have a3 : ¬ nt o < 40 := fun z => h1 (by rw [a2]; exact nI_lt z (by decide))
  have ne : ∀ t : Nat, ¬ o = nI t → ¬ nt o = t := fun t hn e => hn (by rw [a2, e])
  refine wX7_sizeOf o h Q ?_
  by_cases c41 : o = 41
  · subst c41
    rw [if_pos rfl]
    exact k
  rw [if_neg c41]
  have d41 := ne 41 c41
  by_cases c43 : o = 43
  · subst c43
    rw [if_pos rfl]
    exact k
  rw [if_neg c43]
  have d43 := ne 43 c43
  by_cases c44 : o = 44
  · subst c44
    rw [if_pos rfl]
    exact k
  rw [if_neg c44]
  have d44 := ne 44 c44
  by_cases c45 : o = 45
  · subst c45
    rw [if_pos rfl]
    exact k
  rw [if_neg c45]
  have d45 := ne 45 c45
  by_cases c46 : o = 46
  · subst c46
    rw [if_pos rfl]
    exact k
  rw [if_neg c46]
  have d46 := ne 46 c46
  by_cases c47 : o = 47
  · subst c47
    rw [if_pos rfl]
    exact k
  rw [if_neg c47]
  have d47 := ne 47 c47
  by_cases c48 : o = 48
  · subst c48
    rw [if_pos rfl]
    exact k
  rw [if_neg c48]
  have d48 := ne 48 c48
  by_cases c49 : o = 49
  · subst c49
    rw [if_pos rfl]
    exact k
  rw [if_neg c49]
  have d49 := ne 49 c49
  by_cases c50 : o = 50
  · subst c50
    rw [if_pos rfl]
    exact k
  rw [if_neg c50]
  have d50 := ne 50 c50
  by_cases c51 : o = 51
  · subst c51
    rw [if_pos rfl]
    exact k
  rw [if_neg c51]
  have d51 := ne 51 c51
  by_cases c55 : o = 55
  · subst c55
    rw [if_pos rfl]
    exact k
  rw [if_neg c55]
  have d55 := ne 55 c55
  by_cases c57 : o = 57
  · subst c57
    rw [if_pos rfl]
    exact k
  rw [if_neg c57]
  have d57 := ne 57 c57
  by_cases c58 : o = 58
  · subst c58
    rw [if_pos rfl]
    exact k
  rw [if_neg c58]
  have d58 := ne 58 c58
  by_cases c59 : o = 59
  · subst c59
    rw [if_pos rfl]
    exact k
  rw [if_neg c59]
  have d59 := ne 59 c59
  by_cases c60 : o = 60
  · subst c60
    rw [if_pos rfl]
    exact k
  rw [if_neg c60]
  have d60 := ne 60 c60
  by_cases c61 : o = 61
  · subst c61
    rw [if_pos rfl]
    exact k
  rw [if_neg c61]
  have d61 := ne 61 c61
  have : nt o = 40 ∨ nt o = 42 ∨ nt o = 52 ∨ nt o = 53 ∨ nt o = 54 ∨ nt o = 56 ∨ nt o = 62 := by omega
  rcases this with e | e | e | e | e | e | e
  · have e : o = 40 := by rw [a2, e]; rfl
    subst e
    exact k
  · have e : o = 42 := by rw [a2, e]; rfl
    subst e
    exact k
  · have e : o = 52 := by rw [a2, e]; rfl
    subst e
    exact k
  · have e : o = 53 := by rw [a2, e]; rfl
    subst e
    exact k
  · have e : o = 54 := by rw [a2, e]; rfl
    subst e
    exact k
  · have e : o = 56 := by rw [a2, e]; rfl
    subst e
    exact k
  · have e : o = 62 := by rw [a2, e]; rfl
    subst e
    exact k
theorem c_widened {y : Int64} (h1 : ¬ o < 40) (h2 : o < 54) (k : Q (some (tL (wid o y))) h) : tX7_widened o y h Q := by
  have h0 : ¬ o < 0 := fun z => h1 (Int32.lt_trans z (by decide))
  obtain ⟨a1, a2⟩ := o_small (n := 54) h0 h2 (by decide)
  have a3 : ¬ nt o < 40 := fun z => h1 (by rw [a2]; exact nI_lt z (by decide))
  have ne : ∀ t : Nat, ¬ o = nI t → ¬ nt o = t := fun t hn e => hn (by rw [a2, e])
  refine wX7_widened o y h Q ?_
  by_cases c44 : o = 44
  · subst c44
    rw [if_pos rfl]
    have e : wid 44 y = low (shUp 44 y) := rfl
    rw [e, (w8 y).1] at k
    exact k
  rw [if_neg c44]
  by_cases c46 : o = 46
  · subst c46
    rw [if_pos rfl]
    have e : wid 46 y = low (shUp 46 y) := rfl
    rw [e, (w16 y).1] at k
    exact k
  rw [if_neg c46]
  by_cases c48 : o = 48
  · subst c48
    rw [if_pos rfl]
    have e : wid 48 y = shUp 48 y := rfl
    rw [e, (w8 y).2] at k
    exact k
  rw [if_neg c48]
  by_cases c50 : o = 50
  · subst c50
    rw [if_pos rfl]
    have e : wid 50 y = shUp 50 y := rfl
    rw [e, (w16 y).2] at k
    exact k
  rw [if_neg c50]
  by_cases c52 : o = 52
  · subst c52
    rw [if_pos rfl]
    have e : wid 52 y = shUp 52 y := rfl
    rw [e, w32 y] at k
    exact k
  rw [if_neg c52]
  have d44 := ne 44 c44
  have d46 := ne 46 c46
  have d48 := ne 48 c48
  have d50 := ne 50 c50
  have d52 := ne 52 c52
  have : nt o = 40 ∨ nt o = 41 ∨ nt o = 42 ∨ nt o = 43 ∨ nt o = 45 ∨ nt o = 47 ∨ nt o = 49 ∨ nt o = 51 ∨ nt o = 53 := by omega
  rcases this with e | e | e | e | e | e | e | e | e
  · have e : o = 40 := by rw [a2, e]; rfl
    subst e
    exact k
  · have e : o = 41 := by rw [a2, e]; rfl
    subst e
    exact k
  · have e : o = 42 := by rw [a2, e]; rfl
    subst e
    exact k
  · have e : o = 43 := by rw [a2, e]; rfl
    subst e
    exact k
  · have e : o = 45 := by rw [a2, e]; rfl
    subst e
    exact k
  · have e : o = 47 := by rw [a2, e]; rfl
    subst e
    exact k
  · have e : o = 49 := by rw [a2, e]; rfl
    subst e
    exact k
  · have e : o = 51 := by rw [a2, e]; rfl
    subst e
    exact k
  · have e : o = 53 := by rw [a2, e]; rfl
    subst e
    exact k
theorem c_isTrue {y : Int64} (k : Q (some (tI (if low y = 0 then 0 else 1))) h) : tX7_isTrue y h Q := by
  refine wX7_isTrue y h Q ?_
  by_cases c : y.toInt32 = 0
  · rw [if_pos c]
    rw [if_pos ((low_zero y).mpr c)] at k
    exact k
  · rw [if_neg c]
    rw [if_neg (fun z => c ((low_zero y).mp z))] at k
    exact k
end CO
