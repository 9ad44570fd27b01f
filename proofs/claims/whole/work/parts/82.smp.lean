/-! THE RUN, 2: plain operations, one by one -/
def isTwo (o : Int32) : Prop := o = 70 ∨ o = 71 ∨ o = 72 ∨ o = 73 ∨ o = 81 ∨ o = 83 ∨ o = 106 ∨ o = 107 ∨ o = 108 ∨ o = 110 ∨ o = 113 ∨ o = 116 ∨ o = 124 ∨ o = 125 ∨ o = 126
theorem arP_cases {o a : Int32} {nm : Nat} {q : Nat × Nat} (h : arP o a nm = some q) :
    (o = 26 ∧ q = (1, 0)) ∨ (o = 27 ∧ q = (3, 1)) ∨ (o = 32 ∧ ¬ a < 0 ∧ nt a < nm ∧ q = (0, 1)) ∨ (o = 33 ∧ ¬ a < 0 ∧ nt a < nm ∧ q = (1, 0)) ∨ (o = 34 ∧ ¬ a < 0 ∧ nt a < nm ∧ q = (1, 1)) ∨ (o = 35 ∧ wi a 7 ∧ q = (0, 1)) ∨ (o = 36 ∧ wi a 7 ∧ q = (1, 0)) ∨ ((o = 63 ∨ o = 65 ∨ o = 66) ∧ q = (0, 1)) ∨ ((o = 64 ∨ o = 69 ∨ o = 80 ∨ o = 167 ∨ o = 173) ∧ q = (1, 1)) ∨ (isTwo o ∧ q = (2, 1)) ∨ ((¬ o < 40 ∧ o < 54) ∧ q = (1, 1)) ∨ ((¬ o < 54 ∧ o < 63) ∧ q = (2, 0)) := by
  unfold arP at h
  by_cases c26 : o = 26
  · rw [if_pos c26] at h
    cases h
    exact Or.inl ⟨c26, rfl⟩
  rw [if_neg c26] at h
  by_cases c27 : o = 27
  · rw [if_pos c27] at h
    cases h
    exact Or.inr (Or.inl ⟨c27, rfl⟩)
  rw [if_neg c27] at h
  by_cases c32 : o = 32
  · rw [if_pos c32] at h
    split at h
    · cases h
    · rename_i e
      cases h
      exact Or.inr (Or.inr (Or.inl ⟨c32, fun z => e (Or.inl z), Nat.lt_of_not_le (fun z => e (Or.inr z)), rfl⟩))
  rw [if_neg c32] at h
  by_cases c33 : o = 33
  · rw [if_pos c33] at h
    split at h
    · cases h
    · rename_i e
      cases h
      exact Or.inr (Or.inr (Or.inr (Or.inl ⟨c33, fun z => e (Or.inl z), Nat.lt_of_not_le (fun z => e (Or.inr z)), rfl⟩)))
  rw [if_neg c33] at h
  by_cases c34 : o = 34
  · rw [if_pos c34] at h
    split at h
    · cases h
    · rename_i e
      cases h
      exact Or.inr (Or.inr (Or.inr (Or.inr (Or.inl ⟨c34, fun z => e (Or.inl z), Nat.lt_of_not_le (fun z => e (Or.inr z)), rfl⟩))))
  rw [if_neg c34] at h
  by_cases c35 : o = 35
  · rw [if_pos c35] at h
    split at h
    · rename_i e
      cases h
      exact Or.inr (Or.inr (Or.inr (Or.inr (Or.inr (Or.inl ⟨c35, e, rfl⟩)))))
    · cases h
  rw [if_neg c35] at h
  by_cases c36 : o = 36
  · rw [if_pos c36] at h
    split at h
    · rename_i e
      cases h
      exact Or.inr (Or.inr (Or.inr (Or.inr (Or.inr (Or.inr (Or.inl ⟨c36, e, rfl⟩))))))
    · cases h
  rw [if_neg c36] at h
  split at h
  · rename_i e
    cases h
    exact Or.inr (Or.inr (Or.inr (Or.inr (Or.inr (Or.inr (Or.inr (Or.inl ⟨e, rfl⟩)))))))
  split at h
  · rename_i e
    cases h
    exact Or.inr (Or.inr (Or.inr (Or.inr (Or.inr (Or.inr (Or.inr (Or.inr (Or.inl ⟨e, rfl⟩))))))))
  split at h
  · rename_i e
    cases h
    exact Or.inr (Or.inr (Or.inr (Or.inr (Or.inr (Or.inr (Or.inr (Or.inr (Or.inr (Or.inl ⟨e, rfl⟩)))))))))
  split at h
  · rename_i e
    cases h
    exact Or.inr (Or.inr (Or.inr (Or.inr (Or.inr (Or.inr (Or.inr (Or.inr (Or.inr (Or.inr (Or.inl ⟨e, rfl⟩))))))))))
  split at h
  · rename_i e
    cases h
    exact Or.inr (Or.inr (Or.inr (Or.inr (Or.inr (Or.inr (Or.inr (Or.inr (Or.inr (Or.inr (Or.inr (⟨e, rfl⟩)))))))))))
  cases h
section SE
variable {a b : Int32} {b0 n p : Nat} {v : VV} {bb : Nat → Int32} {g : VV}
theorem smp_26 : smp 26 a b b0 (n, v, p, bb, g) = .inr (n - 1, v, p, bb, g) := rfl
theorem smp_27 : smp 27 a b b0 (n, v, p, bb, g) = .inr (n - 2, upv v (n - 3) (if low (v (n - 1)) = 0 then v (n - 2) else v (n - 3)), p, bb, g) := rfl
theorem smp_32 : smp 32 a b b0 (n, v, p, bb, g) = .inr (n + 1, upv v n (v (b0 + nt a)), p, bb, g) := rfl
theorem smp_33 : smp 33 a b b0 (n, v, p, bb, g) = .inr (n - 1, upv v (b0 + nt a) (v (n - 1)), p, bb, g) := rfl
theorem smp_34 : smp 34 a b b0 (n, v, p, bb, g) = .inr (n, upv v (b0 + nt a) (v (n - 1)), p, bb, g) := rfl
theorem smp_35 : smp 35 a b b0 (n, v, p, bb, g) = .inr (n + 1, upv v n (g (nt a)), p, bb, g) := rfl
theorem smp_36 : smp 36 a b b0 (n, v, p, bb, g) = .inr (n - 1, v, p, bb, upv g (nt a) (v (n - 1))) := rfl
theorem smp_63 : smp 63 a b b0 (n, v, p, bb, g) = .inr (n + 1, upv v n (nI p).toInt64, p, bb, g) := rfl
theorem smp_64 : smp 64 a b b0 (n, v, p, bb, g) = (if 6 < p + lwN (v (n - 1)) then .inr (n, upv v (n - 1) 4294967295, p, bb, g) else .inr (n, upv v (n - 1) (nI p).toInt64, p + lwN (v (n - 1)), bb, g)) := rfl
theorem smp_65 : smp 65 a b b0 (n, v, p, bb, g) = .inr (n + 1, upv v n (low a.toInt64), p, bb, g) := rfl
theorem smp_66 : smp 66 a b b0 (n, v, p, bb, g) = .inr (n + 1, upv v n ((b.toInt64 <<< ((32 : Int32).toInt64 &&& 63)) ||| low a.toInt64), p, bb, g) := rfl
theorem smp_69 : smp 69 a b b0 (n, v, p, bb, g) = .inr (n, upv v (n - 1) (if low (v (n - 1)) = 0 then 1 else 0), p, bb, g) := rfl
theorem smp_80 : smp 80 a b b0 (n, v, p, bb, g) = .inr (n, upv v (n - 1) (if v (n - 1) = 0 then 1 else 0), p, bb, g) := rfl
theorem smp_167 : smp 167 a b b0 (n, v, p, bb, g) = .inr (n, upv v (n - 1) (low (v (n - 1))), p, bb, g) := rfl
theorem smp_173 : smp 173 a b b0 (n, v, p, bb, g) = .inr (n, upv v (n - 1) (low (v (n - 1))), p, bb, g) := rfl
theorem smp_1 : smp 1 a b b0 (n, v, p, bb, g) = .inr (n, v, p, bb, g) := rfl
theorem smp_70 : smp 70 a b b0 (n, v, p, bb, g) = match wk2 70 (v (n - 2)) (v (n - 1)) with
      | none => .inl 11
      | some z => .inr (n - 1, upv v (n - 2) z, p, bb, g) := rfl
theorem smp_71 : smp 71 a b b0 (n, v, p, bb, g) = match wk2 71 (v (n - 2)) (v (n - 1)) with
      | none => .inl 11
      | some z => .inr (n - 1, upv v (n - 2) z, p, bb, g) := rfl
theorem smp_72 : smp 72 a b b0 (n, v, p, bb, g) = match wk2 72 (v (n - 2)) (v (n - 1)) with
      | none => .inl 11
      | some z => .inr (n - 1, upv v (n - 2) z, p, bb, g) := rfl
theorem smp_73 : smp 73 a b b0 (n, v, p, bb, g) = match wk2 73 (v (n - 2)) (v (n - 1)) with
      | none => .inl 11
      | some z => .inr (n - 1, upv v (n - 2) z, p, bb, g) := rfl
theorem smp_81 : smp 81 a b b0 (n, v, p, bb, g) = match wk2 81 (v (n - 2)) (v (n - 1)) with
      | none => .inl 11
      | some z => .inr (n - 1, upv v (n - 2) z, p, bb, g) := rfl
theorem smp_83 : smp 83 a b b0 (n, v, p, bb, g) = match wk2 83 (v (n - 2)) (v (n - 1)) with
      | none => .inl 11
      | some z => .inr (n - 1, upv v (n - 2) z, p, bb, g) := rfl
theorem smp_106 : smp 106 a b b0 (n, v, p, bb, g) = match wk2 106 (v (n - 2)) (v (n - 1)) with
      | none => .inl 11
      | some z => .inr (n - 1, upv v (n - 2) z, p, bb, g) := rfl
theorem smp_107 : smp 107 a b b0 (n, v, p, bb, g) = match wk2 107 (v (n - 2)) (v (n - 1)) with
      | none => .inl 11
      | some z => .inr (n - 1, upv v (n - 2) z, p, bb, g) := rfl
theorem smp_108 : smp 108 a b b0 (n, v, p, bb, g) = match wk2 108 (v (n - 2)) (v (n - 1)) with
      | none => .inl 11
      | some z => .inr (n - 1, upv v (n - 2) z, p, bb, g) := rfl
theorem smp_110 : smp 110 a b b0 (n, v, p, bb, g) = match wk2 110 (v (n - 2)) (v (n - 1)) with
      | none => .inl 11
      | some z => .inr (n - 1, upv v (n - 2) z, p, bb, g) := rfl
theorem smp_113 : smp 113 a b b0 (n, v, p, bb, g) = match wk2 113 (v (n - 2)) (v (n - 1)) with
      | none => .inl 11
      | some z => .inr (n - 1, upv v (n - 2) z, p, bb, g) := rfl
theorem smp_116 : smp 116 a b b0 (n, v, p, bb, g) = match wk2 116 (v (n - 2)) (v (n - 1)) with
      | none => .inl 11
      | some z => .inr (n - 1, upv v (n - 2) z, p, bb, g) := rfl
theorem smp_124 : smp 124 a b b0 (n, v, p, bb, g) = match wk2 124 (v (n - 2)) (v (n - 1)) with
      | none => .inl 11
      | some z => .inr (n - 1, upv v (n - 2) z, p, bb, g) := rfl
theorem smp_125 : smp 125 a b b0 (n, v, p, bb, g) = match wk2 125 (v (n - 2)) (v (n - 1)) with
      | none => .inl 11
      | some z => .inr (n - 1, upv v (n - 2) z, p, bb, g) := rfl
theorem smp_126 : smp 126 a b b0 (n, v, p, bb, g) = match wk2 126 (v (n - 2)) (v (n - 1)) with
      | none => .inl 11
      | some z => .inr (n - 1, upv v (n - 2) z, p, bb, g) := rfl
theorem smp_ld {o : Int32} (h1 : ¬ o < 40) (h2 : o < 54) : smp o a b b0 (n, v, p, bb, g) = if 64 * p < ad (v (n - 1)) a + sizeN o then .inl 4 else .inr (n, upv v (n - 1) (wid o (ldV bb (ad (v (n - 1)) a) (sizeN o) 0)), p, bb, g) := by
  have ne : ∀ k : Int32, k < 40 → ¬ o = k := fun k hk e => h1 (by rw [e]; exact hk)
  unfold smp
  dsimp only
  rw [if_neg (ne 1 (by decide)), if_neg (ne 26 (by decide)), if_neg (ne 27 (by decide)), if_neg (ne 32 (by decide)), if_neg (ne 33 (by decide)), if_neg (ne 34 (by decide)), if_neg (ne 35 (by decide)), if_neg (ne 36 (by decide)), if_pos h2]
theorem smp_st {o : Int32} (h1 : ¬ o < 54) (h2 : o < 63) : smp o a b b0 (n, v, p, bb, g) = if 64 * p < ad (v (n - 2)) a + sizeN o then .inl 4 else .inr (n - 2, v, p, stB bb (ad (v (n - 2)) a) (v (n - 1)) (sizeN o), g) := by
  have ne : ∀ k : Int32, k < 54 → ¬ o = k := fun k hk e => h1 (by rw [e]; exact hk)
  unfold smp
  dsimp only
  rw [if_neg (ne 1 (by decide)), if_neg (ne 26 (by decide)), if_neg (ne 27 (by decide)), if_neg (ne 32 (by decide)), if_neg (ne 33 (by decide)), if_neg (ne 34 (by decide)), if_neg (ne 35 (by decide)), if_neg (ne 36 (by decide)), if_neg h1, if_pos h2]
/-- how many values there are behind it -/
theorem smp_n {o : Int32} {q : Nat × Nat} {nm : Nat} {w : Wd} (h : arP o a nm = some q) (hq : q.1 ≤ n) (hp : 1 ≤ p ∧ p ≤ 6) (hs : smp o a b b0 (n, v, p, bb, g) = .inr w) : w.1 = n - q.1 + q.2 ∧ 1 ≤ w.2.2.1 ∧ w.2.2.1 ≤ 6 := by
  rcases arP_cases h with ⟨rfl, rfl⟩ | ⟨rfl, rfl⟩ | ⟨rfl, -, -, rfl⟩ | ⟨rfl, -, -, rfl⟩ | ⟨rfl, -, -, rfl⟩ | ⟨rfl, -, rfl⟩ | ⟨rfl, -, rfl⟩ | ⟨hc, rfl⟩ | ⟨hc, rfl⟩ | ⟨hc, rfl⟩ | ⟨⟨h1, h2⟩, rfl⟩ | ⟨⟨h1, h2⟩, rfl⟩
  · rw [smp_26] at hs
    cases hs
    dsimp only at hq ⊢
    omega
  · rw [smp_27] at hs
    cases hs
    dsimp only at hq ⊢
    omega
  · rw [smp_32] at hs
    cases hs
    dsimp only at hq ⊢
    omega
  · rw [smp_33] at hs
    cases hs
    dsimp only at hq ⊢
    omega
  · rw [smp_34] at hs
    cases hs
    dsimp only at hq ⊢
    omega
  · rw [smp_35] at hs
    cases hs
    dsimp only at hq ⊢
    omega
  · rw [smp_36] at hs
    cases hs
    dsimp only at hq ⊢
    omega
  · rcases hc with rfl | rfl | rfl
    · rw [smp_63] at hs
      cases hs
      dsimp only at hq ⊢
      omega
    · rw [smp_65] at hs
      cases hs
      dsimp only at hq ⊢
      omega
    · rw [smp_66] at hs
      cases hs
      dsimp only at hq ⊢
      omega
  · rcases hc with rfl | rfl | rfl | rfl | rfl
    · rw [smp_64] at hs
      split at hs
      · cases hs
        dsimp only at hq ⊢
        omega
      · cases hs
        dsimp only at hq ⊢
        omega
    · rw [smp_69] at hs
      cases hs
      dsimp only at hq ⊢
      omega
    · rw [smp_80] at hs
      cases hs
      dsimp only at hq ⊢
      omega
    · rw [smp_167] at hs
      cases hs
      dsimp only at hq ⊢
      omega
    · rw [smp_173] at hs
      cases hs
      dsimp only at hq ⊢
      omega
  · rcases hc with rfl | rfl | rfl | rfl | rfl | rfl | rfl | rfl | rfl | rfl | rfl | rfl | rfl | rfl | rfl
    · rw [smp_70] at hs
      split at hs
      · cases hs
      · cases hs
        dsimp only at hq ⊢
        omega
    · rw [smp_71] at hs
      split at hs
      · cases hs
      · cases hs
        dsimp only at hq ⊢
        omega
    · rw [smp_72] at hs
      split at hs
      · cases hs
      · cases hs
        dsimp only at hq ⊢
        omega
    · rw [smp_73] at hs
      split at hs
      · cases hs
      · cases hs
        dsimp only at hq ⊢
        omega
    · rw [smp_81] at hs
      split at hs
      · cases hs
      · cases hs
        dsimp only at hq ⊢
        omega
    · rw [smp_83] at hs
      split at hs
      · cases hs
      · cases hs
        dsimp only at hq ⊢
        omega
    · rw [smp_106] at hs
      split at hs
      · cases hs
      · cases hs
        dsimp only at hq ⊢
        omega
    · rw [smp_107] at hs
      split at hs
      · cases hs
      · cases hs
        dsimp only at hq ⊢
        omega
    · rw [smp_108] at hs
      split at hs
      · cases hs
      · cases hs
        dsimp only at hq ⊢
        omega
    · rw [smp_110] at hs
      split at hs
      · cases hs
      · cases hs
        dsimp only at hq ⊢
        omega
    · rw [smp_113] at hs
      split at hs
      · cases hs
      · cases hs
        dsimp only at hq ⊢
        omega
    · rw [smp_116] at hs
      split at hs
      · cases hs
      · cases hs
        dsimp only at hq ⊢
        omega
    · rw [smp_124] at hs
      split at hs
      · cases hs
      · cases hs
        dsimp only at hq ⊢
        omega
    · rw [smp_125] at hs
      split at hs
      · cases hs
      · cases hs
        dsimp only at hq ⊢
        omega
    · rw [smp_126] at hs
      split at hs
      · cases hs
      · cases hs
        dsimp only at hq ⊢
        omega
  · rw [smp_ld h1 h2] at hs
    split at hs
    · cases hs
    · cases hs
      dsimp only at hq ⊢
      omega
  · rw [smp_st h1 h2] at hs
    split at hs
    · cases hs
    · cases hs
      dsimp only at hq ⊢
      omega
end SE
