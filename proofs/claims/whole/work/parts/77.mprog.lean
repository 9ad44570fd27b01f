/-! THE REFERENCE, 8: its program -/
/-- a function: parameters, results, further locals; its code -/
abbrev Fn : Type := (Nat × Nat × Nat) × List Ic
def fP (f : Fn) : Nat := f.1.1
def fR (f : Fn) : Nat := f.1.2.1
def fL (f : Fn) : Nat := f.1.2.2
def fC (f : Fn) : List Ic := f.2
def sgs (fns : List Fn) : List (Nat × Nat) := fns.map (fun f => (fP f, fR f))
/-- where a function's code begins -/
def pos0 (fns : List Fn) (k : Nat) : Nat := ((fns.take k).map (fun f => (fC f).length)).sum
def totL (fns : List Fn) : Nat := pos0 fns fns.length
/-- the checker on function k, at place i -/
def vk (fns : List Fn) (k : Nat) (f : Fn) (i : Nat) : Option VS := vat (sgs (fns.take (k + 1))) (fP f + fL f) (fR f) (fC f) i
/-- what the reference's arrays hold of function k -/
def MFn (h : Hp) (m : Nat) (fns : List Fn) (k : Nat) (f : Fn) : Prop := (fP f ≤ 8 ∧ fR f ≤ 8 ∧ fL f ≤ 8) ∧ ai h (m + 1) k = nI (pos0 fns k) ∧ ai h (m + 2) k = nI (fC f).length ∧ ai h (m + 3) k = nI (fP f) ∧ ai h (m + 4) k = nI (fR f) ∧ ai h (m + 5) k = nI (fL f) ∧ (∃ v, vk fns k f (fC f).length = some v ∧ ai h (m + 6) k = nI v.2.2.2) ∧ ∀ i x, (fC f)[i]? = some x → ai h (m + 7) (pos0 fns k + i) = x.1 ∧ ai h (m + 8) (pos0 fns k + i) = x.2.1 ∧ ai h (m + 9) (pos0 fns k + i) = x.2.2 ∧ (isBg x.1 = true → ∃ v l q, vk fns k f (i + 1) = some v ∧ v.1 = l :: q ∧ ai h (m + 10) (pos0 fns k + i) = nI (hT l))
def MF (h : Hp) (m : Nat) (fns : List Fn) : Prop := gi h 640 m = nI fns.length ∧ fns.length ≤ 40 ∧ gi h 641 m = nI (totL fns) ∧ totL fns ≤ 1500 ∧ ∀ k f, fns[k]? = some f → MFn h m fns k f
theorem vat_app {sg : List (Nat × Nat)} {nm r : Nat} {c d : List Ic} : ∀ {i : Nat}, i ≤ c.length → vat sg nm r (c ++ d) i = vat sg nm r c i := by
  intro i
  induction i with
  | zero => intro _; rfl
  | succ i ih =>
    intro hi
    unfold vat
    rw [ih (by omega), List.getElem?_append_left (by omega)]
theorem pos0_app {fns gs : List Fn} {k : Nat} (hk : k ≤ fns.length) : pos0 (fns ++ gs) k = pos0 fns k := by
  unfold pos0
  rw [List.take_append_of_le_length hk]
theorem pos0_succ {fns : List Fn} {k : Nat} {f : Fn} (hk : fns[k]? = some f) : pos0 fns (k + 1) = pos0 fns k + (fC f).length := by
  unfold pos0
  have hlt : k < fns.length := (List.getElem?_eq_some_iff.mp hk).1
  have hf : fns[k] = f := (List.getElem?_eq_some_iff.mp hk).2
  rw [List.take_succ, hk]
  simp
theorem pos0_mono {fns : List Fn} {j k : Nat} (h : j ≤ k) : pos0 fns j ≤ pos0 fns k := by
  induction k with
  | zero =>
    have : j = 0 := by omega
    rw [this]
    exact Nat.le_refl _
  | succ k ih =>
    by_cases e : j = k + 1
    · rw [e]; exact Nat.le_refl _
    · refine Nat.le_trans (ih (by omega)) ?_
      cases hk : fns[k]? with
      | none =>
        have hn : fns.length ≤ k := by simpa using hk
        unfold pos0
        rw [List.take_of_length_le hn, List.take_of_length_le (by omega)]
        exact Nat.le_refl _
      | some f =>
        rw [pos0_succ hk]
        omega
theorem totL_snoc (pre : List Fn) (f : Fn) : totL (pre ++ [f]) = totL pre + (fC f).length := by
  unfold totL
  rw [List.length_append]
  show pos0 (pre ++ [f]) (pre.length + 1) = _
  rw [pos0_succ (f := f) (by rw [List.getElem?_append_right (Nat.le_refl _)]; simp), pos0_app (Nat.le_refl _)]
theorem get_snoc {pre : List Fn} {f : Fn} : (pre ++ [f])[pre.length]? = some f := by rw [List.getElem?_append_right (Nat.le_refl _)]; simp
theorem snoc_cases {pre : List Fn} {f g : Fn} {k : Nat} (h : (pre ++ [f])[k]? = some g) : (k < pre.length ∧ pre[k]? = some g) ∨ (k = pre.length ∧ g = f) := by
  by_cases hk : k < pre.length
  · rw [List.getElem?_append_left hk] at h
    exact Or.inl ⟨hk, h⟩
  · rw [List.getElem?_append_right (by omega)] at h
    have : k - pre.length = 0 := by
      have := (List.getElem?_eq_some_iff.mp h).1
      simp at this
      omega
    rw [this] at h
    cases h
    exact Or.inr ⟨by omega, rfl⟩
theorem vk_pre {pre : List Fn} {f g : Fn} {k i : Nat} (hk : k < pre.length) : vk (pre ++ [f]) k g i = vk pre k g i := by
  unfold vk
  rw [List.take_append_of_le_length (by omega)]
theorem vk_last {pre : List Fn} {f g : Fn} {i : Nat} : vk (pre ++ [f]) pre.length g i = vat (sgs (pre ++ [f])) (fP g + fL g) (fR g) (fC g) i := by
  unfold vk
  rw [List.take_of_length_le (by simp)]
theorem MFn_pre {h : Hp} {m k : Nat} {pre : List Fn} {f g : Fn} (hk : k < pre.length) : MFn h m (pre ++ [f]) k g ↔ MFn h m pre k g := by
  unfold MFn
  rw [pos0_app (Nat.le_of_lt hk), vk_pre hk]
  simp only [vk_pre hk]
/-- a function's data, read off the same arrays -/
theorem MFn.of {h h' : Hp} {m k : Nat} {fns : List Fn} {f : Fn} (H : MFn h m fns k f) (e1 : ∀ x, x = 1 ∨ x = 2 ∨ x = 3 ∨ x = 4 ∨ x = 5 ∨ x = 6 → ai h' (m + x) k = ai h (m + x) k) (e2 : ∀ x, x = 7 ∨ x = 8 ∨ x = 9 ∨ x = 10 → ∀ i, i < (fC f).length → ai h' (m + x) (pos0 fns k + i) = ai h (m + x) (pos0 fns k + i)) : MFn h' m fns k f := by
  obtain ⟨h0, h1, h2, h3, h4, h5, ⟨v, h6, h7⟩, h8⟩ := H
  refine ⟨h0, by rw [e1 1 (by simp)]; exact h1, by rw [e1 2 (by simp)]; exact h2, by rw [e1 3 (by simp)]; exact h3, by rw [e1 4 (by simp)]; exact h4, by rw [e1 5 (by simp)]; exact h5, ⟨v, h6, by rw [e1 6 (by simp)]; exact h7⟩, fun i x hx => ?_⟩
  have hi : i < (fC f).length := (List.getElem?_eq_some_iff.mp hx).1
  obtain ⟨a1, a2, a3, a4⟩ := h8 i x hx
  refine ⟨by rw [e2 7 (by simp) i hi]; exact a1, by rw [e2 8 (by simp) i hi]; exact a2, by rw [e2 9 (by simp) i hi]; exact a3, fun hb => ?_⟩
  obtain ⟨v, l, q, b1, b2, b3⟩ := a4 hb
  exact ⟨v, l, q, b1, b2, by rw [e2 10 (by simp) i hi]; exact b3⟩
/-- the labels of the function that is written -/
def MV (h : Hp) (m : Nat) (v : VS) : Prop := LA h m v.1 ∧ gi h 653 m = nI v.1.length ∧ EN h m v.2.1 v.2.2.1
theorem SmL_of {n : Nat} {ls : List Lb} (hc : chain ls) (hs : sB n ls) (hn : n < 1000000) : ∀ l ∈ ls, SmL l := by
  intro l hl
  obtain ⟨a1, a2, a3⟩ := hs.1 l hl
  have := chain_sum hc l hl
  have h2 := hs.2
  exact ⟨by omega, by omega, by omega, by omega⟩
