/-! THE PURE PART, 2: labels and places -/
theorem sim.tr {a b c : Lb} (h : sim a b) (k : sim b c) : sim a c := by
  obtain ⟨h1, h2, h3, h4⟩ := h
  obtain ⟨k1, k2, k3, k4⟩ := k
  refine ⟨k1.trans h1, k2.trans h2, k3.trans h3, ?_⟩
  rcases h4 with h4 | ⟨h4, h5⟩
  · rcases k4 with k4 | ⟨k4, k5⟩
    · exact Or.inl (k4.trans h4)
    · exact Or.inr ⟨h4 ▸ k4, k5⟩
  · rcases k4 with k4 | ⟨k4, k5⟩
    · exact Or.inr ⟨h4, k4.trans h5⟩
    · rw [h5] at k4; cases k4
section VA
variable {sg : List (Nat × Nat)} {nm r : Nat} {c : List Ic}
theorem vat_succ {i : Nat} {v' : VS} (h : vat sg nm r c (i + 1) = some v') : ∃ v x, vat sg nm r c i = some v ∧ c[i]? = some x ∧ vstep sg nm v x = some v' := by
  unfold vat at h
  split at h
  · cases h
  · rename_i v hv
    split at h
    · cases h
    · rename_i x hx
      exact ⟨v, x, hv, hx, h⟩
theorem vat_le {i j : Nat} (hij : i ≤ j) {v : VS} (h : vat sg nm r c j = some v) : ∃ w, vat sg nm r c i = some w := by
  induction j generalizing v with
  | zero =>
    have : i = 0 := by omega
    subst this
    exact ⟨v, h⟩
  | succ j ih =>
    by_cases e : i = j + 1
    · subst e
      exact ⟨v, h⟩
    · obtain ⟨w, x, hw, -, -⟩ := vat_succ h
      exact ih (by omega) hw
theorem oA_of {i : Nat} {x : Ic} (h : c[i]? = some x) : oA c i = x.1 := by unfold oA; rw [h]
theorem aA_of {i : Nat} {x : Ic} (h : c[i]? = some x) : aA c i = x.2.1 := by unfold aA; rw [h]
theorem bA_of {i : Nat} {x : Ic} (h : c[i]? = some x) : bA c i = x.2.2 := by unfold bA; rw [h]
theorem ps_bg {i : Nat} (h : isBg (oA c i) = true) : ps c (i + 1) = i :: ps c i := by
  show (if isBg (oA c i) = true then _ else _) = _
  rw [if_pos h]
theorem ps_end {i : Nat} (h : oA c i = 11) : ps c (i + 1) = (ps c i).tail := by
  show (if isBg (oA c i) = true then _ else if oA c i = 11 then _ else _) = _
  rw [if_neg (by rw [h]; decide), if_pos h]
theorem ps_oth {i : Nat} (h : isBg (oA c i) = false) (h2 : ¬ oA c i = 11) : ps c (i + 1) = ps c i := by
  show (if isBg (oA c i) = true then _ else if oA c i = 11 then _ else _) = _
  rw [if_neg (by rw [h]; decide), if_neg h2]
theorem bump_len (ls : List Lb) (n : Nat) : (bump ls n).length = ls.length := by cases ls <;> rfl
theorem bump_drop (ls : List Lb) (n k : Nat) : (bump ls n).drop (k + 1) = ls.drop (k + 1) := by cases ls <;> rfl
theorem bump_get (ls : List Lb) (n k : Nat) {l : Lb} (h : ls[k]? = some l) : ∃ l', (bump ls n)[k]? = some l' ∧ sim l l' := by
  cases ls with
  | nil => cases h
  | cons a r =>
    cases k with
    | zero =>
      cases h
      exact ⟨_, rfl, sim_sOw _ _⟩
    | succ k => exact ⟨l, h, sim.rf l⟩
theorem vat_len : ∀ {i : Nat} {v : VS}, vat sg nm r c i = some v → v.1 ≠ [] → v.1.length = (ps c i).length + 1 := by
  intro i
  induction i with
  | zero =>
    intro v h _
    cases h
    rfl
  | succ i ih =>
    intro v' h hne
    obtain ⟨v, x, hv, hx, hs⟩ := vat_succ h
    have ho := oA_of hx
    rcases vstep_shape hs with ⟨hb, l, r', e1, -, -, -, e2⟩ | ⟨hb, h11, l, r', e1, -, -, e2⟩ | ⟨hb, h11, l, r', l', e1, e2, -⟩
    · rw [ps_bg (by rw [ho]; exact hb), e2]
      have := ih hv (by rw [e1]; exact List.cons_ne_nil _ _)
      rw [e1] at this
      simp at this ⊢
      omega
    · have h0 := ih hv (by rw [e1]; exact List.cons_ne_nil _ _)
      rw [e1] at h0
      rw [ps_end (by rw [ho]; exact h11), e2, bump_len]
      rw [e2] at hne
      have hr : r' ≠ [] := fun e => hne (by rw [e]; rfl)
      have : 0 < r'.length := List.length_pos_iff.mpr hr
      rw [List.length_tail]
      simp at h0
      omega
    · rw [ps_oth (by rw [ho]; exact hb) (by rw [ho]; exact h11), e2]
      have := ih hv (by rw [e1]; exact List.cons_ne_nil _ _)
      rw [e1] at this
      simpa using this
/-- the heights fit: each label begins where the operands of that round it end -/
def chain : List Lb → Prop
  | [] => True
  | [l] => hT l = 0
  | l :: l2 :: q => hT l = hT l2 + oW l2 ∧ chain (l2 :: q)
theorem chain_head {l l' : Lb} {q : List Lb} (h : chain (l :: q)) (e : hT l' = hT l) : chain (l' :: q) := by
  cases q with
  | nil => exact e.trans h
  | cons a q => exact ⟨e.trans h.1, h.2⟩
theorem chain_tail {l : Lb} {q : List Lb} (h : chain (l :: q)) : chain q := by
  cases q with
  | nil => trivial
  | cons a q => exact h.2
theorem vat_chain : ∀ {i : Nat} {v : VS}, vat sg nm r c i = some v → chain v.1 := by
  intro i
  induction i with
  | zero =>
    intro v h
    cases h
    rfl
  | succ i ih =>
    intro v' h
    obtain ⟨v, x, hv, hx, hs⟩ := vat_succ h
    have h0 := ih hv
    rcases vstep_shape hs with ⟨hb, l, r', e1, -, -, -, e2⟩ | ⟨hb, h11, l, r', e1, -, -, e2⟩ | ⟨hb, h11, l, r', l', e1, e2, hsim⟩
    · rw [e1] at h0
      rw [e2]
      exact ⟨rfl, chain_head h0 rfl⟩
    · rw [e1] at h0
      rw [e2]
      have h1 := chain_tail h0
      cases r' with
      | nil => trivial
      | cons a q => exact chain_head h1 rfl
    · rw [e1] at h0
      rw [e2]
      exact chain_head h0 hsim.2.2.1
/-- the function's own label -/
theorem vat_last : ∀ {i : Nat} {v : VS} {l : Lb}, vat sg nm r c i = some v → v.1.getLast? = some l → bY l = 0 ∧ tK l = 0 ∧ gV l = r ∧ hT l = 0 := by
  intro i
  induction i with
  | zero =>
    intro v l h hl
    cases h
    cases hl
    exact ⟨rfl, rfl, rfl, rfl⟩
  | succ i ih =>
    intro v' l h hl
    obtain ⟨v, x, hv, hx, hs⟩ := vat_succ h
    have sm : ∀ {a b : Lb}, sim a b → bY a = 0 ∧ tK a = 0 ∧ gV a = r ∧ hT a = 0 → bY b = 0 ∧ tK b = 0 ∧ gV b = r ∧ hT b = 0 := by
      intro a b ⟨s1, s2, s3, s4⟩ ⟨g1, g2, g3, g4⟩
      refine ⟨?_, s1.trans g2, s2.trans g3, s3.trans g4⟩
      rcases s4 with s4 | ⟨s4, -⟩
      · exact s4.trans g1
      · rw [g1] at s4; cases s4
    have key : ∀ (a b : Lb) (q : List Lb), sim a b → v.1.getLast? = (a :: q).getLast? → v'.1.getLast? = (b :: q).getLast? → bY l = 0 ∧ tK l = 0 ∧ gV l = r ∧ hT l = 0 := by
      intro a b q hab e1 e2
      rw [e2] at hl
      cases q with
      | nil =>
        cases hl
        exact sm hab (ih hv (by rw [e1]; rfl))
      | cons y q =>
        refine ih hv ?_
        rw [e1, List.getLast?_cons_cons]
        rw [List.getLast?_cons_cons] at hl
        exact hl
    rcases vstep_shape hs with ⟨hb, l1, r', e1, -, -, -, e2⟩ | ⟨hb, h11, l1, r', e1, -, -, e2⟩ | ⟨hb, h11, l1, r', l', e1, e2, hsim⟩
    · exact key l1 (sOw l1 (oW l1 - blkN x.1 (nt x.2.1))) r' (sim_sOw _ _) (by rw [e1]) (by rw [e2, List.getLast?_cons_cons])
    · cases r' with
      | nil =>
        rw [e2] at hl
        cases hl
      | cons y q => exact key y (sOw y (oW y + gV l1)) q (sim_sOw _ _) (by rw [e1, List.getLast?_cons_cons]) (by rw [e2]; rfl)
    · exact key l1 l' r' hsim (by rw [e1]) (by rw [e2])
theorem ps_lt : ∀ {i k p : Nat}, (ps c i)[k]? = some p → p < i ∧ isBg (oA c p) = true := by
  intro i
  induction i with
  | zero =>
    intro k p h
    cases h
  | succ i ih =>
    intro k p h
    by_cases hb : isBg (oA c i) = true
    · rw [ps_bg hb] at h
      cases k with
      | zero =>
        cases h
        exact ⟨by omega, hb⟩
      | succ k =>
        have := ih (k := k) h
        exact ⟨by omega, this.2⟩
    · have hb : isBg (oA c i) = false := by simpa using hb
      by_cases h11 : oA c i = 11
      · rw [ps_end h11, List.getElem?_tail] at h
        have := ih h
        exact ⟨by omega, this.2⟩
      · rw [ps_oth hb h11] at h
        have := ih h
        exact ⟨by omega, this.2⟩
/-- below a label that is open lie those that were open when it began -/
theorem ps_below : ∀ {i k p : Nat}, (ps c i)[k]? = some p → (ps c i).drop (k + 1) = ps c p := by
  intro i
  induction i with
  | zero =>
    intro k p h
    cases h
  | succ i ih =>
    intro k p h
    by_cases hb : isBg (oA c i) = true
    · rw [ps_bg hb] at h ⊢
      cases k with
      | zero =>
        cases h
        rfl
      | succ k => exact ih (k := k) h
    · have hb : isBg (oA c i) = false := by simpa using hb
      by_cases h11 : oA c i = 11
      · rw [ps_end h11] at h ⊢
        rw [List.getElem?_tail] at h
        have := ih h
        rw [← this]
        cases ps c i <;> rfl
      · rw [ps_oth hb h11] at h ⊢
        exact ih h
/-- a label that is open: as it was when it began, and what is round it has not changed since -/
theorem snap : ∀ {i : Nat} {v : VS} {k p : Nat}, vat sg nm r c i = some v → (ps c i)[k]? = some p → ∃ vp l0 l, vat sg nm r c (p + 1) = some vp ∧ vp.1 = l0 :: v.1.drop (k + 1) ∧ v.1[k]? = some l ∧ sim l0 l ∧ bY l0 = nt (oA c p) ∧ tK l0 = nt (aA c p) ∧ gV l0 = nt (bA c p) ∧ oW l0 = nt (aA c p) ∧ dD l0 = false := by
  intro i
  induction i with
  | zero =>
    intro v k p _ h
    cases h
  | succ i ih =>
    intro v' k p h hp
    obtain ⟨v, x, hv, hx, hs⟩ := vat_succ h
    have ho := oA_of hx
    rcases vstep_shape hs with ⟨hb, l1, r', e1, -, -, -, e2⟩ | ⟨hb, h11, l1, r', e1, -, -, e2⟩ | ⟨hb, h11, l1, r', l', e1, e2, hsim⟩
    · rw [ps_bg (by rw [ho]; exact hb)] at hp
      cases k with
      | zero =>
        cases hp
        refine ⟨v', _, _, h, by rw [e2]; rfl, by rw [e2]; rfl, sim.rf _, ?_⟩
        rw [ho, aA_of hx, bA_of hx]
        exact ⟨rfl, rfl, rfl, rfl, rfl⟩
      | succ k =>
        obtain ⟨vp, l0, l, g1, g2, g3, g4, g5⟩ := ih hv (k := k) hp
        rw [e1] at g2 g3
        cases k with
        | zero =>
          cases g3
          exact ⟨vp, l0, _, g1, by rw [g2, e2]; rfl, by rw [e2]; rfl, g4.tr (sim_sOw _ _), g5⟩
        | succ k => exact ⟨vp, l0, l, g1, by rw [g2, e2]; rfl, by rw [e2]; exact g3, g4, g5⟩
    · rw [ps_end (by rw [ho]; exact h11), List.getElem?_tail] at hp
      obtain ⟨vp, l0, l, g1, g2, g3, g4, g5⟩ := ih hv hp
      rw [e1] at g2 g3
      obtain ⟨l2, b1, b2⟩ := bump_get r' (gV l1) k g3
      exact ⟨vp, l0, l2, g1, by rw [g2, e2, bump_drop]; rfl, by rw [e2]; exact b1, g4.tr b2, g5⟩
    · rw [ps_oth (by rw [ho]; exact hb) (by rw [ho]; exact h11)] at hp
      obtain ⟨vp, l0, l, g1, g2, g3, g4, g5⟩ := ih hv hp
      rw [e1] at g2 g3
      cases k with
      | zero =>
        cases g3
        exact ⟨vp, l0, l', g1, by rw [g2, e2]; rfl, by rw [e2]; rfl, g4.tr hsim, g5⟩
      | succ k => exact ⟨vp, l0, l, g1, by rw [g2, e2]; rfl, by rw [e2]; exact g3, g4, g5⟩
end VA
/-! looking for a label's beginning, backwards -/
def bgS (c : List Ic) : Nat → Nat → Nat → Option Nat
  | 0, _, _ => none
  | j + 1, n, k => if oA c j = 11 then bgS c j (n + 1) k else if isBg (oA c j) = true then (if n = 0 ∧ k = 0 then some j else if n = 0 then bgS c j n (k - 1) else bgS c j (n - 1) k) else bgS c j n k
theorem bgS_eq (c : List Ic) : ∀ (j n k : Nat), bgS c j n k = (ps c j)[n + k]? := by
  intro j
  induction j with
  | zero => intro n k; rfl
  | succ j ih =>
    intro n k
    unfold bgS
    by_cases h11 : oA c j = 11
    · rw [if_pos h11, ih, ps_end h11, List.getElem?_tail]
      congr 1
      omega
    · rw [if_neg h11]
      by_cases hb : isBg (oA c j) = true
      · rw [if_pos hb, ps_bg hb]
        by_cases h0 : n = 0 ∧ k = 0
        · rw [if_pos h0, h0.1, h0.2]
          rfl
        · rw [if_neg h0]
          by_cases hn : n = 0
          · rw [if_pos hn, ih, hn]
            obtain ⟨m, rfl⟩ : ∃ m, k = m + 1 := ⟨k - 1, by omega⟩
            simp
          · rw [if_neg hn, ih]
            obtain ⟨m, rfl⟩ : ∃ m, n = m + 1 := ⟨n - 1, by omega⟩
            rw [show m + 1 + k = (m + k) + 1 by omega]
            simp
      · rw [if_neg hb, ih, ps_oth (by simpa using hb) h11]
/-! looking for a label's end, or its ELSE -/
def stopB (c : List Ic) (D : Nat) (fl : Bool) (j : Nat) : Bool := decide ((ps c j).length = D) && (decide (oA c j = 11) || (fl && decide (oA c j = 5)))
def enF (c : List Ic) (D : Nat) (fl : Bool) : Nat → Nat → Option Nat
  | 0, _ => none
  | f + 1, j => if stopB c D fl j = true then some j else enF c D fl f (j + 1)
theorem enF_spec {c : List Ic} {D : Nat} {fl : Bool} : ∀ {f j e : Nat}, enF c D fl f j = some e → j ≤ e ∧ e < j + f ∧ stopB c D fl e = true ∧ ∀ i, j ≤ i → i < e → stopB c D fl i = false := by
  intro f
  induction f with
  | zero =>
    intro j e h
    cases h
  | succ f ih =>
    intro j e h
    unfold enF at h
    split at h
    · rename_i hs
      cases h
      exact ⟨Nat.le_refl _, by omega, hs, fun i h1 h2 => by omega⟩
    · rename_i hs
      obtain ⟨h1, h2, h3, h4⟩ := ih h
      refine ⟨by omega, by omega, h3, fun i g1 g2 => ?_⟩
      by_cases e1 : i = j
      · subst e1
        simpa using hs
      · exact h4 i (by omega) g2
theorem enF_of {c : List Ic} {D : Nat} {fl : Bool} : ∀ {f j e : Nat}, j ≤ e → e < j + f → stopB c D fl e = true → (∀ i, j ≤ i → i < e → stopB c D fl i = false) → enF c D fl f j = some e := by
  intro f
  induction f with
  | zero => intro j e h1 h2; omega
  | succ f ih =>
    intro j e h1 h2 h3 h4
    unfold enF
    by_cases e1 : j = e
    · subst e1
      rw [if_pos h3]
    · rw [if_neg (by rw [h4 j (Nat.le_refl _) (by omega)]; decide)]
      exact ih (by omega) (by omega) h3 (fun i g1 g2 => h4 i (by omega) g2)
/-- while no END of it has come, a label stays open -/
theorem ps_open {c : List Ic} {q : List Nat} {j0 : Nat} (h0 : ps c j0 = q) (hq : q ≠ []) : ∀ {j : Nat}, j0 ≤ j → (∀ i, j0 ≤ i → i < j → ¬ ((ps c i).length = q.length ∧ oA c i = 11)) → ∃ t, ps c j = t ++ q := by
  intro j
  induction j with
  | zero =>
    intro h1 _
    have : j0 = 0 := by omega
    subst this
    exact ⟨[], by rw [h0]; rfl⟩
  | succ j ih =>
    intro h1 h2
    by_cases e : j0 = j + 1
    · subst e
      exact ⟨[], by rw [h0]; rfl⟩
    · obtain ⟨t, ht⟩ := ih (by omega) (fun i g1 g2 => h2 i g1 (by omega))
      by_cases hb : isBg (oA c j) = true
      · exact ⟨j :: t, by rw [ps_bg hb, ht]; rfl⟩
      · by_cases h11 : oA c j = 11
        · rw [ps_end h11, ht]
          cases t with
          | nil => exact absurd ⟨by rw [ht]; rfl, h11⟩ (h2 j (by omega) (by omega))
          | cons a t => exact ⟨t, rfl⟩
        · exact ⟨t, by rw [ps_oth (by simpa using hb) h11, ht]⟩
