/-! THE PURE PART, 3: a whole function -/
theorem enF_none {c : List Ic} {D : Nat} {fl : Bool} : ∀ {f j : Nat}, enF c D fl f j = none → ∀ i, j ≤ i → i < j + f → stopB c D fl i = false := by
  intro f
  induction f with
  | zero => intro j _ i h1 h2; omega
  | succ f ih =>
    intro j h i h1 h2
    unfold enF at h
    split at h
    · cases h
    · rename_i hs
      by_cases e : i = j
      · subst e
        simpa using hs
      · exact ih h i (by omega) (by omega)
theorem stopB_iff {c : List Ic} {D : Nat} {fl : Bool} {j : Nat} : stopB c D fl j = true ↔ (ps c j).length = D ∧ (oA c j = 11 ∨ (fl = true ∧ oA c j = 5)) := by
  unfold stopB
  simp [Bool.and_eq_true, Bool.or_eq_true]
theorem stopB_no {c : List Ic} {D : Nat} {fl : Bool} {j : Nat} (h : stopB c D fl j = false) : ¬ ((ps c j).length = D ∧ (oA c j = 11 ∨ (fl = true ∧ oA c j = 5))) := fun q => by
  rw [stopB_iff.mpr q] at h
  cases h
/-- the code is a function's, whole -/
def Wh (sg : List (Nat × Nat)) (nm r : Nat) (c : List Ic) : Prop := ∃ v, vat sg nm r c c.length = some v ∧ v.1 = [] ∧ v.2.1 = 0
section WH
variable {sg : List (Nat × Nat)} {nm r : Nat} {c : List Ic}
theorem Wh.at (hw : Wh sg nm r c) {i : Nat} (hi : i < c.length) : ∃ v v' x, vat sg nm r c i = some v ∧ vat sg nm r c (i + 1) = some v' ∧ c[i]? = some x ∧ vstep sg nm v x = some v' ∧ v.1 ≠ [] := by
  obtain ⟨w, h1, -, -⟩ := hw
  obtain ⟨v', hv'⟩ := vat_le (i := i + 1) (by omega) h1
  obtain ⟨v, x, hv, hx, hs⟩ := vat_succ hv'
  refine ⟨v, v', x, hv, hv', hx, hs, ?_⟩
  rcases vstep_shape hs with ⟨-, l, q, e1, -⟩ | ⟨-, -, l, q, e1, -⟩ | ⟨-, -, l, q, l', e1, -⟩ <;> (rw [e1]; exact List.cons_ne_nil _ _)
theorem Wh.pos (hw : Wh sg nm r c) : 0 < c.length := by
  obtain ⟨w, h1, h2, -⟩ := hw
  cases hc : c.length with
  | zero =>
    rw [hc] at h1
    cases h1
    cases h2
  | succ n => omega
theorem Wh.last (hw : Wh sg nm r c) : oA c (c.length - 1) = 11 ∧ ps c (c.length - 1) = [] := by
  have hp := hw.pos
  obtain ⟨v, v', x, hv, hv', hx, hs, hne⟩ := hw.at (i := c.length - 1) (by omega)
  obtain ⟨w, h1, h2, -⟩ := hw
  rw [show c.length - 1 + 1 = c.length by omega, h1] at hv'
  cases hv'
  have ho := oA_of hx
  rcases vstep_shape hs with ⟨-, l, q, e1, -, -, -, e2⟩ | ⟨-, h11, l, q, e1, -, -, e2⟩ | ⟨-, -, l, q, l', e1, e2, -⟩
  · rw [h2] at e2; cases e2
  · refine ⟨ho.trans h11, ?_⟩
    have hl := vat_len hv hne
    rw [e1] at hl
    rw [h2] at e2
    cases q with
    | nil => exact List.length_eq_zero_iff.mp (by simpa using hl)
    | cons a q => cases e2
  · rw [h2] at e2; cases e2
/-- inside there is no END of the function's own label -/
theorem Wh.inner (hw : Wh sg nm r c) {i : Nat} (hi : i + 1 < c.length) (h11 : oA c i = 11) : ps c i ≠ [] := by
  intro hps
  obtain ⟨v, v', x, hv, hv', hx, hs, hne⟩ := hw.at (i := i) (by omega)
  obtain ⟨v2, v3, x2, hv2, -, -, -, hne2⟩ := hw.at (i := i + 1) hi
  rw [hv'] at hv2
  cases hv2
  have ho := oA_of hx
  have hl := vat_len hv hne
  rw [hps] at hl
  rcases vstep_shape hs with ⟨hb, -⟩ | ⟨-, -, l, q, e1, -, -, e2⟩ | ⟨-, h, -⟩
  · rw [← ho, h11] at hb; cases hb
  · rw [e1] at hl
    have : q = [] := List.length_eq_zero_iff.mp (by simpa using hl)
    subst this
    exact hne2 e2
  · exact h (ho.symm.trans h11)
/-- where a label ends -/
def clo (c : List Ic) (p : Nat) : Option Nat := enF c ((ps c p).length + 1) false c.length (p + 1)
/-- its ELSE, or else its end -/
def els (c : List Ic) (p : Nat) : Option Nat := enF c ((ps c p).length + 1) true c.length (p + 1)
theorem Wh.en (hw : Wh sg nm r c) {p : Nat} (hp : p < c.length) (hb : isBg (oA c p) = true) (fl : Bool) : ∃ e, enF c ((ps c p).length + 1) fl c.length (p + 1) = some e ∧ p < e ∧ e + 1 < c.length ∧ (oA c e = 11 ∨ (fl = true ∧ oA c e = 5)) ∧ ps c e = p :: ps c p := by
  have hps : ps c (p + 1) = p :: ps c p := ps_bg hb
  have hop : ∀ j, p + 1 ≤ j → (∀ i, p + 1 ≤ i → i < j → stopB c ((ps c p).length + 1) fl i = false) → ∃ t, ps c j = t ++ p :: ps c p := by
    intro j h1 h2
    refine ps_open hps (List.cons_ne_nil _ _) h1 (fun i g1 g2 g3 => ?_)
    exact stopB_no (h2 i g1 g2) ⟨g3.1, Or.inl g3.2⟩
  obtain ⟨hl1, hl2⟩ := hw.last
  have hpos := hw.pos
  have hpn : p + 1 ≤ c.length - 1 := by
    by_cases e : p = c.length - 1
    · rw [e, hl1] at hb; cases hb
    · omega
  cases he : enF c ((ps c p).length + 1) fl c.length (p + 1) with
  | none =>
    obtain ⟨t, ht⟩ := hop (c.length - 1) hpn (fun i g1 g2 => enF_none he i g1 (by omega))
    rw [hl2] at ht
    cases t <;> cases ht
  | some e =>
    obtain ⟨g1, g2, g3, g4⟩ := enF_spec he
    obtain ⟨g5, g6⟩ := stopB_iff.mp g3
    obtain ⟨t, ht⟩ := hop e g1 g4
    have ht0 : t = [] := by
      rw [ht, List.length_append, List.length_cons] at g5
      exact List.length_eq_zero_iff.mp (by omega)
    subst ht0
    refine ⟨e, rfl, by omega, ?_, g6, ht⟩
    by_cases h : e < c.length - 1
    · omega
    · obtain ⟨t, ht2⟩ := hop (c.length - 1) hpn (fun i q1 q2 => g4 i q1 (by omega))
      rw [hl2] at ht2
      cases t <;> cases ht2
theorem Wh.cl (hw : Wh sg nm r c) {p : Nat} (hp : p < c.length) (hb : isBg (oA c p) = true) : ∃ e, clo c p = some e ∧ p < e ∧ e + 1 < c.length ∧ oA c e = 11 ∧ ps c e = p :: ps c p := by
  obtain ⟨e, h1, h2, h3, h4, h5⟩ := hw.en hp hb false
  refine ⟨e, h1, h2, h3, ?_, h5⟩
  rcases h4 with h4 | ⟨h4, -⟩
  · exact h4
  · cases h4
/-- from any place where the label is the innermost, the same end is found -/
theorem enF_from {c : List Ic} {p q e : Nat} {fl : Bool} (h : enF c ((ps c p).length + 1) fl c.length (p + 1) = some e) (hq : p < q) (hqe : q ≤ e) (hen : e < c.length) : enF c ((ps c p).length + 1) fl c.length q = some e := by
  obtain ⟨g1, g2, g3, g4⟩ := enF_spec h
  exact enF_of hqe (by omega) g3 (fun i h1 h2 => g4 i (by omega) h2)
theorem gone_of {p e : Nat} (h4 : oA c e = 11) (h6 : ps c e = p :: ps c p) : ∀ j, e + 1 ≤ j → p ∉ ps c j := by
  intro j
  induction j with
  | zero => intro h; omega
  | succ j ih =>
    intro h hm
    by_cases ej : e = j
    · subst ej
      rw [ps_end h4, h6] at hm
      obtain ⟨k, hk⟩ := List.getElem?_of_mem (show p ∈ ps c p from hm)
      have := (ps_lt hk).1
      omega
    · have hj := ih (by omega)
      have hpe : p < e := (ps_lt (k := 0) (by rw [h6]; rfl)).1
      by_cases hbj : isBg (oA c j) = true
      · rw [ps_bg hbj] at hm
        rcases List.mem_cons.mp hm with hm | hm
        · omega
        · exact hj hm
      · by_cases h11 : oA c j = 11
        · rw [ps_end h11] at hm
          exact hj (List.mem_of_mem_tail hm)
        · rw [ps_oth (by simpa using hbj) h11] at hm
          exact hj hm
/-- an ELSE is inside its label -/
theorem Wh.else_cl (hw : Wh sg nm r c) {p q : Nat} (hp : p < c.length) (hb : isBg (oA c p) = true) (h5 : ¬ oA c q = 11) (hps : ps c q = p :: ps c p) : ∃ e, clo c p = some e ∧ q < e ∧ enF c (ps c q).length false c.length (q + 1) = some e := by
  obtain ⟨e, h1, h2, h3, h4, h6⟩ := hw.cl hp hb
  have hpq : p < q := (ps_lt (k := 0) (by rw [hps]; rfl)).1
  have hqe : q < e := by
    by_cases hqe : q < e
    · exact hqe
    · exfalso
      have hne : q ≠ e := fun h => h5 (by rw [h]; exact h4)
      exact gone_of h4 h6 q (by omega) (by rw [hps]; exact List.mem_cons_self)
  refine ⟨e, h1, hqe, ?_⟩
  rw [hps]
  exact enF_from h1 (by omega) (by omega) (by omega)
end WH
