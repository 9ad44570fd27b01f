/-! THE PURE PART, 4: operands at places that can be reached -/
def live (ls : List Lb) : Prop := ∀ l ∈ ls, dD l = false
def Hh (ls : List Lb) : Nat := match ls with
  | [] => 0
  | l :: _ => hT l + oW l
theorem has_live {l : Lb} {t : Nat} (h : hasB l t = true) (hl : dD l = false) : t ≤ oW l := by
  unfold hasB at h
  rw [hl, Bool.or_false] at h
  exact of_decide_eq_true h
theorem done_live {l : Lb} (h : doneB l = true) (hl : dD l = false) : oW l = gV l := by
  unfold doneB at h
  rw [hl, Bool.false_and, Bool.or_false] at h
  exact of_decide_eq_true h
theorem turn_live {ls ls' : List Lb} {t p : Nat} (h : turnV ls t p = some ls') (hl : live ls) : live ls' ∧ t ≤ Hh ls ∧ Hh ls' + t = Hh ls + p ∧ (∃ l q, ls = l :: q ∧ t ≤ oW l) := by
  obtain ⟨l, q, rfl, h1, rfl⟩ := turnV_inv h
  have hd := hl l List.mem_cons_self
  have h2 := has_live h1 hd
  refine ⟨fun y hy => ?_, by show t ≤ hT l + oW l; omega, by show hT l + (oW l - t + p) + t = hT l + oW l + p; omega, l, q, rfl, h2⟩
  rcases List.mem_cons.mp hy with e | hy
  · rw [e]; exact hd
  · exact hl y (List.mem_cons_of_mem _ hy)
theorem chain_le {ls : List Lb} (h : chain ls) : ∀ {k : Nat} {l : Lb}, ls[k]? = some l → ∀ {a : Lb}, ls[0]? = some a → hT l ≤ hT a := by
  induction ls with
  | nil => intro k l hk; cases hk
  | cons y ys ih =>
    intro k l hk a ha
    cases ha
    cases k with
    | zero => cases hk; exact Nat.le_refl _
    | succ k =>
      cases ys with
      | nil => cases hk
      | cons z zs =>
        have h1 : hT y = hT z + oW z := h.1
        have h2 := ih h.2 (k := k) hk (a := z) rfl
        omega
section LV
variable {sg : List (Nat × Nat)} {nm r : Nat} {c : List Ic}
/-- the most operands so far -/
theorem vat_most : ∀ {i : Nat} {v : VS}, vat sg nm r c i = some v → Hh v.1 ≤ v.2.2.2 := by
  have hm : ∀ (ls : List Lb) (m : Nat), Hh ls ≤ mstV ls m := by
    intro ls m
    cases ls with
    | nil => exact Nat.zero_le _
    | cons l q =>
      show hT l + oW l ≤ if m < hT l + oW l then hT l + oW l else m
      split <;> omega
  intro i
  cases i with
  | zero => intro v h; cases h; exact Nat.le_refl _
  | succ i =>
    intro v' h
    obtain ⟨v, x, -, -, hs⟩ := vat_succ h
    unfold vstep at hs
    split at hs
    · split at hs
      · unfold entV at hs
        split at hs
        · cases hs
        · split at hs
          · cases hs
          · split at hs
            · split at hs
              · cases hs; exact hm _ _
              · cases hs; exact hm _ _
            · cases hs
      · cases hs
    · split at hs
      · cases hs
      · split at hs
        · split at hs
          · split at hs
            · cases hs; exact hm _ _
            · cases hs
          · cases hs
        · split at hs
          · cases hs; exact hm _ _
          · cases hs
theorem mstV_ge (ls : List Lb) (m : Nat) : m ≤ mstV ls m := by
  cases ls with
  | nil => exact Nat.le_refl _
  | cons l q =>
    show m ≤ if m < hT l + oW l then hT l + oW l else m
    split <;> omega
theorem vstep_most {v v' : VS} {x : Ic} (hs : vstep sg nm v x = some v') : v.2.2.2 ≤ v'.2.2.2 := by
  unfold vstep at hs
  split at hs
  · split at hs
    · unfold entV at hs
      split at hs
      · cases hs
      · split at hs
        · cases hs
        · split at hs
          · split at hs
            · cases hs; dsimp only; apply mstV_ge
            · cases hs; dsimp only; apply mstV_ge
          · cases hs
    · cases hs
  · split at hs
    · cases hs
    · split at hs
      · split at hs
        · split at hs
          · cases hs; exact mstV_ge _ _
          · cases hs
        · cases hs
      · split at hs
        · cases hs; exact mstV_ge _ _
        · cases hs
theorem vat_most_le {i j : Nat} (hij : i ≤ j) {v w : VS} (hv : vat sg nm r c i = some v) (hw : vat sg nm r c j = some w) : v.2.2.2 ≤ w.2.2.2 := by
  induction j generalizing w with
  | zero =>
    have : i = 0 := by omega
    subst this
    rw [hv] at hw
    cases hw
    exact Nat.le_refl _
  | succ j ih =>
    by_cases e : i = j + 1
    · subst e
      rw [hv] at hw
      cases hw
      exact Nat.le_refl _
    · obtain ⟨u, x, hu, -, hs⟩ := vat_succ hw
      exact Nat.le_trans (ih (by omega) hu) (vstep_most hs)
/-- an operation that is no entry of a table: the checker's own word on it -/
theorem vstep_ctl {v v' : VS} {x : Ic} (hs : vstep sg nm v x = some v') (h6 : ¬ x.1 = 6) (h14 : ¬ x.1 = 14) : vctl sg nm v.1 x.1 x.2.1 x.2.2 = some v'.1 ∧ v.2.1 = 0 ∧ v'.2.1 = 0 := by
  unfold vstep at hs
  by_cases h0 : 0 < v.2.1
  · rw [if_pos h0, if_neg h6] at hs
    cases hs
  · rw [if_neg h0, if_neg h6, if_neg h14] at hs
    cases hc : vctl sg nm v.1 x.1 x.2.1 x.2.2 with
    | none => rw [hc] at hs; cases hs
    | some ls =>
      rw [hc] at hs
      cases hs
      exact ⟨rfl, by omega, rfl⟩
/-- behind a label's end: what was round it, with its results -/
theorem behind_end (hw : Wh sg nm r c) {p e : Nat} (hp : p < c.length) (hb : isBg (oA c p) = true) (he : clo c p = some e) : ∃ vp ve l0 q, vat sg nm r c (p + 1) = some vp ∧ vat sg nm r c (e + 1) = some ve ∧ vp.1 = l0 :: q ∧ ve.1 = bump q (nt (bA c p)) ∧ q ≠ [] ∧ hT l0 = Hh q ∧ tK l0 = nt (aA c p) ∧ oW l0 = nt (aA c p) ∧ dD l0 = false ∧ bY l0 = nt (oA c p) ∧ gV l0 = nt (bA c p) ∧ ve.2.1 = 0 := by
  obtain ⟨e', h1, h2, h3, h4, h5⟩ := hw.cl hp hb
  rw [he] at h1
  cases h1
  obtain ⟨v, v', x, hv, hv', hx, hs, hne⟩ := hw.at (i := e) (by omega)
  obtain ⟨vp, l0, l, g1, g2, g3, g4, g5, g6, g7, g8, g9⟩ := snap hv (k := 0) (p := p) (by rw [h5]; rfl)
  have ho := oA_of hx
  obtain ⟨e1, -, e0⟩ := vstep_ctl hs (by rw [← ho, h4]; decide) (by rw [← ho, h4]; decide)
  unfold vctl at e1
  rw [← ho, h4] at e1
  rw [if_neg (by decide), if_neg (by decide), if_neg (by decide), if_neg (by decide), if_pos rfl] at e1
  obtain ⟨l2, q, d1, d2, d3, d4⟩ := endV_inv e1
  rw [d1] at g2 g3
  cases g3
  have hq : q ≠ [] := by
    intro hq
    have := vat_len hv hne
    rw [d1, h5, hq] at this
    simp at this
  refine ⟨vp, v', l0, q, g1, hv', g2, by rw [d4, g4.2.1, g7], hq, ?_, g6, g8, g9, g5, g7, e0⟩
  have hch := vat_chain g1
  rw [g2] at hch
  cases q with
  | nil => exact absurd rfl hq
  | cons y ys => exact hch.1
theorem Hh_bump {q : List Lb} (hq : q ≠ []) (n : Nat) : Hh (bump q n) = Hh q + n := by
  cases q with
  | nil => exact absurd rfl hq
  | cons y ys =>
    show hT y + (oW y + n) = hT y + oW y + n
    omega
theorem live_bump {q : List Lb} (h : live q) (n : Nat) : live (bump q n) := by
  cases q with
  | nil => exact h
  | cons y ys =>
    intro l hl
    rcases List.mem_cons.mp hl with e | hl
    · rw [e]; exact h y List.mem_cons_self
    · exact h l (List.mem_cons_of_mem _ hl)
theorem live_drop {q : List Lb} (h : live q) (k : Nat) : live (q.drop k) := fun l hl => h l (List.mem_of_mem_drop hl)
end LV
