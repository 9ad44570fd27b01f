/-! THE PURE PART, 8: small numbers -/
section BD
variable {sg : List (Nat × Nat)} {nm r : Nat} {c : List Ic}
theorem wi_le {a : Int32} {d : Nat} (h : wi a (Int32.ofNat d)) (hd : d < 2147483648) : nt a ≤ d := by
  have h1 := h.1
  have h2 : ¬ nI d < a := h.2
  have h3 : 0 ≤ a.toInt := by
    have := Int32.not_lt.mp h1
    rw [Int32.le_iff_toInt_le, Int32.toInt_zero] at this
    exact this
  have h4 := Int32.not_lt.mp h2
  rw [Int32.le_iff_toInt_le, nI_toInt hd] at h4
  unfold nt Int32.toNatClampNeg
  omega
/-- by, takes, gives small; operands at most n -/
def sB (n : Nat) (ls : List Lb) : Prop := (∀ l ∈ ls, bY l ≤ 5 ∧ tK l ≤ 8 ∧ gV l ≤ 8) ∧ Hh ls ≤ n
theorem want_le {l : Lb} (h : bY l ≤ 5 ∧ tK l ≤ 8 ∧ gV l ≤ 8) : wantL l ≤ 8 := by
  unfold wantL
  split
  · exact h.2.1
  · exact h.2.2
theorem lastG_le {ls : List Lb} (h : ∀ l ∈ ls, bY l ≤ 5 ∧ tK l ≤ 8 ∧ gV l ≤ 8) : lastG ls ≤ 8 := by
  unfold lastG
  cases hl : ls.getLast? with
  | none => exact Nat.zero_le _
  | some l => exact (h l (List.mem_of_getLast? hl)).2.2
theorem ite_P {P : Nat × Nat → Prop} {c : Prop} [Decidable c] {x y : Option (Nat × Nat)} (hx : ∀ q, x = some q → P q) (hy : ∀ q, y = some q → P q) : ∀ q, (if c then x else y) = some q → P q := by
  intro q h
  by_cases hc : c
  · rw [if_pos hc] at h; exact hx q h
  · rw [if_neg hc] at h; exact hy q h
theorem arP_le {o a : Int32} {q : Nat × Nat} (h : arP o a nm = some q) : q.2 ≤ 8 := by
  have key : ∀ q, arP o a nm = some q → q.2 ≤ 8 := by
    unfold arP
    repeat' (apply ite_P)
    all_goals (intro q h; first | (cases h; decide) | cases h)
  exact key q h
theorem sB_turn {n t p : Nat} {ls ls' : List Lb} (hp : p ≤ 8) (h : turnV ls t p = some ls') (hs : sB n ls) : sB (n + 8) ls' := by
  obtain ⟨l, q, rfl, -, rfl⟩ := turnV_inv h
  refine ⟨fun y hy => ?_, ?_⟩
  · rcases List.mem_cons.mp hy with e | hy
    · rw [e]; exact hs.1 l List.mem_cons_self
    · exact hs.1 y (List.mem_cons_of_mem _ hy)
  · have : hT l + oW l ≤ n := hs.2
    show hT l + (oW l - t + p) ≤ n + 8
    omega
theorem sB_die {n : Nat} {l : Lb} {q : List Lb} (hs : sB n (l :: q)) : sB (n + 8) (sDie l :: q) := by
  refine ⟨fun y hy => ?_, ?_⟩
  · rcases List.mem_cons.mp hy with e | hy
    · rw [e]; exact hs.1 l List.mem_cons_self
    · exact hs.1 y (List.mem_cons_of_mem _ hy)
  · have : hT l + oW l ≤ n := hs.2
    show hT l + 0 ≤ n + 8
    omega
theorem sB_step {n : Nat} {v v' : VS} {x : Ic} (hsg : ∀ s ∈ sg, s.2 ≤ 8) (hch : chain v.1) (h : vstep sg nm v x = some v') (hs : sB n v.1) : sB (n + 8) v'.1 := by
  have en : ∀ {t : Nat}, endsV v.1 t = some v'.1 → sB (n + 8) v'.1 := by
    intro t ht
    obtain ⟨l, q, e1, -, e2⟩ := endsV_inv ht
    rw [e2]
    rw [e1] at hs
    exact sB_die hs
  by_cases c6 : x.1 = 6
  · unfold vstep at h
    by_cases h0 : 0 < v.2.1
    · rw [if_pos h0, if_pos c6] at h
      unfold entV at h
      split at h
      · cases h
      · split at h
        · cases h
        · rename_i l q hv
          rw [hv] at hs
          split at h
          · split at h
            · cases h; exact sB_die hs
            · cases h
              exact ⟨hs.1, Nat.le_trans hs.2 (by omega)⟩
          · cases h
    · rw [if_neg h0, if_pos c6] at h
      cases h
  · by_cases c14 : x.1 = 14
    · unfold vstep at h
      by_cases h0 : 0 < v.2.1
      · rw [if_pos h0, if_neg c6] at h; cases h
      · rw [if_neg h0, if_neg c6, if_pos c14] at h
        split at h
        · split at h
          · rename_i ls hls
            cases h
            exact sB_turn (by decide) hls hs
          · cases h
        · cases h
    · obtain ⟨d, -, -⟩ := vstep_ctl h c6 c14
      unfold vctl at d
      by_cases c0 : x.1 = 0
      · rw [if_pos c0] at d; exact en d
      rw [if_neg c0] at d
      by_cases c1 : x.1 = 1
      · rw [if_pos c1] at d; exact sB_turn (by decide) d hs
      rw [if_neg c1] at d
      by_cases c2 : isBg x.1 = true
      · rw [if_pos c2] at d
        by_cases hw : wi x.2.1 4 ∧ wi x.2.2 4
        · rw [if_pos hw] at d
          obtain ⟨l, q, e1, -, e2⟩ := blockV_inv d
          have ha := wi_le (d := 4) hw.1 (by decide)
          have hb := wi_le (d := 4) hw.2 (by decide)
          rw [e1] at hs
          rw [e2]
          have hk : hT l + oW l ≤ n := hs.2
          refine ⟨fun y hy => ?_, ?_⟩
          · rcases List.mem_cons.mp hy with e | hy
            · rw [e]
              refine ⟨?_, show nt x.2.1 ≤ 8 by omega, show nt x.2.2 ≤ 8 by omega⟩
              show nt x.1 ≤ 5
              unfold isBg at c2
              simp at c2
              rcases c2 with q | q | q <;> (rw [q]; decide)
            · rcases List.mem_cons.mp hy with e | hy
              · rw [e]; exact hs.1 l List.mem_cons_self
              · exact hs.1 y (List.mem_cons_of_mem _ hy)
          · show hT l + (oW l - blkN x.1 (nt x.2.1)) + nt x.2.1 ≤ n + 8
            omega
        · rw [if_neg hw] at d; cases d
      rw [if_neg c2] at d
      by_cases c5 : x.1 = 5
      · rw [if_pos c5] at d
        obtain ⟨l, q, e1, -, -, e2⟩ := elseV_inv d
        rw [e1] at hs
        rw [e2]
        have hk : hT l + oW l ≤ n := hs.2
        have hl := hs.1 l List.mem_cons_self
        refine ⟨fun y hy => ?_, ?_⟩
        · rcases List.mem_cons.mp hy with e | hy
          · rw [e]; exact ⟨Nat.le_refl _, hl.2⟩
          · exact hs.1 y (List.mem_cons_of_mem _ hy)
        · show hT l + tK l ≤ n + 8
          omega
      rw [if_neg c5] at d
      by_cases c11 : x.1 = 11
      · rw [if_pos c11] at d
        obtain ⟨l, q, e1, -, -, e2⟩ := endV_inv d
        rw [e1] at hs hch
        rw [e2]
        have hk : hT l + oW l ≤ n := hs.2
        have hl := hs.1 l List.mem_cons_self
        cases q with
        | nil => exact ⟨fun y hy => absurd hy List.not_mem_nil, Nat.zero_le _⟩
        | cons z q =>
          refine ⟨fun y hy => ?_, ?_⟩
          · rcases List.mem_cons.mp hy with e | hy
            · rw [e]; exact hs.1 z (List.mem_cons_of_mem _ List.mem_cons_self)
            · exact hs.1 y (List.mem_cons_of_mem _ (List.mem_cons_of_mem _ hy))
          · show hT z + (oW z + gV l) ≤ n + 8
            have := hch.1
            omega
      rw [if_neg c11] at d
      by_cases c12 : x.1 = 12
      · rw [if_pos c12] at d
        cases hla : labAt v.1 x.2.1 with
        | none => rw [hla] at d; cases d
        | some t => rw [hla] at d; exact en d
      rw [if_neg c12] at d
      by_cases c13 : x.1 = 13
      · rw [if_pos c13] at d
        cases hla : labAt v.1 x.2.1 with
        | none => rw [hla] at d; cases d
        | some t =>
          rw [hla] at d
          exact sB_turn (want_le (hs.1 t (List.mem_of_getElem? (labAt_inv hla).2))) d hs
      rw [if_neg c13] at d
      by_cases c15 : x.1 = 15
      · rw [if_pos c15] at d; exact en d
      rw [if_neg c15] at d
      by_cases c16 : x.1 = 16
      · rw [if_pos c16] at d
        by_cases ha : x.2.1 < 0
        · rw [if_pos ha] at d; cases d
        · rw [if_neg ha] at d
          cases hla : sg[nt x.2.1]? with
          | none => rw [hla] at d; cases d
          | some t => rw [hla] at d; exact sB_turn (hsg t (List.mem_of_getElem? hla)) d hs
      rw [if_neg c16] at d
      by_cases c17 : x.1 = 17
      · rw [if_pos c17] at d
        by_cases ha : wi x.2.1 8 ∧ wi x.2.2 8
        · rw [if_pos ha] at d; exact sB_turn (wi_le (d := 8) ha.2 (by decide)) d hs
        · rw [if_neg ha] at d; cases d
      rw [if_neg c17] at d
      cases hla : arP x.1 x.2.1 nm with
      | none => rw [hla] at d; cases d
      | some t => rw [hla] at d; exact sB_turn (arP_le hla) d hs
theorem vat_sB (hr : r ≤ 8) (hsg : ∀ s ∈ sg, s.2 ≤ 8) : ∀ {i : Nat} {v : VS}, vat sg nm r c i = some v → sB (8 * i) v.1 := by
  intro i
  induction i with
  | zero =>
    intro v h
    cases h
    refine ⟨fun l hl => ?_, Nat.le_refl _⟩
    rcases List.mem_cons.mp hl with e | hl
    · rw [e]; exact ⟨Nat.zero_le _, Nat.zero_le _, hr⟩
    · cases hl
  | succ i ih =>
    intro v' h
    obtain ⟨v, x, hv, -, hs⟩ := vat_succ h
    exact sB_step hsg (vat_chain hv) hs (ih hv)
end BD
