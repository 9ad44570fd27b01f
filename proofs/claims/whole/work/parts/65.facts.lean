/-! THE PURE PART, 6: what the checker has seen to, operation by operation -/
section FA
variable {sg : List (Nat × Nat)} {nm r : Nat} {c : List Ic}
theorem At.v (hw : Wh sg nm r c) {i k : Nat} (h : At sg nm r c i k) : ∃ v v' x, vat sg nm r c i = some v ∧ vat sg nm r c (i + 1) = some v' ∧ c[i]? = some x ∧ vstep sg nm v x = some v' ∧ live v.1 ∧ v.1 ≠ [] ∧ Hh v.1 = k ∧ v.2.1 = 0 := by
  have hi := h.lt hw
  obtain ⟨v, hv, hl, hne, hk, h0⟩ := h
  obtain ⟨v1, v', x, hv1, hv', hx, hs, -⟩ := hw.at hi
  rw [hv] at hv1
  cases hv1
  exact ⟨v, v', x, hv, hv', hx, hs, hl, hne, hk, h0⟩
theorem turn_ne {ls ls' : List Lb} {t p : Nat} (h : turnV ls t p = some ls') : ls' ≠ [] := by
  obtain ⟨l, q, -, -, rfl⟩ := turnV_inv h
  exact List.cons_ne_nil _ _
theorem At.tn (hw : Wh sg nm r c) {i k t p : Nat} (h : At sg nm r c i k) (h6 : ¬ oA c i = 6) (h14 : ¬ oA c i = 14) (ht : ∀ ls ls', vctl sg nm ls (oA c i) (aA c i) (bA c i) = some ls' → turnV ls t p = some ls') : t ≤ k ∧ At sg nm r c (i + 1) (k - t + p) := by
  obtain ⟨v, v', x, hv, hv', hx, hs, hl, hne, hk, h0⟩ := h.v hw
  have ho := oA_of hx
  obtain ⟨e0, -, hz⟩ := vstep_ctl hs (by rw [← ho]; exact h6) (by rw [← ho]; exact h14)
  rw [← ho, ← aA_of hx, ← bA_of hx] at e0
  have h1 := ht _ _ e0
  obtain ⟨g1, g2, g3, -⟩ := turn_live h1 hl
  rw [hk] at g2 g3
  exact ⟨g2, v', hv', g1, turn_ne h1, by omega, hz⟩
theorem vctl_arp {ls ls' : List Lb} {o a b : Int32} (h : vctl sg nm ls o a b = some ls') (h0 : ¬ o = 0) (h1 : ¬ o = 1) (hb : isBg o = false) (h5 : ¬ o = 5) (h11 : ¬ o = 11) (h12 : ¬ o = 12) (h13 : ¬ o = 13) (h15 : ¬ o = 15) (h16 : ¬ o = 16) (h17 : ¬ o = 17) : ∃ q, arP o a nm = some q ∧ turnV ls q.1 q.2 = some ls' := by
  unfold vctl at h
  rw [if_neg h0, if_neg h1, if_neg (by rw [hb]; decide), if_neg h5, if_neg h11, if_neg h12, if_neg h13, if_neg h15, if_neg h16, if_neg h17] at h
  cases ha : arP o a nm with
  | none => rw [ha] at h; cases h
  | some q => rw [ha] at h; exact ⟨q, rfl, h⟩
theorem At.arp (hw : Wh sg nm r c) {i k : Nat} (h : At sg nm r c i k) (h0 : ¬ oA c i = 0) (h1 : ¬ oA c i = 1) (hb : isBg (oA c i) = false) (h5 : ¬ oA c i = 5) (h6 : ¬ oA c i = 6) (h11 : ¬ oA c i = 11) (h12 : ¬ oA c i = 12) (h13 : ¬ oA c i = 13) (h14 : ¬ oA c i = 14) (h15 : ¬ oA c i = 15) (h16 : ¬ oA c i = 16) (h17 : ¬ oA c i = 17) : ∃ t p, arP (oA c i) (aA c i) nm = some (t, p) ∧ t ≤ k ∧ At sg nm r c (i + 1) (k - t + p) := by
  obtain ⟨v, v', x, hv, hv', hx, hs, hl, hne, hk, hz0⟩ := h.v hw
  have ho := oA_of hx
  obtain ⟨e0, -, -⟩ := vstep_ctl hs (by rw [← ho]; exact h6) (by rw [← ho]; exact h14)
  rw [← ho, ← aA_of hx, ← bA_of hx] at e0
  obtain ⟨⟨t, p⟩, q1, -⟩ := vctl_arp e0 h0 h1 hb h5 h11 h12 h13 h15 h16 h17
  refine ⟨t, p, q1, h.tn hw h6 h14 (fun ls ls' e => ?_)⟩
  obtain ⟨q, g1, g2⟩ := vctl_arp e h0 h1 hb h5 h11 h12 h13 h15 h16 h17
  rw [q1] at g1
  cases g1
  exact g2
theorem At.nop (hw : Wh sg nm r c) {i k : Nat} (h : At sg nm r c i k) (ho : oA c i = 1) : At sg nm r c (i + 1) k := by
  have := (h.tn hw (t := 0) (p := 0) (by rw [ho]; decide) (by rw [ho]; decide) (fun ls ls' e => by
    unfold vctl at e
    rw [ho, if_neg (by decide), if_pos rfl] at e
    exact e)).2
  exact this
theorem At.call (hw : Wh sg nm r c) {i k : Nat} (h : At sg nm r c i k) (ho : oA c i = 16) : ¬ aA c i < 0 ∧ ∃ s, sg[nt (aA c i)]? = some s ∧ s.1 ≤ k ∧ At sg nm r c (i + 1) (k - s.1 + s.2) := by
  obtain ⟨v, v', x, hv, hv', hx, hs, hl, hne, hk, hz0⟩ := h.v hw
  have hox := oA_of hx
  obtain ⟨e0, -, -⟩ := vstep_ctl hs (by rw [← hox, ho]; decide) (by rw [← hox, ho]; decide)
  have key : ∀ ls ls', vctl sg nm ls 16 (aA c i) (bA c i) = some ls' → ¬ aA c i < 0 ∧ ∃ s, sg[nt (aA c i)]? = some s ∧ turnV ls s.1 s.2 = some ls' := by
    intro ls ls' e
    unfold vctl at e
    rw [if_neg (by decide), if_neg (by decide), if_neg (by decide), if_neg (by decide), if_neg (by decide), if_neg (by decide), if_neg (by decide), if_neg (by decide), if_pos rfl] at e
    by_cases ha : aA c i < 0
    · rw [if_pos ha] at e; cases e
    · rw [if_neg ha] at e
      cases hsg : sg[nt (aA c i)]? with
      | none => rw [hsg] at e; cases e
      | some s => rw [hsg] at e; exact ⟨ha, s, rfl, e⟩
  rw [← hox, ho, ← aA_of hx, ← bA_of hx] at e0
  obtain ⟨g1, s, g2, g3⟩ := key _ _ e0
  refine ⟨g1, s, g2, h.tn hw (by rw [ho]; decide) (by rw [ho]; decide) (fun ls ls' e => ?_)⟩
  rw [ho] at e
  obtain ⟨-, s', q1, q2⟩ := key _ _ e
  rw [g2] at q1
  cases q1
  exact q2
theorem At.callt (hw : Wh sg nm r c) {i k : Nat} (h : At sg nm r c i k) (ho : oA c i = 17) : wi (aA c i) 8 ∧ wi (bA c i) 8 ∧ 1 + nt (aA c i) ≤ k ∧ At sg nm r c (i + 1) (k - (1 + nt (aA c i)) + nt (bA c i)) := by
  obtain ⟨v, v', x, hv, hv', hx, hs, hl, hne, hk, hz0⟩ := h.v hw
  have hox := oA_of hx
  obtain ⟨e0, -, -⟩ := vstep_ctl hs (by rw [← hox, ho]; decide) (by rw [← hox, ho]; decide)
  have key : ∀ ls ls', vctl sg nm ls 17 (aA c i) (bA c i) = some ls' → (wi (aA c i) 8 ∧ wi (bA c i) 8) ∧ turnV ls (1 + nt (aA c i)) (nt (bA c i)) = some ls' := by
    intro ls ls' e
    unfold vctl at e
    rw [if_neg (by decide), if_neg (by decide), if_neg (by decide), if_neg (by decide), if_neg (by decide), if_neg (by decide), if_neg (by decide), if_neg (by decide), if_neg (by decide), if_pos rfl] at e
    by_cases ha : wi (aA c i) 8 ∧ wi (bA c i) 8
    · rw [if_pos ha] at e; exact ⟨ha, e⟩
    · rw [if_neg ha] at e; cases e
  rw [← hox, ho, ← aA_of hx, ← bA_of hx] at e0
  obtain ⟨⟨g1, g2⟩, -⟩ := key _ _ e0
  exact ⟨g1, g2, h.tn hw (by rw [ho]; decide) (by rw [ho]; decide) (fun ls ls' e => by rw [ho] at e; exact (key _ _ e).2)⟩
/-- where a branch goes: a step, with the operands that are kept, or the end, with the results -/
theorem At.br (hw : Wh sg nm r c) {i k : Nat} (h : At sg nm r c i k) {v : VS} (hv : vat sg nm r c i = some v) {j : Nat} {lb : Lb} (hj : v.1[j]? = some lb) : (∃ q, tgt c (ps c i)[j]? = some q ∧ At sg nm r c q (hT lb + wantL lb) ∧ isStep (oA c q)) ∨ (tgt c (ps c i)[j]? = none ∧ hT lb + wantL lb = r) := by
  have hi := h.lt hw
  obtain ⟨v2, hv2, hl, hne, hk, h0⟩ := h
  rw [hv] at hv2
  cases hv2
  have hlen := vat_len hv hne
  have hjl : j < v.1.length := (List.getElem?_eq_some_iff.mp hj).1
  cases hp : (ps c i)[j]? with
  | none =>
    have hjn : (ps c i).length ≤ j := by simpa using hp
    have hje : j = v.1.length - 1 := by omega
    obtain ⟨g1, g2, g3, g4⟩ := vat_last hv (l := lb) (by rw [List.getLast?_eq_getElem?, ← hje]; exact hj)
    refine Or.inr ⟨rfl, ?_⟩
    unfold wantL
    rw [g1, if_neg (by decide), g3, g4]
    omega
  | some p =>
    obtain ⟨vp, l0, l, g1, g2, g3, g4, g5, g6, g7, g8, g9⟩ := snap hv hp
    rw [hj] at g3
    cases g3
    obtain ⟨hpi, hpb⟩ := ps_lt hp
    have hld : live (v.1.drop (j + 1)) := live_drop hl _
    have fin : ∀ i' k', At sg nm r c i' k' → (∃ q, settle c i' = some q ∧ At sg nm r c q k' ∧ isStep (oA c q)) ∨ (settle c i' = none ∧ k' = r) := by
      intro i' k' hA
      rcases At.stle hw _ i' k' (Nat.le_refl _) hA with ⟨q, q1, -, q2, q3⟩ | q
      · exact Or.inl ⟨q, q1, q2, q3⟩
      · exact Or.inr q
    by_cases h3 : oA c p = 3
    · have e : tgt c (some p) = settle c (p + 1) := by
        show (if oA c p = 3 then _ else _) = _
        rw [if_pos h3]
      rw [e]
      have hby : bY lb = 3 := by
        have hb0 : bY l0 = 3 := by rw [g5, h3]; rfl
        rcases g4.2.2.2 with q | ⟨q, -⟩
        · rw [q, hb0]
        · rw [hb0] at q; cases q
      have hwant : wantL lb = nt (aA c p) := by
        unfold wantL
        rw [if_pos hby, g4.1, g6]
      rw [hwant, g4.2.2.1]
      refine fin _ _ ⟨vp, g1, ?_, by rw [g2]; exact List.cons_ne_nil _ _, by rw [g2]; show hT l0 + oW l0 = _; rw [g8], ?_⟩
      · rw [g2]
        intro y hy
        rcases List.mem_cons.mp hy with e | hy
        · rw [e]; exact g9
        · exact hld y hy
      · obtain ⟨vq, vq', x, -, hq', hx, hs, -⟩ := hw.at (i := p) (by omega)
        rw [g1] at hq'
        cases hq'
        have hox := oA_of hx
        exact (vstep_ctl hs (by rw [← hox, h3]; decide) (by rw [← hox, h3]; decide)).2.2
    · obtain ⟨e, c1, -⟩ := hw.cl (p := p) (by omega) hpb
      have et : tgt c (some p) = settle c (e + 1) := by
        show (if oA c p = 3 then _ else match clo c p with
          | some e => settle c (e + 1)
          | none => none) = _
        rw [if_neg h3, c1]
      rw [et]
      have hby : ¬ bY lb = 3 := by
        have hb0 : ¬ bY l0 = 3 := by
          rw [g5]
          intro q
          unfold isBg at hpb
          simp at hpb
          rcases hpb with q2 | q2 | q2
          · rw [q2] at q; exact absurd q (by decide)
          · exact h3 q2
          · rw [q2] at q; exact absurd q (by decide)
        rcases g4.2.2.2 with q | ⟨-, q⟩
        · rw [q]; exact hb0
        · rw [q]; decide
      have hwant : wantL lb = nt (bA c p) := by
        unfold wantL
        rw [if_neg hby, g4.2.1, g7]
      rw [hwant, g4.2.2.1]
      exact fin _ _ (At.endP hw (by omega) hpb c1 g1 g2 hld)
theorem labAt_inv {ls : List Lb} {a : Int32} {l : Lb} (h : labAt ls a = some l) : ¬ a < 0 ∧ ls[nt a]? = some l := by
  unfold labAt at h
  split at h
  · cases h
  · rename_i ha
    exact ⟨ha, h⟩
/-- BRANCH -/
theorem At.b12 (hw : Wh sg nm r c) {i k : Nat} (h : At sg nm r c i k) (ho : oA c i = 12) : ∃ v lb, vat sg nm r c i = some v ∧ ¬ aA c i < 0 ∧ v.1[nt (aA c i)]? = some lb ∧ hT lb + wantL lb ≤ k := by
  obtain ⟨v, v', x, hv, hv', hx, hs, hl, hne, hk, hz0⟩ := h.v hw
  have hox := oA_of hx
  obtain ⟨e0, -, -⟩ := vstep_ctl hs (by rw [← hox, ho]; decide) (by rw [← hox, ho]; decide)
  rw [← hox, ho, ← aA_of hx, ← bA_of hx] at e0
  unfold vctl at e0
  rw [if_neg (by decide), if_neg (by decide), if_neg (by decide), if_neg (by decide), if_neg (by decide), if_pos rfl] at e0
  cases hla : labAt v.1 (aA c i) with
  | none => rw [hla] at e0; cases e0
  | some lb =>
    rw [hla] at e0
    obtain ⟨l, q, e1, e2, -⟩ := endsV_inv e0
    obtain ⟨g1, g2⟩ := labAt_inv hla
    refine ⟨v, lb, hv, g1, g2, ?_⟩
    have hle := chain_le (vat_chain hv) g2 (a := l) (by rw [e1]; rfl)
    have hown := has_live e2 (hl l (by rw [e1]; exact List.mem_cons_self))
    rw [e1] at hk
    have hk : hT l + oW l = k := hk
    omega
/-- BRANCH_IF -/
theorem At.b13 (hw : Wh sg nm r c) {i k : Nat} (h : At sg nm r c i k) (ho : oA c i = 13) : ∃ v lb, vat sg nm r c i = some v ∧ ¬ aA c i < 0 ∧ v.1[nt (aA c i)]? = some lb ∧ 1 + hT lb + wantL lb ≤ k ∧ At sg nm r c (i + 1) (k - 1) := by
  obtain ⟨v, v', x, hv, hv', hx, hs, hl, hne, hk, hz0⟩ := h.v hw
  have hox := oA_of hx
  obtain ⟨e0, -, hz⟩ := vstep_ctl hs (by rw [← hox, ho]; decide) (by rw [← hox, ho]; decide)
  rw [← hox, ho, ← aA_of hx, ← bA_of hx] at e0
  unfold vctl at e0
  rw [if_neg (by decide), if_neg (by decide), if_neg (by decide), if_neg (by decide), if_neg (by decide), if_neg (by decide), if_pos rfl] at e0
  cases hla : labAt v.1 (aA c i) with
  | none => rw [hla] at e0; cases e0
  | some lb =>
    rw [hla] at e0
    dsimp only at e0
    obtain ⟨t1, t2, t3, l, q, e1, t4⟩ := turn_live e0 hl
    obtain ⟨g1, g2⟩ := labAt_inv hla
    have hle := chain_le (vat_chain hv) g2 (a := l) (by rw [e1]; rfl)
    have hk2 : hT l + oW l = k := by rw [e1] at hk; exact hk
    exact ⟨v, lb, hv, g1, g2, by omega, v', hv', t1, turn_ne e0, by omega, hz⟩
/-- RETURN -/
theorem At.b15 (hw : Wh sg nm r c) {i k : Nat} (h : At sg nm r c i k) (ho : oA c i = 15) : r ≤ k := by
  obtain ⟨v, v', x, hv, hv', hx, hs, hl, hne, hk, hz0⟩ := h.v hw
  have hox := oA_of hx
  obtain ⟨e0, -, hz⟩ := vstep_ctl hs (by rw [← hox, ho]; decide) (by rw [← hox, ho]; decide)
  rw [← hox, ho, ← aA_of hx, ← bA_of hx] at e0
  unfold vctl at e0
  rw [if_neg (by decide), if_neg (by decide), if_neg (by decide), if_neg (by decide), if_neg (by decide), if_neg (by decide), if_neg (by decide), if_pos rfl] at e0
  obtain ⟨l, q, e1, e2, -⟩ := endsV_inv e0
  have hown := has_live e2 (hl l (by rw [e1]; exact List.mem_cons_self))
  have hg : lastG v.1 = r := by
    unfold lastG
    cases hla : v.1.getLast? with
    | none =>
      rw [List.getLast?_eq_none_iff] at hla
      exact absurd hla hne
    | some lb => exact (vat_last hv hla).2.2.1
  rw [hg] at hown
  have hk2 : hT l + oW l = k := by rw [e1] at hk; exact hk
  omega
end FA
