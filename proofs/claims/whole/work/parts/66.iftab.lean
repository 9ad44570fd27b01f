/-! THE PURE PART, 7: IF, and tables of branches -/
section FB
variable {sg : List (Nat × Nat)} {nm r : Nat} {c : List Ic}
/-- an IF that turned has its ELSE behind it -/
theorem turned : ∀ {i : Nat} {v : VS} {k p : Nat} {l : Lb}, vat sg nm r c i = some v → (ps c i)[k]? = some p → v.1[k]? = some l → bY l = 5 → ∃ q, p < q ∧ q < i ∧ oA c q = 5 ∧ ps c q = p :: ps c p := by
  intro i
  induction i with
  | zero =>
    intro v k p l _ h
    cases h
  | succ i ih =>
    intro v' k p l h hp hl h5
    obtain ⟨v, x, hv, hx, hs⟩ := vat_succ h
    have ho := oA_of hx
    have up : (∃ q, p < q ∧ q < i ∧ oA c q = 5 ∧ ps c q = p :: ps c p) → ∃ q, p < q ∧ q < i + 1 ∧ oA c q = 5 ∧ ps c q = p :: ps c p := fun ⟨q, a, b, d⟩ => ⟨q, a, by omega, d⟩
    rcases vstep_shape hs with ⟨hb, l1, r', e1, -, -, -, e2⟩ | ⟨hb, h11, l1, r', e1, -, -, e2⟩ | ⟨hb, h11, l1, r', l', e1, e2, hsim⟩
    · rw [ps_bg (by rw [ho]; exact hb)] at hp
      cases k with
      | zero =>
        rw [e2] at hl
        cases hl
        exfalso
        have h5 : nt x.1 = 5 := h5
        unfold isBg at hb
        simp at hb
        rcases hb with q | q | q <;> (rw [q] at h5; exact absurd h5 (by decide))
      | succ k =>
        rw [e2] at hl
        cases k with
        | zero =>
          cases hl
          exact up (ih hv (k := 0) (l := l1) hp (by rw [e1]; rfl) h5)
        | succ k => exact up (ih hv (k := k + 1) hp (by rw [e1]; exact hl) h5)
    · rw [ps_end (by rw [ho]; exact h11), List.getElem?_tail] at hp
      rw [e2] at hl
      cases r' with
      | nil => cases hl
      | cons y q =>
        cases k with
        | zero =>
          cases hl
          exact up (ih hv (k := 1) (l := y) hp (by rw [e1]; rfl) h5)
        | succ k => exact up (ih hv (k := k + 2) (l := l) hp (by rw [e1]; exact hl) h5)
    · rw [ps_oth (by rw [ho]; exact hb) (by rw [ho]; exact h11)] at hp
      rw [e2] at hl
      cases k with
      | zero =>
        cases hl
        rcases hsim.2.2.2 with q | ⟨q4, q5⟩
        · exact up (ih hv (k := 0) (l := l1) hp (by rw [e1]; rfl) (q.symm.trans h5))
        · -- here it turned
          have h6 : ¬ x.1 = 6 ∧ x.1 = 5 := by
            by_cases c6 : x.1 = 6
            · exfalso
              unfold vstep at hs
              by_cases h0 : 0 < v.2.1
              · rw [if_pos h0, if_pos c6] at hs
                unfold entV at hs
                split at hs
                · cases hs
                · rw [e1] at hs
                  dsimp only at hs
                  split at hs
                  · split at hs
                    · cases hs
                      cases e2
                      rw [show bY (sDie l1) = bY l1 from rfl, q4] at q5
                      cases q5
                    · cases hs
                      cases e2
                      rw [q4] at q5
                      cases q5
                  · cases hs
              · rw [if_neg h0, if_pos c6] at hs
                cases hs
            · refine ⟨c6, ?_⟩
              by_cases c5 : x.1 = 5
              · exact c5
              · exfalso
                have same : ∀ {t p : Nat}, turnV v.1 t p = some v'.1 → False := by
                  intro t p ht
                  obtain ⟨a, b, f1, -, f2⟩ := turnV_inv ht
                  rw [e1] at f1
                  cases f1
                  rw [e2] at f2
                  cases f2
                  have q6 : bY l1 = 5 := q5
                  rw [q4] at q6
                  cases q6
                have same2 : ∀ {t : Nat}, endsV v.1 t = some v'.1 → False := by
                  intro t ht
                  obtain ⟨a, b, f1, -, f2⟩ := endsV_inv ht
                  rw [e1] at f1
                  cases f1
                  rw [e2] at f2
                  cases f2
                  rw [show bY (sDie l1) = bY l1 from rfl, q4] at q5
                  cases q5
                by_cases c14 : x.1 = 14
                · unfold vstep at hs
                  by_cases h0 : 0 < v.2.1
                  · rw [if_pos h0, if_neg c6] at hs
                    cases hs
                  · rw [if_neg h0, if_neg c6, if_pos c14] at hs
                    split at hs
                    · split at hs
                      · rename_i ls hls
                        cases hs
                        exact same hls
                      · cases hs
                    · cases hs
                · obtain ⟨d, -, -⟩ := vstep_ctl hs c6 c14
                  unfold vctl at d
                  by_cases c0 : x.1 = 0
                  · rw [if_pos c0] at d; exact same2 d
                  rw [if_neg c0] at d
                  by_cases c1 : x.1 = 1
                  · rw [if_pos c1] at d; exact same d
                  rw [if_neg c1, if_neg (by rw [hb]; decide), if_neg c5, if_neg h11] at d
                  by_cases c12 : x.1 = 12
                  · rw [if_pos c12] at d
                    cases hla : labAt v.1 x.2.1 with
                    | none => rw [hla] at d; cases d
                    | some t => rw [hla] at d; exact same2 d
                  rw [if_neg c12] at d
                  by_cases c13 : x.1 = 13
                  · rw [if_pos c13] at d
                    cases hla : labAt v.1 x.2.1 with
                    | none => rw [hla] at d; cases d
                    | some t => rw [hla] at d; exact same d
                  rw [if_neg c13] at d
                  by_cases c15 : x.1 = 15
                  · rw [if_pos c15] at d; exact same2 d
                  rw [if_neg c15] at d
                  by_cases c16 : x.1 = 16
                  · rw [if_pos c16] at d
                    by_cases ha : x.2.1 < 0
                    · rw [if_pos ha] at d; cases d
                    · rw [if_neg ha] at d
                      cases hla : sg[nt x.2.1]? with
                      | none => rw [hla] at d; cases d
                      | some t => rw [hla] at d; exact same d
                  rw [if_neg c16] at d
                  by_cases c17 : x.1 = 17
                  · rw [if_pos c17] at d
                    by_cases ha : wi x.2.1 8 ∧ wi x.2.2 8
                    · rw [if_pos ha] at d; exact same d
                    · rw [if_neg ha] at d; cases d
                  rw [if_neg c17] at d
                  cases hla : arP x.1 x.2.1 nm with
                  | none => rw [hla] at d; cases d
                  | some t => rw [hla] at d; exact same d
          obtain ⟨pl, pb⟩ := ps_lt hp
          refine ⟨i, pl, by omega, ho.trans h6.2, ?_⟩
          have hbl := ps_below hp
          cases hps : ps c i with
          | nil => rw [hps] at hp; cases hp
          | cons a t =>
            rw [hps] at hp hbl
            cases hp
            rw [show t = ps c p from hbl]
      | succ k => exact up (ih hv (k := k + 1) (l := l) hp (by rw [e1]; exact hl) h5)
/-- IF: behind it, behind its ELSE, and behind its end there is one operand less -/
theorem At.iff (hw : Wh sg nm r c) {i k : Nat} (h : At sg nm r c i k) (ho : oA c i = 4) : 1 ≤ k ∧ At sg nm r c (i + 1) (k - 1) ∧ ∃ q, els c i = some q ∧ i < q ∧ q + 1 < c.length ∧ (oA c q = 11 ∨ oA c q = 5) ∧ At sg nm r c (q + 1) (k - 1) := by
  have hi := h.lt hw
  obtain ⟨v, v', x, hv, hv', hx, hs, hl, hne, hk, hz0⟩ := h.v hw
  have hox := oA_of hx
  have hb : isBg (oA c i) = true := by rw [ho]; rfl
  obtain ⟨-, -, hz⟩ := vstep_ctl hs (by rw [← hox, ho]; decide) (by rw [← hox, ho]; decide)
  rcases vstep_shape hs with ⟨-, l, q, e1, -, -, hh, e2⟩ | ⟨hbf, -⟩ | ⟨hbf, -⟩
  · rw [e1] at hl hk
    have hd := hl l List.mem_cons_self
    have hn : blkN x.1 (nt x.2.1) = 1 + nt (aA c i) := by
      unfold blkN
      rw [if_pos (by rw [← hox, ho]), aA_of hx]
    have hav : nt x.2.1 = nt (aA c i) := by rw [aA_of hx]
    have hbv : nt x.2.2 = nt (bA c i) := by rw [bA_of hx]
    rw [hn, hav, hbv] at e2
    rw [hn] at hh
    have hle := has_live hh hd
    have hk : hT l + oW l = k := hk
    have hlq : live (sOw l (oW l - (1 + nt (aA c i))) :: q) := by
      intro y hy
      rcases List.mem_cons.mp hy with e | hy
      · rw [e]; exact hd
      · exact hl y (List.mem_cons_of_mem _ hy)
    refine ⟨by omega, ⟨v', hv', ?_, by rw [e2]; exact List.cons_ne_nil _ _, ?_, hz⟩, ?_⟩
    · rw [e2]
      intro y hy
      rcases List.mem_cons.mp hy with e | hy
      · rw [e]; rfl
      · exact hlq y hy
    · rw [e2]
      show hT l + (oW l - (1 + nt (aA c i))) + nt (aA c i) = k - 1
      omega
    · obtain ⟨q1, g1, g2, g3, g4, g5⟩ := hw.en hi hb true
      refine ⟨q1, g1, g2, g3, by rcases g4 with g | g; exact Or.inl g; exact Or.inr g.2, ?_⟩
      obtain ⟨w, w', y, hw1, hw2, hy, hws, hwne⟩ := hw.at (i := q1) (by omega)
      obtain ⟨vp, l0, lq, s1, s2, s3, s4, s5, s6, s7, s8, s9⟩ := snap hw1 (k := 0) (p := i) (by rw [g5]; rfl)
      rw [hv'] at s1
      cases s1
      rw [e2] at s2
      have hl0 : l0 = (nt x.1, nt (aA c i), nt (bA c i), hT l + (oW l - (1 + nt (aA c i))), nt (aA c i), false) := (List.cons.inj s2).1.symm
      have hwd : w.1.drop 1 = sOw l (oW l - (1 + nt (aA c i))) :: q := (List.cons.inj s2).2.symm
      have hT0 : hT l0 = hT l + (oW l - (1 + nt (aA c i))) := by rw [hl0]; rfl
      have hoy := oA_of hy
      rcases g4 with g11 | ⟨-, g5'⟩
      · -- no ELSE: the parameters are the results
        have hclo : clo c i = some q1 := by
          unfold clo
          obtain ⟨f1, f2, f3, f4⟩ := enF_spec g1
          refine enF_of f1 f2 (stopB_iff.mpr ⟨(stopB_iff.mp f3).1, Or.inl g11⟩) (fun j j1 j2 => ?_)
          have := f4 j j1 j2
          cases hst : stopB c ((ps c i).length + 1) false j with
          | false => rfl
          | true =>
            obtain ⟨a1, a2⟩ := stopB_iff.mp hst
            rcases a2 with a2 | ⟨a2, -⟩
            · exact absurd ⟨a1, Or.inl a2⟩ (stopB_no this)
            · cases a2
        have hA := At.endP hw hi hb hclo hv' e2 hlq
        obtain ⟨d, -, -⟩ := vstep_ctl hws (by rw [← hoy, g11]; decide) (by rw [← hoy, g11]; decide)
        unfold vctl at d
        rw [← hoy, g11, if_neg (by decide), if_neg (by decide), if_neg (by decide), if_neg (by decide), if_pos rfl] at d
        obtain ⟨l2, q2, d1, d2, d3, d4⟩ := endV_inv d
        rw [d1] at s3
        cases s3
        have hby4 : bY lq = 4 := by
          have hb0 : bY l0 = 4 := by rw [s5, ho]; rfl
          rcases s4.2.2.2 with q | ⟨-, q⟩
          · rw [q, hb0]
          · exfalso
            obtain ⟨q', a1, a2, a3, a4⟩ := turned hw1 (k := 0) (p := i) (l := lq) (by rw [g5]; rfl) (by rw [d1]; rfl) q
            have := (enF_spec g1).2.2.2 q' (by omega) a2
            exact stopB_no this ⟨by rw [a4]; rfl, Or.inr ⟨rfl, a3⟩⟩
        have htg := d3 hby4
        rw [s4.1, s4.2.1, s6, s7] at htg
        have : k - 1 = hT l + (oW l - (1 + nt (aA c i))) + nt (bA c i) := by omega
        rw [this]
        exact hA
      · obtain ⟨d, -, hz2⟩ := vstep_ctl hws (by rw [← hoy, g5']; decide) (by rw [← hoy, g5']; decide)
        unfold vctl at d
        rw [← hoy, g5', if_neg (by decide), if_neg (by decide), if_neg (by decide), if_pos rfl] at d
        obtain ⟨l2, q2, d1, d2, d3, d4⟩ := elseV_inv d
        rw [d1] at s3 hwd
        cases s3
        have hq2 : q2 = sOw l (oW l - (1 + nt (aA c i))) :: q := hwd
        refine ⟨w', hw2, ?_, by rw [d4]; exact List.cons_ne_nil _ _, ?_, hz2⟩
        · rw [d4, hq2]
          intro y hy
          rcases List.mem_cons.mp hy with e | hy
          · rw [e]; rfl
          · exact hlq y hy
        · rw [d4]
          show hT lq + tK lq = k - 1
          rw [s4.1, s4.2.2.1, s6, hT0]
          omega
  · rw [← hox, hb] at hbf; cases hbf
  · rw [← hox, hb] at hbf; cases hbf
/-- TABLE: its entries stand behind it, and each may be taken -/
theorem At.tab (hw : Wh sg nm r c) {i k : Nat} (h : At sg nm r c i k) (ho : oA c i = 14) : wi (aA c i) 20 ∧ 1 ≤ k ∧ ∃ v, vat sg nm r c i = some v ∧ ∀ j, j ≤ nt (aA c i) → i + 1 + j < c.length ∧ oA c (i + 1 + j) = 6 ∧ ps c (i + 1 + j) = ps c i ∧ ¬ aA c (i + 1 + j) < 0 ∧ ∃ lb, v.1[nt (aA c (i + 1 + j))]? = some lb ∧ 1 + hT lb + wantL lb ≤ k := by
  have hi := h.lt hw
  obtain ⟨v, v', x, hv, hv', hx, hs, hl, hne, hk, hz0⟩ := h.v hw
  have hox := oA_of hx
  unfold vstep at hs
  rw [if_neg (by omega), if_neg (by rw [← hox, ho]; decide), if_pos (by rw [← hox, ho])] at hs
  by_cases hwi : wi x.2.1 20
  · rw [if_pos hwi] at hs
    cases htn : turnV v.1 1 0 with
    | none => rw [htn] at hs; cases hs
    | some ls =>
      rw [htn] at hs
      cases hs
      obtain ⟨t1, t2, t3, l, q, e1, t4⟩ := turn_live htn hl
      obtain ⟨l1, q1, e2, -, e3⟩ := turnV_inv htn
      rw [e1] at e2
      cases e2
      have hax := aA_of hx
      have hk2 : hT l + oW l = k := by rw [e1] at hk; exact hk
      have hch := vat_chain hv
      refine ⟨by rw [hax]; exact hwi, by omega, v, hv, ?_⟩
      -- the entries, one behind the other
      have key : ∀ j, j ≤ nt (aA c i) → ∃ u, vat sg nm r c (i + 1 + j) = some u ∧ u.1 = ls ∧ u.2.1 = nt (aA c i) + 1 - j ∧ ps c (i + 1 + j) = ps c i ∧ (∀ n, u.2.2.1 = some n → n ≤ oW l - 1) := by
        intro j
        induction j with
        | zero =>
          intro _
          refine ⟨_, hv', rfl, ?_, ?_, fun n hn => by cases hn⟩
          · rw [hax]; rfl
          · exact ps_oth (by rw [ho]; rfl) (by rw [ho]; decide)
        | succ j ih =>
          intro hj
          obtain ⟨u, u1, u2, u3, u4, u5⟩ := ih (by omega)
          have hlt : i + 1 + j < c.length := by
            by_cases hlt : i + 1 + j < c.length
            · exact hlt
            · exfalso
              obtain ⟨w, w1, w2, w3⟩ := hw
              by_cases ee : i + 1 + j = c.length
              · rw [ee, w1] at u1
                cases u1
                rw [w3] at u3
                omega
              · obtain ⟨jj, hjj⟩ : ∃ jj, i + 1 + j = jj + 1 := ⟨i + j, by omega⟩
                rw [hjj] at u1
                obtain ⟨-, y, -, hy, -⟩ := vat_succ u1
                rw [List.getElem?_eq_none (by omega)] at hy
                cases hy
          obtain ⟨w, w', y, hw1, hw2, hy, hws, hwne⟩ := hw.at hlt
          rw [u1] at hw1
          cases hw1
          unfold vstep at hws
          rw [if_pos (by omega)] at hws
          by_cases h6 : y.1 = 6
          · rw [if_pos h6] at hws
            unfold entV at hws
            rw [u2, e3] at hws
            cases hla : labAt (sOw l (oW l - 1 + 0) :: q) y.2.1 with
            | none => rw [hla] at hws; cases hws
            | some t =>
              rw [hla] at hws
              dsimp only at hws
              split at hws
              · rename_i hok
                rw [if_neg (by omega)] at hws
                cases hws
                refine ⟨_, hw2, e3.symm, ?_, ?_, fun n hn => ?_⟩
                · show u.2.1 - 1 = _
                  omega
                · rw [← u4]
                  have ho6 : oA c (i + 1 + j) = 6 := (oA_of hy).trans h6
                  exact ps_oth (i := i + 1 + j) (by rw [ho6]; rfl) (by rw [ho6]; decide)
                · cases hn
                  cases hu : u.2.2.1 with
                  | none =>
                    rw [hu] at hok
                    have := has_live hok (hl l (by rw [e1]; exact List.mem_cons_self))
                    exact this
                  | some n =>
                    rw [hu] at hok
                    have : wantL t = n := of_decide_eq_true hok
                    rw [this]
                    exact u5 n hu
              · cases hws
          · rw [if_neg h6] at hws
            cases hws
      intro j hj
      obtain ⟨u, u1, u2, u3, u4, u5⟩ := key j hj
      have hlt : i + 1 + j < c.length := by
        by_cases hlt : i + 1 + j < c.length
        · exact hlt
        · exfalso
          obtain ⟨w, w1, w2, w3⟩ := hw
          by_cases ee : i + 1 + j = c.length
          · rw [ee, w1] at u1
            cases u1
            rw [w3] at u3
            omega
          · obtain ⟨jj, hjj⟩ : ∃ jj, i + 1 + j = jj + 1 := ⟨i + j, by omega⟩
            rw [hjj] at u1
            obtain ⟨-, y, -, hy, -⟩ := vat_succ u1
            rw [List.getElem?_eq_none (by omega)] at hy
            cases hy
      obtain ⟨w, w', y, hw1, hw2, hy, hws, hwne⟩ := hw.at hlt
      rw [u1] at hw1
      cases hw1
      unfold vstep at hws
      rw [if_pos (by omega)] at hws
      by_cases h6 : y.1 = 6
      · rw [if_pos h6] at hws
        unfold entV at hws
        rw [u2, e3] at hws
        cases hla : labAt (sOw l (oW l - 1 + 0) :: q) y.2.1 with
        | none => rw [hla] at hws; cases hws
        | some t =>
          rw [hla] at hws
          dsimp only at hws
          split at hws
          · rename_i hok
            obtain ⟨a1, a2⟩ := labAt_inv hla
            have hwt : wantL t ≤ oW l - 1 := by
              cases hu : u.2.2.1 with
              | none =>
                rw [hu] at hok
                exact has_live hok (hl l (by rw [e1]; exact List.mem_cons_self))
              | some n =>
                rw [hu] at hok
                have : wantL t = n := of_decide_eq_true hok
                rw [this]
                exact u5 n hu
            refine ⟨hlt, (oA_of hy).trans h6, u4, by rw [aA_of hy]; exact a1, ?_⟩
            rw [aA_of hy]
            have hlb : ∃ lb, v.1[nt y.2.1]? = some lb ∧ hT lb = hT t ∧ wantL lb = wantL t := by
              rw [e1]
              cases hn : nt y.2.1 with
              | zero =>
                rw [hn] at a2
                cases a2
                exact ⟨l, rfl, rfl, rfl⟩
              | succ n =>
                rw [hn] at a2
                exact ⟨t, a2, rfl, rfl⟩
            obtain ⟨lb, b1, b2, b3⟩ := hlb
            refine ⟨lb, b1, ?_⟩
            have := chain_le hch b1 (a := l) (by rw [e1]; rfl)
            omega
          · cases hws
      · rw [if_neg h6] at hws
        cases hws
  · rw [if_neg hwi] at hs
    cases hs
end FB
