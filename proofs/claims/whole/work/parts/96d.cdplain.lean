/-! THE CLASS WRITES, 4: instructions that neither begin nor turn nor end a label -/
def inP (o a : Int32) (nm : Nat) : Bool := if o = 32 ∨ o = 33 ∨ o = 34 then decide (wi a (nI nm - 1)) else if o = 35 ∨ o = 36 then decide (wi a 7) else true
theorem wi_m1 {a : Int32} {nm : Nat} (h : nm < 1000) : wi a (nI nm - 1) ↔ ¬ (a < 0 ∨ nm ≤ nt a) := by
  have e1 : (nI nm - 1).toInt = (nm : Int) - 1 := by
    rw [Int32.toInt_sub, show (nI nm).toInt = (nm : Int) from Int32.toInt_ofNat_of_lt (by omega), show (1 : Int32).toInt = 1 from rfl]
    exact Int.bmod_eq_of_le (by omega) (by omega)
  by_cases c0 : a < 0
  · exact ⟨fun z => absurd c0 z.1, fun z => absurd (Or.inl c0) z⟩
  · have ea := nI_nt c0
    have hl := nt_lt a
    have e2 : a.toInt = (nt a : Int) := by
      have z := congrArg Int32.toInt ea
      rw [show (nI (nt a)).toInt = (nt a : Int) from Int32.toInt_ofNat_of_lt (by omega)] at z
      exact z.symm
    have e3 : (nI nm - 1 < a) ↔ nm ≤ nt a := by
      rw [Int32.lt_iff_toInt_lt, e1, e2]
      omega
    unfold wi
    rw [e3]
    exact ⟨fun z u => u.elim c0 z.2, fun z => ⟨c0, fun u => z (Or.inr u)⟩⟩
theorem tk_ar {o a : Int32} {nm : Nat} (h : nm < 1000) : (if o = 1 then some (0, 0) else arP o a nm) = (match tkO o with
    | none => none
    | some t => if inP o a nm = true then some t else none) := by
  have loc : ∀ t : Nat × Nat, (if a < 0 ∨ nm ≤ nt a then none else some t) = (if decide (wi a (nI nm - 1)) = true then some t else none) := by
    intro t
    by_cases c : a < 0 ∨ nm ≤ nt a
    · rw [if_pos c, if_neg (by rw [decide_eq_true_iff]; exact fun z => (wi_m1 h).mp z c)]
    · rw [if_neg c, if_pos (by rw [decide_eq_true_iff]; exact (wi_m1 h).mpr c)]
  have glo : ∀ t : Nat × Nat, (if wi a 7 then some t else none) = (if decide (wi a 7) = true then some t else none) := by
    intro t
    by_cases c : wi a 7
    · rw [if_pos c, if_pos (by rw [decide_eq_true_iff]; exact c)]
    · rw [if_neg c, if_neg (by rw [decide_eq_true_iff]; exact c)]
  by_cases c1 : o = 1
  · subst c1; rfl
  by_cases c26 : o = 26
  · subst c26; rfl
  by_cases c27 : o = 27
  · subst c27; rfl
  by_cases c32 : o = 32
  · subst c32; exact loc (0, 1)
  by_cases c33 : o = 33
  · subst c33; exact loc (1, 0)
  by_cases c34 : o = 34
  · subst c34; exact loc (1, 1)
  by_cases c35 : o = 35
  · subst c35; exact glo (0, 1)
  by_cases c36 : o = 36
  · subst c36; exact glo (1, 0)
  by_cases c63 : o = 63
  · subst c63; rfl
  by_cases c64 : o = 64
  · subst c64; rfl
  by_cases c65 : o = 65
  · subst c65; rfl
  by_cases c66 : o = 66
  · subst c66; rfl
  by_cases c69 : o = 69
  · subst c69; rfl
  by_cases c70 : o = 70
  · subst c70; rfl
  by_cases c71 : o = 71
  · subst c71; rfl
  by_cases c72 : o = 72
  · subst c72; rfl
  by_cases c73 : o = 73
  · subst c73; rfl
  by_cases c80 : o = 80
  · subst c80; rfl
  by_cases c81 : o = 81
  · subst c81; rfl
  by_cases c83 : o = 83
  · subst c83; rfl
  by_cases c106 : o = 106
  · subst c106; rfl
  by_cases c107 : o = 107
  · subst c107; rfl
  by_cases c108 : o = 108
  · subst c108; rfl
  by_cases c110 : o = 110
  · subst c110; rfl
  by_cases c113 : o = 113
  · subst c113; rfl
  by_cases c116 : o = 116
  · subst c116; rfl
  by_cases c124 : o = 124
  · subst c124; rfl
  by_cases c125 : o = 125
  · subst c125; rfl
  by_cases c126 : o = 126
  · subst c126; rfl
  by_cases c167 : o = 167
  · subst c167; rfl
  by_cases c173 : o = 173
  · subst c173; rfl
  have ei : inP o a nm = true := by
    unfold inP
    rw [if_neg (fun z => by rcases z with z | z | z; exact c32 z; exact c33 z; exact c34 z), if_neg (fun z => by rcases z with z | z; exact c35 z; exact c36 z)]
  have e63 : (¬ 62 < o) ↔ o < 63 := by
    rw [Int32.lt_iff_toInt_lt, Int32.lt_iff_toInt_lt]
    have a1 : (62 : Int32).toInt = 62 := rfl
    have a2 : (63 : Int32).toInt = 63 := rfl
    omega
  rw [ei, if_neg c1, arP_def c26 c27 c32 c33 c34 c35 c36 c63 c64 c65 c66 c69 c70 c71 c72 c73 c80 c81 c83 c106 c107 c108 c110 c113 c116 c124 c125 c126 c167 c173]
  unfold tkO
  by_cases r1 : ¬ o < 40 ∧ o < 54
  · rw [if_pos r1, if_pos r1]
    rfl
  rw [if_neg r1, if_neg r1]
  by_cases r2 : ¬ o < 54 ∧ o < 63
  · rw [if_pos r2, if_pos ⟨r2.1, e63.mpr r2.2⟩]
    rfl
  rw [if_neg r2, if_neg (fun z => r2 ⟨z.1, e63.mp z.2⟩)]
  rw [if_neg c1, if_neg c26, if_neg c27, if_neg c32, if_neg c33, if_neg c34, if_neg c35, if_neg c36, if_neg c63, if_neg c64, if_neg c65, if_neg c66, if_neg c69, if_neg c70, if_neg c71, if_neg c72, if_neg c73, if_neg c80, if_neg c81, if_neg c83, if_neg c106, if_neg c107, if_neg c108, if_neg c110, if_neg c113, if_neg c116, if_neg c124, if_neg c125, if_neg c126, if_neg c167, if_neg c173]
theorem tk_le {o : Int32} {t : Nat × Nat} (h : tkO o = some t) : t.1 ≤ 3 ∧ t.2 ≤ 1 := by
  have key : ∀ t : Nat × Nat, tkO o = some t → t.1 ≤ 3 ∧ t.2 ≤ 1 := by
    unfold tkO
    repeat (refine ite_P (P := fun t => t.1 ≤ 3 ∧ t.2 ≤ 1) (fun t ht => by cases ht; exact ⟨by decide, by decide⟩) ?_)
    exact fun t ht => by cases ht
  exact key t h
theorem lbO_none {c : List Ic} {y : Ic} (h1 : isBg y.1 = false) (h2 : ¬ y.1 = 5) (h3 : isBr y.1 = false) : lbO (c ++ [y]) c.length = none := by
  unfold lbO
  rw [oA_en, h1, if_neg (by decide), if_neg h2, h3, if_neg (by decide)]
theorem lbO_br {c : List Ic} {y : Ic} (h1 : isBg y.1 = false) (h2 : ¬ y.1 = 5) (h3 : isBr y.1 = true) : lbO (c ++ [y]) c.length = some (ps c c.length)[if y.1 = 15 then (ps c c.length).length else nt y.2.1]? := by
  unfold lbO jOc
  rw [oA_en, aA_en, h1, if_neg (by decide), if_neg h2, h3, if_pos rfl, ps_sn (Nat.le_refl _)]
/-- what the class has of the functions -/
def CGp (h : Hp) (x : Nat) (fp : Nat → Nat) (fd : Nat) (sg : List (Nat × Nat)) (nm : Nat) : Prop := tg h (x + 1) = some (.inl 7) ∧ gr h 448 (x + 1) = some (x + 2) ∧ tg h (x + 2) = some (.inr (12, 40)) ∧ gi h 449 (x + 1) = nI sg.length ∧ sg.length ≤ 40 ∧ (∀ (k : Nat) (s : Nat × Nat), sg[k]? = some s → aq h (x + 2) k = some (fp k) ∧ tg h (fp k) = some (.inl 2) ∧ gi h 128 (fp k) = nI s.1 ∧ gi h 129 (fp k) = nI s.2 ∧ s.1 ≤ 8 ∧ s.2 ≤ 8 ∧ fp k < sz h) ∧ gi h 131 fd = nI nm ∧ nm ≤ 16
def BND (v : VS) (l : Lb) : Prop := hT l + oW l < 100000 ∧ v.2.2.2 < 100000 ∧ v.1.length < 100000 ∧ ∀ l' ∈ v.1, tK l' ≤ 8 ∧ gV l' ≤ 8
section WW
variable {h h1 : Hp} {x B da fd : Nat} {fp I : Nat → Nat} {L : Option Nat → Nat} {sg : List (Nat × Nat)} {nm r : Nat} {c : List Ic} {v : VS} {l : Lb} {q : List Lb} {o a b : Int32} {Q : Option TV → Hp → Prop}
theorem BND.want (hb : BND v l) {k : Nat} {t : Lb} (hk : v.1[k]? = some t) : wantL t ≤ 8 := by
  have := hb.2.2.2 t (List.mem_of_getElem? hk)
  unfold wantL
  split <;> omega
theorem c_wantedX {k : Nat} {t : Lb} (D : DSt h x B da fd fp I L sg nm r c) (hv : vat sg nm r c c.length = some v) (hk : v.1[k]? = some t) (e1 : tg h1 (L (ps c c.length)[k]?) = tg h (L (ps c c.length)[k]?)) (e2 : ∀ f, f = 256 ∨ f = 257 ∨ f = 258 → gi h1 f (L (ps c c.length)[k]?) = gi h f (L (ps c c.length)[k]?)) (K : Q (some (tI (nI (wantL t)))) h1) : tX4_wanted (L (ps c c.length)[k]?) h1 Q := by
  obtain ⟨-, -, dL, -⟩ := D
  obtain ⟨l1, l2, l3, l4, l5, -⟩ := dL _ (vQ_ps (k := k) (Nat.le_refl c.length))
  obtain ⟨q1, q2, q3, q4, -⟩ := lbQ hv hk
  have t1 : tg h1 (L (ps c c.length)[k]?) = some (.inl 4) := e1.trans l1
  refine wX4_wanted _ h1 Q ⟨t1, ?_⟩
  unfold wantL at K
  rw [e2 256 (by omega), l2]
  by_cases c3 : bY t = 3
  · rw [if_pos c3] at K
    rw [if_pos (q4.mp c3)]
    refine ⟨t1, ?_⟩
    rw [e2 257 (by omega), l3, ← q2]
    exact K
  · rw [if_neg c3] at K
    rw [if_neg (fun z => c3 (q4.mpr z))]
    refine ⟨t1, ?_⟩
    rw [e2 258 (by omega), l4, ← q3]
    exact K
theorem c_wTrap (D : DSt h x B da fd fp I L sg nm r c) (M : DNm h da fd L c v) (hv : vat sg nm r c c.length = some v) (e : v.1 = l :: q) (hd : v.2.1 = 0) (K : ∀ h2, OUT B h h2 x da fd fp I L sg nm r c (0, a, b) (sz h) (sDie l :: q, 0, v.2.2.1, mstV (sDie l :: q) v.2.2.2) → Q (some (tI 1)) h2) : tX0_writeTrap da a b h Q := by
  have T := DNm.top D M hv e
  have D0 := D
  obtain ⟨⟨d1, d2, d3, d4, d5, d6⟩, -, -, -, -, ⟨b1, b2, b3, b4⟩, -, b5, -⟩ := D
  have hq := b5 (ps c c.length)[0]? (vQ_ps (Nat.le_refl _))
  refine wX0_writeTrap da a b h Q ⟨d1, c_append d1 b2 d6 (fun h1 P1 => rR_of ?_)⟩
  have E1 := P1.eq1
  have T1 := T.of E1 b2 hq.2
  refine ⟨T1.1, c_die T1 (fun h3 e3 => rV_of (K h3 ?_))⟩
  exact fin_D D0 M hv e (P1.wr PRE.rf b1 b2) E1 rfl (show ¬ (0 : Int32) = 5 by decide) (show ¬ (0 : Int32) = 11 by decide) (by rw [lbO_none rfl (show ¬ (0 : Int32) = 5 by decide) rfl]; rfl) (fun z => absurd (show (0 : Int32) = 16 from z) (by decide)) e3 hd
theorem c_wBranch (D : DSt h x B da fd fp I L sg nm r c) (M : DNm h da fd L c v) (hv : vat sg nm r c c.length = some v) (e : v.1 = l :: q) (hB : BND v l) (hd : v.2.1 = 0) (ho : o = 12 ∨ o = 15) {k : Nat} {t : Lb} (hk : v.1[k]? = some t) (hj : lbO (c ++ [(o, a, b)]) c.length = some (ps c c.length)[k]?) (K0 : ¬ hasB l (wantL t) = true → Q (some (tI 0)) h) (K : hasB l (wantL t) = true → ∀ h2, OUT B h h2 x da fd fp I L sg nm r c (o, a, b) (sz h) (sDie l :: q, 0, v.2.2.1, mstV (sDie l :: q) v.2.2.2) → Q (some (tI 1)) h2) : tX0_writeBranch da o a b (some (L (ps c c.length)[k]?)) h Q := by
  have T := DNm.top D M hv e
  have D0 := D
  obtain ⟨⟨d1, d2, d3, d4, d5, d6⟩, -, dL, -, -, ⟨b1, b2, b3, b4⟩, -, b5, -⟩ := D
  have hq := b5 (ps c c.length)[0]? (vQ_ps (Nat.le_refl _))
  have hw := hB.want hk
  have hB1 := hB.1
  obtain ⟨l1, -⟩ := dL _ (vQ_ps (k := k) (Nat.le_refl c.length))
  refine wX0_writeBranch da o a b _ h Q ?_
  rw [if_neg (Option.some_ne_none _)]
  refine dr_of rfl ⟨l1, c_wanted D0 hv hk (rI_of ⟨d1, c_has T (by omega) (by omega) (rI_of ?_)⟩)⟩
  by_cases hh : hasB l (wantL t) = true
  · rw [if_pos hh, if_neg (by decide)]
    refine ⟨d1, c_append d1 b2 d6 (fun h1 P1 => rR_of (dr_of rfl ⟨P1.2.2.2.1.1, fun h8 e8 => ?_⟩))⟩
    have E8 : EQ1 h h8 da := by rw [e8]; exact P1.eq1.pr (Nat.le_refl _) _
    have T8 := T.of E8 b2 hq.2
    have W8 : WR B h h8 da (L (ps c c.length)[0]?) c.length (sz h) (o, a, b) (some (L (ps c c.length)[k]?)) none := by rw [e8]; exact (P1.wr PRE.rf b1 b2).lab _
    refine ⟨T8.1, c_die T8 (fun h3 e3 => rV_of (K hh h3 ?_))⟩
    refine fin_D D0 M hv e W8 E8 ?_ ?_ ?_ (by rw [hj]; rfl) ?_ e3 hd
    · rcases ho with rfl | rfl <;> rfl
    · show ¬ o = 5
      rcases ho with rfl | rfl <;> decide
    · show ¬ o = 11
      rcases ho with rfl | rfl <;> decide
    · rcases ho with rfl | rfl
      · exact fun z => absurd (show (12 : Int32) = 16 from z) (by decide)
      · exact fun z => absurd (show (15 : Int32) = 16 from z) (by decide)
  · rw [if_neg hh, if_pos rfl]
    exact K0 hh
theorem c_wBranchIf (D : DSt h x B da fd fp I L sg nm r c) (M : DNm h da fd L c v) (hv : vat sg nm r c c.length = some v) (e : v.1 = l :: q) (hB : BND v l) (hd : v.2.1 = 0) (K0 : (∀ t, labAt v.1 a = some t → ¬ hasB l (1 + wantL t) = true) → Q (some (tI 0)) h) (K : ∀ t, labAt v.1 a = some t → hasB l (1 + wantL t) = true → ∀ h2, OUT B h h2 x da fd fp I L sg nm r c (13, a, b) (sz h) (sOw l (oW l - (1 + wantL t) + wantL t) :: q, 0, v.2.2.1, mstV (sOw l (oW l - (1 + wantL t) + wantL t) :: q) v.2.2.2) → Q (some (tI 1)) h2) : tX0_writeBranchIf da a b h Q := by
  have T := DNm.top D M hv e
  have D0 := D
  obtain ⟨⟨d1, d2, d3, d4, d5, d6⟩, -, dL, -, -, ⟨b1, b2, b3, b4⟩, -, b5, -⟩ := D
  have hq := b5 (ps c c.length)[0]? (vQ_ps (Nat.le_refl _))
  have hB1 := hB.1
  have hB2 := hB.2.1
  refine wX0_writeBranchIf da a b h Q ⟨d1, c_labelAt D0 M hv (by rw [e]; exact List.cons_ne_nil _ _) (by have := hB.2.2.1; omega) (rR_of ?_)⟩
  cases hl : labAt v.1 a with
  | none =>
    dsimp only
    rw [if_pos rfl]
    exact K0 (fun t ht => by rw [hl] at ht; cases ht)
  | some t =>
    dsimp only
    rw [if_neg (Option.some_ne_none _)]
    obtain ⟨ha0, hk⟩ := labAt_inv hl
    have hw := hB.want hk
    obtain ⟨l1, -⟩ := dL _ (vQ_ps (k := nt a) (Nat.le_refl c.length))
    have hqk := b5 (ps c c.length)[nt a]? (vQ_ps (Nat.le_refl _))
    refine dr_of rfl ⟨l1, c_wanted D0 hv hk (rI_of ⟨d1, ?_⟩)⟩
    rw [← nI_succ, Nat.add_comm (wantL t) 1]
    refine c_has T (by omega) (by omega) (rI_of ?_)
    by_cases hh : hasB l (1 + wantL t) = true
    · rw [if_pos hh, if_neg (by decide)]
      refine ⟨d1, c_append d1 b2 d6 (fun h1 P1 => rR_of (dr_of rfl ⟨P1.2.2.2.1.1, fun h8 e8 => ?_⟩))⟩
      have E8 : EQ1 h h8 da := by rw [e8]; exact P1.eq1.pr (Nat.le_refl _) _
      have T8 := T.of E8 b2 hq.2
      have W8 : WR B h h8 da (L (ps c c.length)[0]?) c.length (sz h) (13, a, b) (some (L (ps c c.length)[nt a]?)) none := by rw [e8]; exact (P1.wr PRE.rf b1 b2).lab _
      refine dr_of rfl ⟨by rw [E8.2.2 _ hqk.2]; exact l1, c_wantedX D0 hv hk (E8.2.2 _ hqk.2) (fun f hf => E8.1 f _ hqk.2 (by omega)) (rI_of ⟨T8.1, ?_⟩)⟩
      rw [← nI_succ, Nat.add_comm (wantL t) 1]
      refine c_take T8 (by omega) (by omega) (fun h9 e9 => rV_of ?_)
      refine dr_of rfl ⟨by rw [e9]; show tg h8 _ = _; rw [E8.2.2 _ hqk.2]; exact l1, c_wantedX D0 hv hk (by rw [e9]; exact E8.2.2 _ hqk.2) (fun f hf => by rw [e9, gi_ne (by omega)]; exact E8.1 f _ hqk.2 (by omega)) (rI_of ⟨by rw [e9]; exact T8.1, ?_⟩)⟩
      refine c_put (o' := hT l + (oW l - (1 + wantL t))) (ms := v.2.2.2) (fd := fd) (by rw [e9]; exact T8.1) ?_ ?_ (by rw [e9, gi_eq]) ?_ (by omega) (by omega) (fun h3 e3 => rV_of (K t hl hh h3 ?_))
      · rw [e9, gr_pi, E8.2.1 1 da b2 (by omega)]; exact d3
      · rw [e9]; show tg h8 fd = _; rw [E8.2.2 _ b4]; exact d4
      · rw [e9, gi_ne (by decide), E8.1 133 fd b4 (by omega)]; exact M.2.2.2.2.2.1
      · refine fin_T D0 M hv e W8 E8 rfl (show ¬ (13 : Int32) = 5 by decide) (show ¬ (13 : Int32) = 11 by decide) ?_ (fun z => absurd (show (13 : Int32) = 16 from z) (by decide)) e9 e3 hd
        rw [lbO_br rfl (show ¬ (13 : Int32) = 5 by decide) rfl]
        rfl
    · rw [if_neg hh, if_pos rfl]
      exact K0 (fun t' ht' => by rw [hl] at ht'; cases ht'; exact hh)
end WW
