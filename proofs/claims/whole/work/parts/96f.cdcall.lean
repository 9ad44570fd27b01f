/-! THE CLASS WRITES, 6: calls, plain instructions -/
section WW
variable {h h1 : Hp} {x B da fd : Nat} {fp I : Nat → Nat} {L : Option Nat → Nat} {sg : List (Nat × Nat)} {nm r : Nat} {c : List Ic} {v : VS} {l : Lb} {q : List Lb} {o a b : Int32} {Q : Option TV → Hp → Prop}
theorem c_find (G : CGp h x fp fd sg nm) (K : Q (some (tR (if a < 0 then none else match sg[nt a]? with
      | none => none
      | some _ => some (fp (nt a))))) h) : tX8_find (x + 1) a h Q := by
  obtain ⟨g1, g2, g3, g4, g5, g6, -⟩ := G
  refine wX8_find (x + 1) a h Q ?_
  by_cases c0 : a < 0
  · rw [if_pos c0] at K ⊢
    exact K
  rw [if_neg c0] at K ⊢
  refine ⟨g1, ?_⟩
  rw [g4]
  have ea := nI_nt c0
  have hl := nt_lt a
  by_cases cl : nt a < sg.length
  · rw [List.getElem?_eq_getElem cl] at K
    dsimp only at K
    rw [if_pos (by rw [← ea]; exact nI_lt cl (by omega))]
    refine ⟨g1, dr_of g2 (al_of g3 ?_)⟩
    rw [if_pos (show a < Int32.ofNat 40 from by rw [← ea]; exact nI_lt (b := 40) (by omega) (by decide))]
    refine ⟨g1, dr_of g2 (ix_of g3 (by decide) ?_ ?_)⟩
    · rw [← ea]
      exact nI_in (by omega) (by decide)
    · show Q (some (tR (aq h (x + 2) (nt a)))) h
      rw [(g6 (nt a) _ (List.getElem?_eq_getElem cl)).1]
      exact K
  · rw [List.getElem?_eq_none (by omega)] at K
    rw [if_neg (by rw [← ea]; exact nI_nlt (by omega) hl)]
    exact K
theorem c_wCall (D : DSt h x B da fd fp I L sg nm r c) (M : DNm h da fd L c v) (G : CGp h x fp fd sg nm) (hv : vat sg nm r c c.length = some v) (e : v.1 = l :: q) (hB : BND v l) (hd : v.2.1 = 0) (K0 : (∀ s, ¬ a < 0 → sg[nt a]? = some s → ¬ hasB l s.1 = true) → Q (some (tI 0)) h) (K : ∀ s, ¬ a < 0 → sg[nt a]? = some s → hasB l s.1 = true → ∀ h2, OUT B h h2 x da fd fp I L sg nm r c (16, a, b) (sz h) (sOw l (oW l - s.1 + s.2) :: q, 0, v.2.2.1, mstV (sOw l (oW l - s.1 + s.2) :: q) v.2.2.2) → Q (some (tI 1)) h2) : tX0_writeCall da a b h Q := by
  have T := DNm.top D M hv e
  have D0 := D
  obtain ⟨⟨d1, d2, d3, d4, d5, d6⟩, -, dL, -, -, ⟨b1, b2, b3, b4⟩, -, b5, -⟩ := D
  have hB1 := hB.1
  refine wX0_writeCall da a b h Q ⟨d1, dr_of d2 ⟨G.1, c_find G (rR_of ?_)⟩⟩
  by_cases c0 : a < 0
  · rw [if_pos c0, if_pos rfl]
    exact K0 (fun s z => absurd c0 z)
  rw [if_neg c0]
  cases hs : sg[nt a]? with
  | none =>
    dsimp only
    rw [if_pos rfl]
    exact K0 (fun s _ z => by rw [hs] at z; cases z)
  | some s =>
    dsimp only
    rw [if_neg (Option.some_ne_none _)]
    obtain ⟨-, -, -, -, -, g6, -⟩ := G
    obtain ⟨f1, f2, f3, f4, f5, f6, f7⟩ := g6 (nt a) s hs
    refine dr_of rfl ⟨f2, d1, ?_⟩
    rw [f3]
    refine c_has T (by omega) (by omega) (rI_of ?_)
    by_cases hh : hasB l s.1 = true
    · rw [if_pos hh, if_neg (by decide)]
      refine ⟨d1, c_append d1 b2 d6 (fun h1 P1 => rR_of (dr_of rfl ⟨P1.2.2.2.1.1, fun h8 e8 => ?_⟩))⟩
      have E8 : EQ1 h h8 da := by rw [e8]; exact P1.eq1.pr (Nat.le_refl _) _
      have W8 : WR B h h8 da (L (ps c c.length)[0]?) c.length (sz h) (16, a, b) none (some (fp (nt a))) := by rw [e8]; exact (P1.wr PRE.rf b1 b2).cal _
      have C := fun h9 e9 => c_pt (Q := rV (fun h15 => Q (some (tI 1)) h15)) D0 M hv e hB hd W8 E8 rfl (show ¬ (16 : Int32) = 5 by decide) (show ¬ (16 : Int32) = 11 by decide) (by rw [lbO_none rfl (show ¬ (16 : Int32) = 5 by decide) rfl]; rfl) (fun _ => rfl) (t := s.1) (p := s.2) (h9 := h9) e9 (by omega) (fun h2 O => rV_of (K s c0 hs hh h2 O))
      refine dr_of rfl ⟨by rw [E8.2.2 _ f7]; exact f2, ?_⟩
      rw [E8.1 128 _ f7 (by omega), f3]
      refine c_tk D0 M hv e hB E8 (by omega) (fun h9 e9 => rV_of (dr_of rfl ⟨?_, ?_⟩))
      · rw [e9]; show tg h8 _ = _; rw [E8.2.2 _ f7]; exact f2
      · rw [show gi h9 129 (fp (nt a)) = nI s.2 by rw [e9, gi_ne (by decide), E8.1 129 _ f7 (by omega), f4]]
        exact C h9 e9
    · rw [if_neg hh, if_pos rfl]
      exact K0 (fun s' _ z => by rw [hs] at z; cases z; exact hh)
theorem c_wCallT (D : DSt h x B da fd fp I L sg nm r c) (M : DNm h da fd L c v) (hv : vat sg nm r c c.length = some v) (e : v.1 = l :: q) (hB : BND v l) (hd : v.2.1 = 0) (K0 : ¬ (wi a 8 ∧ wi b 8 ∧ hasB l (1 + nt a) = true) → Q (some (tI 0)) h) (K : wi a 8 → wi b 8 → hasB l (1 + nt a) = true → ∀ h2, OUT B h h2 x da fd fp I L sg nm r c (17, a, b) (sz h) (sOw l (oW l - (1 + nt a) + nt b) :: q, 0, v.2.2.1, mstV (sOw l (oW l - (1 + nt a) + nt b) :: q) v.2.2.2) → Q (some (tI 1)) h2) : tX0_writeCallByTable da a b h Q := by
  have T := DNm.top D M hv e
  have D0 := D
  obtain ⟨⟨d1, d2, d3, d4, d5, d6⟩, -, dL, -, -, ⟨b1, b2, b3, b4⟩, -, b5, -⟩ := D
  have hB1 := hB.1
  refine wX0_writeCallByTable da a b h Q (c_within (rI_of ?_))
  by_cases wa : wi a 8
  case neg =>
    rw [if_neg wa, if_pos rfl]
    exact K0 (fun z => wa z.1)
  rw [if_pos wa, if_neg (by decide)]
  refine c_within (rI_of ?_)
  by_cases wb : wi b 8
  case neg =>
    rw [if_neg wb, if_pos rfl]
    exact K0 (fun z => wb z.2.1)
  rw [if_pos wb, if_neg (by decide)]
  have a8 := ((wi_nI (d := 8) (by decide)).mp wa).2
  have b8 := ((wi_nI (d := 8) (by decide)).mp wb).2
  have ea : a + 1 = nI (1 + nt a) := by rw [Nat.add_comm, nI_succ, nI_nt wa.1]
  have eb : b = nI (nt b) := (nI_nt wb.1).symm
  rw [ea]
  refine ⟨d1, c_has T (by omega) (by omega) (rI_of ?_)⟩
  by_cases hh : hasB l (1 + nt a) = true
  case neg =>
    rw [if_neg hh, if_pos rfl]
    exact K0 (fun z => hh z.2.2)
  rw [if_pos hh, if_neg (by decide)]
  refine ⟨d1, c_append d1 b2 d6 (fun h1 P1 => rR_of ?_)⟩
  have E1 := P1.eq1
  have W1 : WR B h h1 da (L (ps c c.length)[0]?) c.length (sz h) (17, a, b) none none := P1.wr PRE.rf b1 b2
  refine c_tk D0 M hv e hB E1 (by omega) (fun h9 e9 => rV_of ?_)
  have C := c_pt (Q := rV (fun h15 => Q (some (tI 1)) h15)) D0 M hv e hB hd W1 E1 rfl (show ¬ (17 : Int32) = 5 by decide) (show ¬ (17 : Int32) = 11 by decide) (by rw [lbO_none rfl (show ¬ (17 : Int32) = 5 by decide) rfl]; rfl) (fun z => absurd (show (17 : Int32) = 16 from z) (by decide)) (t := 1 + nt a) (p := nt b) (h9 := h9) e9 (by omega) (fun h2 O => rV_of (K wa wb hh h2 O))
  rw [nI_nt wb.1] at C
  exact C
theorem c_inPlace (t1 : tg h da = some (.inl 0)) (t2 : gr h 1 da = some fd) (t3 : tg h fd = some (.inl 2)) (t4 : gi h 131 fd = nI nm) (K : Q (some (tI (if inP o a nm = true then 1 else 0))) h) : tX0_isInPlace da o a h Q := by
  refine wX0_isInPlace da o a h Q ?_
  unfold inP at K
  have wk : ∀ z : Int32, Q (some (tI (if decide (wi a z) = true then 1 else 0))) h → tX10_isWithin a z h (rI (fun x_3 h_2 => ((x_3 = 0 ∨ x_3 = 1) ∧ Q (some (tI x_3)) h_2))) := by
    intro z k
    refine c_within (rI_of ?_)
    by_cases c : wi a z
    · rw [if_pos (decide_eq_true c)] at k
      rw [if_pos c]
      exact ⟨Or.inr rfl, k⟩
    · rw [if_neg (by rw [decide_eq_true_iff]; exact c)] at k
      rw [if_neg c]
      exact ⟨Or.inl rfl, k⟩
  by_cases c32 : o = 32
  · rw [if_pos (Or.inl c32)] at K
    rw [if_pos c32]
    refine ⟨t1, dr_of t2 ⟨t3, ?_⟩⟩
    rw [t4]
    exact wk _ K
  rw [if_neg c32]
  by_cases c33 : o = 33
  · rw [if_pos (Or.inr (Or.inl c33))] at K
    rw [if_pos c33]
    refine ⟨t1, dr_of t2 ⟨t3, ?_⟩⟩
    rw [t4]
    exact wk _ K
  rw [if_neg c33]
  by_cases c34 : o = 34
  · rw [if_pos (Or.inr (Or.inr c34))] at K
    rw [if_pos c34]
    refine ⟨t1, dr_of t2 ⟨t3, ?_⟩⟩
    rw [t4]
    exact wk _ K
  rw [if_neg c34]
  rw [if_neg (show ¬ (o = 32 ∨ o = 33 ∨ o = 34) from fun z => by rcases z with z | z | z; exact c32 z; exact c33 z; exact c34 z)] at K
  by_cases c35 : o = 35
  · rw [if_pos (Or.inl c35)] at K
    rw [if_pos c35]
    exact wk _ K
  rw [if_neg c35]
  by_cases c36 : o = 36
  · rw [if_pos (Or.inr c36)] at K
    rw [if_pos c36]
    exact wk _ K
  rw [if_neg c36]
  rw [if_neg (show ¬ (o = 35 ∨ o = 36) from fun z => by rcases z with z | z; exact c35 z; exact c36 z), if_pos rfl] at K
  exact K
theorem c_wPlain (D : DSt h x B da fd fp I L sg nm r c) (M : DNm h da fd L c v) (G : CGp h x fp fd sg nm) (hv : vat sg nm r c c.length = some v) (e : v.1 = l :: q) (hB : BND v l) (hd : v.2.1 = 0) (hb : isBg o = false) (h5 : ¬ o = 5) (h11 : ¬ o = 11) (hbr : isBr o = false) (h16 : ¬ o = 16) (K0 : (∀ t, (if o = 1 then some (0, 0) else arP o a nm) = some t → ¬ hasB l t.1 = true) → Q (some (tI 0)) h) (K : ∀ t, (if o = 1 then some (0, 0) else arP o a nm) = some t → hasB l t.1 = true → ∀ h2, OUT B h h2 x da fd fp I L sg nm r c (o, a, b) (sz h) (sOw l (oW l - t.1 + t.2) :: q, 0, v.2.2.1, mstV (sOw l (oW l - t.1 + t.2) :: q) v.2.2.2) → Q (some (tI 1)) h2) : tX0_writePlain da o a b h Q := by
  have T := DNm.top D M hv e
  have D0 := D
  obtain ⟨⟨d1, d2, d3, d4, d5, d6⟩, -, dL, -, -, ⟨b1, b2, b3, b4⟩, -, b5, -⟩ := D
  have hB1 := hB.1
  have gnm : gi h 131 fd = nI nm := G.2.2.2.2.2.2.1
  have hnm : nm ≤ 16 := G.2.2.2.2.2.2.2
  rw [tk_ar (by omega)] at K0 K
  refine wX0_writePlain da o a b h Q (c_taken (rI_of ?_))
  cases htk : tkO o with
  | none =>
    rw [htk] at K0
    dsimp only
    rw [if_pos (by decide)]
    exact K0 (fun t ht => by cases ht)
  | some t =>
    have hle := tk_le htk
    rw [htk] at K0 K
    dsimp only at K0 K ⊢
    rw [if_neg (nI_n0 (by omega))]
    refine ⟨d1, c_has T (by omega) (by omega) (rI_of ?_)⟩
    by_cases hh : hasB l t.1 = true
    case neg =>
      rw [if_neg hh, if_pos rfl]
      refine K0 (fun t' ht' => ?_)
      split at ht'
      · cases ht'; exact hh
      · cases ht'
    rw [if_pos hh, if_neg (by decide)]
    refine ⟨d1, c_inPlace d1 d3 d4 gnm (rI_of ?_)⟩
    by_cases hi : inP o a nm = true
    case neg =>
      rw [if_neg hi, if_pos rfl]
      refine K0 (fun t' ht' => ?_)
      rw [if_neg hi] at ht'
      cases ht'
    rw [if_pos hi, if_neg (by decide)]
    rw [if_pos hi] at K
    refine ⟨d1, c_append d1 b2 d6 (fun h1 P1 => rR_of ?_)⟩
    have E1 := P1.eq1
    have W1 : WR B h h1 da (L (ps c c.length)[0]?) c.length (sz h) (o, a, b) none none := P1.wr PRE.rf b1 b2
    refine c_tk D0 M hv e hB E1 (by omega) (fun h9 e9 => rV_of (c_putBy htk (rI_of ?_)))
    exact c_pt (Q := rV (fun h15 => Q (some (tI 1)) h15)) D0 M hv e hB hd W1 E1 hb h5 h11 (by rw [lbO_none hb h5 hbr]; rfl) (fun z => absurd z h16) (t := t.1) (p := t.2) (h9 := h9) e9 (by omega) (fun h2 O => rV_of (K t rfl hh h2 O))
end WW
