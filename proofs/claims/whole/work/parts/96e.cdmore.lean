/-! THE CLASS WRITES, 5: tables, calls, plain instructions -/
theorem ent_has {sg : List (Nat × Nat)} {nm r : Nat} {c : List Ic} : ∀ {i : Nat} {v : VS} {l : Lb} {q : List Lb} {n : Nat}, vat sg nm r c i = some v → 0 < v.2.1 → v.2.2.1 = some n → v.1 = l :: q → hasB l n = true := by
  intro i
  induction i with
  | zero => intro v l q n h h1; cases h; exact absurd h1 (Nat.lt_irrefl 0)
  | succ i ih =>
    intro v l q n h h1 h2 h3
    obtain ⟨u, y, hu, -, hs⟩ := vat_succ h
    unfold vstep at hs
    by_cases cd : 0 < u.2.1
    · rw [if_pos cd] at hs
      by_cases c6 : y.1 = 6
      · rw [if_pos c6] at hs
        unfold entV at hs
        cases hl : labAt u.1 y.2.1 with
        | none => rw [hl] at hs; cases hs
        | some t =>
          rw [hl] at hs
          dsimp only at hs
          cases hu1 : u.1 with
          | nil => rw [hu1] at hs; cases hs
          | cons l0 r0 =>
            rw [hu1] at hs
            dsimp only at hs
            by_cases co : okE u.2.2.1 l0 t = true
            · rw [if_pos co] at hs
              by_cases c1 : u.2.1 = 1
              · rw [if_pos c1] at hs
                cases hs
                exact absurd h1 (Nat.lt_irrefl 0)
              · rw [if_neg c1] at hs
                cases hs
                cases h2
                cases h3
                cases hw : u.2.2.1 with
                | none => rw [hw] at co; exact co
                | some n' =>
                  rw [hw] at co
                  have e : wantL t = n' := of_decide_eq_true co
                  rw [e]
                  exact ih hu cd hw hu1
            · rw [if_neg co] at hs; cases hs
      · rw [if_neg c6] at hs; cases hs
    · rw [if_neg cd] at hs
      by_cases c6 : y.1 = 6
      · rw [if_pos c6] at hs; cases hs
      rw [if_neg c6] at hs
      by_cases c14 : y.1 = 14
      · rw [if_pos c14] at hs
        split at hs
        · split at hs
          · cases hs; cases h2
          · cases hs
        · cases hs
      · rw [if_neg c14] at hs
        split at hs
        · cases hs; exact absurd h1 (Nat.lt_irrefl 0)
        · cases hs
section WW
variable {h h1 : Hp} {x B da fd : Nat} {fp I : Nat → Nat} {L : Option Nat → Nat} {sg : List (Nat × Nat)} {nm r : Nat} {c : List Ic} {v : VS} {l : Lb} {q : List Lb} {o a b : Int32} {Q : Option TV → Hp → Prop}
theorem c_wTable (D : DSt h x B da fd fp I L sg nm r c) (M : DNm h da fd L c v) (hv : vat sg nm r c c.length = some v) (e : v.1 = l :: q) (hB : BND v l) (K0 : ¬ (wi a 20 ∧ hasB l 1 = true) → Q (some (tI 0)) h) (K : wi a 20 → hasB l 1 = true → ∀ h2, OUT B h h2 x da fd fp I L sg nm r c (14, a, b) (sz h) (sOw l (oW l - 1 + 0) :: q, nt a + 1, none, mstV (sOw l (oW l - 1 + 0) :: q) v.2.2.2) → Q (some (tI 1)) h2) : tX0_writeTable da a b h Q := by
  have T := DNm.top D M hv e
  have D0 := D
  have M0 := M
  obtain ⟨⟨d1, d2, d3, d4, d5, d6⟩, -, dL, -, -, ⟨b1, b2, b3, b4⟩, -, b5, -⟩ := D
  obtain ⟨m1, m2, m3, m4, m5, m6, m7⟩ := M
  have hq := b5 (ps c c.length)[0]? (vQ_ps (Nat.le_refl _))
  have hB1 := hB.1
  have hmo := vat_most hv
  rw [e] at hmo
  have hmo : hT l + oW l ≤ v.2.2.2 := hmo
  refine wX0_writeTable da a b h Q (c_within (rI_of ?_))
  by_cases hw : wi a 20
  case neg =>
    rw [if_neg hw, if_pos rfl]
    exact K0 (fun z => hw z.1)
  rw [if_pos hw, if_neg (by decide)]
  refine ⟨d1, c_has (n := 1) T (by omega) (by omega) (rI_of ?_)⟩
  by_cases hh : hasB l 1 = true
  case neg =>
    rw [if_neg hh, if_pos rfl]
    exact K0 (fun z => hh z.2)
  rw [if_pos hh, if_neg (by decide)]
  refine ⟨d1, c_append d1 b2 d6 (fun h1 P1 => rR_of ?_)⟩
  have E1 := P1.eq1
  have T1 := T.of E1 b2 hq.2
  have W1 : WR B h h1 da (L (ps c c.length)[0]?) c.length (sz h) (14, a, b) none none := P1.wr PRE.rf b1 b2
  refine ⟨T1.1, c_take (n := 1) T1 (by omega) (by omega) (fun h7 e7 => rV_of ?_)⟩
  refine ⟨by rw [e7]; exact T1.1, fun h9 e9 => ?_⟩
  refine ⟨by rw [e9, e7]; exact T1.1, fun h10 e10 => K hw hh h10 ?_⟩
  have em : mstV (sOw l (oW l - 1 + 0) :: q) v.2.2.2 = v.2.2.2 := mstV_le (show hT l + (oW l - 1 + 0) ≤ v.2.2.2 by omega)
  rw [em]
  have ha := nI_nt hw.1
  have W10 : WR B h h10 da (L (ps c c.length)[0]?) c.length (sz h) (14, a, b) none none := by
    rw [e10, e9, e7]
    exact ((W1.pi _ (by omega) b1).pi _ (by omega) b1).pi _ (by omega) b1
  refine DNm.next D0 M0 hv e W10 rfl (show ¬ (14 : Int32) = 5 by decide) (show ¬ (14 : Int32) = 11 by decide) (by rw [lbO_none rfl (show ¬ (14 : Int32) = 5 by decide) rfl]; rfl) (fun z => absurd (show (14 : Int32) = 16 from z) (by decide)) (l' := sOw l (oW l - 1 + 0)) rfl ?_ ?_ ?_ ?_ (fun _ => ?_) ?_ ?_ ?_
  · rw [e10, gr_pi, e9, gr_pi, e7, gr_pi]
    exact E1.2.1 3 da b2 (by omega)
  · rw [e10, gi_ne (by decide), e9, gi_ne (by decide), e7, gi_ne (by decide)]
    exact E1.1 8 da b2 (by omega)
  · rw [e10, gi_ne (by decide), e9, gi_ne (by decide), e7, gi_eq]
    rfl
  · rw [e10, gi_ne (by decide), e9, gi_eq, nI_succ, ha]
  · rw [e10, gi_eq]
  · rw [e10, gi_ne (by decide), e9, gi_ne (by decide), e7, gi_ne (by decide), E1.1 133 fd b4 (by omega), m6]
  · rw [e10, gi_ne (by decide), e9, gi_ne (by decide), e7, gi_ne (by decide), E1.1 261 _ hq.2 (by omega)]
    exact (m7 0 l (get0 e)).1
  · intro u hu _
    rw [e10, gi_ne (by decide), e9, gi_ne (by decide), e7, gi_ne (by decide), E1.1 261 _ hu (by omega)]
theorem c_wEntry50 (D : DSt h x B da fd fp I L sg nm r c) (M : DNm h da fd L c v) (hv : vat sg nm r c c.length = some v) (e : v.1 = l :: q) (hB : BND v l) (hd : 0 < v.2.1) (hd2 : v.2.1 < 100) {t : Lb} (hk : v.1[nt a]? = some t) (K : ∀ h2, OUT B h h2 x da fd fp I L sg nm r c (6, a, b) (sz h) (if v.2.1 = 1 then (sDie l :: q, 0, some (wantL t), mstV (sDie l :: q) v.2.2.2) else (l :: q, v.2.1 - 1, some (wantL t), mstV (l :: q) v.2.2.2)) → Q (some (tI 1)) h2) : tX0_writeEntry_50 da a b (some (L (ps c c.length)[nt a]?)) h Q := by
  have T := DNm.top D M hv e
  have D0 := D
  have M0 := M
  obtain ⟨⟨d1, d2, d3, d4, d5, d6⟩, -, dL, -, -, ⟨b1, b2, b3, b4⟩, -, b5, -⟩ := D
  obtain ⟨m1, m2, m3, m4, m5, m6, m7⟩ := M
  have hq := b5 (ps c c.length)[0]? (vQ_ps (Nat.le_refl _))
  have hqk := b5 (ps c c.length)[nt a]? (vQ_ps (Nat.le_refl _))
  obtain ⟨l1, -⟩ := dL _ (vQ_ps (k := nt a) (Nat.le_refl c.length))
  have hB1 := hB.1
  have hmo := vat_most hv
  rw [e] at hmo
  have hmo : hT l + oW l ≤ v.2.2.2 := hmo
  refine wX0_writeEntry_50 da a b _ h Q ⟨d1, c_append d1 b2 d6 (fun h1 P1 => rR_of (dr_of rfl ⟨P1.2.2.2.1.1, fun h3 e3 => ?_⟩))⟩
  have E3 : EQ1 h h3 da := by rw [e3]; exact P1.eq1.pr (Nat.le_refl _) _
  have T3 := T.of E3 b2 hq.2
  have W3 : WR B h h3 da (L (ps c c.length)[0]?) c.length (sz h) (6, a, b) (some (L (ps c c.length)[nt a]?)) none := by rw [e3]; exact (P1.wr PRE.rf b1 b2).lab _
  refine dr_of rfl ⟨by rw [E3.2.2 _ hqk.2]; exact l1, c_wantedX D0 hv hk (E3.2.2 _ hqk.2) (fun f hf => E3.1 f _ hqk.2 (by omega)) (rI_of ⟨T3.1, fun h8 e8 => ?_⟩)⟩
  have T8 : TL h8 da (L (ps c c.length)[0]?) l := by
    obtain ⟨t1, t2, t3, t4, t5, t6, t7, t8⟩ := T3
    rw [e8]
    exact ⟨t1, t2, t3, by rw [gi_ne (by decide)]; exact t4, by rw [gi_ne (by decide)]; exact t5, by rw [gi_ne (by decide)]; exact t6, by rw [gi_ne (by decide)]; exact t7, by rw [gi_ne (by decide)]; exact t8⟩
  have g5 : gi h8 5 da = nI v.2.1 := by rw [e8, gi_ne (by decide), E3.1 5 da b2 (by omega)]; exact m4
  refine ⟨T8.1, T8.1, fun h9 e9 => ?_⟩
  obtain ⟨n0, en⟩ : ∃ n0, v.2.1 = n0 + 1 := ⟨v.2.1 - 1, by omega⟩
  rw [g5, en, nI_sub1] at e9
  have T9 : TL h9 da (L (ps c c.length)[0]?) l := by
    obtain ⟨t1, t2, t3, t4, t5, t6, t7, t8⟩ := T8
    rw [e9]
    exact ⟨t1, t2, t3, by rw [gi_ne (by decide)]; exact t4, by rw [gi_ne (by decide)]; exact t5, by rw [gi_ne (by decide)]; exact t6, by rw [gi_ne (by decide)]; exact t7, by rw [gi_ne (by decide)]; exact t8⟩
  have g59 : gi h9 5 da = nI n0 := by rw [e9, gi_eq]
  have W9 : WR B h h9 da (L (ps c c.length)[0]?) c.length (sz h) (6, a, b) (some (L (ps c c.length)[nt a]?)) none := by
    rw [e9, e8]
    exact (W3.pi _ (by omega) b1).pi _ (by omega) b1
  have hX : some (L (ps c c.length)[nt a]?) = (lbO (c ++ [(6, a, b)]) c.length).map L := by
    rw [lbO_br rfl (show ¬ (6 : Int32) = 5 by decide) rfl]
    rfl
  refine ⟨T9.1, ?_⟩
  rw [g59]
  by_cases c0 : n0 = 0
  · rw [if_pos (by rw [c0]; rfl)]
    rw [if_pos (by omega)] at K
    refine ⟨T9.1, c_die T9 (fun h10 e10 => rV_of (K h10 ?_))⟩
    have em : mstV (sDie l :: q) v.2.2.2 = v.2.2.2 := mstV_le (show hT l + 0 ≤ v.2.2.2 by omega)
    rw [em]
    have W10 : WR B h h10 da (L (ps c c.length)[0]?) c.length (sz h) (6, a, b) (some (L (ps c c.length)[nt a]?)) none := by
      rw [e10]
      exact (W9.pi _ (by omega) b1).pi _ (by omega) hq.1
    refine DNm.next D0 M0 hv e W10 rfl (show ¬ (6 : Int32) = 5 by decide) (show ¬ (6 : Int32) = 11 by decide) hX (fun z => absurd (show (6 : Int32) = 16 from z) (by decide)) (l' := sDie l) rfl ?_ ?_ ?_ ?_ (fun z => absurd z (by omega)) ?_ ?_ ?_
    · rw [e10, gr_pi, gr_pi, e9, gr_pi, e8, gr_pi]
      exact E3.2.1 3 da b2 (by omega)
    · rw [e10, gi_ne (by decide), gi_ne (by decide), e9, gi_ne (by decide), e8, gi_ne (by decide)]
      exact E3.1 8 da b2 (by omega)
    · rw [e10, gi_ne (by decide), gi_eq]
      rfl
    · rw [e10, gi_ne (by decide), gi_ne (by decide), g59, c0]
    · rw [e10, gi_ne (by decide), gi_ne (by decide), e9, gi_ne (by decide), e8, gi_ne (by decide), E3.1 133 fd b4 (by omega), m6]
    · rw [e10, gi_eq]
      rfl
    · intro u hu hne
      rw [e10, gi_na hne, gi_ne (by decide), e9, gi_ne (by decide), e8, gi_ne (by decide), E3.1 261 _ hu (by omega)]
  · rw [if_neg (nI_ne0 (by omega) (by omega))]
    rw [if_neg (by omega)] at K
    refine K h9 ?_
    have em : mstV (l :: q) v.2.2.2 = v.2.2.2 := mstV_le hmo
    rw [em]
    refine DNm.next D0 M0 hv e W9 rfl (show ¬ (6 : Int32) = 5 by decide) (show ¬ (6 : Int32) = 11 by decide) hX (fun z => absurd (show (6 : Int32) = 16 from z) (by decide)) (l' := l) rfl ?_ ?_ ?_ ?_ (fun _ => ?_) ?_ ?_ ?_
    · rw [e9, gr_pi, e8, gr_pi]
      exact E3.2.1 3 da b2 (by omega)
    · rw [e9, gi_ne (by decide), e8, gi_ne (by decide)]
      exact E3.1 8 da b2 (by omega)
    · exact T9.2.2.2.2.2.2.2
    · rw [g59, en]; rfl
    · rw [e9, gi_ne (by decide), e8, gi_eq]
    · rw [e9, gi_ne (by decide), e8, gi_ne (by decide), E3.1 133 fd b4 (by omega), m6]
    · exact T9.2.2.2.2.2.2.1
    · intro u hu hne
      rw [e9, gi_ne (by decide), e8, gi_ne (by decide), E3.1 261 _ hu (by omega)]
theorem c_wEntry (D : DSt h x B da fd fp I L sg nm r c) (M : DNm h da fd L c v) (hv : vat sg nm r c c.length = some v) (e : v.1 = l :: q) (hB : BND v l) (hd2 : v.2.1 < 100) (hw2 : ∀ n, v.2.2.1 = some n → n < 100) (K0 : ¬ 0 < v.2.1 ∨ entV v a = none → Q (some (tI 0)) h) (K : 0 < v.2.1 → ∀ v', entV v a = some v' → ∀ h2, OUT B h h2 x da fd fp I L sg nm r c (6, a, b) (sz h) v' → Q (some (tI 1)) h2) : tX0_writeEntry da a b h Q := by
  have T := DNm.top D M hv e
  have D0 := D
  have M0 := M
  obtain ⟨⟨d1, d2, d3, d4, d5, d6⟩, -, dL, -, -, ⟨b1, b2, b3, b4⟩, -, b5, -⟩ := D
  obtain ⟨m1, m2, m3, m4, m5, m6, m7⟩ := M
  have hB1 := hB.1
  refine wX0_writeEntry da a b h Q ⟨d1, c_labelAt D0 M0 hv (by rw [e]; exact List.cons_ne_nil _ _) (by have := hB.2.2.1; omega) (rR_of ⟨d1, ?_⟩)⟩
  rw [m4]
  by_cases hd : 0 < v.2.1
  case neg =>
    rw [if_neg (show ¬ (0 : Int32) < nI v.2.1 from nI_nlt (a := 0) (by omega) (by omega))]
    exact K0 (Or.inl hd)
  rw [if_pos (show (0 : Int32) < nI v.2.1 from nI_lt (a := 0) hd (by omega))]
  unfold entV at K0 K
  cases hl : labAt v.1 a with
  | none =>
    rw [hl] at K0
    dsimp only
    rw [if_pos rfl]
    exact K0 (Or.inr rfl)
  | some t =>
    rw [hl, e] at K0
    rw [hl] at K
    dsimp only at K0 K ⊢
    rw [if_neg (Option.some_ne_none _)]
    obtain ⟨ha0, hk⟩ := labAt_inv hl
    have hw := hB.want hk
    obtain ⟨l1, -⟩ := dL _ (vQ_ps (k := nt a) (Nat.le_refl c.length))
    refine dr_of rfl ⟨l1, c_wanted D0 hv hk (rI_of ⟨d1, c_has T (by omega) (by omega) (rI_of ?_)⟩)⟩
    have wrt : okE v.2.2.1 l t = true → tX0_writeEntry_50 da a b (some (L (ps c c.length)[nt a]?)) h Q := by
      intro ho
      refine c_wEntry50 D0 M0 hv e hB hd hd2 hk (fun h2 O => K hd _ ?_ h2 O)
      rw [e]
      dsimp only
      rw [if_pos ho]
      by_cases c1 : v.2.1 = 1
      · rw [if_pos c1, if_pos c1]
      · rw [if_neg c1, if_neg c1]
    have no : ¬ okE v.2.2.1 l t = true → Q (some (tI 0)) h := by
      intro ho
      rw [if_neg ho] at K0
      exact K0 (Or.inr rfl)
    by_cases hh : hasB l (wantL t) = true
    · rw [if_pos hh, if_neg (by decide)]
      refine ⟨d1, ?_⟩
      rw [m5 hd]
      cases hwn : v.2.2.1 with
      | none =>
        rw [hwn] at wrt
        dsimp only
        rw [if_pos (by decide)]
        exact wrt hh
      | some n =>
        have hn := hw2 n hwn
        rw [hwn] at wrt no
        dsimp only
        rw [if_neg (nI_n0 (by omega))]
        refine dr_of rfl ⟨l1, c_wanted D0 hv hk (rI_of ⟨d1, ?_⟩)⟩
        rw [m5 hd, hwn]
        dsimp only
        by_cases en : wantL t = n
        · rw [if_pos (by rw [en])]
          exact wrt (decide_eq_true en)
        · rw [if_neg (fun z => en ((nJ_inj (by omega) (by omega)).mp z))]
          exact no (by unfold okE; dsimp only; rw [decide_eq_true_iff]; exact en)
    · rw [if_neg hh, if_pos rfl]
      refine no (fun ho => hh ?_)
      cases hwn : v.2.2.1 with
      | none => rw [hwn] at ho; exact ho
      | some n =>
        rw [hwn] at ho
        have en : wantL t = n := of_decide_eq_true ho
        rw [en]
        exact ent_has hv hd hwn e
/-- take t, put p -/
theorem c_tk (D : DSt h x B da fd fp I L sg nm r c) (M : DNm h da fd L c v) (hv : vat sg nm r c c.length = some v) (e : v.1 = l :: q) (hB : BND v l) (E : EQ1 h h1 da) {t : Nat} (ht : t < 100) (K : ∀ h9, h9 = pi h1 4 da (nI (hT l + (oW l - t))) → Q none h9) : tg h1 da = some (.inl 0) ∧ tX0_take da (nI t) h1 Q := by
  have T := DNm.top D M hv e
  obtain ⟨-, -, -, -, -, ⟨b1, b2, b3, b4⟩, -, b5, -⟩ := D
  have hq := b5 (ps c c.length)[0]? (vQ_ps (Nat.le_refl _))
  have T8 := T.of E b2 hq.2
  have hB1 := hB.1
  exact ⟨T8.1, c_take T8 (by omega) (by omega) K⟩
theorem c_pt (D : DSt h x B da fd fp I L sg nm r c) (M : DNm h da fd L c v) (hv : vat sg nm r c c.length = some v) (e : v.1 = l :: q) (hB : BND v l) (hd : v.2.1 = 0) {y : Ic} {X Y : Option Nat} (W : WR B h h1 da (L (ps c c.length)[0]?) c.length (sz h) y X Y) (E : EQ1 h h1 da) (hb : isBg y.1 = false) (h5 : ¬ y.1 = 5) (h11 : ¬ y.1 = 11) (hX : X = (lbO (c ++ [y]) c.length).map L) (hY : y.1 = 16 → Y = some (fp (nt y.2.1))) {t p : Nat} {h9 : Hp} (e9 : h9 = pi h1 4 da (nI (hT l + (oW l - t)))) (hp : p < 100) (K : ∀ h2, OUT B h h2 x da fd fp I L sg nm r c y (sz h) (sOw l (oW l - t + p) :: q, 0, v.2.2.1, mstV (sOw l (oW l - t + p) :: q) v.2.2.2) → Q none h2) : tg h9 da = some (.inl 0) ∧ tX0_put da (nI p) h9 Q := by
  have T := DNm.top D M hv e
  have D0 := D
  obtain ⟨⟨d1, d2, d3, d4, d5, d6⟩, -, dL, -, -, ⟨b1, b2, b3, b4⟩, -, b5, -⟩ := D
  have hq := b5 (ps c c.length)[0]? (vQ_ps (Nat.le_refl _))
  have T8 := T.of E b2 hq.2
  have hB1 := hB.1
  have hB2 := hB.2.1
  refine ⟨by rw [e9]; exact T8.1, ?_⟩
  refine c_put (o' := hT l + (oW l - t)) (ms := v.2.2.2) (fd := fd) (by rw [e9]; exact T8.1) ?_ ?_ (by rw [e9, gi_eq]) ?_ (by omega) (by omega) (fun h3 e3 => K h3 (fin_T D0 M hv e W E hb h5 h11 hX hY e9 e3 hd))
  · rw [e9, gr_pi, E.2.1 1 da b2 (by omega)]; exact d3
  · rw [e9]; show tg h1 fd = _; rw [E.2.2 _ b4]; exact d4
  · rw [e9, gi_ne (by decide), E.1 133 fd b4 (by omega)]; exact M.2.2.2.2.2.1
end WW
