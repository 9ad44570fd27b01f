/-! THE CLASS WRITES, 8: a label ends; all of write -/
section WW
variable {h h1 : Hp} {x B da fd : Nat} {fp I : Nat → Nat} {L : Option Nat → Nat} {sg : List (Nat × Nat)} {nm r : Nat} {c : List Ic} {v : VS} {l : Lb} {q : List Lb} {o a b : Int32} {Q : Option TV → Hp → Prop}
/-- the function's last instruction is there, and nothing is flat yet -/
def FIN (B : Nat) (h h2 : Hp) (x da fd : Nat) (fp I : Nat → Nat) (L : Option Nat → Nat) (sg : List (Nat × Nat)) (nm r : Nat) (c : List Ic) (y : Ic) (ms : Nat) : Prop := FW B (sz h) h h2 ∧ (sz h2 ≤ sz h + 2 ∧ us h2 ≤ us h + 19) ∧ DSt h2 x B da fd fp (fun j => if j = c.length then sz h else I j) L sg nm r (c ++ [y]) ∧ gr h2 3 da = none ∧ gi h2 133 fd = nI ms
theorem c_wEnd38 (D : DSt h x B da fd fp I L sg nm r c) (M : DNm h da fd L c v) (hv : vat sg nm r c c.length = some v) (e : v.1 = l :: q) (hB : BND v l) (hd : v.2.1 = 0) (K1 : ∀ l2 q2, q = l2 :: q2 → ∀ h2, OUT B h h2 x da fd fp I L sg nm r c (11, a, b) (sz h) (sOw l2 (oW l2 + gV l) :: q2, 0, v.2.2.1, mstV (sOw l2 (oW l2 + gV l) :: q2) v.2.2.2) → Q (some (tI 1)) h2) (K2 : q = [] → ∀ h2, FIN B h h2 x da fd fp I L sg nm r c (11, a, b) v.2.2.2 → tX0_flatten da h2 (rV (fun h13 => Q (some (tI 1)) h13))) : tX0_writeEnd_38 da a b h Q := by
  have T := DNm.top D M hv e
  have D0 := D
  obtain ⟨⟨d1, d2, d3, d4, d5, d6⟩, -, dL, -, -, ⟨b1, b2, b3, b4⟩, -, b5, -, d16⟩ := D
  obtain ⟨m1, m2, m3, m4, m5, m6, m7⟩ := M
  have hq := b5 (ps c c.length)[0]? (vQ_ps (Nat.le_refl _))
  have hB1 := hB.1
  have hB2 := hB.2.1
  have hB4 := hB.2.2.2 l (by rw [e]; exact List.mem_cons_self)
  have hlen := vat_len hv (by rw [e]; exact List.cons_ne_nil _ _)
  obtain ⟨l1, l2, l3, l4, l5, l6, l7, l8, l9⟩ := dL _ (vQ_ps (k := 0) (Nat.le_refl c.length))
  refine wX0_writeEnd_38 da a b h Q ⟨d1, d1, c_append d1 b2 d6 (fun h1 P1 => rR_of (dr_of m1 ?_))⟩
  have E1 := P1.eq1
  obtain ⟨f1, f2, f3, f4, f5, f6, f7, f8⟩ := TL.of T E1 b2 hq.2
  have W1 : WR B h h1 da (L (ps c c.length)[0]?) c.length (sz h) (11, a, b) none none := P1.wr PRE.rf b1 b2
  refine ⟨f3, fun h3 e3 => dr_of m1 ⟨by rw [e3]; exact f3, by rw [e3]; exact f1, fun h6 e6 => dr_of m1 ⟨by rw [e6, e3]; exact f3, by rw [e6, e3]; exact f1, fun h8 e8 => ?_⟩⟩⟩
  have g59 : gi h3 259 (L (ps c c.length)[0]?) = nI (hT l) := by rw [e3, gi_pr]; exact f6
  rw [g59] at e6
  have g60 : gr h6 260 (L (ps c c.length)[0]?) = ((ps c c.length)[0]?).map (fun p => L (ps c p)[0]?) := by
    rw [e6, gr_pi, e3, gr_ne (by decide), E1.2.1 260 _ hq.2 (by omega)]
    exact l6
  rw [g60] at e8
  refine ⟨by rw [e8, e6, e3]; exact f1, by rw [e8, e6, e3]; exact f1, fun h9 e9 => ?_⟩
  have g88 : gi h8 8 da = nI v.1.length := by rw [e8, gi_pr, e6, gi_ne (by decide), e3, gi_pr, E1.1 8 da b2 (by omega)]; exact m2
  have g93 : gr h9 3 da = ((ps c c.length)[0]?).map (fun p => L (ps c p)[0]?) := by rw [e9, gr_pi, e8, gr_eq]
  rw [g88, hlen, nI_sub1] at e9
  have W9 : WR B h h9 da (L (ps c c.length)[0]?) c.length (sz h) (11, a, b) none none := by
    rw [e9, e8, e6, e3]
    exact (((W1.pr _ hq.1 (Or.inr (Or.inr ⟨rfl, Or.inr ⟨rfl, rfl⟩⟩))).pi _ (by omega) b1).pr _ b1 (Or.inl rfl)).pi _ (by omega) b1
  have g264 : gr h9 264 (L (ps c c.length)[0]?) = some (sz h) := by rw [e9, gr_pi, e8, gr_ne (by decide), e6, gr_pi, e3, gr_eq]
  have old := (m7 0 l (get0 e)).2.1
  have app : ∀ {h2 : Hp}, WR B h h2 da (L (ps c c.length)[0]?) c.length (sz h) (11, a, b) none none → gr h2 264 (L (ps c c.length)[0]?) = some (sz h) → DSt h2 x B da fd fp (fun j => if j = c.length then sz h else I j) L sg nm r (c ++ [(11, a, b)]) := by
    intro h2 W2 g2
    exact D0.app (W2.sw (fun z => absurd (show (11 : Int32) = 5 from z) (by decide)) (fun _ => g2)) (fun _ _ => rfl) (fun z => absurd (show (11 : Int32) = 5 from z) (by decide)) (fun _ => old) (by rw [lbO_none rfl (show ¬ (11 : Int32) = 5 by decide) rfl]; rfl) (fun z => absurd (show (11 : Int32) = 16 from z) (by decide)) (fun z => by cases z)
  refine ⟨by rw [e9, e8, e6, e3]; exact f1, ?_⟩
  rw [g93]
  rw [e] at hlen
  have g9133 : gi h9 133 fd = nI v.2.2.2 := by rw [e9, gi_ne (by decide), e8, gi_pr, e6, gi_ne (by decide), e3, gi_pr, E1.1 133 fd b4 (by omega)]; exact m6
  cases q with
  | nil =>
    have hps : ps c c.length = [] := by simp at hlen; exact hlen
    rw [hps]
    rw [if_pos (show (([] : List Nat)[0]?).map (fun p => L (ps c p)[0]?) = none from rfl)]
    refine ⟨by rw [e9, e8, e6, e3]; exact f1, K2 rfl h9 ⟨W9.2.2.1, W9.2.1, app W9 g264, ?_, g9133⟩⟩
    rw [g93, hps]
    rfl
  | cons l2' q2 =>
    have hp0 : 0 < (ps c c.length).length := by simp at hlen; omega
    have hx := List.getElem?_eq_getElem hp0
    have hpb := ps_below hx
    have eo : ((ps c c.length)[0]?).map (fun p => L (ps c p)[0]?) = some (L (ps c c.length)[1]?) := by
      rw [hx]
      show some (L (ps c (ps c c.length)[0])[0]?) = _
      rw [← hpb, List.getElem?_drop]
    rw [eo, if_neg (Option.some_ne_none _)]
    have g958 : gi h9 258 (L (ps c c.length)[0]?) = nI (gV l) := by rw [e9, gi_ne (by decide), e8, gi_pr, e6, gi_ne (by decide), e3, gi_pr]; exact f5
    refine dr_of m1 ⟨by rw [e9, e8, e6, e3]; exact f3, by rw [e9, e8, e6, e3]; exact f1, ?_⟩
    rw [g958]
    refine c_put (o' := hT l) (ms := v.2.2.2) (fd := fd) (by rw [e9, e8, e6, e3]; exact f1) ?_ ?_ ?_ g9133 (by omega) (by omega) (fun h10 e10 => rV_of (K1 l2' q2 rfl h10 ?_))
    · rw [e9, gr_pi, e8, gr_ne (by decide), e6, gr_pi, e3, gr_ne (by decide), E1.2.1 1 da b2 (by omega)]; exact d3
    · rw [e9, e8, e6, e3]; show tg h1 fd = _; rw [E1.2.2 _ b4]; exact d4
    · rw [e9, gi_ne (by decide), e8, gi_pr, e6, gi_eq]
    have W10 : WR B h h10 da (L (ps c c.length)[0]?) c.length (sz h) (11, a, b) none none := by
      rw [e10]
      exact (W9.pi _ (by omega) b1).pi _ (by omega) b3
    have g10 : gr h10 264 (L (ps c c.length)[0]?) = some (sz h) := by rw [e10]; exact g264
    refine ⟨W10.2.2.1, W10.2.1, app W10 g10, ?_⟩
    have hch := vat_chain hv
    rw [e] at hch
    have hch : hT l = hT l2' + oW l2' := hch.1
    have eps : ps (c ++ [(11, a, b)]) (c ++ [(11, a, b)]).length = (ps c c.length).tail := by
      rw [len_sn, ps_end (by rw [oA_en]), ps_sn (Nat.le_refl _)]
    have tl : ∀ k : Nat, (ps c c.length).tail[k]? = (ps c c.length)[k + 1]? := fun k => by
      rw [← List.drop_one, List.getElem?_drop, Nat.add_comm]
    unfold DNm
    rw [eps]
    refine ⟨?_, ?_, ?_, ?_, fun z => absurd z (Nat.lt_irrefl 0), ?_, fun k lk hk => ?_⟩
    · rw [tl, e10, gr_pi, gr_pi, g93, eo]
    · rw [e10, gi_ne (by decide), gi_ne (by decide), e9, gi_eq]
      simp at hlen
      show _ = nI (q2.length + 1)
      rw [← hlen]
    · rw [e10, gi_ne (by decide), gi_eq]
      show nI (hT l + gV l) = nI (hT l2' + (oW l2' + gV l))
      rw [hch, Nat.add_assoc]
    · rw [e10, gi_ne (by decide), gi_ne (by decide), e9, gi_ne (by decide), e8, gi_pr, e6, gi_ne (by decide), e3, gi_pr, E1.1 5 da b2 (by omega), m4, hd]
    · rw [e10, gi_eq]
      show nI (if v.2.2.2 < hT l + gV l then hT l + gV l else v.2.2.2) = nI (if v.2.2.2 < hT l2' + (oW l2' + gV l) then hT l2' + (oW l2' + gV l) else v.2.2.2)
      rw [hch, Nat.add_assoc]
    · rw [tl]
      have hqk := b5 (ps c c.length)[k + 1]? (vQ_ps (Nat.le_refl _))
      have oldk : ∃ l3, v.1[k + 1]? = some l3 ∧ dD l3 = dD lk ∧ bY l3 = bY lk := by
        cases k with
        | zero =>
          have hk : some (sOw l2' (oW l2' + gV l)) = some lk := hk
          cases hk
          exact ⟨l2', by rw [e]; rfl, rfl, rfl⟩
        | succ k =>
          have hk : q2[k]? = some lk := hk
          exact ⟨lk, by rw [e]; exact hk, rfl, rfl⟩
      obtain ⟨l3, o1, o2, o3⟩ := oldk
      have hkl : k + 1 < v.1.length := (List.getElem?_eq_some_iff.mp o1).1
      rw [e] at hkl
      have hne : L (ps c c.length)[k + 1]? ≠ L (ps c c.length)[0]? := fun z => ps_dist (by omega) (by omega) (d16 _ _ (vQ_ps (Nat.le_refl _)) (vQ_ps (Nat.le_refl _)) z)
      obtain ⟨n1, n2, n3⟩ := m7 (k + 1) l3 o1
      rw [o2] at n1
      rw [o3] at n3
      have gro : ∀ f, f = 263 ∨ f = 264 → gr h10 f (L (ps c c.length)[k + 1]?) = gr h f (L (ps c c.length)[k + 1]?) := fun f hf => W10.2.2.2.2.2.2 f _ hqk.2 (by omega) (fun z => hne z.1)
      rw [gro 263 (Or.inl rfl), gro 264 (Or.inr rfl)]
      refine ⟨?_, n2, n3⟩
      rw [e10, gi_ne (by decide), gi_ne (by decide), e9, gi_ne (by decide), e8, gi_pr, e6, gi_ne (by decide), e3, gi_pr, E1.1 261 _ hqk.2 (by omega)]
      exact n1
theorem c_wEnd (D : DSt h x B da fd fp I L sg nm r c) (M : DNm h da fd L c v) (hv : vat sg nm r c c.length = some v) (e : v.1 = l :: q) (hB : BND v l) (hd : v.2.1 = 0) (K0 : ¬ (doneB l = true ∧ ¬ (bY l = 4 ∧ ¬ tK l = gV l)) → Q (some (tI 0)) h) (K1 : (doneB l = true ∧ ¬ (bY l = 4 ∧ ¬ tK l = gV l)) → ∀ l2 q2, q = l2 :: q2 → ∀ h2, OUT B h h2 x da fd fp I L sg nm r c (11, a, b) (sz h) (sOw l2 (oW l2 + gV l) :: q2, 0, v.2.2.1, mstV (sOw l2 (oW l2 + gV l) :: q2) v.2.2.2) → Q (some (tI 1)) h2) (K2 : (doneB l = true ∧ ¬ (bY l = 4 ∧ ¬ tK l = gV l)) → q = [] → ∀ h2, FIN B h h2 x da fd fp I L sg nm r c (11, a, b) v.2.2.2 → tX0_flatten da h2 (rV (fun h13 => Q (some (tI 1)) h13))) : tX0_writeEnd da a b h Q := by
  have T := DNm.top D M hv e
  have hB1 := hB.1
  have hB4 := hB.2.2.2 l (by rw [e]; exact List.mem_cons_self)
  refine wX0_writeEnd da a b h Q ⟨T.1, c_just T (by omega) (by omega) (rI_of ?_)⟩
  by_cases cd : doneB l = true
  case neg =>
    rw [if_neg cd, if_pos rfl]
    exact K0 (fun z => cd z.1)
  rw [if_pos cd, if_neg (by decide)]
  refine ⟨T.1, dr_of T.2.1 ⟨T.2.2.1, c_mayTurn D M hv e (rI_of ?_)⟩⟩
  by_cases c4 : bY l = 4
  · rw [if_pos c4, if_neg (by decide)]
    refine ⟨T.1, dr_of T.2.1 ⟨T.2.2.1, T.1, dr_of T.2.1 ⟨T.2.2.1, ?_⟩⟩⟩
    rw [T.2.2.2.1, T.2.2.2.2.1]
    by_cases ct : tK l = gV l
    · rw [if_pos (by rw [ct])]
      have ok : doneB l = true ∧ ¬ (bY l = 4 ∧ ¬ tK l = gV l) := ⟨cd, fun z => z.2 ct⟩
      exact c_wEnd38 D M hv e hB hd (K1 ok) (K2 ok)
    · rw [if_neg (fun z => ct ((nJ_inj (by omega) (by omega)).mp z))]
      exact K0 (fun z => z.2 ⟨c4, ct⟩)
  · rw [if_neg c4, if_pos rfl]
    have ok : doneB l = true ∧ ¬ (bY l = 4 ∧ ¬ tK l = gV l) := ⟨cd, fun z => c4 z.1⟩
    exact c_wEnd38 D M hv e hB hd (K1 ok) (K2 ok)
theorem c_write (D : DSt h x B da fd fp I L sg nm r c) (M : DNm h da fd L c v) (G : CGp h x fp fd sg nm) (hv : vat sg nm r c c.length = some v) (e : v.1 = l :: q) (hB : BND v l) (hd2 : v.2.1 < 100) (hw2 : ∀ n, v.2.2.1 = some n → n < 100) (K0 : vstep sg nm v (o, a, b) = none → Q (some (tI 0)) h) (K1 : ∀ h2 v' A L', vstep sg nm v (o, a, b) = some v' → v'.1 ≠ [] → OUT B h h2 x da fd fp I L' sg nm r c (o, a, b) A v' → Q (some (tI 1)) h2) (K2 : ∀ v', vstep sg nm v (o, a, b) = some v' → v'.1 = [] → ∀ h2, FIN B h h2 x da fd fp I L sg nm r c (o, a, b) v'.2.2.2 → tX0_flatten da h2 (rV (fun h13 => Q (some (tI 1)) h13))) : tX0_write da o a b h Q := by
  have fm : ∀ h2, tX0_flatten da h2 (rV (fun h13 => Q (some (tI 1)) h13)) → tX0_flatten da h2 (rV (fun h13 => rI (fun x_2 h_1 => ((x_2 = 0 ∨ x_2 = 1) ∧ Q (some (tI x_2)) h_1)) (some (tI 1)) h13)) := fun h2 k => T.mono k (fun r' h' hr => ⟨hr.1, rI_of ⟨Or.inr rfl, hr.2⟩⟩)
  have T := DNm.top D M hv e
  have hne : v.1 ≠ [] := by rw [e]; exact List.cons_ne_nil _ _
  have m4 : gi h 5 da = nI v.2.1 := M.2.2.2.1
  refine wX0_write da o a b h Q ⟨T.1, ?_⟩
  rw [if_neg (by rw [T.2.1]; exact Option.some_ne_none _)]
  refine ⟨T.1, ?_⟩
  rw [m4]
  -- the end of each write
  have w0 : vstep sg nm v (o, a, b) = none → rI (fun x_2 h_1 => ((x_2 = 0 ∨ x_2 = 1) ∧ Q (some (tI x_2)) h_1)) (some (tI 0)) h := fun z => rI_of ⟨Or.inl rfl, K0 z⟩
  have w1 : ∀ h2 v' A L', vstep sg nm v (o, a, b) = some v' → v'.1 ≠ [] → OUT B h h2 x da fd fp I L' sg nm r c (o, a, b) A v' → rI (fun x_2 h_1 => ((x_2 = 0 ∨ x_2 = 1) ∧ Q (some (tI x_2)) h_1)) (some (tI 1)) h2 := fun h2 v' A L' z1 z2 z3 => rI_of ⟨Or.inr rfl, K1 h2 v' A L' z1 z2 z3⟩
  by_cases hd : 0 < v.2.1
  · rw [if_pos (show (0 : Int32) < nI v.2.1 from nI_lt (a := 0) hd (by omega))]
    have ev : vstep sg nm v (o, a, b) = if o = 6 then entV v a else none := by
      unfold vstep
      rw [if_pos hd]
    by_cases c6 : o = 6
    case neg =>
      rw [if_neg c6] at ev ⊢
      exact K0 ev
    rw [if_pos c6] at ev ⊢
    subst c6
    refine wX0_write_22 da 6 a b h Q ?_
    rw [if_neg (by decide), if_neg (by decide), if_neg (by decide), if_neg (by decide), if_neg (by decide), if_pos rfl]
    refine ⟨T.1, c_wEntry D M hv e hB hd2 hw2 (fun z => w0 (ev.trans (z.resolve_left (fun u => u hd)))) (fun _ v' hv' h2 O => w1 h2 v' _ _ (ev.trans hv') ?_ O)⟩
    unfold entV at hv'
    cases hl : labAt v.1 a with
    | none => rw [hl] at hv'; cases hv'
    | some t =>
      rw [hl, e] at hv'
      dsimp only at hv'
      split at hv'
      · split at hv'
        · cases hv'; exact List.cons_ne_nil _ _
        · cases hv'; exact List.cons_ne_nil _ _
      · cases hv'
  have hd : v.2.1 = 0 := by omega
  rw [if_neg (show ¬ (0 : Int32) < nI v.2.1 by rw [hd]; decide)]
  refine wX0_write_22 da o a b h Q ?_
  have ev0 : ¬ o = 6 → ¬ o = 14 → vstep sg nm v (o, a, b) = match vctl sg nm v.1 o a b with
      | some ls => some (ls, 0, v.2.2.1, mstV ls v.2.2.2)
      | none => none := by
    intro h6 h14
    unfold vstep
    rw [if_neg (by omega)]
    dsimp only
    rw [if_neg h6, if_neg h14]
    cases vctl sg nm v.1 o a b <;> rfl
  by_cases c0 : o = 0
  · subst c0
    rw [if_pos rfl]
    have ev : vstep sg nm v (0, a, b) = some (sDie l :: q, 0, v.2.2.1, mstV (sDie l :: q) v.2.2.2) := by
      rw [ev0 (by decide) (by decide)]
      unfold vctl
      rw [if_pos rfl, e]
      unfold endsV
      dsimp only
      rw [if_pos (by unfold hasB; simp)]
    exact ⟨T.1, c_wTrap D M hv e hd (fun h2 O => w1 h2 _ _ _ ev (List.cons_ne_nil _ _) O)⟩
  rw [if_neg c0]
  by_cases c2 : o = 2
  · rw [if_pos c2]
    exact ⟨T.1, c_wStart D M hv e hB hd (by rw [c2]; rfl) w0 w1⟩
  rw [if_neg c2]
  by_cases c3 : o = 3
  · rw [if_pos c3]
    exact ⟨T.1, c_wStart D M hv e hB hd (by rw [c3]; rfl) w0 w1⟩
  rw [if_neg c3]
  by_cases c4 : o = 4
  · rw [if_pos c4]
    exact ⟨T.1, c_wStart D M hv e hB hd (by rw [c4]; rfl) w0 w1⟩
  rw [if_neg c4]
  by_cases c5 : o = 5
  · subst c5
    rw [if_pos rfl]
    have ev : vstep sg nm v (5, a, b) = match (if bY l = 4 ∧ doneB l = true then some ((5, tK l, gV l, hT l, tK l, false) :: q) else none) with
        | some ls => some (ls, 0, v.2.2.1, mstV ls v.2.2.2)
        | none => none := by
      rw [ev0 (by decide) (by decide), e]
      rfl
    refine ⟨T.1, c_wElse D M hv e hB hd (fun z => w0 ?_) (fun z h2 O => w1 h2 _ _ _ ?_ (List.cons_ne_nil _ _) O)⟩
    · rw [ev, if_neg z]
    · rw [ev, if_pos z]
  rw [if_neg c5]
  by_cases c6 : o = 6
  · subst c6
    rw [if_pos rfl]
    have ev : vstep sg nm v (6, a, b) = none := by
      unfold vstep
      rw [if_neg (by omega)]
      rfl
    exact ⟨T.1, c_wEntry D M hv e hB hd2 hw2 (fun _ => w0 ev) (fun z => absurd z (by omega))⟩
  rw [if_neg c6]
  by_cases c11 : o = 11
  · subst c11
    rw [if_pos rfl]
    have ev : vstep sg nm v (11, a, b) = match (if doneB l = true ∧ ¬ (bY l = 4 ∧ ¬ tK l = gV l) then some (bump q (gV l)) else none) with
        | some ls => some (ls, 0, v.2.2.1, mstV ls v.2.2.2)
        | none => none := by
      rw [ev0 (by decide) (by decide), e]
      rfl
    refine ⟨T.1, c_wEnd D M hv e hB hd (fun z => w0 ?_) (fun z l2 q2 eq h2 O => w1 h2 _ _ _ ?_ (List.cons_ne_nil _ _) O) (fun z eq h2 F => ?_)⟩
    · rw [ev, if_neg z]
    · rw [ev, if_pos z, eq]
      rfl
    · have ev2 : vstep sg nm v (11, a, b) = some ([], 0, v.2.2.1, v.2.2.2) := by
        rw [ev, if_pos z, eq]
        rfl
      exact fm h2 (K2 _ ev2 rfl h2 F)
  rw [if_neg c11]
  by_cases c12 : o = 12
  · subst c12
    rw [if_pos rfl]
    have ev : vstep sg nm v (12, a, b) = match (match labAt v.1 a with
        | some t => (if hasB l (wantL t) = true then some (sDie l :: q) else none)
        | none => none) with
        | some ls => some (ls, 0, v.2.2.1, mstV ls v.2.2.2)
        | none => none := by
      rw [ev0 (by decide) (by decide), e]
      rfl
    refine ⟨T.1, c_labelAt D M hv hne (by have := hB.2.2.1; omega) (rR_of ⟨T.1, ?_⟩)⟩
    cases hl : labAt v.1 a with
    | none =>
      rw [hl] at ev
      refine wX0_writeBranch da 12 a b _ h _ ?_
      dsimp only
      rw [if_pos rfl]
      exact w0 ev
    | some t =>
      rw [hl] at ev
      obtain ⟨-, hk⟩ := labAt_inv hl
      refine c_wBranch D M hv e hB hd (Or.inl rfl) hk (by rw [lbO_br rfl (show ¬ (12 : Int32) = 5 by decide) rfl]; rfl) (fun z => w0 ?_) (fun z h2 O => w1 h2 _ _ _ ?_ (List.cons_ne_nil _ _) O)
      · rw [ev]
        dsimp only
        rw [if_neg z]
      · rw [ev]
        dsimp only
        rw [if_pos z]
  rw [if_neg c12]
  by_cases c13 : o = 13
  · subst c13
    rw [if_pos rfl]
    have ev : vstep sg nm v (13, a, b) = match (match labAt v.1 a with
        | some t => (if hasB l (1 + wantL t) = true then some (sOw l (oW l - (1 + wantL t) + wantL t) :: q) else none)
        | none => none) with
        | some ls => some (ls, 0, v.2.2.1, mstV ls v.2.2.2)
        | none => none := by
      rw [ev0 (by decide) (by decide), e]
      rfl
    refine ⟨T.1, c_wBranchIf D M hv e hB hd (fun z => w0 ?_) (fun t ht z h2 O => w1 h2 _ _ _ ?_ (List.cons_ne_nil _ _) O)⟩
    · rw [ev]
      cases hl : labAt v.1 a with
      | none => rfl
      | some t =>
        dsimp only
        rw [if_neg (z t hl)]
    · rw [ev, ht]
      dsimp only
      rw [if_pos z]
  rw [if_neg c13]
  by_cases c14 : o = 14
  · subst c14
    rw [if_pos rfl]
    have ev : vstep sg nm v (14, a, b) = if wi a 20 then (match (if hasB l 1 = true then some (sOw l (oW l - 1 + 0) :: q) else none) with
        | some ls => some (ls, nt a + 1, none, mstV ls v.2.2.2)
        | none => none) else none := by
      unfold vstep
      rw [if_neg (by omega), e]
      rfl
    refine ⟨T.1, c_wTable D M hv e hB (fun z => w0 ?_) (fun z1 z2 h2 O => w1 h2 _ _ _ ?_ (List.cons_ne_nil _ _) O)⟩
    · rw [ev]
      by_cases c20 : wi a 20
      · rw [if_pos c20, if_neg (fun u => z ⟨c20, u⟩)]
      · rw [if_neg c20]
    · rw [ev, if_pos z1, if_pos z2]
  rw [if_neg c14]
  by_cases c15 : o = 15
  · subst c15
    rw [if_pos rfl]
    obtain ⟨t, hk, hz, hwt⟩ := lastLb hv hne
    have hlg : lastG v.1 = wantL t := by
      have hlen := vat_len hv hne
      have el : v.1.getLast? = some t := by
        rw [List.getLast?_eq_getElem?, show v.1.length - 1 = (ps c c.length).length by omega]
        exact hk
      obtain ⟨-, -, a3, -⟩ := vat_last hv el
      unfold lastG
      rw [el]
      dsimp only
      rw [a3, hwt]
    have ev : vstep sg nm v (15, a, b) = match (if hasB l (wantL t) = true then some (sDie l :: q) else none) with
        | some ls => some (ls, 0, v.2.2.1, mstV ls v.2.2.2)
        | none => none := by
      rw [ev0 (by decide) (by decide), ← hlg, e]
      rfl
    have hlen := vat_len hv hne
    have hl3 := hB.2.2.1
    have m8 : gi h 8 da = nI v.1.length := M.2.1
    refine ⟨T.1, T.1, ?_⟩
    rw [m8, hlen, nI_sub1]
    refine c_labelAt D M hv hne (by omega) (rR_of ⟨T.1, ?_⟩)
    have hla : labAt v.1 (nI (ps c c.length).length) = some t := by
      unfold labAt
      rw [if_neg (nI_n0 (by omega)), show nt (nI (ps c c.length).length) = (ps c c.length).length from nck (by omega)]
      exact hk
    rw [hla]
    dsimp only
    rw [show nt (nI (ps c c.length).length) = (ps c c.length).length from nck (by omega)]
    refine c_wBranch D M hv e hB hd (Or.inr rfl) hk (by rw [lbO_br rfl (show ¬ (15 : Int32) = 5 by decide) rfl]; rfl) (fun z => w0 ?_) (fun z h2 O => w1 h2 _ _ _ ?_ (List.cons_ne_nil _ _) O)
    · rw [ev, if_neg z]
    · rw [ev, if_pos z]
  rw [if_neg c15]
  by_cases c16 : o = 16
  · subst c16
    rw [if_pos rfl]
    have ev : vstep sg nm v (16, a, b) = match (if a < 0 then none else match sg[nt a]? with
        | some s => (if hasB l s.1 = true then some (sOw l (oW l - s.1 + s.2) :: q) else none)
        | none => none) with
        | some ls => some (ls, 0, v.2.2.1, mstV ls v.2.2.2)
        | none => none := by
      rw [ev0 (by decide) (by decide), e]
      rfl
    refine ⟨T.1, c_wCall D M G hv e hB hd (fun z => w0 ?_) (fun s z1 z2 z3 h2 O => w1 h2 _ _ _ ?_ (List.cons_ne_nil _ _) O)⟩
    · rw [ev]
      by_cases ca : a < 0
      · rw [if_pos ca]
      · rw [if_neg ca]
        cases hs : sg[nt a]? with
        | none => rfl
        | some s =>
          dsimp only
          rw [if_neg (z s ca hs)]
    · rw [ev, if_neg z1, z2]
      dsimp only
      rw [if_pos z3]
  rw [if_neg c16]
  by_cases c17 : o = 17
  · subst c17
    rw [if_pos rfl]
    have ev : vstep sg nm v (17, a, b) = match (if wi a 8 ∧ wi b 8 then (if hasB l (1 + nt a) = true then some (sOw l (oW l - (1 + nt a) + nt b) :: q) else none) else none) with
        | some ls => some (ls, 0, v.2.2.1, mstV ls v.2.2.2)
        | none => none := by
      rw [ev0 (by decide) (by decide), e]
      rfl
    refine ⟨T.1, c_wCallT D M hv e hB hd (fun z => w0 ?_) (fun z1 z2 z3 h2 O => w1 h2 _ _ _ ?_ (List.cons_ne_nil _ _) O)⟩
    · rw [ev]
      by_cases ca : wi a 8 ∧ wi b 8
      · rw [if_pos ca, if_neg (fun u => z ⟨ca.1, ca.2, u⟩)]
      · rw [if_neg ca]
    · rw [ev, if_pos ⟨z1, z2⟩, if_pos z3]
  rw [if_neg c17]
  have hbg : isBg o = false := by
    unfold isBg
    rw [decide_eq_false c2, decide_eq_false c3, decide_eq_false c4]
    rfl
  have hbr : isBr o = false := by
    unfold isBr
    rw [decide_eq_false c12, decide_eq_false c13, decide_eq_false c15, decide_eq_false c6]
    rfl
  have ev : vstep sg nm v (o, a, b) = match (match (if o = 1 then some (0, 0) else arP o a nm) with
      | some t => (if hasB l t.1 = true then some (sOw l (oW l - t.1 + t.2) :: q) else none)
      | none => none) with
      | some ls => some (ls, 0, v.2.2.1, mstV ls v.2.2.2)
      | none => none := by
    rw [ev0 c6 c14]
    unfold vctl
    rw [if_neg c0]
    by_cases c1 : o = 1
    · rw [if_pos c1, if_pos c1, e]
      rfl
    · rw [if_neg c1, if_neg c1, if_neg (by rw [hbg]; decide), if_neg c5, if_neg c11, if_neg c12, if_neg c13, if_neg c15, if_neg c16, if_neg c17, e]
      rfl
  refine ⟨T.1, c_wPlain D M G hv e hB hd hbg c5 c11 hbr c16 (fun z => w0 ?_) (fun t z1 z2 h2 O => w1 h2 _ _ _ ?_ (List.cons_ne_nil _ _) O)⟩
  · rw [ev]
    cases ht : (if o = 1 then some (0, 0) else arP o a nm) with
    | none => rfl
    | some t =>
      dsimp only
      rw [if_neg (z t ht)]
  · rw [ev, z1]
    dsimp only
    rw [if_pos z2]
end WW
