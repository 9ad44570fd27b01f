/-! THE CLASS WRITES, 7: labels begin, turn, end -/
theorem vat_sn {sg : List (Nat × Nat)} {nm r : Nat} {c : List Ic} {v v' : VS} {y : Ic} (hv : vat sg nm r c c.length = some v) (hs : vstep sg nm v y = some v') : vat sg nm r (c ++ [y]) (c.length + 1) = some v' := by
  unfold vat
  rw [vat_app (Nat.le_refl _), hv]
  dsimp only
  rw [get_sn]
  exact hs
theorem lbO_bg {c : List Ic} {y : Ic} (h1 : isBg y.1 = true) : lbO (c ++ [y]) c.length = some (some c.length) := by
  unfold lbO
  rw [oA_en, h1, if_pos rfl]
theorem lbO_else {c : List Ic} {y : Ic} (h1 : y.1 = 5) : lbO (c ++ [y]) c.length = some (ps c c.length)[0]? := by
  unfold lbO
  rw [oA_en, h1, if_neg (by decide), if_pos rfl, ps_sn (Nat.le_refl _)]
theorem ps_nN {c : List Ic} {k : Nat} : (ps c c.length)[k]? ≠ some c.length := fun z => by
  have := (ps_lt z).1
  omega
section WW
variable {h h1 : Hp} {x B da fd : Nat} {fp I : Nat → Nat} {L : Option Nat → Nat} {sg : List (Nat × Nat)} {nm r : Nat} {c : List Ic} {v : VS} {l : Lb} {q : List Lb} {o a b : Int32} {Q : Option TV → Hp → Prop}
theorem c_wStart30 (D : DSt h x B da fd fp I L sg nm r c) (M : DNm h da fd L c v) (hv : vat sg nm r c c.length = some v) (e : v.1 = l :: q) (hB : BND v l) (hd : v.2.1 = 0) (hbg : isBg o = true) (wa : wi a 4) (wb : wi b 4) (hs : hasB l (blkN o (nt a)) = true → vstep sg nm v (o, a, b) = some ((nt o, nt a, nt b, hT l + (oW l - blkN o (nt a)), nt a, false) :: sOw l (oW l - blkN o (nt a)) :: q, 0, v.2.2.1, mstV ((nt o, nt a, nt b, hT l + (oW l - blkN o (nt a)), nt a, false) :: sOw l (oW l - blkN o (nt a)) :: q) v.2.2.2)) (K0 : ¬ hasB l (blkN o (nt a)) = true → Q (some (tI 0)) h) (K : hasB l (blkN o (nt a)) = true → ∀ h2, OUT B h h2 x da fd fp I (fun z => if z = some c.length then sz h else L z) sg nm r c (o, a, b) (sz h + 1) ((nt o, nt a, nt b, hT l + (oW l - blkN o (nt a)), nt a, false) :: sOw l (oW l - blkN o (nt a)) :: q, 0, v.2.2.1, mstV ((nt o, nt a, nt b, hT l + (oW l - blkN o (nt a)), nt a, false) :: sOw l (oW l - blkN o (nt a)) :: q) v.2.2.2) → Q (some (tI 1)) h2) : tX0_writeStart_30 da o a b (nI (blkN o (nt a))) h Q := by
  have T := DNm.top D M hv e
  have D0 := D
  have M0 := M
  obtain ⟨⟨d1, d2, d3, d4, d5, d6⟩, -, dL, -, -, ⟨b1, b2, b3, b4⟩, -, b5, -⟩ := D
  obtain ⟨m1, m2, m3, m4, m5, m6, m7⟩ := M
  have hq := b5 (ps c c.length)[0]? (vQ_ps (Nat.le_refl _))
  have hB1 := hB.1
  have hB2 := hB.2.1
  have a4 := ((wi_nI (d := 4) (by decide)).mp wa).2
  have ea := nI_nt wa.1
  have eb := nI_nt wb.1
  have hbl : blkN o (nt a) ≤ 5 := by unfold blkN; split <;> omega
  refine wX0_writeStart_30 da o a b _ h Q ⟨d1, c_has T (by omega) (by omega) (rI_of ?_)⟩
  by_cases hh : hasB l (blkN o (nt a)) = true
  case neg =>
    rw [if_neg hh, if_pos rfl]
    exact K0 hh
  rw [if_pos hh, if_neg (by decide)]
  have hs := hs hh
  have K := K hh
  generalize hk : blkN o (nt a) = k at *
  refine ⟨d1, c_take T (by omega) (by omega) (fun h3 e3 => rV_of (fun h5 A1 e5 eA => ?_))⟩
  have s3 : sz h3 = sz h := by rw [e3]; rfl
  rw [s3] at eA
  subst eA
  have hne : ∀ u, u < sz h → u ≠ sz h3 := fun u hu => by omega
  have t5 : ∀ u, u < sz h → tg h5 u = tg h u := fun u hu => by
    rw [e5, (nw_oth (hne u hu)).1, e3]; rfl
  have gi5 : ∀ f u, u < sz h → gi h5 f u = gi h3 f u := fun f u hu => by rw [e5, (nw_oth (hne u hu)).2.2.2.2.2.1 f]
  have gr5 : ∀ f u, u < sz h → gr h5 f u = gr h f u := fun f u hu => by rw [e5, (nw_oth (hne u hu)).2.2.2.2.2.2 f, e3]; rfl
  have tA : tg h5 (sz h) = some (.inl 4) := by rw [e5, tg_nw, if_pos s3.symm]
  have zA : ∀ f, gr h5 f (sz h) = none := fun f => by rw [e5, gr_nw, if_pos s3.symm]
  have zI : ∀ f, gi h5 f (sz h) = 0 := fun f => by rw [e5, gi_nw, if_pos s3.symm]
  have d5' : tg h5 da = some (.inl 0) := by rw [t5 da b2]; exact d1
  have g54 : gi h5 4 da = nI (hT l + (oW l - k)) := by rw [gi5 4 da b2, e3, gi_eq]
  have g53 : gr h5 3 da = some (L (ps c c.length)[0]?) := by rw [gr5 3 da b2]; exact m1
  refine ⟨d5', d5', ?_⟩
  rw [g54, g53]
  refine wX4_init _ _ _ _ _ _ h5 _ ⟨tA, fun i1 q1 => ?_⟩
  refine ⟨by rw [q1]; exact tA, fun i2 q2 => ?_⟩
  refine ⟨by rw [q2, q1]; exact tA, fun i3 q3 => ?_⟩
  refine ⟨by rw [q3, q2, q1]; exact tA, fun i4 q4 => ?_⟩
  refine ⟨by rw [q4, q3, q2, q1]; exact tA, fun h7 q5 => rV_of ?_⟩
  have sz7 : sz h7 = sz h + 1 := by rw [q5, q4, q3, q2, q1, e5, e3]; rfl
  have us7 : us h7 = us h + 9 := by rw [q5, q4, q3, q2, q1, e5, e3]; rfl
  have gi7 : ∀ f u, u < sz h → gi h7 f u = gi h3 f u := fun f u hu => by
    rw [q5, gi_pr, q4, gi_na (by omega), q3, gi_na (by omega), q2, gi_na (by omega), q1, gi_na (by omega)]
    exact gi5 f u hu
  have gr7 : ∀ f u, u < sz h → gr h7 f u = gr h f u := fun f u hu => by
    rw [q5, gr_na (by omega), q4, gr_pi, q3, gr_pi, q2, gr_pi, q1, gr_pi]
    exact gr5 f u hu
  have tg7 : ∀ u, tg h7 u = tg h5 u := fun u => by rw [q5, q4, q3, q2, q1]; rfl
  have F7 : FW B (sz h) h h7 := by
    rw [q5, q4, q3, q2, q1, e5, e3]
    exact (FW_pi (S := sz h) (B := B) _ (Or.inr ⟨b1, by omega⟩)).tr ((FW_nw (by show sz h ≤ sz h; omega)).tr ((FW_pi _ (Or.inl (Nat.le_refl _))).tr ((FW_pi _ (Or.inl (Nat.le_refl _))).tr ((FW_pi _ (Or.inl (Nat.le_refl _))).tr ((FW_pi _ (Or.inl (Nat.le_refl _))).tr (FW_pr _ (Or.inl (Nat.le_refl _))))))))
  have P7 : PRE B h h7 := ⟨F7, fun f u hu hf => by rw [gi7 f u hu, e3, gi_ne (fun z => hf (by unfold nF; omega))], gr7, by omega, by omega⟩
  have d7 : tg h7 da = some (.inl 0) := by rw [tg7]; exact d5'
  refine ⟨d7, c_append d7 (by omega) (by rw [gi7 7 da b2, e3, gi_ne (by decide)]; exact d6) (fun h9 P9 => rR_of ?_)⟩
  have neA : sz h ≠ sz h7 := by omega
  obtain ⟨p1, p2, p3, p4, p5, p6, p7⟩ := P9
  have W9 : WR B h h9 da (L (ps c c.length)[0]?) c.length (sz h7) (o, a, b) none none := AP.wr ⟨p1, p2, p3, p4, p5, p6, p7⟩ P7 b1 b2
  have tA9 : tg h9 (sz h) = some (.inl 4) := by rw [(p3 _ neA).1, tg7]; exact tA
  refine ⟨tA9, fun h11 e11 => ⟨by rw [e11]; exact tA9, ?_⟩⟩
  have g11 : gr h11 262 (sz h) = some (sz h7) := by rw [e11, gr_eq]
  refine dr_of g11 ⟨by rw [e11]; exact p4.1, fun h12 e12 => ?_⟩
  have d9 : tg h9 da = some (.inl 0) := by rw [(p3 _ (by omega)).1]; exact d7
  refine ⟨by rw [e12, e11]; exact d9, fun h14 e14 => ⟨by rw [e14, e12, e11]; exact d9, by rw [e14, e12, e11]; exact d9, fun h15 e15 => ⟨by rw [e15, e14, e12, e11]; exact d9, ?_⟩⟩⟩
  have g148 : gi h14 8 da = nI v.1.length := by rw [e14, gi_pr, e12, gi_pr, e11, gi_pr, p6 8 da (by omega) (by omega), gi7 8 da b2, e3, gi_ne (by decide)]; exact m2
  rw [g148, ← nI_succ] at e15
  have g154 : gi h15 4 da = nI (hT l + (oW l - k)) := by rw [e15, gi_ne (by decide), e14, gi_pr, e12, gi_pr, e11, gi_pr, p6 4 da (by omega) (by omega), gi7 4 da b2, e3, gi_eq]
  have g1533 : gi h15 133 fd = nI v.2.2.2 := by rw [e15, gi_ne (by decide), e14, gi_pr, e12, gi_pr, e11, gi_pr, p6 133 fd (by omega) (by omega), gi7 133 fd b4, e3, gi_ne (by decide)]; exact m6
  have g151 : gr h15 1 da = some fd := by rw [e15, gr_pi, e14, gr_ne (by decide), e12, gr_ne (by decide), e11, gr_ne (by decide), p7 1 da (by omega) (by omega), gr7 1 da b2]; exact d3
  have t15 : tg h15 fd = some (.inl 2) := by rw [e15, e14, e12, e11]; show tg h9 fd = _; rw [(p3 _ (by omega)).1, tg7, t5 fd b4]; exact d4
  rw [← ea]
  refine c_put (o' := hT l + (oW l - k)) (ms := v.2.2.2) (fd := fd) (by rw [e15, e14, e12, e11]; exact d9) g151 t15 g154 g1533 (by omega) (by omega) (fun h16 e16 => rV_of (K h16 ?_))
  have W16 : WR B h h16 da (L (ps c c.length)[0]?) c.length (sz h7) (o, a, b) (some (sz h)) none := by
    rw [e16, e15, e14, e12, e11]
    exact (((((W9.pr _ (by omega) (Or.inr (Or.inl ⟨rfl, Nat.le_refl _⟩))).lab _).pr _ b1 (Or.inl rfl)).pi _ (by omega) b1).pi _ (by omega) b1).pi _ (by omega) b3
  have n5 : ¬ o = 5 := fun z => by rw [z] at hbg; cases hbg
  have n11 : ¬ o = 11 := fun z => by rw [z] at hbg; cases hbg
  have n16 : ¬ o = 16 := fun z => by rw [z] at hbg; cases hbg
  have hL : ∀ z, vQ c z → (if z = some c.length then sz h else L z) = L z := fun z hz => if_neg (fun u => by
    rw [u] at hz
    exact absurd hz.1 (Nat.lt_irrefl _))
  have hv' := vat_sn hv hs
  have giS : ∀ f, ¬ nF f → gi h16 f (sz h) = gi h7 f (sz h) := fun f hf => by
    unfold nF at hf
    rw [e16, gi_ne (by omega), gi_ne (by omega), e15, gi_ne (by omega), e14, gi_pr, e12, gi_pr, e11, gi_pr, p6 f _ neA (by omega)]
  have gi261 : gi h16 261 (sz h) = 0 := by
    rw [e16, gi_ne (by omega), gi_ne (by omega), e15, gi_ne (by omega), e14, gi_pr, e12, gi_pr, e11, gi_pr, p6 261 _ neA (by omega), q5, gi_pr, q4, gi_ne (by decide), q3, gi_ne (by decide), q2, gi_ne (by decide), q1, gi_ne (by decide), zI]
  have grS : ∀ f, ¬ f = 262 → ¬ f = 3 → ¬ f = 196 → gr h16 f (sz h) = gr h7 f (sz h) := fun f hf hf3 hf6 => by
    rw [e16, gr_pi, gr_pi, e15, gr_pi, e14, gr_ne hf3, e12, gr_ne hf6, e11, gr_ne hf, p7 f _ neA (by omega)]
  have gr16 : ∀ f, f = 263 ∨ f = 264 → gr h16 f (sz h) = none := fun f hf => by
    rw [grS f (by omega) (by omega) (by omega), q5, gr_ne (by omega), q4, gr_pi, q3, gr_pi, q2, gr_pi, q1, gr_pi, zA]
  have DB : DLb h16 (fun j => if j = c.length then sz h7 else I j) (fun z => if z = some c.length then sz h else L z) sg nm r (c ++ [(o, a, b)]) (some c.length) := by
    unfold DLb
    dsimp only
    rw [if_pos rfl]
    refine ⟨?_, ?_, ?_, ?_, ?_, ?_, ?_, ?_, ?_⟩
    · rw [e16, e15, e14, e12, e11]; exact tA9
    · show _ = oA (c ++ [(o, a, b)]) c.length
      rw [oA_en, giS 256 (by unfold nF; decide), q5, gi_pr, q4, gi_ne (by decide), q3, gi_ne (by decide), q2, gi_ne (by decide), q1, gi_eq]
    · show _ = nI (nt (aA (c ++ [(o, a, b)]) c.length))
      rw [aA_en, giS 257 (by unfold nF; decide), q5, gi_pr, q4, gi_ne (by decide), q3, gi_ne (by decide), q2, gi_eq, ea]
    · show _ = nI (nt (bA (c ++ [(o, a, b)]) c.length))
      rw [bA_en, giS 258 (by unfold nF; decide), q5, gi_pr, q4, gi_ne (by decide), q3, gi_eq, eb]
    · unfold hgC
      dsimp only
      rw [hv', giS 259 (by unfold nF; decide), q5, gi_pr, q4, gi_eq]
      rfl
    · show _ = some (if (ps (c ++ [(o, a, b)]) c.length)[0]? = some c.length then sz h else L (ps (c ++ [(o, a, b)]) c.length)[0]?)
      rw [ps_sn (Nat.le_refl _), if_neg ps_nN, grS 260 (by decide) (by decide) (by decide), q5, gr_eq]
    · show _ = some (if c.length = c.length then sz h7 else I c.length)
      rw [if_pos rfl, e16, gr_pi, gr_pi, e15, gr_pi, e14, gr_ne (by decide), e12, gr_ne (by decide)]
      exact g11
    · intro u hu
      rw [gr16 263 (Or.inl rfl)] at hu
      cases hu
    · intro u hu
      rw [gr16 264 (Or.inr rfl)] at hu
      cases hu
  have DA : DSt h16 x B da fd fp (fun j => if j = c.length then sz h7 else I j) (fun z => if z = some c.length then sz h else L z) sg nm r (c ++ [(o, a, b)]) := by
    refine D0.app (W16.sw (fun z => absurd z n5) (fun z => absurd z n11)) hL (fun z => absurd z n5) (fun z => absurd z n11) ?_ (fun z => absurd z n16) (fun _ => ⟨?_, DB⟩)
    · rw [lbO_bg hbg]
      show some (sz h) = some (if some c.length = some c.length then sz h else L (some c.length))
      rw [if_pos rfl]
    · rw [if_pos rfl]
      have := W16.1
      omega
  rw [sz7] at DA
  refine ⟨W16.2.2.1, W16.2.1, DA, ?_⟩
  have eps : ps (c ++ [(o, a, b)]) (c ++ [(o, a, b)]).length = c.length :: ps c c.length := by
    rw [len_sn, ps_bg (by rw [oA_en]; exact hbg), ps_sn (Nat.le_refl _)]
  unfold DNm
  rw [eps]
  refine ⟨?_, ?_, ?_, ?_, fun z => absurd z (Nat.lt_irrefl 0), ?_, fun k2 l2 hk2 => ?_⟩
  · show _ = some (if some c.length = some c.length then sz h else L (some c.length))
    rw [if_pos rfl, e16, gr_pi, gr_pi, e15, gr_pi, e14, gr_eq]
  · rw [e16, gi_ne (by decide), gi_ne (by decide), e15, gi_eq, e]
    rfl
  · rw [e16, gi_ne (by decide), gi_eq]
    rfl
  · rw [e16, gi_ne (by decide), gi_ne (by decide), e15, gi_ne (by decide), e14, gi_pr, e12, gi_pr, e11, gi_pr, p6 5 da (by omega) (by omega), gi7 5 da b2, e3, gi_ne (by decide), m4, hd]
  · rw [e16, gi_eq]
    rfl
  · cases k2 with
    | zero =>
      have hk2 : some (nt o, nt a, nt b, hT l + (oW l - k), nt a, false) = some l2 := hk2
      cases hk2
      show gi h16 261 (if some c.length = some c.length then sz h else L (some c.length)) = 0 ∧ gr h16 264 (if some c.length = some c.length then sz h else L (some c.length)) = none ∧ (nt o = 5 ↔ ¬ gr h16 263 (if some c.length = some c.length then sz h else L (some c.length)) = none)
      rw [if_pos rfl]
      refine ⟨gi261, gr16 264 (Or.inr rfl), ?_⟩
      rw [gr16 263 (Or.inl rfl)]
      refine ⟨fun z => ?_, fun z => absurd rfl z⟩
      unfold isBg at hbg
      simp at hbg
      rcases hbg with u | u | u <;> rw [u] at z <;> exact absurd z (by decide)
    | succ k2 =>
      have hk2 : (sOw l (oW l - k) :: q)[k2]? = some l2 := hk2
      show gi h16 261 (if (ps c c.length)[k2]? = some c.length then sz h else L (ps c c.length)[k2]?) = _ ∧ gr h16 264 (if (ps c c.length)[k2]? = some c.length then sz h else L (ps c c.length)[k2]?) = none ∧ (bY l2 = 5 ↔ ¬ gr h16 263 (if (ps c c.length)[k2]? = some c.length then sz h else L (ps c c.length)[k2]?) = none)
      rw [if_neg ps_nN]
      have hqk := b5 (ps c c.length)[k2]? (vQ_ps (Nat.le_refl _))
      have old : ∃ l3, v.1[k2]? = some l3 ∧ dD l3 = dD l2 ∧ bY l3 = bY l2 := by
        cases k2 with
        | zero =>
          have hk2 : some (sOw l (oW l - k)) = some l2 := hk2
          cases hk2
          exact ⟨l, get0 e, rfl, rfl⟩
        | succ k3 =>
          have hk2 : q[k3]? = some l2 := hk2
          exact ⟨l2, by rw [e]; exact hk2, rfl, rfl⟩
      obtain ⟨l3, o1, o2, o3⟩ := old
      obtain ⟨n1, n2, n3⟩ := m7 k2 l3 o1
      rw [o2] at n1
      rw [o3] at n3
      have gro : ∀ f, f = 263 ∨ f = 264 → gr h16 f (L (ps c c.length)[k2]?) = gr h f (L (ps c c.length)[k2]?) := fun f hf => W16.2.2.2.2.2.2 f _ hqk.2 (by omega) (fun z => z.2.elim (fun u => n5 u.2) (fun u => n11 u.2))
      rw [gro 263 (Or.inl rfl), gro 264 (Or.inr rfl)]
      refine ⟨?_, n2, n3⟩
      rw [e16, gi_ne (by decide), gi_ne (by decide), e15, gi_ne (by decide), e14, gi_pr, e12, gi_pr, e11, gi_pr, p6 261 _ (by omega) (by omega), gi7 261 _ hqk.2, e3, gi_ne (by decide)]
      exact n1
theorem c_wStart (D : DSt h x B da fd fp I L sg nm r c) (M : DNm h da fd L c v) (hv : vat sg nm r c c.length = some v) (e : v.1 = l :: q) (hB : BND v l) (hd : v.2.1 = 0) (hbg : isBg o = true) (K0 : vstep sg nm v (o, a, b) = none → Q (some (tI 0)) h) (K : ∀ h2 v' A L', vstep sg nm v (o, a, b) = some v' → v'.1 ≠ [] → OUT B h h2 x da fd fp I L' sg nm r c (o, a, b) A v' → Q (some (tI 1)) h2) : tX0_writeStart da o a b h Q := by
  have ev : vstep sg nm v (o, a, b) = match (if wi a 4 ∧ wi b 4 then (if hasB l (blkN o (nt a)) = true then some ((nt o, nt a, nt b, hT l + (oW l - blkN o (nt a)), nt a, false) :: sOw l (oW l - blkN o (nt a)) :: q) else none) else none) with
      | some ls => some (ls, 0, v.2.2.1, mstV ls v.2.2.2)
      | none => none := by
    have h0 : ¬ o = 0 := fun z => by rw [z] at hbg; cases hbg
    have h1 : ¬ o = 1 := fun z => by rw [z] at hbg; cases hbg
    have h6 : ¬ o = 6 := fun z => by rw [z] at hbg; cases hbg
    have h14 : ¬ o = 14 := fun z => by rw [z] at hbg; cases hbg
    unfold vstep
    rw [if_neg (by omega)]
    dsimp only
    rw [if_neg h6, if_neg h14]
    unfold vctl
    rw [if_neg h0, if_neg h1, if_pos hbg, e]
    rfl
  refine wX0_writeStart da o a b h Q (c_within (rI_of ?_))
  by_cases wa : wi a 4
  case neg =>
    rw [if_neg wa, if_pos rfl]
    rw [if_neg (fun z => wa z.1)] at ev
    exact K0 ev
  rw [if_pos wa, if_neg (by decide)]
  refine c_within (rI_of ?_)
  by_cases wb : wi b 4
  case neg =>
    rw [if_neg wb, if_pos rfl]
    rw [if_neg (fun z => wb z.2)] at ev
    exact K0 ev
  rw [if_pos wb, if_neg (by decide)]
  rw [if_pos ⟨wa, wb⟩] at ev
  have go : tX0_writeStart_30 da o a b (nI (blkN o (nt a))) h Q := by
    refine c_wStart30 D M hv e hB hd hbg wa wb (fun hh => ?_) (fun hh => ?_) (fun hh h2 O => K h2 _ _ _ ?_ (List.cons_ne_nil _ _) O)
    · rw [if_pos hh] at ev
      exact ev
    · rw [if_neg hh] at ev
      exact K0 ev
    · rw [if_pos hh] at ev
      exact ev
  have ea := nI_nt wa.1
  by_cases c4 : o = 4
  · rw [if_pos c4]
    have eb : blkN o (nt a) = 1 + nt a := by unfold blkN; rw [if_pos c4]
    rw [eb, Nat.add_comm, nI_succ, ea] at go
    exact go
  · rw [if_neg c4]
    have eb : blkN o (nt a) = nt a := by unfold blkN; rw [if_neg c4]
    rw [eb, ea] at go
    exact go
theorem c_wElse (D : DSt h x B da fd fp I L sg nm r c) (M : DNm h da fd L c v) (hv : vat sg nm r c c.length = some v) (e : v.1 = l :: q) (hB : BND v l) (hd : v.2.1 = 0) (K0 : ¬ (bY l = 4 ∧ doneB l = true) → Q (some (tI 0)) h) (K : bY l = 4 ∧ doneB l = true → ∀ h2, OUT B h h2 x da fd fp I L sg nm r c (5, a, b) (sz h) ((5, tK l, gV l, hT l, tK l, false) :: q, 0, v.2.2.1, mstV ((5, tK l, gV l, hT l, tK l, false) :: q) v.2.2.2) → Q (some (tI 1)) h2) : tX0_writeElse da a b h Q := by
  have T := DNm.top D M hv e
  have D0 := D
  have M0 := M
  obtain ⟨⟨d1, d2, d3, d4, d5, d6⟩, -, dL, -, -, ⟨b1, b2, b3, b4⟩, -, b5, -, d16⟩ := D
  obtain ⟨m1, m2, m3, m4, m5, m6, m7⟩ := M
  have hq := b5 (ps c c.length)[0]? (vQ_ps (Nat.le_refl _))
  have hB1 := hB.1
  have hB2 := hB.2.1
  have hB4 := hB.2.2.2 l (by rw [e]; exact List.mem_cons_self)
  have hlen := vat_len hv (by rw [e]; exact List.cons_ne_nil _ _)
  obtain ⟨t1, t2, t3, t4, t5, t6, t7, t8⟩ := T
  refine wX0_writeElse da a b h Q ⟨d1, dr_of m1 ⟨t3, c_mayTurn D0 M0 hv e (rI_of ?_)⟩⟩
  by_cases c4 : bY l = 4
  case neg =>
    rw [if_neg c4, if_pos rfl]
    exact K0 (fun z => c4 z.1)
  rw [if_pos c4, if_neg (by decide)]
  refine ⟨d1, c_just ⟨t1, t2, t3, t4, t5, t6, t7, t8⟩ (by omega) (by omega) (rI_of ?_)⟩
  by_cases cd : doneB l = true
  case neg =>
    rw [if_neg cd, if_pos rfl]
    exact K0 (fun z => cd z.2)
  rw [if_pos cd, if_neg (by decide)]
  refine ⟨d1, d1, c_append d1 b2 d6 (fun h6 P6 => rR_of (dr_of m1 ?_))⟩
  have E6 := P6.eq1
  obtain ⟨f1, f2, f3, f4, f5, f6, f7, f8⟩ := TL.of ⟨t1, t2, t3, t4, t5, t6, t7, t8⟩ E6 b2 hq.2
  have W6 : WR B h h6 da (L (ps c c.length)[0]?) c.length (sz h) (5, a, b) none none := P6.wr PRE.rf b1 b2
  have tA := P6.2.2.2.1.1
  have ltA : L (ps c c.length)[0]? ≠ sz h := by omega
  refine ⟨f3, fun h8 e8 => ⟨by rw [e8]; exact f1, dr_of (show gr h8 3 da = some (L (ps c c.length)[0]?) by rw [e8, gr_ne (by decide)]; exact f2) ⟨by rw [e8]; exact f3, by rw [e8]; exact f1, dr_of (show gr h8 263 (L (ps c c.length)[0]?) = some (sz h) by rw [e8, gr_eq]) ⟨by rw [e8]; exact tA, fun h11 e11 => ?_⟩⟩⟩⟩
  have g83 : gr h8 3 da = some (L (ps c c.length)[0]?) := by rw [e8, gr_ne (by decide)]; exact f2
  rw [g83] at e11
  have g113 : gr h11 3 da = some (L (ps c c.length)[0]?) := by rw [e11, gr_ne (by decide)]; exact g83
  refine ⟨by rw [e11, e8]; exact f1, dr_of g113 ⟨by rw [e11, e8]; exact f3, fun h13 e13 => ?_⟩⟩
  have g133 : gr h13 3 da = some (L (ps c c.length)[0]?) := by rw [e13]; exact g113
  refine ⟨by rw [e13, e11, e8]; exact f1, dr_of g133 ⟨by rw [e13, e11, e8]; exact f3, by rw [e13, e11, e8]; exact f1, fun h16 e16 => ?_⟩⟩
  have g59 : gi h13 259 (L (ps c c.length)[0]?) = nI (hT l) := by rw [e13, gi_ne (by decide), e11, gi_pr, e8, gi_pr]; exact f6
  rw [g59] at e16
  refine ⟨by rw [e16, e13, e11, e8]; exact f1, dr_of (show gr h16 3 da = some (L (ps c c.length)[0]?) by rw [e16]; exact g133) ⟨by rw [e16, e13, e11, e8]; exact f3, by rw [e16, e13, e11, e8]; exact f1, ?_⟩⟩
  have g57 : gi h16 257 (L (ps c c.length)[0]?) = nI (tK l) := by rw [e16, gi_ne (by decide), e13, gi_ne (by decide), e11, gi_pr, e8, gi_pr]; exact f4
  rw [g57]
  refine c_put (o' := hT l) (ms := v.2.2.2) (fd := fd) (by rw [e16, e13, e11, e8]; exact f1) ?_ ?_ (by rw [e16, gi_eq]) ?_ (by omega) (by omega) (fun h18 e18 => rV_of (K ⟨c4, cd⟩ h18 ?_))
  · rw [e16, gr_pi, e13, gr_pi, e11, gr_ne (by decide), e8, gr_ne (by decide), E6.2.1 1 da b2 (by omega)]; exact d3
  · rw [e16, e13, e11, e8]; show tg h6 fd = _; rw [E6.2.2 _ b4]; exact d4
  · rw [e16, gi_ne (by decide), e13, gi_ne (by decide), e11, gi_pr, e8, gi_pr, E6.1 133 fd b4 (by omega)]; exact m6
  have W18 : WR B h h18 da (L (ps c c.length)[0]?) c.length (sz h) (5, a, b) (some (L (ps c c.length)[0]?)) none := by
    rw [e18, e16, e13, e11, e8]
    exact (((((W6.pr _ hq.1 (Or.inr (Or.inr ⟨rfl, Or.inl ⟨rfl, rfl⟩⟩))).lab _).pi _ (by omega) hq.1).pi _ (by omega) b1).pi _ (by omega) b1).pi _ (by omega) b3
  have g263 : gr h18 263 (L (ps c c.length)[0]?) = some (sz h) := by rw [e18, gr_pi, gr_pi, e16, gr_pi, e13, gr_pi, e11, gr_ne (by decide), e8, gr_eq]
  obtain ⟨n1, n2, n3⟩ := m7 0 l (get0 e)
  have old : gr h 263 (L (ps c c.length)[0]?) = none := Classical.byContradiction fun z => by
    have := n3.mpr z
    omega
  have DA := D0.app (W18.sw (fun _ => g263) (fun z => absurd (show (5 : Int32) = 11 from z) (by decide))) (fun _ _ => rfl) (fun _ => old) (fun z => absurd (show (5 : Int32) = 11 from z) (by decide)) (by rw [lbO_else rfl]; rfl) (fun z => absurd (show (5 : Int32) = 16 from z) (by decide)) (fun z => by cases z)
  refine ⟨W18.2.2.1, W18.2.1, DA, ?_⟩
  have eps : ps (c ++ [(5, a, b)]) (c ++ [(5, a, b)]).length = ps c c.length := by
    rw [len_sn, ps_oth (by rw [oA_en]; rfl) (by rw [oA_en]; exact (show ¬ (5 : Int32) = 11 by decide)), ps_sn (Nat.le_refl _)]
  unfold DNm
  rw [eps]
  refine ⟨?_, ?_, ?_, ?_, fun z => absurd z (Nat.lt_irrefl 0), ?_, fun k l2 hk => ?_⟩
  · rw [e18, gr_pi, gr_pi, e16]; exact g133
  · rw [e18, gi_ne (by decide), gi_ne (by decide), e16, gi_ne (by decide), e13, gi_ne (by decide), e11, gi_pr, e8, gi_pr, E6.1 8 da b2 (by omega), m2, e]; rfl
  · rw [e18, gi_ne (by decide), gi_eq]; rfl
  · rw [e18, gi_ne (by decide), gi_ne (by decide), e16, gi_ne (by decide), e13, gi_ne (by decide), e11, gi_pr, e8, gi_pr, E6.1 5 da b2 (by omega), m4, hd]
  · rw [e18, gi_eq]; rfl
  · cases k with
    | zero =>
      have hk : some (5, tK l, gV l, hT l, tK l, false) = some l2 := hk
      cases hk
      refine ⟨?_, ?_, fun _ => by rw [g263]; exact Option.some_ne_none _, fun _ => rfl⟩
      · rw [e18, gi_ne (by decide), gi_ne (by decide), e16, gi_ne (by decide), e13, gi_eq]; rfl
      · rw [W18.2.2.2.2.2.2 264 _ hq.2 (by decide) (fun z => z.2.elim (fun u => absurd u.1 (by decide)) (fun u => absurd (show (5 : Int32) = 11 from u.2) (by decide)))]
        exact n2
    | succ k =>
      have hk1 : q[k]? = some l2 := hk
      have hk2 : v.1[k + 1]? = some l2 := by rw [e]; exact hk1
      have hkl : k + 1 < v.1.length := (List.getElem?_eq_some_iff.mp hk2).1
      have hqk := b5 (ps c c.length)[k + 1]? (vQ_ps (Nat.le_refl _))
      have hne : L (ps c c.length)[k + 1]? ≠ L (ps c c.length)[0]? := fun z => ps_dist (by omega) (by omega) (d16 _ _ (vQ_ps (Nat.le_refl _)) (vQ_ps (Nat.le_refl _)) z)
      obtain ⟨k1, k2, k3⟩ := m7 (k + 1) l2 hk2
      have gro : ∀ f, f = 263 ∨ f = 264 → gr h18 f (L (ps c c.length)[k + 1]?) = gr h f (L (ps c c.length)[k + 1]?) := fun f hf => W18.2.2.2.2.2.2 f _ hqk.2 (by omega) (fun z => hne z.1)
      rw [gro 263 (Or.inl rfl), gro 264 (Or.inr rfl)]
      refine ⟨?_, k2, k3⟩
      rw [e18, gi_ne (by decide), gi_ne (by decide), e16, gi_ne (by decide), e13, gi_na hne, e11, gi_pr, e8, gi_pr, E6.1 261 _ hqk.2 (by omega)]
      exact k1
end WW
