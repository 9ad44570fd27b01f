/-! THE CLASS, 5: function -/
section CC
variable {h h' : Hp} {x : Nat} {fp : Nat → Nat} {ip : Nat → Nat → Nat} {P : List Fn} {D : Option Fn} {ac : Nat} {ar : VV} {tb : Nat → Option Nat} {s s' : RS} {st st' : Int32} {X : Ab} {Q : Option TV → Hp → Prop}
theorem c_fun32 {p r l : Int32} (hI : IV X) (C : CA h x X) (hw : wi p 8 ∧ wi r 8 ∧ wi l 8) (K : ∀ h', CW x h h' → CA h' x (aFun X p r l).2 → Q (some (aFun X p r l).1) h') : tX10_function_32 x p r l 1 h Q := by
  have C0 := C
  obtain ⟨fp, ip, Cg⟩ := C
  obtain ⟨P, D, ac, ar, tb, s, st⟩ := X
  obtain ⟨h1, h2, h3, h4, h5, h6⟩ := hI
  obtain ⟨CB0, ⟨C2, C3⟩, C4, ⟨C5, C6⟩, C7⟩ := Cg
  obtain ⟨⟨c, cz⟩, cp, cb, cq, c6, cr⟩ := id CB0
  unfold aFun at K
  dsimp only at K
  refine wX10_function_32 x p r l 1 h Q ⟨c.t9, ?_⟩
  cases D with
  | some d =>
    obtain ⟨B, da, I, L, e1, -⟩ := C7
    rw [if_neg (by rw [e1]; exact Option.some_ne_none _)]
    rw [if_pos (show (some d).isSome = true ∨ P.length = 40 ∨ ¬ (wi p 8 ∧ wi r 8 ∧ wi l 8) from Or.inl rfl)] at K
    exact K h CW.rf C0
  | none =>
    have C7 : gr h 580 x = none := C7
    have h2 : P.length ≤ 40 := h2
    have C2 : gi h 449 (x + 1) = nI P.length := C2
    rw [if_pos C7, if_neg (by decide)]
    intro k1 A e1 eA
    subst eA
    have b1 := ((wi_nI (d := 8) (by decide)).mp hw.1).2
    have b2 := ((wi_nI (d := 8) (by decide)).mp hw.2.1).2
    have b3 := ((wi_nI (d := 8) (by decide)).mp hw.2.2).2
    have ep := nI_nt hw.1.1
    have er := nI_nt hw.2.1.1
    have el := nI_nt hw.2.2.1
    have tA : tg k1 (sz h) = some (.inl 2) := by rw [e1, tg_nw, if_pos rfl]
    refine wX2_init _ _ _ _ k1 _ ⟨tA, fun k2 q2 => ⟨by rw [q2]; exact tA, fun k3 q3 => ⟨by rw [q3, q2]; exact tA, fun k4 q4 => ⟨by rw [q4, q3, q2]; exact tA, fun k5 q5 => rV_of ?_⟩⟩⟩⟩
    -- the heap with the function object alone
    have tg5 : ∀ a, a < sz h → tg k5 a = tg h a := fun a ha => by
      have z := (nw_oth (h := h) (t := .inl 2) (m := 7) (show a ≠ sz h by omega)).1
      rw [q5, q4, q3, q2, e1]
      exact z
    have ar5 : ∀ a, a < sz h → ai k5 a = ai h a ∧ al k5 a = al h a ∧ aq k5 a = aq h a := fun a ha => by
      obtain ⟨-, n2, n3, n4, -⟩ := nw_oth (h := h) (t := .inl 2) (m := 7) (show a ≠ sz h by omega)
      rw [q5, q4, q3, q2, e1]
      exact ⟨n2, n3, n4⟩
    have gi5 : ∀ f a, a < sz h → gi k5 f a = gi h f a := fun f a ha => by
      rw [q5, gi_na (by omega), q4, gi_na (by omega), q3, gi_na (by omega), q2, gi_na (by omega), e1]
      exact (nw_oth (show a ≠ sz h by omega)).2.2.2.2.2.1 f
    have gr5 : ∀ f a, a < sz h → gr k5 f a = gr h f a := fun f a ha => by
      rw [q5, gr_pi, q4, gr_pi, q3, gr_pi, q2, gr_pi, e1]
      exact (nw_oth (show a ≠ sz h by omega)).2.2.2.2.2.2 f
    have sz5 : sz k5 = sz h + 1 := by rw [q5, q4, q3, q2, e1]; rfl
    have us5 : us k5 = us h + 7 := by rw [q5, q4, q3, q2, e1]; rfl
    have CB5 : CB k5 x fp ip P s st := CB0.of (A := fun a => a < sz h) h6 (fun a _ _ => by omega) (fun k g hk => cb k g hk) (by omega) tg5 (fun f a ha _ _ => gr5 f a ha) (fun f a ha _ _ _ _ => gi5 f a ha) (ar5 _ (by omega)).1 (ar5 _ (by omega)).2.1 (ar5 _ (by omega)).2.1 (ar5 _ (by omega)).2.2 (fun k _ => by rw [(ar5 _ (by omega)).2.2])
    have c5 : CS k5 x := CB5.1.1
    have g449 : gi k5 449 (x + 1) = nI P.length := by rw [gi5 _ _ (by omega)]; exact C2
    refine ⟨c5.t9, dr_of c5.r576 ⟨c5.t7, wX8_append (x + 1) _ k5 _ ⟨c5.t7, c5.t7, dr_of c5.r448 (al_of c5.t2 ?_)⟩⟩⟩
    rw [g449]
    by_cases c40 : P.length = 40
    · rw [if_neg (show ¬ nI P.length < Int32.ofNat 40 from nI_nlt (b := 40) (by omega) (by omega))]
      refine rI_of ?_
      rw [if_pos rfl]
      rw [if_pos (Or.inr (Or.inl c40))] at K
      refine K k5 ⟨⟨by omega, by omega, by omega⟩, tg5, fun a ha _ => ar5 a ha, fun f a ha _ _ => ⟨gi5 f a ha, gr5 f a ha⟩⟩ ⟨fp, ip, CB5, ⟨g449, by rw [gi5 _ _ (by omega)]; exact C3⟩, by rw [(ar5 _ (by omega)).2.2]; exact C4, ⟨by rw [gi5 _ _ (by omega)]; exact C5, by rw [(ar5 _ (by omega)).2.1]; exact C6⟩, ?_⟩
      show gr k5 580 x = none
      rw [gr5 _ _ (by omega)]
      exact C7
    rw [if_neg (show ¬ ((none : Option Fn).isSome = true ∨ P.length = 40 ∨ ¬ (wi p 8 ∧ wi r 8 ∧ wi l 8)) from fun z => by
      rcases z with z | z | z
      · cases z
      · exact c40 z
      · exact z hw)] at K
    dsimp only at K
    rw [if_pos (show nI P.length < Int32.ofNat 40 from nI_lt (b := 40) (by omega) (by decide))]
    have tA5 : tg k5 (sz h) = some (.inl 2) := by rw [q5, q4, q3, q2]; exact tA
    refine ⟨c5.t7, c5.t7, dr_of c5.r448 (ixa_of c5.t2 (by decide) (nI_in (by omega) (by decide)) (fun b hb => by cases hb; exact tA5) (fun k6 q6 => ?_))⟩
    rw [nck (by omega)] at q6
    have c6' : CS k6 x := by
      rw [q6]
      exact c5.of (fun _ _ _ => rfl) (fun _ _ _ _ _ _ => rfl) (funext fun i => by rw [aq_sq, if_neg (by omega)])
    refine ⟨c6'.t7, c6'.t7, fun k7 q7 => rI_of ?_⟩
    have g67 : gi k6 449 (x + 1) = nI P.length := by rw [q6]; exact g449
    rw [g67, ← nI_succ] at q7
    rw [if_neg (by decide)]
    intro k8 da e8 eda
    have sz7 : sz k7 = sz h + 1 := by rw [q7, q6]; exact sz5
    have us7 : us k7 = us h + 7 := by rw [q7, q6]; exact us5
    rw [sz7] at eda
    subst eda
    have c7 : CS k7 x := by rw [q7]; exact c6'
    have oth8 : ∀ a, a < sz h + 1 → a ≠ sz k7 := fun a ha => by omega
    have tg8 : ∀ a, a < sz h + 1 → tg k8 a = tg k5 a := fun a ha => by
      rw [e8, (nw_oth (oth8 a ha)).1, q7, q6]; rfl
    have tda : tg k8 (sz h + 1) = some (.inl 0) := by rw [e8, tg_nw, if_pos sz7.symm]
    have t9 : tg k8 x = some (.inl 9) := by rw [tg8 x (by omega)]; exact c5.t9
    have r576 : gr k8 576 x = some (x + 1) := by
      rw [e8, (nw_oth (oth8 x (by omega))).2.2.2.2.2.2 576]
      exact c7.r576
    refine ⟨t9, ?_⟩
    rw [r576]
    refine wX0_init _ _ _ k8 _ ⟨tda, fun k9 q9 => ⟨by rw [q9]; exact tda, fun k10 q10 => fun k11 lt e11 elt => ?_⟩⟩
    have sz10 : sz k10 = sz h + 2 := by rw [q10, q9, e8]; show sz k7 + 1 = _; omega
    have us10 : us k10 = us h + 16 := by rw [q10, q9, e8]; show us k7 + 9 = _; omega
    rw [sz10] at elt
    subst elt
    have oth11 : ∀ a, a < sz h + 2 → a ≠ sz k10 := fun a ha => by omega
    have tg11 : ∀ a, a < sz h + 2 → tg k11 a = tg k8 a := fun a ha => by
      rw [e11, (nw_oth (oth11 a ha)).1, q10, q9]; rfl
    have tlt : tg k11 (sz h + 2) = some (.inl 4) := by rw [e11, tg_nw, if_pos sz10.symm]
    have tA11 : tg k11 (sz h) = some (.inl 2) := by rw [tg11 _ (by omega), tg8 _ (by omega)]; exact tA5
    have gi8A : ∀ f, gi k8 f (sz h) = gi k5 f (sz h) := fun f => by
      rw [e8, (nw_oth (oth8 _ (by omega))).2.2.2.2.2.1 f, q7, gi_na (by omega), q6]; rfl
    have gi11A : ∀ f, gi k11 f (sz h) = gi k5 f (sz h) := fun f => by
      rw [e11, (nw_oth (oth11 _ (by omega))).2.2.2.2.2.1 f, q10, gi_pr, q9, gi_pr]
      exact gi8A f
    have g129 : gi k5 129 (sz h) = nI (nt r) := by rw [q5, gi_ne (by decide), q4, gi_ne (by decide), q3, gi_eq, er]
    have g128 : gi k5 128 (sz h) = nI (nt p) := by rw [q5, gi_ne (by decide), q4, gi_ne (by decide), q3, gi_ne (by decide), q2, gi_eq, ep]
    have g130 : gi k5 130 (sz h) = nI (nt l) := by rw [q5, gi_ne (by decide), q4, gi_eq, el]
    have g131 : gi k5 131 (sz h) = nI (nt p + nt l) := by
      rw [q5, gi_eq, ← nJ_add, ep, el]
    have gzA : ∀ f, f = 132 ∨ f = 133 → gi k5 f (sz h) = 0 := fun f hf => by
      rw [q5, gi_ne (by omega), q4, gi_ne (by omega), q3, gi_ne (by omega), q2, gi_ne (by omega), e1, gi_nw, if_pos rfl]
    refine dr_of rfl ⟨tA11, ?_⟩
    rw [gi11A, g129]
    refine wX4_init _ _ _ _ _ _ k11 _ ⟨tlt, fun i1 j1 => ⟨by rw [j1]; exact tlt, fun i2 j2 => ⟨by rw [j2, j1]; exact tlt, fun i3 j3 => ⟨by rw [j3, j2, j1]; exact tlt, fun i4 j4 => ⟨by rw [j4, j3, j2, j1]; exact tlt, fun k12 j5 => rV_of ?_⟩⟩⟩⟩⟩
    have tda12 : tg k12 (sz h + 1) = some (.inl 0) := by rw [j5, j4, j3, j2, j1]; show tg k11 _ = _; rw [tg11 _ (by omega)]; exact tda
    refine ⟨tda12, fun k13 q13 => ⟨by rw [q13]; exact tda12, fun k14 q14 => rV_of ?_⟩⟩
    have tg14 : ∀ a, tg k14 a = tg k11 a := fun a => by rw [q14, q13, j5, j4, j3, j2, j1]; rfl
    have t914 : tg k14 x = some (.inl 9) := by rw [tg14, tg11 x (by omega)]; exact t9
    refine ⟨t914, fun k15 q15 => ?_⟩
    -- all that lay below
    have lowT : ∀ a, a < sz h → tg k15 a = tg h a := fun a ha => by
      rw [q15]
      show tg k14 a = _
      rw [tg14, tg11 a (by omega), tg8 a (by omega), tg5 a ha]
    have lowI : ∀ f a, a < sz h → ¬ (f = 449 ∧ a = x + 1) → gi k15 f a = gi h f a := fun f a ha hf => by
      rw [q15, gi_pr, q14, gi_na (by omega), q13, gi_pr, j5, gi_pr, j4, gi_na (by omega), j3, gi_na (by omega), j2, gi_na (by omega), j1, gi_na (by omega), e11, (nw_oth (oth11 _ (by omega))).2.2.2.2.2.1 f, q10, gi_pr, q9, gi_pr, e8, (nw_oth (oth8 _ (by omega))).2.2.2.2.2.1 f, q7, gi_pi, if_neg hf, q6, gi_sq, gi5 f a ha]
    have lowR : ∀ f a, a < sz h → ¬ (f = 580 ∧ a = x) → gr k15 f a = gr h f a := fun f a ha hf => by
      rw [q15, gr_pr, if_neg hf, q14, gr_pi, q13, gr_na (by omega), j5, gr_na (by omega), j4, gr_pi, j3, gr_pi, j2, gr_pi, j1, gr_pi, e11, (nw_oth (oth11 _ (by omega))).2.2.2.2.2.2 f, q10, gr_na (by omega), q9, gr_na (by omega), e8, (nw_oth (oth8 _ (by omega))).2.2.2.2.2.2 f, q7, gr_pi, q6, gr_sq, gr5 f a ha]
    have lowA : ∀ a, a < sz h → ai k15 a = ai h a ∧ al k15 a = al h a ∧ (∀ i, ¬ (a = x + 2 ∧ i = P.length) → aq k15 a i = aq h a i) := fun a ha => by
      obtain ⟨-, u2, u3, u4, -⟩ := nw_oth (h := k10) (t := .inl 4) (m := 9) (oth11 a (by omega))
      obtain ⟨-, w2, w3, w4, -⟩ := nw_oth (h := k7) (t := .inl 0) (m := 9) (oth8 a (by omega))
      obtain ⟨z1, z2, z3⟩ := ar5 a ha
      have s1 : ai k15 a = ai k11 a ∧ al k15 a = al k11 a ∧ aq k15 a = aq k11 a := by rw [q15, q14, q13, j5, j4, j3, j2, j1]; exact ⟨rfl, rfl, rfl⟩
      have s2 : ai k10 a = ai k8 a ∧ al k10 a = al k8 a ∧ aq k10 a = aq k8 a := by rw [q10, q9]; exact ⟨rfl, rfl, rfl⟩
      have s3 : ai k7 a = ai k5 a ∧ al k7 a = al k5 a := by rw [q7, q6]; exact ⟨rfl, rfl⟩
      rw [← e11] at u2 u3 u4
      rw [← e8] at w2 w3 w4
      refine ⟨by rw [s1.1, u2, s2.1, w2, s3.1, z1], by rw [s1.2.1, u3, s2.2.1, w3, s3.2, z2], fun i hi => ?_⟩
      rw [s1.2.2, u4, s2.2.2, w4, q7, aq_pi, q6, aq_sq, if_neg hi, z3]
    have aqN : aq k15 (x + 2) P.length = some (sz h) := by
      obtain ⟨-, -, -, u4, -⟩ := nw_oth (h := k10) (t := .inl 4) (m := 9) (oth11 (x + 2) (by omega))
      obtain ⟨-, -, -, w4, -⟩ := nw_oth (h := k7) (t := .inl 0) (m := 9) (oth8 (x + 2) (by omega))
      rw [← e11] at u4
      rw [← e8] at w4
      have s1 : aq k15 (x + 2) = aq k11 (x + 2) := by rw [q15, q14, q13, j5, j4, j3, j2, j1]; rfl
      have s2 : aq k10 (x + 2) = aq k8 (x + 2) := by rw [q10, q9]; rfl
      rw [s1, u4, s2, w4, q7, aq_pi, q6, aq_sq, if_pos ⟨rfl, rfl⟩]
    have g15 : gi k15 449 (x + 1) = nI (P.length + 1) := by
      rw [q15, gi_pr, q14, gi_na (by omega), q13, gi_pr, j5, gi_pr, j4, gi_na (by omega), j3, gi_na (by omega), j2, gi_na (by omega), j1, gi_na (by omega), e11, (nw_oth (oth11 _ (by omega))).2.2.2.2.2.1 449, q10, gi_pr, q9, gi_pr, e8, (nw_oth (oth8 _ (by omega))).2.2.2.2.2.1 449, q7, gi_eq]
    have sz15 : sz k15 = sz h + 3 := by
      rw [q15, q14, q13, j5, j4, j3, j2, j1, e11]; show sz k10 + 1 = _; omega
    have us15 : us k15 = us h + 25 := by
      rw [q15, q14, q13, j5, j4, j3, j2, j1, e11]; show us k10 + 9 = _; omega
    have CB15 : CB k15 x fp ip P s st := CB0.of (A := fun a => a < sz h) h6 (fun a _ _ => by omega) (fun k g hk => cb k g hk) (by omega) lowT (fun f a ha h580 _ => lowR f a ha (fun z => h580 z.1)) (fun f a ha h449 _ _ _ => lowI f a ha (fun z => h449 z.1)) (lowA _ (by omega)).1 (lowA _ (by omega)).2.1 (lowA _ (by omega)).2.1 (funext fun i => (lowA _ (by omega)).2.2 i (by omega)) (fun k hk => (lowA _ (by omega)).2.2 k (by omega))
    have c15 := CB15.1.1
    refine ⟨c15.t9, dr_of c15.r576 ⟨c15.t7, ?_⟩⟩
    rw [g15, nI_sub1]
    refine K k15 ⟨⟨by omega, by omega, by omega⟩, lowT, fun a ha hn => ⟨(lowA a ha).1, (lowA a ha).2.1, funext fun i => (lowA a ha).2.2 i (by omega)⟩, fun f a ha hf _ => ⟨lowI f a ha (by omega), lowR f a ha (by omega)⟩⟩ ⟨fun k => if k = P.length then sz h else fp k, ip, ?_, ⟨?_, ?_⟩, ?_, ⟨?_, ?_⟩, ?_⟩
    · exact CB15.ext h1 h6 (fun k hk => ⟨if_neg (by omega), rfl⟩)
    · rw [g15]
      show nI (P.length + 1) = nI (P ++ [((nt p, nt r, nt l), ([] : List Ic))]).length
      rw [List.length_append]
      rfl
    · rw [lowI _ _ (by omega) (by omega)]; exact C3
    · intro j hj
      rw [(lowA _ (by omega)).2.2 j (by omega), C4 j hj]
      cases ht : tb j with
      | none => rfl
      | some f2 =>
        have := h5 j f2 ht
        show some (fp f2) = some (if f2 = P.length then sz h else fp f2)
        rw [if_neg (by omega)]
    · rw [lowI _ _ (by omega) (by omega)]; exact C5
    · rw [(lowA _ (by omega)).2.1]; exact C6
    · -- the draft
      have tq : ∀ a, a = sz h ∨ a = sz h + 1 ∨ a = sz h + 2 → tg k15 a = tg k11 a := fun a _ => by
        rw [q15]; show tg k14 a = _; rw [tg14]
      have gd : ∀ f, ¬ f = 8 → gi k15 f (sz h + 1) = 0 := fun f hf => by
        rw [q15, gi_pr, q14, gi_ne hf, q13, gi_pr, j5, gi_pr, j4, gi_na (by omega), j3, gi_na (by omega), j2, gi_na (by omega), j1, gi_na (by omega), e11, (nw_oth (oth11 _ (by omega))).2.2.2.2.2.1 f, q10, gi_pr, q9, gi_pr, e8, gi_nw, if_pos sz7.symm]
      have rd : ∀ f, ¬ f = 580 → ¬ f = 3 → gr k15 f (sz h + 1) = (if f = 1 then some (sz h) else if f = 0 then some (x + 1) else none) := fun f hf h3 => by
        rw [q15, gr_ne hf, q14, gr_pi, q13, gr_ne h3, j5, gr_na (by omega), j4, gr_pi, j3, gr_pi, j2, gr_pi, j1, gr_pi, e11, (nw_oth (oth11 _ (by omega))).2.2.2.2.2.2 f, q10, gr_pr]
        by_cases c1 : f = 1
        · rw [if_pos ⟨c1, rfl⟩, if_pos c1]
        · rw [if_neg (fun z => c1 z.1), if_neg c1, q9, gr_pr]
          by_cases c0 : f = 0
          · rw [if_pos ⟨c0, rfl⟩, if_pos c0]
          · rw [if_neg (fun z => c0 z.1), if_neg c0, e8, gr_nw, if_pos sz7.symm]
      have gA : ∀ f, gi k15 f (sz h) = gi k5 f (sz h) := fun f => by
        rw [q15, gi_pr, q14, gi_na (by omega), q13, gi_pr, j5, gi_pr, j4, gi_na (by omega), j3, gi_na (by omega), j2, gi_na (by omega), j1, gi_na (by omega)]
        exact gi11A f
      have gl : ∀ f, gi k15 f (sz h + 2) = (if f = 259 then 0 else if f = 258 then nI (nt r) else if f = 257 then 0 else if f = 256 then 2 else 0) := fun f => by
        rw [q15, gi_pr, q14, gi_na (by omega), q13, gi_pr, j5, gi_pr, j4, gi_pi]
        by_cases c9 : f = 259
        · rw [if_pos ⟨c9, rfl⟩, if_pos c9]
        rw [if_neg (fun z => c9 z.1), if_neg c9, j3, gi_pi]
        by_cases c8 : f = 258
        · rw [if_pos ⟨c8, rfl⟩, if_pos c8]
        rw [if_neg (fun z => c8 z.1), if_neg c8, j2, gi_pi]
        by_cases c7 : f = 257
        · rw [if_pos ⟨c7, rfl⟩, if_pos c7]
        rw [if_neg (fun z => c7 z.1), if_neg c7, j1, gi_pi]
        by_cases c6 : f = 256
        · rw [if_pos ⟨c6, rfl⟩, if_pos c6]
        rw [if_neg (fun z => c6 z.1), if_neg c6, e11, gi_nw, if_pos sz10.symm]
      have rl : ∀ f, ¬ f = 580 → ¬ f = 3 → gr k15 f (sz h + 2) = none := fun f hf h3 => by
        rw [q15, gr_ne hf, q14, gr_pi, q13, gr_ne h3, j5, gr_pr]
        by_cases c0 : f = 260
        · rw [if_pos ⟨c0, rfl⟩]
        rw [if_neg (fun z => c0 z.1), j4, gr_pi, j3, gr_pi, j2, gr_pi, j1, gr_pi, e11, gr_nw, if_pos sz10.symm]
      have g3 : gr k15 3 (sz h + 1) = some (sz h + 2) := by rw [q15, gr_ne (by decide), q14, gr_pi, q13, gr_eq]
      have efp : (if P.length = P.length then sz h else fp P.length) = sz h := if_pos rfl
      show ∃ B da I L, _
      refine ⟨sz h - 1, sz h + 1, fun _ => 0, fun _ => sz h + 2, ?_, by omega, fun k g hk => ?_, ?_, ?_, ?_, ?_⟩
      · rw [q15, gr_eq]
      · obtain ⟨o1, o2⟩ := cb k g hk
        have hk' := lt_of_get hk
        dsimp only
        rw [if_neg (by omega)]
        exact ⟨by omega, fun i hi => by have := o2 i hi; omega⟩
      · dsimp only
        rw [efp]
        exact aqN
      · dsimp only
        rw [efp, gA, gA, gA, gA, gA]
        exact ⟨g128, g129, g130, g131, gzA 132 (Or.inl rfl)⟩
      · dsimp only
        rw [efp]
        refine ⟨⟨?_, ?_, ?_, ?_, ?_, ?_⟩, fun j hj => absurd hj (Nat.not_lt_zero j), fun q hq => ?_, fun j hj => absurd hj (Nat.not_lt_zero j), fun j hj => absurd hj (Nat.not_lt_zero j), ⟨by omega, by omega, by omega, by omega⟩, fun j hj => absurd hj (Nat.not_lt_zero j), fun q _ => ⟨show sz h - 1 < sz h + 2 by omega, show sz h + 2 < sz k15 by omega⟩, fun j k hj => absurd hj (Nat.not_lt_zero j), fun q q' hq hq' _ => ?_⟩
        · rw [tq _ (by omega), tg11 _ (by omega)]; exact tda
        · rw [rd 0 (by decide) (by decide), if_neg (by decide), if_pos rfl]
        · rw [rd 1 (by decide) (by decide), if_pos rfl]
        · rw [tq _ (by omega)]; exact tA11
        · rw [rd 2 (by decide) (by decide), if_neg (by decide), if_neg (by decide)]; rfl
        · rw [gd 7 (by decide)]; rfl
        · cases q with
          | some p' => exact absurd hq.1 (Nat.not_lt_zero p')
          | none =>
            refine ⟨?_, ?_, ?_, ?_, ?_, ?_, ?_, fun a ha => ?_, fun a ha => ?_⟩
            · rw [tq (sz h + 2) (by omega)]; exact tlt
            · rw [gl 256]; rfl
            · rw [gl 257]; rfl
            · rw [gl 258]; rfl
            · rw [gl 259]; rfl
            · rw [rl 260 (by decide) (by decide)]; rfl
            · rw [rl 262 (by decide) (by decide)]; rfl
            · rw [rl 263 (by decide) (by decide)] at ha; cases ha
            · rw [rl 264 (by decide) (by decide)] at ha; cases ha
        · cases q with
          | some p' => exact absurd hq.1 (Nat.not_lt_zero p')
          | none =>
            cases q' with
            | some p' => exact absurd hq'.1 (Nat.not_lt_zero p')
            | none => rfl
      · intro v hv
        have hv : some ([(0, 0, nt r, 0, 0, false)], 0, none, 0) = some v := hv
        cases hv
        dsimp only
        rw [efp]
        refine ⟨g3, ?_, ?_, ?_, fun z => absurd z (Nat.lt_irrefl 0), ?_, fun k l' hk => ?_⟩
        · rw [q15, gi_pr, q14, gi_eq]; rfl
        · rw [gd 4 (by decide)]; rfl
        · rw [gd 5 (by decide)]; rfl
        · rw [gA, gzA 133 (Or.inr rfl)]; rfl
        · cases k with
          | succ k => exact absurd hk (by show ¬ ([] : List Lb)[k]? = some l'; simp)
          | zero =>
            have hk : some (0, 0, nt r, 0, 0, false) = some l' := hk
            cases hk
            refine ⟨?_, ?_, ?_⟩
            · rw [gl 261]; rfl
            · rw [rl 264 (by decide) (by decide)]
            · rw [rl 263 (by decide) (by decide)]
              exact ⟨fun z => absurd (show (0 : Nat) = 5 from z) (by decide), fun z => absurd rfl z⟩
theorem c_function {p r l : Int32} (hI : IV X) (C : CA h x X) (K : ∀ h', CW x h h' → CA h' x (aFun X p r l).2 → Q (some (aFun X p r l).1) h') : tX10_function x p r l h Q := by
  have no : ¬ (wi p 8 ∧ wi r 8 ∧ wi l 8) → tX10_function_31 x p r l h Q := by
    intro hn
    have C0 := C
    obtain ⟨fp, ip, Cg⟩ := C
    obtain ⟨P, D, ac, ar, tb, s, st⟩ := X
    obtain ⟨⟨⟨c, -⟩, -⟩, -⟩ := Cg
    unfold aFun at K
    dsimp only at K
    rw [if_pos (Or.inr (Or.inr hn))] at K
    refine wX10_function_31 x p r l h Q (wX10_function_32 x p r l 0 h Q ⟨c.t9, ?_⟩)
    split
    · rw [if_pos rfl]
      exact K h CW.rf C0
    · exact K h CW.rf C0
  refine wX10_function x p r l h Q (c_within (rI_of ?_))
  by_cases w1 : wi p 8
  case neg =>
    rw [if_neg w1, if_pos rfl]
    exact no (fun z => w1 z.1)
  rw [if_pos w1, if_neg (by decide)]
  refine c_within (rI_of ?_)
  by_cases w2 : wi r 8
  case neg =>
    rw [if_neg w2, if_pos rfl]
    exact no (fun z => w2 z.2.1)
  rw [if_pos w2, if_neg (by decide)]
  refine c_within (rI_of ?_)
  by_cases w3 : wi l 8
  case neg =>
    rw [if_neg w3, if_pos rfl]
    exact no (fun z => w3 z.2.2)
  rw [if_pos w3, if_neg (by decide)]
  exact c_fun32 hI C ⟨w1, w2, w3⟩ K
end CC
