/-! THE CLASS WRITES, 9: a whole function is made flat -/
theorem Wh.elsI {sg : List (Nat × Nat)} {nm r : Nat} {c : List Ic} (hw : Wh sg nm r c) {k : Nat} (hk : k < c.length) (h5 : oA c k = 5) : ∃ p e, ps c k = p :: ps c p ∧ p < c.length ∧ isBg (oA c p) = true ∧ k < e ∧ e < c.length ∧ oA c e = 11 ∧ ps c e = p :: ps c p ∧ settle c k = settle c (e + 1) := by
  obtain ⟨v, v', y, hv, hv', hx, hs, hne⟩ := hw.at hk
  have ho := oA_of hx
  have h5y : y.1 = 5 := by rw [← ho]; exact h5
  have hc := (vstep_ctl hs (by rw [h5y]; decide) (by rw [h5y]; decide)).1
  unfold vctl at hc
  rw [h5y] at hc
  have hc : elseV v.1 = some v'.1 := hc
  obtain ⟨l, q, e1, e2, -, -⟩ := elseV_inv hc
  have hlen := vat_len hv hne
  cases hps : ps c k with
  | nil =>
    rw [hps, e1] at hlen
    have hq : q = [] := List.length_eq_zero_iff.mp (by simpa using hlen)
    have hl : v.1.getLast? = some l := by rw [e1, hq]; rfl
    have := (vat_last hv hl).1
    omega
  | cons p t =>
    have hx0 : (ps c k)[0]? = some p := by rw [hps]; rfl
    have hb := ps_below hx0
    rw [hps] at hb
    have hb : t = ps c p := hb
    obtain ⟨hp1, hp2⟩ := ps_lt hx0
    rw [hb]
    have hpk : ps c k = p :: ps c p := by rw [hps, hb]
    obtain ⟨e, c1, c2, c3⟩ := hw.else_cl (p := p) (q := k) (by omega) hp2 (by rw [h5]; decide) hpk
    obtain ⟨e', f1, f2, f3, f4, f5⟩ := hw.cl (p := p) (by omega) hp2
    rw [c1] at f1
    cases f1
    exact ⟨p, e, rfl, by omega, hp2, c2, by omega, f4, f5, settle_else hk h5 c3⟩
def wQ (r : Nat) (c : List Ic) (q : Option Nat) : Nat := if kndQ c q = 3 then parQ c q else resQ r c q
def FLF (B : Nat) (h h2 : Hp) : Prop := tg h2 = tg h ∧ gl h2 = gl h ∧ ai h2 = ai h ∧ al h2 = al h ∧ aq h2 = aq h ∧ sz h2 = sz h ∧ us h2 = us h ∧ (∀ f a, ¬ (B < a ∧ (f = 200 ∨ f = 201 ∨ f = 132)) → gi h2 f a = gi h f a) ∧ ∀ f a, ¬ (B < a ∧ (f = 198 ∨ f = 199 ∨ f = 134)) → gr h2 f a = gr h f a
theorem FLF.rf (B : Nat) (h : Hp) : FLF B h h := ⟨rfl, rfl, rfl, rfl, rfl, rfl, rfl, fun _ _ _ => rfl, fun _ _ _ => rfl⟩
theorem FLF.tr {B : Nat} {h h1 h2 : Hp} (a : FLF B h h1) (b : FLF B h1 h2) : FLF B h h2 := by
  obtain ⟨a1, a2, a3, a4, a5, a6, a7, a8, a9⟩ := a
  obtain ⟨b1, b2, b3, b4, b5, b6, b7, b8, b9⟩ := b
  exact ⟨b1.trans a1, b2.trans a2, b3.trans a3, b4.trans a4, b5.trans a5, b6.trans a6, b7.trans a7, fun f y hy => (b8 f y hy).trans (a8 f y hy), fun f y hy => (b9 f y hy).trans (a9 f y hy)⟩
theorem FLF_pi {B f a : Nat} (h : Hp) (y : Int32) (ha : B < a) (hf : f = 200 ∨ f = 201 ∨ f = 132) : FLF B h (pi h f a y) := ⟨rfl, rfl, rfl, rfl, rfl, rfl, rfl, fun g b hg => by
  rw [gi_pi, if_neg (fun q => hg (by rw [q.1, q.2]; exact ⟨ha, hf⟩))], fun _ _ _ => rfl⟩
theorem FLF_pr {B f a : Nat} (h : Hp) (y : Option Nat) (ha : B < a) (hf : f = 198 ∨ f = 199 ∨ f = 134) : FLF B h (pr h f a y) := ⟨rfl, rfl, rfl, rfl, rfl, rfl, rfl, fun _ _ _ => rfl, fun g b hg => by
  rw [gr_pr, if_neg (fun q => hg (by rw [q.1, q.2]; exact ⟨ha, hf⟩))]⟩
def N98 (h : Hp) (I : Nat → Nat) (c : List Ic) (k : Nat) : Prop := gr h 198 (I k) = (settle c (k + 1)).map I
def AIM (h : Hp) (I : Nat → Nat) (sg : List (Nat × Nat)) (nm r : Nat) (c : List Ic) (k : Nat) : Prop := ∀ q, lbO c k = some q → gr h 199 (I k) = (if oA c k = 4 then elG c k else tgt c q).map I ∧ gi h 200 (I k) = nI (wQ r c q) ∧ gi h 201 (I k) = nI (hgC sg nm r c q)
section FL
variable {h h0 : Hp} {x B da fd : Nat} {fp I : Nat → Nat} {L : Option Nat → Nat} {sg : List (Nat × Nat)} {nm r : Nat} {c : List Ic} {Q : Option TV → Hp → Prop}
/-- instructions and labels in a heap that is being made flat -/
theorem FLF.inn (F : FLF B h0 h) (D : DSt h0 x B da fd fp I L sg nm r c) {k : Nat} (hk : k < c.length) : tg h (I k) = some (.inl 3) ∧ gi h 192 (I k) = oA c k ∧ gr h 195 (I k) = (if k = 0 then none else some (I (k - 1))) ∧ gr h 196 (I k) = (lbO c k).map L := by
  obtain ⟨i1, i2, i3, i4, i5, i6, i7⟩ := D.2.1 k hk
  obtain ⟨f1, -, -, -, -, -, -, f8, f9⟩ := F
  exact ⟨by rw [f1]; exact i1, by rw [f8 _ _ (by omega)]; exact i2, by rw [f9 _ _ (by omega)]; exact i5, by rw [f9 _ _ (by omega)]; exact i6⟩
/-- the end of a label -/
def eQ (c : List Ic) (q : Option Nat) : Nat := match q with
  | none => c.length - 1
  | some p => match clo c p with
    | some e => e
    | none => 0
theorem eQ_lt (hw : Wh sg nm r c) {q : Option Nat} (hq : vQ c q) : eQ c q < c.length ∧ oA c (eQ c q) = 11 ∧ (ps c (eQ c q))[0]? = q ∧ (∀ p, q = some p → settle c (eQ c q + 1) = (match clo c p with
      | some e => settle c (e + 1)
      | none => none)) ∧ (q = none → settle c (eQ c q + 1) = none) := by
  cases q with
  | none =>
    have hp := hw.pos
    obtain ⟨a1, a2⟩ := hw.last
    refine ⟨by show c.length - 1 < c.length; omega, a1, by show (ps c (c.length - 1))[0]? = none; rw [a2]; rfl, fun p hp => (by cases hp), fun _ => settle_out (by show c.length ≤ c.length - 1 + 1; omega)⟩
  | some p =>
    obtain ⟨e, c1, c2, c3, c4, c5⟩ := hw.cl hq.1 hq.2
    have ee : eQ c (some p) = e := by
      show (match clo c p with
        | some e => e
        | none => 0) = e
      rw [c1]
    rw [ee]
    refine ⟨by omega, c4, by rw [c5]; rfl, fun p' hp' => ?_, fun z => (by cases z)⟩
    cases hp'
    rw [c1]
theorem c_behind (hw : Wh sg nm r c) (F : FLF B h0 h) (D : DSt h0 x B da fd fp I L sg nm r c) {q : Option Nat} (hq : vQ c q) (hN : N98 h I c (eQ c q)) (K : Q (some (tR ((settle c (eQ c q + 1)).map I))) h) : tX4_stepBehind (L q) h Q := by
  obtain ⟨e1, e2, e3, -⟩ := eQ_lt hw hq
  obtain ⟨l1, -⟩ := D.2.2.1 q hq
  have hd8 := D.2.2.2.2.1 _ e1 e2
  rw [e3] at hd8
  have t4 : tg h (L q) = some (.inl 4) := by rw [F.1]; exact l1
  have g4 : gr h 264 (L q) = some (I (eQ c q)) := by rw [F.2.2.2.2.2.2.2.2 _ _ (by omega)]; exact hd8
  obtain ⟨i1, -⟩ := F.inn D e1
  refine wX4_stepBehind _ h Q ⟨t4, ?_⟩
  rw [if_neg (by rw [g4]; exact Option.some_ne_none _)]
  refine ⟨t4, dr_of g4 ⟨i1, ?_⟩⟩
  rw [hN]
  exact K
theorem c_settled (hw : Wh sg nm r c) (F : FLF B h0 h) (D : DSt h0 x B da fd fp I L sg nm r c) {k : Nat} (hk : k < c.length) (hN : ∀ j, k ≤ j → j < c.length → N98 h I c j) (K : Q (some (tR ((settle c k).map I))) h) : tX3_settled (I k) h Q := by
  obtain ⟨i1, i2, i3, i4⟩ := F.inn D hk
  refine wX3_settled (I k) h Q ⟨i1, ?_⟩
  rw [i2]
  by_cases c2 : oA c k = 2
  · rw [if_pos c2]
    refine ⟨i1, ?_⟩
    rw [hN k (Nat.le_refl _) hk, ← settle_go hk (Or.inl c2)]
    exact K
  rw [if_neg c2]
  by_cases c3 : oA c k = 3
  · rw [if_pos c3]
    refine ⟨i1, ?_⟩
    rw [hN k (Nat.le_refl _) hk, ← settle_go hk (Or.inr (Or.inl c3))]
    exact K
  rw [if_neg c3]
  by_cases c5 : oA c k = 5
  · rw [if_pos c5]
    obtain ⟨p, e, p1, p2, p3, p4, p5, p6, p7, p8⟩ := hw.elsI hk c5
    have el : lbO c k = some (some p) := by
      unfold lbO
      rw [c5, if_neg (by decide), if_pos rfl, p1]
      rfl
    have g6 : gr h 196 (I k) = some (L (some p)) := by rw [i4, el]; rfl
    have ee : eQ c (some p) = e := by
      obtain ⟨e', f1, f2, f3, f4, f5⟩ := hw.cl p2 p3
      obtain ⟨e2, g1, g2, g3⟩ := hw.else_cl (p := p) (q := k) p2 p3 (by rw [c5]; decide) p1
      have : settle c k = settle c (e2 + 1) := settle_else hk c5 g3
      -- the ends are one: both end p
      have hd := D.2.2.2.2.1 e p5 p6
      rw [p7] at hd
      rw [g1] at f1
      cases f1
      have hd2 := D.2.2.2.2.1 e' (by omega) f4
      rw [f5] at hd2
      have hd : gr h0 264 (L (some p)) = some (I e) := hd
      have hd2 : gr h0 264 (L (some p)) = some (I e') := hd2
      rw [hd] at hd2
      have := D.2.2.2.2.2.2.2.2.1 e e' p5 (by omega) (Option.some.inj hd2)
      show (match clo c p with
        | some e => e
        | none => 0) = e
      rw [g1, this]
    refine ⟨i1, ?_⟩
    rw [if_neg (by rw [g6]; exact Option.some_ne_none _)]
    refine ⟨i1, dr_of g6 ⟨?_, c_behind hw F D (q := some p) ⟨p2, p3⟩ (by rw [ee]; exact hN e (by omega) p5) (rR_of ?_)⟩⟩
    · rw [F.1]; exact (D.2.2.1 (some p) ⟨p2, p3⟩).1
    · rw [ee, ← p8]
      exact K
  rw [if_neg c5]
  by_cases c11 : oA c k = 11
  · rw [if_pos c11]
    refine ⟨i1, ?_⟩
    rw [hN k (Nat.le_refl _) hk, ← settle_go hk (Or.inr (Or.inr c11))]
    exact K
  rw [if_neg c11]
  rw [settle_step hk ⟨c2, c3, c5, c11⟩] at K
  exact K
theorem c_fl7 (hw : Wh sg nm r c) (D : DSt h0 x B da fd fp I L sg nm r c) (K : ∀ h, FLF B h0 h → (∀ k, k < c.length → N98 h I c k) → tX0_flatten_42 da (some (I 0)) (some (I (c.length - 1))) h Q) : ∀ (t : Nat) (h : Hp), t ≤ c.length → FLF B h0 h → (∀ k, t ≤ k → k < c.length → N98 h I c k) → tX0_flatten_7 da (if t = c.length then none else some (I t)) (if t = 0 then none else some (I (t - 1))) h Q := by
  have hpos := hw.pos
  obtain ⟨⟨d1, d2, d3, d4, d5, d6⟩, -, -, -, -, ⟨b1, b2, b3, b4⟩, b5, -, bI, -⟩ := id D
  intro t
  induction t with
  | zero =>
    intro h ht F N
    refine wX0_flatten_7 da _ _ h Q ?_
    rw [if_neg (show ¬ 0 = c.length by omega), if_pos rfl, if_pos rfl]
    have g2 : gr h 2 da = some (I (c.length - 1)) := by rw [F.2.2.2.2.2.2.2.2 _ _ (by omega), d5, if_neg (by omega)]
    refine ⟨by rw [F.1]; exact d1, ?_⟩
    rw [g2]
    exact K h F (fun k hk => N k (Nat.zero_le _) hk)
  | succ t ih =>
    intro h ht F N
    have htl : t < c.length := by omega
    have hB := (b5 t htl).1
    obtain ⟨i1, i2, i3, i4⟩ := F.inn D htl
    have st : ∀ s0 : Option Nat, s0 = (settle c (t + 1)).map I → tX0_flatten_24 da (some (I t)) s0 (some (I t)) h Q := by
      intro s0 es
      refine wX0_flatten_24 da _ _ _ h Q (dr_of rfl ⟨i1, fun h1 e1 => ?_⟩)
      have F1 : FLF B h0 h1 := by rw [e1]; exact F.tr (FLF_pr _ _ hB (Or.inl rfl))
      obtain ⟨j1, j2, j3, j4⟩ := F1.inn D htl
      refine dr_of rfl ⟨j1, ?_⟩
      rw [j3]
      have := ih h1 (by omega) F1 (fun k hk1 hk2 => ?_)
      · rw [if_neg (show ¬ t = c.length by omega)] at this
        exact this
      · by_cases e : k = t
        · subst e
          unfold N98
          rw [e1, gr_eq]
          exact es
        · unfold N98
          rw [e1, gr_na (fun z => e (bI k t hk2 htl z))]
          exact N k (by omega) hk2
    refine wX0_flatten_7 da _ _ h Q ?_
    rw [if_neg (show ¬ t + 1 = 0 by omega), show t + 1 - 1 = t by omega, if_neg (Option.some_ne_none _)]
    by_cases e : t + 1 = c.length
    · rw [if_pos e, if_pos rfl]
      refine st none ?_
      rw [settle_out (by omega)]
      rfl
    · rw [if_neg e, if_neg (Option.some_ne_none _)]
      obtain ⟨j1, -⟩ := F.inn D (show t + 1 < c.length by omega)
      exact dr_of rfl ⟨j1, c_settled hw F D (by omega) N (rR_of (st _ rfl))⟩
theorem lbO_v {k : Nat} (hk : k < c.length) {q : Option Nat} (h : lbO c k = some q) : vQ c q := by
  unfold lbO at h
  split at h
  · cases h
    exact ⟨hk, by assumption⟩
  · split at h
    · cases h
      exact vQ_ps (by omega)
    · split at h
      · cases h
        exact vQ_ps (by omega)
      · cases h
theorem c_aim34 (D : DSt h0 x B da fd fp I L sg nm r c) (F : FLF B h0 h) {k : Nat} (hk : k < c.length) {q : Option Nat} (hq : lbO c k = some q) {s0 : Option Nat} (K : ∀ h', h' = pi (pi (pr h 199 (I k) s0) 200 (I k) (nI (wQ r c q))) 201 (I k) (nI (hgC sg nm r c q)) → Q none h') : tX3_aim_34 (I k) s0 (some (I k)) h Q := by
  have vq := lbO_v hk hq
  obtain ⟨i1, i2, i3, i4⟩ := F.inn D hk
  obtain ⟨l1, l2, l3, l4, l5, -⟩ := D.2.2.1 q vq
  have g6 : gr h 196 (I k) = some (L q) := by rw [i4, hq]; rfl
  obtain ⟨f1, -, -, -, -, -, -, f8, f9⟩ := F
  have m1 : tg h (L q) = some (.inl 4) := by rw [f1]; exact l1
  have m2 : gi h 256 (L q) = kndQ c q := by rw [f8 _ _ (by omega)]; exact l2
  have m3 : gi h 257 (L q) = nI (parQ c q) := by rw [f8 _ _ (by omega)]; exact l3
  have m4 : gi h 258 (L q) = nI (resQ r c q) := by rw [f8 _ _ (by omega)]; exact l4
  have m5 : gi h 259 (L q) = nI (hgC sg nm r c q) := by rw [f8 _ _ (by omega)]; exact l5
  refine wX3_aim_34 (I k) _ _ h Q (dr_of rfl ⟨i1, fun h1 e1 => ⟨by rw [e1]; exact i1, dr_of (show gr h1 196 (I k) = some (L q) by rw [e1, gr_ne (by decide)]; exact g6) ⟨by rw [e1]; exact m1, ?_⟩⟩⟩)
  have wan : ∀ Q' : Option TV → Hp → Prop, Q' (some (tI (nI (wQ r c q)))) h1 → tX4_wanted (L q) h1 Q' := by
    intro Q' k'
    refine wX4_wanted _ h1 Q' ⟨by rw [e1]; exact m1, ?_⟩
    unfold wQ at k'
    rw [show gi h1 256 (L q) = kndQ c q by rw [e1]; exact m2]
    by_cases c3 : kndQ c q = 3
    · rw [if_pos c3] at k' ⊢
      refine ⟨by rw [e1]; exact m1, ?_⟩
      rw [show gi h1 257 (L q) = nI (parQ c q) by rw [e1]; exact m3]
      exact k'
    · rw [if_neg c3] at k' ⊢
      refine ⟨by rw [e1]; exact m1, ?_⟩
      rw [show gi h1 258 (L q) = nI (resQ r c q) by rw [e1]; exact m4]
      exact k'
  refine wan _ (rI_of ⟨by rw [e1]; exact i1, fun h6 e6 => ⟨by rw [e6, e1]; exact i1, dr_of (show gr h6 196 (I k) = some (L q) by rw [e6, gr_pi, e1, gr_ne (by decide)]; exact g6) ⟨by rw [e6, e1]; exact m1, by rw [e6, e1]; exact i1, fun h8 e8 => K h8 ?_⟩⟩⟩)
  rw [e8, show gi h6 259 (L q) = nI (hgC sg nm r c q) by rw [e6, gi_ne (by decide), e1]; exact m5, e6, e1]
theorem c_other (hw : Wh sg nm r c) (F : FLF B h0 h) (D : DSt h0 x B da fd fp I L sg nm r c) (hN : ∀ j, j < c.length → N98 h I c j) {p : Nat} (hp : p < c.length) (h4 : oA c p = 4) (K : Q (some (tR ((elG c p).map I))) h) : tX4_stepOtherwise (L (some p)) h Q := by
  have vq : vQ c (some p) := ⟨hp, by rw [h4]; rfl⟩
  obtain ⟨l1, l2, l3, l4, l5, l6, l7, l8, l9⟩ := D.2.2.1 (some p) vq
  have t4 : tg h (L (some p)) = some (.inl 4) := by rw [F.1]; exact l1
  have g63 : gr h 263 (L (some p)) = gr h0 263 (L (some p)) := F.2.2.2.2.2.2.2.2 _ _ (by omega)
  obtain ⟨q, e1, e2, e3, e4, e5⟩ := hw.en hp vq.2 true
  have eG : elG c p = settle c (q + 1) := by
    unfold elG els
    rw [e1]
  rw [eG] at K
  refine wX4_stepOtherwise _ h Q ⟨t4, ?_⟩
  rw [g63]
  by_cases c5 : oA c q = 5
  · have hd := D.2.2.2.1 q (by omega) c5
    rw [e5] at hd
    have hd : gr h0 263 (L (some p)) = some (I q) := hd
    obtain ⟨i1, -⟩ := F.inn D (show q < c.length by omega)
    rw [if_neg (by rw [hd]; exact Option.some_ne_none _)]
    refine ⟨t4, dr_of hd ⟨i1, ?_⟩⟩
    rw [hN q (by omega)]
    exact K
  · have c11 : oA c q = 11 := e4.resolve_right (fun z => c5 z.2)
    have hn : gr h0 263 (L (some p)) = none := by
      cases hh : gr h0 263 (L (some p)) with
      | none => rfl
      | some a =>
        exfalso
        obtain ⟨j, j1, j2, j3, -⟩ := l8 a hh
        obtain ⟨hpj, -⟩ := ps_lt j3
        have hpsj : ps c j = p :: ps c p := by
          have hb := ps_below j3
          cases hps : ps c j with
          | nil => rw [hps] at j3; cases j3
          | cons p' t =>
            rw [hps] at j3 hb
            cases j3
            have hb : t = ps c p := hb
            rw [hb]
        by_cases hjq : j < q
        · obtain ⟨g1, g2, g3, g4⟩ := enF_spec e1
          exact stopB_no (g4 j (by omega) hjq) ⟨by rw [hpsj]; rfl, Or.inr ⟨rfl, j2⟩⟩
        · by_cases hjq2 : j = q
          · rw [hjq2] at j2
            exact c5 j2
          · exact gone_of c11 e5 j (by omega) (by rw [hpsj]; exact List.mem_cons_self)
    rw [if_pos hn]
    have ee : eQ c (some p) = q := by
      obtain ⟨e', f1, f2, f3, f4, f5⟩ := hw.cl hp vq.2
      have hd := D.2.2.2.2.1 q (by omega) c11
      rw [e5] at hd
      have hd2 := D.2.2.2.2.1 e' (by omega) f4
      rw [f5] at hd2
      have hd : gr h0 264 (L (some p)) = some (I q) := hd
      have hd2 : gr h0 264 (L (some p)) = some (I e') := hd2
      rw [hd] at hd2
      have := D.2.2.2.2.2.2.2.2.1 q e' (by omega) (by omega) (Option.some.inj hd2)
      show (match clo c p with
        | some e => e
        | none => 0) = q
      rw [f1, this]
    refine ⟨t4, c_behind hw F D vq (hN _ (by rw [ee]; omega)) (rR_of ?_)⟩
    rw [ee]
    exact K
theorem c_ofBranch (hw : Wh sg nm r c) (F : FLF B h0 h) (D : DSt h0 x B da fd fp I L sg nm r c) (hN : ∀ j, j < c.length → N98 h I c j) {q : Option Nat} (vq : vQ c q) (K : Q (some (tR ((tgt c q).map I))) h) : tX4_stepOfBranch (L q) h Q := by
  obtain ⟨l1, l2, l3, l4, l5, l6, l7, l8, l9⟩ := D.2.2.1 q vq
  have t4 : tg h (L q) = some (.inl 4) := by rw [F.1]; exact l1
  have g2 : gr h 262 (L q) = q.map I := by rw [F.2.2.2.2.2.2.2.2 _ _ (by omega)]; exact l7
  have gk : gi h 256 (L q) = kndQ c q := by rw [F.2.2.2.2.2.2.2.1 _ _ (by omega)]; exact l2
  obtain ⟨e1, e2, e3, e4, e5⟩ := eQ_lt hw vq
  have beh : ¬ kndQ c q = 3 → tX4_stepOfBranch_25 (L q) h Q := by
    intro hk
    refine wX4_stepOfBranch_25 _ h Q ⟨t4, c_behind hw F D vq (hN _ e1) (rR_of ?_)⟩
    cases q with
    | none => rw [e5 rfl]; exact K
    | some p =>
      rw [e4 p rfl]
      have hk : ¬ oA c p = 3 := hk
      have et : tgt c (some p) = (match clo c p with
          | some e => settle c (e + 1)
          | none => none) := by
        show (if oA c p = 3 then _ else _) = _
        rw [if_neg hk]
        cases clo c p <;> rfl
      rw [et] at K
      exact K
  refine wX4_stepOfBranch _ h Q ⟨t4, ?_⟩
  rw [gk]
  by_cases c3 : kndQ c q = 3
  · rw [if_pos c3]
    cases q with
    | none => exact absurd (show (2 : Int32) = 3 from c3) (by decide)
    | some p =>
      have c3 : oA c p = 3 := c3
      obtain ⟨i1, -⟩ := F.inn D vq.1
      have g2 : gr h 262 (L (some p)) = some (I p) := g2
      refine ⟨t4, ?_⟩
      rw [if_neg (by rw [g2]; exact Option.some_ne_none _)]
      refine ⟨t4, dr_of g2 ⟨i1, ?_⟩⟩
      rw [hN p vq.1]
      have et : tgt c (some p) = settle c (p + 1) := by
        show (if oA c p = 3 then _ else _) = _
        rw [if_pos c3]
      rw [et] at K
      exact K
  · rw [if_neg c3]
    exact beh c3
theorem c_fl42 (hw : Wh sg nm r c) (D : DSt h0 x B da fd fp I L sg nm r c) (K : ∀ h', FLF B h0 h' → (∀ k, k < c.length → N98 h' I c k ∧ AIM h' I sg nm r c k) → gr h' 134 fd = (settle c 0).map I → gi h' 132 fd = 1 → Q none h') : ∀ (t : Nat) (h : Hp), t ≤ c.length → FLF B h0 h → (∀ k, k < c.length → N98 h I c k) → (∀ k, t ≤ k → k < c.length → AIM h I sg nm r c k) → tX0_flatten_42 da (some (I 0)) (if t = 0 then none else some (I (t - 1))) h Q := by
  have hpos := hw.pos
  obtain ⟨⟨d1, d2, d3, d4, d5, d6⟩, -, -, -, -, ⟨b1, b2, b3, b4⟩, b5, -, bI, -⟩ := id D
  intro t
  induction t with
  | zero =>
    intro h ht F N A
    have t1 : tg h da = some (.inl 0) := by rw [F.1]; exact d1
    have t2 : tg h fd = some (.inl 2) := by rw [F.1]; exact d4
    have g1 : gr h 1 da = some fd := by rw [F.2.2.2.2.2.2.2.2 _ _ (by omega)]; exact d3
    obtain ⟨i1, -⟩ := F.inn D hpos
    refine wX0_flatten_42 da _ _ h Q ?_
    rw [if_pos rfl, if_pos rfl]
    refine ⟨t1, ?_⟩
    rw [if_neg (Option.some_ne_none _)]
    refine dr_of rfl ⟨i1, c_settled hw F D hpos (fun j _ hj => N j hj) (rR_of (dr_of g1 ⟨t2, fun h4 e4 => ⟨by rw [e4]; exact t1, dr_of (show gr h4 1 da = some fd by rw [e4, gr_ne (by decide)]; exact g1) ⟨by rw [e4]; exact t2, fun h6 e6 => K h6 ?_ (fun k hk => ⟨?_, ?_⟩) ?_ ?_⟩⟩⟩))⟩
    · rw [e6, e4]
      exact F.tr ((FLF_pr _ _ b3 (Or.inr (Or.inr rfl))).tr (FLF_pi _ _ b3 (Or.inr (Or.inr rfl))))
    · unfold N98
      rw [e6, gr_pi, e4, gr_ne (by decide)]
      exact N k hk
    · intro q hq
      obtain ⟨a1, a2, a3⟩ := A k (Nat.zero_le _) hk q hq
      exact ⟨by rw [e6, gr_pi, e4, gr_ne (by decide)]; exact a1, by rw [e6, gi_ne (by decide), e4]; exact a2, by rw [e6, gi_ne (by decide), e4]; exact a3⟩
    · rw [e6, gr_pi, e4, gr_eq]
    · rw [e6, gi_eq]
  | succ t ih =>
    intro h ht F N A
    have htl : t < c.length := by omega
    have hB := (b5 t htl).1
    obtain ⟨i1, i2, i3, i4⟩ := F.inn D htl
    refine wX0_flatten_42 da _ _ h Q ?_
    rw [if_neg (show ¬ t + 1 = 0 by omega), show t + 1 - 1 = t by omega, if_neg (Option.some_ne_none _)]
    refine dr_of rfl ⟨i1, wX3_aim (I t) h _ ⟨i1, ?_⟩⟩
    rw [i4, i2]
    cases hl : lbO c t with
    | none =>
      rw [if_pos (show Option.map L none = none from rfl)]
      refine rV_of (dr_of rfl ⟨i1, ?_⟩)
      rw [i3]
      refine ih h (by omega) F N (fun k hk1 hk2 => ?_)
      by_cases e : k = t
      · subst e
        intro q hq
        rw [hl] at hq
        cases hq
      · exact A k (by omega) hk2
    | some q =>
      have vq := lbO_v htl hl
      have tq : tg h (L q) = some (.inl 4) := by rw [F.1]; exact (D.2.2.1 q vq).1
      rw [if_neg (show ¬ Option.map L (some q) = none from Option.some_ne_none _)]
      refine ⟨i1, ?_⟩
      have go : ∀ s0, s0 = (if oA c t = 4 then elG c t else tgt c q).map I → tX3_aim_34 (I t) s0 (some (I t)) h (rV (fun h_12 => dr (some (I t)) (fun a_15 => ob h_12 a_15 3 (tX0_flatten_42 da (some (I 0)) (gr h_12 195 a_15) h_12 Q)))) := by
        intro s0 es
        refine c_aim34 D F htl hl (fun h8 e8 => rV_of ?_)
        have F8 : FLF B h0 h8 := by
          rw [e8]
          exact F.tr ((FLF_pr _ _ hB (Or.inr (Or.inl rfl))).tr ((FLF_pi _ _ hB (Or.inl rfl)).tr (FLF_pi _ _ hB (Or.inr (Or.inl rfl)))))
        obtain ⟨j1, j2, j3, j4⟩ := F8.inn D htl
        refine dr_of rfl ⟨j1, ?_⟩
        rw [j3]
        refine ih h8 (by omega) F8 (fun k hk => ?_) (fun k hk1 hk2 => ?_)
        · unfold N98
          rw [e8, gr_pi, gr_pi, gr_ne (by decide)]
          exact N k hk
        · by_cases e : k = t
          · subst e
            intro q' hq'
            rw [hl] at hq'
            cases hq'
            exact ⟨by rw [e8, gr_pi, gr_pi, gr_eq]; exact es, by rw [e8, gi_ne (by decide), gi_eq], by rw [e8, gi_eq]⟩
          · intro q' hq'
            obtain ⟨a1, a2, a3⟩ := A k (by omega) hk2 q' hq'
            have hne : I k ≠ I t := fun z => e (bI k t hk2 htl z)
            exact ⟨by rw [e8, gr_pi, gr_pi, gr_na hne]; exact a1, by rw [e8, gi_na hne, gi_na hne]; exact a2, by rw [e8, gi_na hne, gi_na hne]; exact a3⟩
      by_cases c4 : oA c t = 4
      · rw [if_pos c4]
        have eq : q = some t := by
          unfold lbO at hl
          rw [if_pos (by rw [c4]; rfl)] at hl
          exact (Option.some.inj hl).symm
        subst eq
        refine ⟨i1, dr_of rfl ⟨tq, c_other hw F D N htl c4 (rR_of (go _ ?_))⟩⟩
        rw [if_pos c4]
      · rw [if_neg c4]
        refine ⟨i1, dr_of rfl ⟨tq, c_ofBranch hw F D N vq (rR_of (go _ ?_))⟩⟩
        rw [if_neg c4]
theorem c_flatten (hw : Wh sg nm r c) (D : DSt h0 x B da fd fp I L sg nm r c) (K : ∀ h', FLF B h0 h' → (∀ k, k < c.length → N98 h' I c k ∧ AIM h' I sg nm r c k) → gr h' 134 fd = (settle c 0).map I → gi h' 132 fd = 1 → Q none h') : tX0_flatten da h0 Q := by
  have hpos := hw.pos
  have d1 := D.1.1
  have d5 := D.1.2.2.2.2.1
  refine wX0_flatten da h0 Q ⟨d1, ?_⟩
  rw [d5]
  have := c_fl7 (Q := Q) hw D (fun h F N => ?_) c.length h0 (Nat.le_refl _) (FLF.rf _ _) (fun k h1 h2 => by omega)
  · rw [if_pos rfl] at this
    exact this
  · have := c_fl42 hw D K c.length h (Nat.le_refl _) F N (fun k h1 h2 => by omega)
    rw [if_neg (show ¬ c.length = 0 by omega)] at this
    exact this
end FL
