/-! THE CLASS RUNS, 2: frames -/
def CEn (x : Nat) (h0 h : Hp) (w : Wd) : Prop := CRW x h0 h ∧ KC x h0 h ∧ gi h 327 (x + 3) = 2 ∧ PC x h w ∧ gi h 513 (x + 9) = nI w.1 ∧ ∀ j, j < w.1 → al h (x + 10) j = w.2.1 j
def CSt (x : Nat) (h0 h : Hp) (st tr : Int32) (w : Wd) : Prop := CRW x h0 h ∧ gi h 329 (x + 3) = gi h0 329 (x + 3) ∧ gi h 327 (x + 3) = st ∧ gi h 328 (x + 3) = tr ∧ PC x h w
def KPc (P : List Fn) (fp : Nat → Nat) (ip : Nat → Nat → Nat) (x : Nat) (h0 : Hp) (fr : List Fm) (w : Wd) (Q : Option TV → Hp → Prop) : Prop := ((lvF P fr w.1 w.2.1).1 = [] → ∀ h', CEn x h0 h' ((lvF P fr w.1 w.2.1).2.1, (lvF P fr w.1 w.2.1).2.2, w.2.2) → Q none h') ∧ ∀ f2 b2 i2 r2, (lvF P fr w.1 w.2.1).1 = (f2, b2, some i2) :: r2 → ∀ h', RCv P fp ip x h0 h' ((f2, b2, some i2) :: r2) ((lvF P fr w.1 w.2.1).2.1, (lvF P fr w.1 w.2.1).2.2, w.2.2) → Q none h'
section RR
variable {P : List Fn} {fp : Nat → Nat} {ip : Nat → Nat → Nat} {x : Nat} {h0 h : Hp} {fr r : List Fm} {w : Wd} {n p f b i : Nat} {q : Option Nat} {v : VV} {bb : Nat → Int32} {g : VV} {gf : Fn} {Q : Option TV → Hp → Prop}
theorem c_trap (hc : CS h0 x) (H : RCv P fp ip x h0 h fr w) {t : Int32} (k : ∀ h', CSt x h0 h' 3 t w → Q none h') : tX5_trap (x + 3) t h Q := by
  have c := H.cs hc
  obtain ⟨h1, ⟨h21, h22⟩, h3, h4, h5, h6, ⟨h71, h72, h73⟩, h8, h9⟩ := H
  refine wX5_trap (x + 3) t h Q ⟨c.t5, fun k1 e1 => ?_⟩
  have c1 : CS k1 x := by rw [e1]; exact c
  refine ⟨c1.t5, fun k2 e2 => k k2 ?_⟩
  rw [e2, e1]
  exact ⟨h1.tr ((CRW_pi _ _ (by omega)).tr (CRW_pi _ _ (by omega))), by rw [gi_ne (by decide), gi_ne (by decide)]; exact h22, by rw [gi_ne (by decide), gi_eq], gi_eq, ⟨by rw [gi_ne (by decide), gi_ne (by decide)]; exact h71, h72, h73⟩⟩
theorem c_room (hg : P[f]? = some gf) (hP : CP h x fp ip P) (k : Q (some (tI (nI (askN P f)))) h) : tX2_room (fp f) h Q := by
  obtain ⟨⟨c1, -, -, -, c5, -, c7, -⟩, -⟩ := hP f gf hg
  refine wX2_room (fp f) h Q ⟨c1, c1, ?_⟩
  rw [c5, c7, nJ_add]
  rw [askN_some hg] at k
  exact k
theorem c_going (hc : CS h x) (k : Q (some (tI (if gi h 327 (x + 3) = 1 then 1 else 0))) h) : tX5_isGoing (x + 3) h Q := by
  refine wX5_isGoing (x + 3) h Q ⟨hc.t5, ?_⟩
  split
  · rename_i e
    rw [if_pos e] at k
    exact k
  · rename_i e
    rw [if_neg e] at k
    exact k
/-- the innermost frame -/
theorem c_inner (c : CS h x) {m : Nat} (x4 : gi h 326 (x + 3) = nI (m + 1)) (hm : m < 30) (k : Q (some (tR (some (x + 11 + m)))) h) : tX5_innermost (x + 3) h Q := by
  obtain ⟨cf1, cf2⟩ := c.fr m hm
  refine wX5_innermost (x + 3) h Q ⟨c.t5, ?_⟩
  rw [x4, if_pos (show (0 : Int32) < nI (m + 1) from nI_lt (a := 0) (by omega) (by omega)), nI_sub1]
  refine ⟨c.t5, c.t5, dr_of c.r322 (al_of c.t6a ?_)⟩
  rw [if_neg (show ¬ Int32.ofNat 30 < nI (m + 1) from nI_nlt (b := m + 1) (a := 30) (by omega) (by decide))]
  refine ⟨c.t5, c.t5, dr_of c.r322 (ix_of c.t6a (by decide) (nI_in (by omega) (by decide)) ?_)⟩
  rw [nck (by omega), cf2]
  exact k
theorem c_leave (hc : CS h0 x) (hP : CP h0 x fp ip P) : ∀ (fr : List Fm) (i n : Nat) (v : VV) (h : Hp), i + fr.length ≤ 30 → fr ≠ [] → RCv P fp ip x h0 h fr (n, v, p, bb, g) → FrOK P n fr → askF P fr ≤ 220 → KPc P fp ip x h0 fr (n, v, p, bb, g) Q → tX5_leaveWhatIsOver_2 (x + 3) (nI i) h Q := by
  intro fr
  induction fr with
  | nil => intro i n v h _ hne; exact absurd rfl hne
  | cons y r ih =>
    obtain ⟨f, b, q⟩ := y
    intro i n v h hi _ H hF h220 K
    have c := H.cs hc
    have cp := H.1.cp hP
    have hnb : n ≤ 220 := Nat.le_trans (hF.bound (List.cons_ne_nil _ _)) h220
    have hi : i + (r.length + 1) ≤ 30 := hi
    obtain ⟨x1, ⟨x21, x22⟩, x3, x4, x5, x6, ⟨x71, x72, x73⟩, x8, x91, x92, x93, x94⟩ := H
    have x4 : gi h 326 (x + 3) = nI (r.length + 1) := x4
    obtain ⟨cf1, cf2⟩ := c.fr r.length (by omega)
    refine wX5_leaveWhatIsOver_2 (x + 3) _ h Q ?_
    rw [if_pos (show nI i < 30 from nI_lt (b := 30) (by omega) (by decide))]
    refine ⟨c.t5, c_going c (rI_of ?_)⟩
    rw [if_pos x3, if_neg (by decide)]
    refine ⟨c.t5, c_inner c x4 (by omega) (rR_of ?_)⟩
    rw [if_neg (Option.some_ne_none _)]
    refine dr_of rfl ⟨cf1, ?_⟩
    cases q with
    | some j =>
      rw [if_neg (by rw [x93]; exact Option.some_ne_none _)]
      exact K.2 f b j r rfl h ⟨x1, ⟨x21, x22⟩, x3, x4, x5, x6, ⟨x71, x72, x73⟩, x8, x91, x92, x93, x94⟩
    | none =>
      rw [if_pos (show gr h 66 (x + 11 + r.length) = none from x93)]
      refine dr_of rfl ⟨cf1, ?_⟩
      rw [if_neg (by rw [x91]; exact Option.some_ne_none _)]
      obtain ⟨gf, hg, ⟨k, hn, hk, hkr⟩, hb0, hFr⟩ := hF
      have hkr : k = fR gf := hkr
      obtain ⟨⟨f1, f2, f3, f4, f5, f6, f7, f8, f9⟩, -⟩ := cp f gf hg
      refine ⟨c.t5, dr_of rfl ⟨cf1, dr_of x91 ⟨f1, dr_of rfl ⟨cf1, dr_of c.r324 ⟨c.t8, ?_⟩⟩⟩⟩⟩
      rw [f3, x92]
      have H : RCv P fp ip x h0 h ((f, b, none) :: r) (n, v, p, bb, g) := ⟨x1, ⟨x21, x22⟩, x3, x4, x5, x6, ⟨x71, x72, x73⟩, x8, x91, x92, x93, x94⟩
      refine c_keep hc H hnb (by omega) (by omega) (fun h9 H9 => rV_of ?_)
      have c9 := H9.cs hc
      have cp9 := H9.1.cp hP
      obtain ⟨df1, -⟩ := c9.fr r.length (by omega)
      obtain ⟨⟨g1, -⟩, -⟩ := cp9 f gf hg
      obtain ⟨y1, ⟨y21, y22⟩, y3, y4, y5, y6, ⟨y71, y72, y73⟩, y8, y91, y92, y93, y94⟩ := H9
      have y4 : gi h9 326 (x + 3) = nI (r.length + 1) := y4
      have y6 : gi h9 325 (x + 3) = nI (askN P f + askF P r) := y6
      refine ⟨c9.t5, dr_of rfl ⟨df1, dr_of y91 ⟨g1, c_room hg cp9 (rI_of ⟨c9.t5, fun h16 e16 => ?_⟩)⟩⟩⟩
      rw [y6, nJ_sub (by omega), Nat.add_sub_cancel_left] at e16
      have c16 : CS h16 x := by rw [e16]; exact c9
      refine ⟨c16.t5, c16.t5, fun h17 e17 => ?_⟩
      have z4 : gi h16 326 (x + 3) = nI (r.length + 1) := by rw [e16, gi_ne (by decide)]; exact y4
      rw [z4, nI_sub1] at e17
      have c17 : CS h17 x := by rw [e17]; exact c16
      have w17 : CRW x h9 h17 := by rw [e17, e16]; exact (CRW_pi _ _ (by omega)).tr (CRW_pi _ _ (by omega))
      have z17 : gi h17 326 (x + 3) = nI r.length := by rw [e17, gi_eq]
      refine ⟨c17.t5, ?_⟩
      rw [z17]
      have h220b : askN P f + askF P r ≤ 220 := h220
      by_cases er : r = []
      · subst er
        rw [if_pos (show nI ([] : List Fm).length = 0 from rfl)]
        refine ⟨c17.t5, fun h18 e18 => ?_⟩
        have c18 : CS h18 x := by rw [e18]; exact c17
        have HE : CEn x h0 h18 (b + fR gf, kp v (n - fR gf) b (fR gf), p, bb, g) := by
          refine ⟨y1.tr (w17.tr (by rw [e18]; exact CRW_pi _ _ (by omega))), ⟨?_, ?_⟩, ?_, ⟨?_, ?_, ?_⟩, ?_, ?_⟩
          · rw [e18, gi_ne (by decide), e17, gi_ne (by decide), e16, gi_ne (by decide)]; exact y21
          · rw [e18, gi_ne (by decide), e17, gi_ne (by decide), e16, gi_ne (by decide)]; exact y22
          · rw [e18, gi_eq]
          · rw [e18, gi_ne (by decide), e17, gi_ne (by decide), e16, gi_ne (by decide)]; exact y71
          · rw [e18, e17, e16]; exact y72
          · rw [e18, e17, e16]; exact y73
          · rw [e18, gi_ne (by decide), e17, gi_ne (by decide), e16, gi_ne (by decide)]; exact y5
          · rw [e18, e17, e16]; exact y8
        have fin : Q none h18 := by
          have K1 := K.1
          dsimp only at K1
          rw [lvF_none hg] at K1
          exact K1 rfl h18 HE
        refine wX5_leaveWhatIsOver_95 (x + 3) _ h18 Q ?_
        rw [← nI_succ]
        refine wX5_leaveWhatIsOver_2 (x + 3) _ h18 Q ?_
        by_cases c30 : i + 1 < 30
        · rw [if_pos (show nI (i + 1) < 30 from nI_lt (b := 30) c30 (by decide))]
          refine ⟨c18.t5, c_going c18 (rI_of ?_)⟩
          rw [if_neg (show ¬ gi h18 327 (x + 3) = 1 by rw [HE.2.2.1]; decide), if_pos rfl]
          exact fin
        · rw [if_neg (show ¬ nI (i + 1) < 30 from fun z => c30 ((nJ_lt (b := 30) (by omega) (by decide)).mp z))]
          exact fin
      · rw [if_neg (nI_ne0 (List.length_pos_iff.mpr er) (by omega))]
        have H17 : RCv P fp ip x h0 h17 r (b + fR gf, kp v (n - fR gf) b (fR gf), p, bb, g) := by
          refine ⟨y1.tr w17, ⟨?_, ?_⟩, ?_, z17, ?_, ?_, ⟨?_, ?_, ?_⟩, ?_, ?_⟩
          · rw [e17, gi_ne (by decide), e16, gi_ne (by decide)]; exact y21
          · rw [e17, gi_ne (by decide), e16, gi_ne (by decide)]; exact y22
          · rw [e17, gi_ne (by decide), e16, gi_ne (by decide)]; exact y3
          · rw [e17, gi_ne (by decide), e16, gi_ne (by decide)]; exact y5
          · rw [e17, gi_ne (by decide), e16, gi_eq]
          · rw [e17, gi_ne (by decide), e16, gi_ne (by decide)]; exact y71
          · rw [e17, e16]; exact y72
          · rw [e17, e16]; exact y73
          · rw [e17, e16]; exact y8
          · rw [e17, e16]
            exact y94.of (fun j hj => ⟨rfl, by rw [gi_ne (by decide), gi_ne (by decide)], rfl⟩)
        refine wX5_leaveWhatIsOver_95 (x + 3) _ h17 Q ?_
        rw [← nI_succ]
        refine ih (i + 1) _ _ h17 (by omega) er H17 hFr (by omega) ?_
        unfold KPc at K ⊢
        dsimp only at K ⊢
        rw [lvF_none hg] at K
        exact K
/-- a push, and what it leaves alone -/
theorem c_pushX (hc : CS h0 x) (H : RCv P fp ip x h0 h fr (n, v, p, bb, g)) (hn : n < 220) {y : Int64} (k : ∀ h', RCv P fp ip x h0 h' fr (n + 1, upv v n y, p, bb, g) → gr h' = gr h → (∀ f a, f ≠ 513 → gi h' f a = gi h f a) → Q none h') : tX9_push (x + 9) y h Q := by
  have c := H.cs hc
  have x5 : gi h 513 (x + 9) = nI n := H.2.2.2.2.1
  refine wX9_push (x + 9) y h Q ⟨c.t8, ?_⟩
  rw [x5, if_neg (nI_n0 (by omega))]
  refine ⟨c.t8, c.t8, dr_of c.r512 (al_of c.t10a ?_)⟩
  rw [if_pos (i31 (by omega) (by decide))]
  refine ⟨c.t8, c.t8, dr_of c.r512 (ix_of c.t10a rfl (nI_in hn (by decide)) (fun h1 e1 => ?_))⟩
  rw [nck (by omega)] at e1
  have c1 : CS h1 x := by rw [e1]; exact c
  refine ⟨c1.t8, c1.t8, fun h2 e2 => ?_⟩
  have x51 : gi h1 513 (x + 9) = nI n := by rw [e1]; exact x5
  rw [x51, ← nI_succ] at e2
  refine k h2 ?_ (by rw [e2, e1]; rfl) (fun f a hf => by rw [e2, gi_ne hf, e1]; rfl)
  rw [e2, e1]
  exact H.push' y
theorem c_enter81 (hc : CS h0 x) (hP : CP h0 x fp ip P) (hg : P[f]? = some gf) {b : Nat} {q : Option Nat} (hfr : fr.length < 30) (hn : n + fL gf ≤ 220) : ∀ (t i : Nat) (h : Hp), t = fL gf - i → i ≤ fL gf → RCv P fp ip x h0 h fr (n + i, zr v n i, p, bb, g) → gr h 64 (x + 11 + fr.length) = some (fp f) → gi h 65 (x + 11 + fr.length) = nI b → gr h 66 (x + 11 + fr.length) = q.map (ip f) → (∀ h', RCv P fp ip x h0 h' ((f, b, q) :: fr) (n + fL gf, zr v n (fL gf), p, bb, g) → Q none h') → tX5_enter_81 (x + 3) (some (fp f)) (nI i) h Q := by
  intro t
  induction t with
  | zero =>
    intro i h ht hi H e1 e2 e3 k
    have e : i = fL gf := by omega
    subst e
    have c := H.cs hc
    have cp := H.1.cp hP
    obtain ⟨⟨f1, f2, f3, f4, f5, f6, f7, f8, f9⟩, -⟩ := cp f gf hg
    refine wX5_enter_81 (x + 3) _ _ h Q (dr_of rfl ⟨f1, ?_⟩)
    rw [f4, if_neg (nI_nlt (Nat.le_refl _) (by omega))]
    obtain ⟨y1, ⟨y21, y22⟩, y3, y4, y5, y6, ⟨y71, y72, y73⟩, y8, y9⟩ := H
    refine ⟨c.t5, dr_of rfl ⟨f1, c_room hg cp (rI_of ⟨c.t5, fun h5 q5 => ?_⟩)⟩⟩
    rw [y6, nJ_add] at q5
    have c5 : CS h5 x := by rw [q5]; exact c
    refine ⟨c5.t5, c5.t5, fun h6 q6 => k h6 ?_⟩
    have z4 : gi h5 326 (x + 3) = nI fr.length := by rw [q5, gi_ne (by decide)]; exact y4
    rw [z4, ← nI_succ] at q6
    refine ⟨y1.tr (by rw [q6, q5]; exact (CRW_pi _ _ (by omega)).tr (CRW_pi _ _ (by omega))), ⟨?_, ?_⟩, ?_, ?_, ?_, ?_, ⟨?_, ?_, ?_⟩, ?_, ?_, ?_, ?_, ?_⟩
    · rw [q6, gi_ne (by decide), q5, gi_ne (by decide)]; exact y21
    · rw [q6, gi_ne (by decide), q5, gi_ne (by decide)]; exact y22
    · rw [q6, gi_ne (by decide), q5, gi_ne (by decide)]; exact y3
    · rw [q6, gi_eq]; rfl
    · rw [q6, gi_ne (by decide), q5, gi_ne (by decide)]; exact y5
    · rw [q6, gi_ne (by decide), q5, gi_eq]
      show nI (askF P fr + askN P f) = nI (askN P f + askF P fr)
      rw [Nat.add_comm]
    · rw [q6, gi_ne (by decide), q5, gi_ne (by decide)]; exact y71
    · rw [q6, q5]; exact y72
    · rw [q6, q5]; exact y73
    · rw [q6, q5]; exact y8
    · rw [q6, q5]; exact e1
    · rw [q6, gi_ne (by decide), q5, gi_ne (by decide)]; exact e2
    · rw [q6, q5]; exact e3
    · rw [q6, q5]
      exact y9.of (fun j hj => ⟨rfl, by rw [gi_ne (by decide), gi_ne (by decide)], rfl⟩)
  | succ t ih =>
    intro i h ht hi H e1 e2 e3 k
    have c := H.cs hc
    have cp := H.1.cp hP
    obtain ⟨⟨f1, f2, f3, f4, f5, f6, f7, f8, f9⟩, -⟩ := cp f gf hg
    refine wX5_enter_81 (x + 3) _ _ h Q (dr_of rfl ⟨f1, ?_⟩)
    rw [f4, if_pos (nI_lt (by omega) (by omega))]
    refine ⟨c.t5, dr_of c.r324 ⟨c.t8, c_pushX hc H (by omega) (fun h1 H1 g1 g2 => rV_of ?_)⟩⟩
    rw [← nI_succ]
    exact ih (i + 1) h1 (by omega) (by omega) H1 (by rw [g1]; exact e1) (by rw [g2 _ _ (by decide)]; exact e2) (by rw [g1]; exact e3) k
theorem c_enter (hc : CS h0 x) (hP : CP h0 x fp ip P) (H : RCv P fp ip x h0 h fr (n, v, p, bb, g)) (hfr : fr.length ≤ 30) (ha220 : askF P fr ≤ 220) (hg : P[f]? = some gf) (hm : askN P f < 1000000) (hn : fP gf ≤ n) (hn2 : ¬ (fr.length = 30 ∨ 220 < askF P fr + askN P f) → n + fL gf ≤ 220)
    (k : match enA P f fr (n, v, p, bb, g) with
      | .inl _ => ∀ h', CSt x h0 h' 4 (gi h0 328 (x + 3)) (n, v, p, bb, g) → Q none h'
      | .inr y => ∀ h', RCv P fp ip x h0 h' y.1 y.2 → Q none h') : tX5_enter (x + 3) (some (fp f)) h Q := by
  have c := H.cs hc
  have cp := H.1.cp hP
  obtain ⟨⟨f1, f2, f3, f4, f5, f6, f7, f8, f9⟩, hb, -⟩ := cp f gf hg
  have x4 : gi h 326 (x + 3) = nI fr.length := H.2.2.2.1
  have x6 : gi h 325 (x + 3) = nI (askF P fr) := H.2.2.2.2.2.1
  unfold enA at k
  rw [hg] at k
  dsimp only at k
  have exh : (fr.length = 30 ∨ 220 < askF P fr + askN P f) → tX5_enter_42 (x + 3) (some (fp f)) h Q := by
    intro hh
    rw [if_pos hh] at k
    refine wX5_enter_42 (x + 3) _ h Q (wX5_enter_43 (x + 3) _ _ h Q ?_)
    rw [if_pos rfl]
    refine ⟨c.t5, fun h1 e1 => k h1 ?_⟩
    obtain ⟨y1, ⟨y21, y22⟩, y3, y4, y5, y6, ⟨y71, y72, y73⟩, y8, y9⟩ := H
    rw [e1]
    exact ⟨y1.tr (CRW_pi _ _ (by omega)), by rw [gi_ne (by decide)]; exact y22, gi_eq, by rw [gi_ne (by decide)]; exact y21, ⟨by rw [gi_ne (by decide)]; exact y71, y72, y73⟩⟩
  refine wX5_enter (x + 3) _ h Q ?_
  rw [if_neg (Option.some_ne_none _)]
  refine ⟨c.t5, ?_⟩
  rw [x4, if_neg (nI_n0 (by omega))]
  refine ⟨c.t5, c.t5, dr_of c.r322 (al_of c.t6a ?_)⟩
  by_cases c30 : fr.length = 30
  · rw [if_neg (show ¬ nI fr.length < Int32.ofNat 30 from fun z => by
      have := (nJ_lt (b := 30) (by omega) (by decide)).mp z
      omega)]
    exact exh (Or.inl c30)
  rw [if_pos (i31 (by omega) (by decide))]
  refine ⟨c.t5, dr_of rfl ⟨f1, c_room hg cp (rI_of ?_)⟩⟩
  rw [x6, nJ_add]
  by_cases c220 : 220 < askF P fr + askN P f
  · rw [if_pos (show (220 : Int32) < nI (askF P fr + askN P f) from nI_lt (a := 220) c220 (by omega))]
    exact exh (Or.inr c220)
  rw [if_neg (show ¬ (220 : Int32) < nI (askF P fr + askN P f) from fun z => c220 ((nJ_lt (a := 220) (by decide) (by omega)).mp z))]
  have hno : ¬ (fr.length = 30 ∨ 220 < askF P fr + askN P f) := fun z => z.elim c30 c220
  rw [if_neg hno] at k
  refine wX5_enter_43 (x + 3) _ _ h Q ?_
  rw [if_neg (by decide), x4]
  obtain ⟨cf1, cf2⟩ := c.fr fr.length (by omega)
  refine ⟨c.t5, c.t5, dr_of c.r322 (ix_of c.t6a (by decide) (nI_in (by omega) (by decide)) ⟨c.t5, dr_of c.r324 ⟨c.t8, dr_of rfl ⟨f1, ?_⟩⟩⟩)⟩
  have x5 : gi h 513 (x + 9) = nI n := H.2.2.2.2.1
  rw [nck (by omega), cf2, x5, f2, nJ_sub hn]
  refine dr_of rfl ⟨cf1, wX1_enter _ _ _ h _ ⟨cf1, fun h1 e1 => ?_⟩⟩
  refine ⟨by rw [e1]; exact cf1, fun h2 e2 => dr_of rfl ⟨by rw [e2, e1]; exact f1, by rw [e2, e1]; exact cf1, fun h4 e4 => rV_of ?_⟩⟩
  have e8 : gr h2 134 (fp f) = (settle (fC gf) 0).map (ip f) := by
    rw [e2, gr_pi, e1, gr_ne (by decide)]; exact f8
  rw [e8] at e4
  have H4 : RCv P fp ip x h0 h4 fr (n, v, p, bb, g) := by
    obtain ⟨y1, ⟨y21, y22⟩, y3, y4, y5, y6, ⟨y71, y72, y73⟩, y8, y9⟩ := H
    refine ⟨y1.tr (by rw [e4, e2, e1]; exact (CRW_pr _ _ (by omega)).tr ((CRW_pi _ _ (by omega)).tr (CRW_pr _ _ (by omega)))), ⟨?_, ?_⟩, ?_, ?_, ?_, ?_, ⟨?_, ?_, ?_⟩, ?_, ?_⟩
    · rw [e4, gi_pr, e2, gi_ne (by decide), e1]; exact y21
    · rw [e4, gi_pr, e2, gi_ne (by decide), e1]; exact y22
    · rw [e4, gi_pr, e2, gi_ne (by decide), e1]; exact y3
    · rw [e4, gi_pr, e2, gi_ne (by decide), e1]; exact y4
    · rw [e4, gi_pr, e2, gi_ne (by decide), e1]; exact y5
    · rw [e4, gi_pr, e2, gi_ne (by decide), e1]; exact y6
    · rw [e4, gi_pr, e2, gi_ne (by decide), e1]; exact y71
    · rw [e4, e2, e1]; exact y72
    · rw [e4, e2, e1]; exact y73
    · rw [e4, e2, e1]; exact y8
    · refine y9.of (fun j hj => ⟨?_, ?_, ?_⟩)
      · rw [e4, gr_na (by omega), e2, gr_pi, e1, gr_na (by omega)]
      · rw [e4, gi_pr, e2, gi_na (by omega), e1]; rfl
      · rw [e4, gr_na (by omega), e2, gr_pi, e1, gr_na (by omega)]
  refine c_enter81 (v := v) (n := n) (i := 0) (b := n - fP gf) (q := settle (fC gf) 0) hc hP hg (by omega) (hn2 hno) (fL gf) h4 (by omega) (Nat.zero_le _) H4 ?_ ?_ ?_ k
  · rw [e4, gr_ne (by decide), e2, gr_pi, e1, gr_eq]
  · rw [e4, gi_pr, e2, gi_eq]
  · rw [e4, gr_eq]
end RR
