/-! THE CLASS, 2: frames; calls that only look -/
section CC
variable {h h' : Hp} {x B da fd : Nat} {fp I : Nat → Nat} {ip : Nat → Nat → Nat} {L : Option Nat → Nat} {sg : List (Nat × Nat)} {nm r : Nat} {c : List Ic} {v : VS} {P : List Fn} {D : Option Fn} {s : RS} {st : Int32} {X : Ab} {Q : Option TV → Hp → Prop}
theorem DSt.of (D : DSt h x B da fd fp I L sg nm r c) (hz : sz h ≤ sz h') (ht : ∀ a, B < a → a < sz h → tg h' a = tg h a) (hg : ∀ f a, B < a → a < sz h → f < 640 → gi h' f a = gi h f a) (hr : ∀ f a, B < a → a < sz h → f < 640 → gr h' f a = gr h f a) : DSt h' x B da fd fp I L sg nm r c := by
  obtain ⟨⟨d1, d2, d3, d4, d5, d6⟩, dI, dL, d7, d8, ⟨d9, d10, d11, d12⟩, d13, d14, d15, d16⟩ := D
  refine ⟨⟨by rw [ht _ d9 d10]; exact d1, by rw [hr _ _ d9 d10 (by decide)]; exact d2, by rw [hr _ _ d9 d10 (by decide)]; exact d3, by rw [ht _ d11 d12]; exact d4, by rw [hr _ _ d9 d10 (by decide)]; exact d5, by rw [hg _ _ d9 d10 (by decide)]; exact d6⟩, fun j hj => ?_, fun q hq => ?_, fun j hj h5 => ?_, fun j hj h5 => ?_, ⟨d9, by omega, d11, by omega⟩, fun j hj => ?_, fun q hq => ?_, d15, d16⟩
  · obtain ⟨b1, b2⟩ := d13 j hj
    obtain ⟨i1, i2, i3, i4, i5, i6, i7⟩ := dI j hj
    exact ⟨by rw [ht _ b1 b2]; exact i1, by rw [hg _ _ b1 b2 (by decide)]; exact i2, by rw [hg _ _ b1 b2 (by decide)]; exact i3, by rw [hg _ _ b1 b2 (by decide)]; exact i4, by rw [hr _ _ b1 b2 (by decide)]; exact i5, by rw [hr _ _ b1 b2 (by decide)]; exact i6, fun z => by rw [hr _ _ b1 b2 (by decide)]; exact i7 z⟩
  · obtain ⟨b1, b2⟩ := d14 q hq
    obtain ⟨l1, l2, l3, l4, l5, l6, l7, l8, l9⟩ := dL q hq
    exact ⟨by rw [ht _ b1 b2]; exact l1, by rw [hg _ _ b1 b2 (by decide)]; exact l2, by rw [hg _ _ b1 b2 (by decide)]; exact l3, by rw [hg _ _ b1 b2 (by decide)]; exact l4, by rw [hg _ _ b1 b2 (by decide)]; exact l5, by rw [hr _ _ b1 b2 (by decide)]; exact l6, by rw [hr _ _ b1 b2 (by decide)]; exact l7, fun a ha => l8 a (by rw [hr _ _ b1 b2 (by decide)] at ha; exact ha), fun a ha => l9 a (by rw [hr _ _ b1 b2 (by decide)] at ha; exact ha)⟩
  · obtain ⟨b1, b2⟩ := d14 _ (vQ_ps (c := c) (i := j) (k := 0) (by omega))
    rw [hr _ _ b1 b2 (by decide)]
    exact d7 j hj h5
  · obtain ⟨b1, b2⟩ := d14 _ (vQ_ps (c := c) (i := j) (k := 0) (by omega))
    rw [hr _ _ b1 b2 (by decide)]
    exact d8 j hj h5
  · have := d13 j hj
    omega
  · have := d14 q hq
    omega
theorem DNm.of (M : DNm h da fd L c v) (D : DSt h x B da fd fp I L sg nm r c) (hg : ∀ f a, B < a → a < sz h → f < 640 → gi h' f a = gi h f a) (hr : ∀ f a, B < a → a < sz h → f < 640 → gr h' f a = gr h f a) : DNm h' da fd L c v := by
  obtain ⟨-, -, -, -, -, ⟨d9, d10, d11, d12⟩, d13, d14, d15, d16⟩ := D
  obtain ⟨m1, m2, m3, m4, m5, m6, m7⟩ := M
  refine ⟨by rw [hr _ _ d9 d10 (by decide)]; exact m1, by rw [hg _ _ d9 d10 (by decide)]; exact m2, by rw [hg _ _ d9 d10 (by decide)]; exact m3, by rw [hg _ _ d9 d10 (by decide)]; exact m4, fun z => by rw [hg _ _ d9 d10 (by decide)]; exact m5 z, by rw [hg _ _ d11 d12 (by decide)]; exact m6, fun k l hk => ?_⟩
  obtain ⟨b1, b2⟩ := d14 _ (vQ_ps (c := c) (i := c.length) (k := k) (Nat.le_refl _))
  rw [hg _ _ b1 b2 (by decide), hr _ _ b1 b2 (by decide), hr _ _ b1 b2 (by decide)]
  exact m7 k l hk
theorem CD.of (C : CD h x fp ip P D) (hz : sz h ≤ sz h') (h5 : gr h' 580 x = gr h 580 x) (h2 : aq h' (x + 2) P.length = aq h (x + 2) P.length) (ht : ∀ a, x + 41 < a → a < sz h → tg h' a = tg h a) (hg : ∀ f a, x + 41 < a → a < sz h → f < 640 → gi h' f a = gi h f a) (hr : ∀ f a, x + 41 < a → a < sz h → f < 640 → gr h' f a = gr h f a) : CD h' x fp ip P D := by
  cases D with
  | none =>
    show gr h' 580 x = none
    rw [h5]
    exact C
  | some d =>
    obtain ⟨B, da, I, L, e1, e2, e3, e4, ⟨s1, s2, s3, s4, s5⟩, e6, e7⟩ := C
    have ht' : ∀ a, B < a → a < sz h → tg h' a = tg h a := fun a h1 h2 => ht a (by omega) h2
    have hg' : ∀ f a, B < a → a < sz h → f < 640 → gi h' f a = gi h f a := fun f a h1 h2 => hg f a (by omega) h2
    have hr' : ∀ f a, B < a → a < sz h → f < 640 → gr h' f a = gr h f a := fun f a h1 h2 => hr f a (by omega) h2
    obtain ⟨d9, d10, d11, d12⟩ := e6.2.2.2.2.2.1
    refine ⟨B, da, I, L, by rw [h5]; exact e1, e2, e3, by rw [h2]; exact e4, ⟨by rw [hg' _ _ d11 d12 (by decide)]; exact s1, by rw [hg' _ _ d11 d12 (by decide)]; exact s2, by rw [hg' _ _ d11 d12 (by decide)]; exact s3, by rw [hg' _ _ d11 d12 (by decide)]; exact s4, by rw [hg' _ _ d11 d12 (by decide)]; exact s5⟩, e6.of hz ht' hg' hr', fun v hv => (e7 v hv).of e6 hg' hr'⟩
theorem IV.oks (hI : IV X) : OKS X.1 X.2.2.2.2.2.1 := by
  obtain ⟨P, D, ac, ar, tb, s, st⟩ := X
  exact hI.2.2.2.2.2
/-- what the reference does leaves the class alone -/
theorem CA.mw {m : Nat} (hI : IV X) (C : CA h x X) (W : MW m h h') (hd : m + 25 < x ∨ x + 41 < m) : CA h' x X := by
  obtain ⟨P, D, ac, ar, tb, s, st⟩ := X
  obtain ⟨fp, ip, C1, ⟨C2, C3⟩, C4, ⟨C5, C6⟩, C7⟩ := C
  have hO : OKS P s := hI.oks
  obtain ⟨w1, w2, w3, w4, w5, w6, w7, w8, w9⟩ := W
  have g : ∀ f a, f < 640 → gi h' f a = gi h f a := fun f a hf => w7 f a (by omega)
  refine ⟨fp, ip, ?_, ⟨by rw [g _ _ (by decide)]; exact C2, by rw [g _ _ (by decide)]; exact C3⟩, by rw [w4]; exact C4, ⟨by rw [g _ _ (by decide)]; exact C5, by rw [w9 _ (by omega)]; exact C6⟩, ?_⟩
  · exact C1.of (A := fun _ => True) hO (fun _ _ _ => trivial) (fun _ _ _ => ⟨trivial, fun _ _ => trivial⟩) (by rw [w5]; exact Nat.le_refl _) (fun a _ => by rw [w1]) (fun f a _ _ _ => by rw [w3]) (fun f a _ _ _ _ hf => g f a hf) (w8 _ (by omega)) (w9 _ (by omega)) (w9 _ (by omega)) (by rw [w4]) (fun k _ => by rw [w4])
  · exact C7.of (by rw [w5]; exact Nat.le_refl _) (by rw [w3]) (by rw [w4]) (fun a _ _ => by rw [w1]) (fun f a _ _ hf => g f a hf) (fun f a _ _ _ => by rw [w3])
/-- what running leaves alone -/
theorem CRW.cw (W : CRW x h h') : CW x h h' := by
  obtain ⟨a1, a2, a3, a4, a5, a6, a7, a8, a9⟩ := W
  exact ⟨⟨by omega, by omega, by omega⟩, fun a _ => by rw [a1], fun a _ hn => ⟨a8 a (by omega), a9 a (by omega), by rw [a3]⟩, fun f a _ hf hn => ⟨a6 f a (by omega), a7 f a (by omega)⟩⟩
theorem c_all (C : CA h x X) (K : Q (some (tI (nI (totL (fnD X.1 X.2.1))))) h) : tX10_instructionsInAll x h Q := by
  obtain ⟨P, D, ac, ar, tb, s, st⟩ := X
  obtain ⟨fp, ip, ⟨⟨c, -⟩, -⟩, ⟨-, C3⟩, -, -, C7⟩ := C
  refine wX10_instructionsInAll x h Q ⟨c.t9, dr_of c.r576 ⟨c.t7, c.t9, ?_⟩⟩
  rw [C3]
  cases D with
  | none =>
    have C7 : gr h 580 x = none := C7
    rw [if_pos C7]
    rw [show nI (totL P) + 0 = nI (totL P) by simp]
    exact K
  | some d =>
    obtain ⟨B, da, I, L, e1, e2, e3, e4, -, e6, e7⟩ := C7
    rw [if_neg (by rw [e1]; exact Option.some_ne_none _)]
    refine ⟨c.t9, dr_of e1 ⟨e6.1.1, ?_⟩⟩
    rw [e6.1.2.2.2.2.2, nJ_add, ← totL_snoc]
    exact K
theorem c_whole (hI : IV X) {fp : Nat → Nat} {ip : Nat → Nat → Nat} (C : CAg h x fp ip X) {f : Int32} (K : Q (some (tR (if ¬ f < 0 ∧ nt f < X.1.length then some (fp (nt f)) else none))) h) : tX8_findWhole (x + 1) f h Q := by
  obtain ⟨P, D, ac, ar, tb, s, st⟩ := X
  obtain ⟨⟨⟨c, -⟩, cp, cb, cq, -⟩, ⟨C2, C3⟩, -, -, C7⟩ := C
  have h40 : (fnD P D).length ≤ 40 ∧ (D = none → (fnD P D).length = P.length) ∧ (∀ d, D = some d → (fnD P D).length = P.length + 1) := by
    obtain ⟨-, h2, -⟩ := hI
    cases D with
    | none => exact ⟨h2, fun _ => rfl, fun d hd => by cases hd⟩
    | some d =>
      have h2 := h2.1
      have e : (fnD P (some d)).length = P.length + 1 := by show (P ++ [d]).length = _; simp
      exact ⟨by omega, fun z => (by cases z), fun _ _ => e⟩
  refine wX8_findWhole (x + 1) f h Q ⟨c.t7, wX8_find (x + 1) f h _ ?_⟩
  by_cases c0 : f < 0
  · rw [if_pos c0]
    rw [if_neg (fun z => z.1 c0)] at K
    refine rR_of ?_
    rw [if_pos rfl]
    exact K
  rw [if_neg c0]
  refine ⟨c.t7, ?_⟩
  rw [C2]
  have ef := nI_nt c0
  have hl := nt_lt f
  by_cases cl : nt f < (fnD P D).length
  · rw [if_pos (by rw [← ef]; exact nI_lt cl (by omega))]
    refine ⟨c.t7, dr_of c.r448 (al_of c.t2 ?_)⟩
    rw [if_pos (show f < Int32.ofNat 40 from by rw [← ef]; exact nI_lt (b := 40) (by omega) (by decide))]
    refine ⟨c.t7, dr_of c.r448 (ix_of c.t2 (by decide) ?_ (rR_of ?_))⟩
    · rw [← ef]
      exact nI_in (by omega) (by decide)
    · show (if aq h (x + 2) (nt f) = none then _ else _)
      by_cases cP : nt f < P.length
      · rw [if_pos ⟨c0, cP⟩] at K
        have hg := List.getElem?_eq_getElem cP
        obtain ⟨⟨f1, -, -, -, -, f6, -⟩, -⟩ := cp (nt f) _ hg
        have eq := cq (nt f) cP
        rw [if_neg (by rw [eq]; exact Option.some_ne_none _)]
        refine dr_of eq ⟨f1, ?_⟩
        rw [if_neg (by rw [f6]; decide)]
        show Q (some (tR (aq h (x + 2) (nt f)))) h
        rw [eq]
        exact K
      · rw [if_neg (show ¬ (¬ f < 0 ∧ nt f < P.length) from fun z => cP z.2)] at K
        cases D with
        | none =>
          have := h40.2.1 rfl
          omega
        | some d =>
          have e := h40.2.2 d rfl
          have en : nt f = P.length := by omega
          obtain ⟨B, da, I, L, e1, e2, e3, e4, ⟨s1, s2, s3, s4, s5⟩, e6, e7⟩ := C7
          have e4' : aq h (x + 2) f.toNatClampNeg = some (fp P.length) := by
            rw [show f.toNatClampNeg = P.length from en]
            exact e4
          rw [if_neg (show ¬ aq h (x + 2) (nt f) = none by rw [en, e4]; exact Option.some_ne_none _)]
          refine dr_of e4' ⟨e6.1.2.2.2.1, ?_⟩
          rw [if_pos s5]
          exact K
  · rw [if_neg (by rw [← ef]; exact nI_nlt (by omega) hl)]
    rw [if_neg (show ¬ (¬ f < 0 ∧ nt f < P.length) from fun z => by
      cases D with
      | none => have := h40.2.1 rfl; omega
      | some d => have := h40.2.2 d rfl; omega)] at K
    refine rR_of ?_
    rw [if_pos rfl]
    exact K
theorem c_look {f k : Int32} (hI : IV X) (C : CA h x X) (K : ∀ h', CW x h h' → CA h' x X → Q (some (aLook X f k)) h') : tX10_look x f k h Q := by
  have K := K h CW.rf C
  obtain ⟨fp, ip, Cg⟩ := C
  obtain ⟨P, D, ac, ar, tb, s, st⟩ := X
  have Cg0 := Cg
  obtain ⟨⟨⟨c, -⟩, cp, cb, cq, -⟩, -⟩ := Cg
  unfold aLook at K
  dsimp only at K
  refine wX10_look x f k h Q ⟨c.t9, dr_of c.r576 ⟨c.t7, c_whole hI Cg0 (rR_of ?_)⟩⟩
  dsimp only
  by_cases c0 : f < 0
  · rw [if_pos c0] at K
    rw [if_neg (show ¬ (¬ f < 0 ∧ nt f < P.length) from fun z => z.1 c0), if_pos rfl]
    exact K
  rw [if_neg c0] at K
  by_cases cP : nt f < P.length
  · rw [if_pos (show ¬ f < 0 ∧ nt f < P.length from ⟨c0, cP⟩), if_neg (Option.some_ne_none _)]
    have hg := List.getElem?_eq_getElem cP
    rw [hg] at K
    dsimp only at K
    obtain ⟨⟨f1, f2, f3, f4, f5, f6, f7, -⟩, -⟩ := cp (nt f) _ hg
    by_cases k0 : k = 0
    · rw [if_pos k0] at K ⊢
      refine dr_of rfl ⟨f1, ?_⟩
      rw [f2]
      exact K
    rw [if_neg k0] at K ⊢
    by_cases k1 : k = 1
    · rw [if_pos k1] at K ⊢
      refine dr_of rfl ⟨f1, ?_⟩
      rw [f3]
      exact K
    rw [if_neg k1] at K ⊢
    by_cases k2 : k = 2
    · rw [if_pos k2] at K ⊢
      refine dr_of rfl ⟨f1, ?_⟩
      rw [f4]
      exact K
    rw [if_neg k2] at K ⊢
    by_cases k3 : k = 3
    · rw [if_pos k3] at K ⊢
      refine dr_of rfl ⟨f1, ?_⟩
      rw [f7]
      exact K
    rw [if_neg k3] at K ⊢
    exact K
  · rw [List.getElem?_eq_none (by omega)] at K
    rw [if_neg (show ¬ (¬ f < 0 ∧ nt f < P.length) from fun z => cP z.2), if_pos rfl]
    exact K
theorem c_globalO (c : CS h x) {w : Wd} (p : PC x h w) {k : Int32} (K : Q (some (tL (if wi k 7 then w.2.2.2.2 (nt k) else 0))) h) : tX5_globalAt (x + 3) k h Q := by
  refine wX5_globalAt (x + 3) k h Q ?_
  by_cases c0 : k < 0
  · rw [if_neg (fun z => z.1 c0)] at K
    rw [if_pos c0]
    exact K
  rw [if_neg c0]
  have ek := nI_nt c0
  have hl := nt_lt k
  refine ⟨c.t5, dr_of c.r321 (al_of c.t5a ?_)⟩
  by_cases cl : nt k < 8
  · rw [if_pos (show k < Int32.ofNat 8 from by rw [← ek]; exact nI_lt (b := 8) cl (by decide))]
    have hw : wi k 7 := (wi_nI (d := 7) (by decide)).mpr ⟨c0, by omega⟩
    rw [if_pos hw] at K
    refine ⟨c.t5, dr_of c.r321 (ix_of c.t5a rfl ?_ ?_)⟩
    · rw [← ek]
      exact nI_in cl (by decide)
    · show Q (some (tL (al h (x + 5) (nt k)))) h
      rw [p.2.2]
      exact K
  · rw [if_neg (show ¬ k < Int32.ofNat 8 from by rw [← ek]; exact nI_nlt (b := 8) (by omega) hl)]
    rw [if_neg (fun z => cl (by have := ((wi_nI (d := 7) (by decide)).mp z).2; omega))] at K
    exact K
theorem c_global {k : Int32} (C : CA h x X) (K : ∀ h', CW x h h' → CA h' x X → Q (some (aGlob X k)) h') : tX10_global x k h Q := by
  have K := K h CW.rf C
  obtain ⟨fp, ip, Cg⟩ := C
  obtain ⟨P, D, ac, ar, tb, s, st⟩ := X
  obtain ⟨⟨⟨c, -⟩, -, -, -, -, x1, x2, x3, -⟩, -⟩ := Cg
  exact wX10_global x k h Q ⟨c.t9, dr_of c.r577 ⟨c.t5, c_globalO c x3 (rL_of K)⟩⟩
theorem c_result {k : Int32} (hI : IV X) (C : CA h x X) (K : ∀ h', CW x h h' → CA h' x X → Q (some (aRes X k)) h') : tX10_result x k h Q := by
  have K := K h CW.rf C
  obtain ⟨fp, ip, Cg⟩ := C
  have hO := hI.oks
  obtain ⟨P, D, ac, ar, tb, s, st⟩ := X
  obtain ⟨⟨⟨c, -⟩, -, -, -, -, x1, x2, x3, x4, x5⟩, -⟩ := Cg
  unfold aRes at K
  dsimp only at K
  refine wX10_result x k h Q ⟨c.t9, dr_of c.r577 ⟨c.t5, wX5_resultAt (x + 3) k h _ ⟨c.t5, ?_⟩⟩⟩
  rw [x1]
  by_cases e2 : s.1 = 2
  · rw [if_pos e2]
    obtain ⟨y1, y2⟩ := x5 e2
    have h8 : s.2.2.2.1 ≤ 8 := hO.2.2.2 e2
    by_cases c0 : k < 0
    · rw [if_neg (fun z => z.2.1 c0)] at K
      rw [if_pos c0]
      exact rL_of K
    rw [if_neg c0]
    have ek := nI_nt c0
    have hl := nt_lt k
    refine ⟨c.t5, dr_of c.r324 ⟨c.t8, ?_⟩⟩
    rw [y1]
    by_cases cl : nt k < s.2.2.2.1
    · rw [if_pos ⟨e2, c0, cl⟩] at K
      rw [if_pos (by rw [← ek]; exact nI_lt cl (by omega))]
      refine ⟨c.t5, dr_of c.r324 ⟨c.t8, wX9_at (x + 9) k h _ ?_⟩⟩
      rw [if_neg c0]
      refine ⟨c.t8, dr_of c.r512 (al_of c.t10a ?_)⟩
      rw [if_pos (show k < Int32.ofNat 220 from by rw [← ek]; exact nI_lt (b := 220) (by omega) (by decide))]
      refine ⟨c.t8, dr_of c.r512 (ix_of c.t10a rfl ?_ (rL_of (rL_of ?_)))⟩
      · rw [← ek]
        exact nI_in (by omega) (by decide)
      · show Q (some (tL (al h (x + 10) (nt k)))) h
        rw [y2 _ cl]
        exact K
    · rw [if_neg (fun z => cl z.2.2)] at K
      rw [if_neg (by rw [← ek]; exact nI_nlt (by omega) hl)]
      exact rL_of K
  · rw [if_neg e2]
    rw [if_neg (fun z => e2 z.1)] at K
    exact rL_of K
theorem c_memory {k : Int32} (hI : IV X) (C : CA h x X) (K : ∀ h', CW x h h' → CA h' x X → Q (some (aMem X k)) h') : tX10_memory x k h Q := by
  have K := K h CW.rf C
  obtain ⟨fp, ip, Cg⟩ := C
  have hO := hI.oks
  obtain ⟨P, D, ac, ar, tb, s, st⟩ := X
  have hO : OKS P s := hO
  obtain ⟨⟨⟨c, -⟩, -, -, -, -, x1, x2, ⟨x31, x32, x33⟩, -⟩, -⟩ := Cg
  obtain ⟨o1, o2, -⟩ := hO
  unfold aMem at K
  dsimp only at K
  refine wX10_memory x k h Q ⟨c.t9, dr_of c.r577 ⟨c.t5, dr_of c.r323 ⟨c.t6, wX6_byteAt (x + 7) k h _ ⟨c.t6, ?_⟩⟩⟩⟩
  by_cases c0 : k < 0
  · rw [if_neg (fun z => z.1 c0)] at K
    refine wX6_holds (x + 7) _ _ h _ ⟨c.t6, c.t6, dr_of c.r384 (al_of c.t8a ?_)⟩
    have n64 : k.toInt64 < 0 := by
      rw [Int64.lt_iff_toInt_lt, Int32.toInt_toInt64]
      rw [Int32.lt_iff_toInt_lt] at c0
      exact c0
    rw [if_pos n64]
    refine rI_of ?_
    rw [if_pos rfl]
    exact rI_of K
  have ek := nI_nt c0
  have hl := nt_lt k
  have e64 : k.toInt64 = jN (nt k) := by
    have := nI_to64 hl
    rw [ek] at this
    exact this
  rw [e64]
  refine c_holds (s := 1) c (by omega) (by omega) o2 x31 (rI_of ?_)
  by_cases cl : nt k < 64 * s.2.2.2.2.2.1
  · rw [if_pos ⟨c0, cl⟩] at K
    rw [if_neg (show ¬ 64 * s.2.2.2.2.2.1 < nt k + 1 by omega), if_neg (by decide)]
    refine ⟨c.t6, dr_of c.r384 (ix_of c.t8a rfl ?_ (rI_of ?_))⟩
    · rw [← ek]
      exact nI_in (by omega) (by decide)
    · show Q (some (tI (ai h (x + 8) (nt k) &&& 255))) h
      rw [x32]
      exact K
  · rw [if_neg (fun z => cl z.2)] at K
    rw [if_pos (show 64 * s.2.2.2.2.2.1 < nt k + 1 by omega), if_pos rfl]
    exact rI_of K
theorem c_state {k : Int32} (hI : IV X) (C : CA h x X) (K : ∀ h', CW x h h' → CA h' x X → Q (some (aState X k)) h') : tX10_state x k h Q := by
  have K := K h CW.rf C
  have C0 := C
  obtain ⟨fp, ip, Cg⟩ := C
  obtain ⟨P, D, ac, ar, tb, s, st⟩ := X
  obtain ⟨⟨⟨c, -⟩, -, -, -, c6, x1, x2, ⟨x31, x32, x33⟩, x4, x5⟩, ⟨C2, C3⟩, -, -, C7⟩ := Cg
  obtain ⟨-, h2, -⟩ := hI
  unfold aState at K
  dsimp only at K
  refine wX10_state x k h Q ?_
  by_cases k0 : k = 0
  · rw [if_pos k0] at K ⊢
    refine ⟨c.t9, dr_of c.r577 ⟨c.t5, ?_⟩⟩
    rw [x1]
    exact K
  rw [if_neg k0] at K ⊢
  by_cases k1 : k = 1
  · rw [if_pos k1] at K ⊢
    refine ⟨c.t9, dr_of c.r577 ⟨c.t5, ?_⟩⟩
    rw [x2]
    exact K
  rw [if_neg k1] at K ⊢
  by_cases k2 : k = 2
  · rw [if_pos k2] at K ⊢
    refine ⟨c.t9, dr_of c.r577 ⟨c.t5, c_going c (rI_of ?_)⟩⟩
    rw [x1]
    by_cases e1 : s.1 = 1
    · rw [if_pos e1] at K
      rw [if_pos e1, if_neg (by decide)]
      obtain ⟨f, b, i, r, y1, L⟩ := x4 e1
      refine ⟨c.t9, dr_of c.r577 ⟨c.t5, ?_⟩⟩
      rw [L.2.2.2.1, ← y1]
      exact K
    · rw [if_neg e1] at K
      rw [if_neg e1, if_pos rfl]
      exact K
  rw [if_neg k2] at K ⊢
  by_cases k3 : k = 3
  · rw [if_pos k3] at K ⊢
    refine ⟨c.t9, dr_of c.r577 ⟨c.t5, c_going c (rI_of ?_)⟩⟩
    rw [x1]
    by_cases e1 : s.1 = 1
    · rw [if_pos e1] at K
      rw [if_pos e1, if_neg (by decide)]
      obtain ⟨f, b, i, r, y1, L⟩ := x4 e1
      refine ⟨c.t9, dr_of c.r577 ⟨c.t5, dr_of c.r324 ⟨c.t8, ?_⟩⟩⟩
      rw [L.2.2.2.2.1]
      exact K
    · rw [if_neg e1] at K
      rw [if_neg e1, if_pos rfl]
      exact K
  rw [if_neg k3] at K ⊢
  by_cases k4 : k = 4
  · rw [if_pos k4] at K ⊢
    refine ⟨c.t9, dr_of c.r577 ⟨c.t5, ?_⟩⟩
    rw [c6]
    exact K
  rw [if_neg k4] at K ⊢
  by_cases k5 : k = 5
  · rw [if_pos k5] at K ⊢
    refine ⟨c.t9, dr_of c.r576 ⟨c.t7, ?_⟩⟩
    rw [C2]
    exact K
  rw [if_neg k5] at K ⊢
  by_cases k6 : k = 6
  · rw [if_pos k6] at K ⊢
    exact ⟨c.t9, c_all C0 (rI_of K)⟩
  rw [if_neg k6] at K ⊢
  have lab : ∀ d, D = some d → ∃ v l q, labD P D = some v ∧ v = l :: q ∧ ∃ B da I L, gr h 580 x = some da ∧ DSt h x B da (fp P.length) fp I L (sgs (P ++ [d])) (fP d + fL d) (fR d) (fC d) ∧ ∃ u : VS, u.1 = l :: q ∧ vat (sgs (P ++ [d])) (fP d + fL d) (fR d) (fC d) (fC d).length = some u ∧ DNm h da (fp P.length) L (fC d) u := by
    intro d hd
    subst hd
    obtain ⟨B, da, I, L, e1, e2, e3, e4, -, e6, e7⟩ := C7
    obtain ⟨-, -, u, hu, hne⟩ := h2
    cases hl : u.1 with
    | nil => exact absurd hl hne
    | cons l q =>
      refine ⟨u.1, l, q, ?_, hl, B, da, I, L, e1, e6, u, hl, ?_, e7 u hu⟩
      · show (match vk (P ++ [d]) P.length d (fC d).length with
          | none => none
          | some v => some v.1) = _
        rw [hu]
      · rw [vk_last] at hu
        exact hu
  have nolab : D = none → labD P D = none ∧ gr h 580 x = none := by
    intro hd
    subst hd
    exact ⟨rfl, C7⟩
  by_cases k7 : k = 7
  · rw [if_pos k7] at K ⊢
    refine ⟨c.t9, ?_⟩
    cases hD : D with
    | none =>
      obtain ⟨n1, n2⟩ := nolab hD
      rw [n1] at K
      rw [if_pos n2]
      exact K
    | some d =>
      obtain ⟨v, l, q, a1, a2, B, da, I, L, a3, a4, u, a5, a6, a7⟩ := lab d hD
      rw [a1] at K
      dsimp only at K
      rw [if_neg (by rw [a3]; exact Option.some_ne_none _)]
      refine ⟨c.t9, dr_of a3 ⟨a4.1.1, ?_⟩⟩
      rw [a7.2.1, a5, ← a2]
      exact K
  rw [if_neg k7] at K ⊢
  by_cases k8 : k = 8
  · rw [if_pos k8] at K ⊢
    refine ⟨c.t9, ?_⟩
    cases hD : D with
    | none =>
      obtain ⟨n1, n2⟩ := nolab hD
      rw [n1] at K
      rw [if_pos n2]
      exact K
    | some d =>
      obtain ⟨v, l, q, a1, a2, B, da, I, L, a3, a4, u, a5, a6, a7⟩ := lab d hD
      rw [a1, a2] at K
      dsimp only at K
      rw [if_neg (by rw [a3]; exact Option.some_ne_none _)]
      exact ⟨c.t9, dr_of a3 ⟨a4.1.1, c_own (DNm.top a4 a7 a6 a5) (rI_of K)⟩⟩
  rw [if_neg k8] at K ⊢
  by_cases k9 : k = 9
  · rw [if_pos k9] at K ⊢
    refine ⟨c.t9, ?_⟩
    cases hD : D with
    | none =>
      obtain ⟨n1, n2⟩ := nolab hD
      rw [n1] at K
      rw [if_pos n2]
      exact K
    | some d =>
      obtain ⟨v, l, q, a1, a2, B, da, I, L, a3, a4, u, a5, a6, a7⟩ := lab d hD
      rw [a1, a2] at K
      dsimp only at K
      rw [if_neg (by rw [a3]; exact Option.some_ne_none _)]
      obtain ⟨t1, t2, t3, t4, t5, t6, t7, t8⟩ := DNm.top a4 a7 a6 a5
      refine ⟨c.t9, dr_of a3 ⟨t1, wX0_isDead da h _ ⟨t1, ?_⟩⟩⟩
      rw [if_neg (by rw [t2]; exact Option.some_ne_none _)]
      refine ⟨t1, dr_of t2 ⟨t3, ?_⟩⟩
      rw [t7]
      by_cases dd : dD l = true
      · rw [if_pos dd] at K
        rw [if_pos dd, if_neg (by decide)]
        refine rI_of ?_
        rw [if_neg (by decide)]
        exact K
      · rw [if_neg dd] at K
        rw [if_neg dd, if_pos rfl]
        refine rI_of ?_
        rw [if_pos rfl]
        exact K
  rw [if_neg k9] at K ⊢
  by_cases k10 : k = 10
  · rw [if_pos k10] at K ⊢
    refine ⟨c.t9, dr_of c.r577 ⟨c.t5, dr_of c.r323 ⟨c.t6, ?_⟩⟩⟩
    rw [x31]
    exact K
  rw [if_neg k10] at K ⊢
  exact K
end CC
