/-! THE CLASS, 3: calls that do something -/
section CC
variable {h h' : Hp} {x : Nat} {fp : Nat → Nat} {ip : Nat → Nat → Nat} {P : List Fn} {D : Option Fn} {ac : Nat} {ar : VV} {tb : Nat → Option Nat} {s s' : RS} {st st' : Int32} {X : Ab} {Q : Option TV → Hp → Prop}
theorem IV.ask (hI : IV X) : ∀ f, askN X.1 f < 1000000 := by
  obtain ⟨P, D, ac, ar, tb, s, st⟩ := X
  obtain ⟨h1, h2, h3, -⟩ := hI
  intro f
  show askN P f < 1000000
  have ht : totL P ≤ 1500 := by
    cases D with
    | none => exact h3
    | some d =>
      have h3 : totL (P ++ [d]) ≤ 1500 := h3
      rw [totL_snoc] at h3
      omega
  cases hg : P[f]? with
  | none =>
    unfold askN
    rw [hg]
    show 0 < 1000000
    omega
  | some g =>
    rw [askN_some hg]
    obtain ⟨⟨u, hu, -⟩, h8⟩ := h1 f g hg
    have hu' : vk P f g (fC g).length = some u := hu
    rw [moF_some hg hu']
    have hlen : (fC g).length ≤ 1500 := by
      have e1 := pos0_succ hg
      have e2 := pos0_mono (fns := P) (j := f + 1) (k := P.length) (by have := lt_of_get hg; omega)
      unfold totL at ht
      omega
    have := vat_mostB h8.2.1 (fun s hs => ?_) hu
    · omega
    · unfold sgs at hs
      obtain ⟨g2, hg2, rfl⟩ := List.mem_map.mp hs
      obtain ⟨i, hi⟩ := List.getElem?_of_mem (List.mem_of_mem_take hg2)
      exact (h1 i g2 hi).2.2.1
theorem CAg.run (C : CAg h x fp ip (P, D, ac, ar, tb, s, st)) (W : CRW x h h') (e : gi h' 329 (x + 3) = st') (R : RXc P fp ip x h' s') : CAg h' x fp ip (P, D, ac, ar, tb, s', st') := by
  obtain ⟨⟨⟨c1, c2⟩, c3, c4, c5, -, -⟩, ⟨C2, C3⟩, C4, ⟨C5, C6⟩, C7⟩ := C
  have W0 := W
  obtain ⟨a1, a2, a3, a4, a5, a6, a7, a8, a9⟩ := W
  refine ⟨⟨⟨W0.cs c1, by omega⟩, W0.cp c3, fun k g hk => by rw [a4]; exact c4 k g hk, by rw [a3]; exact c5, e, R⟩, ⟨by rw [a6 _ _ (by omega)]; exact C2, by rw [a6 _ _ (by omega)]; exact C3⟩, by rw [a3]; exact C4, ⟨by rw [a6 _ _ (by omega)]; exact C5, by rw [a9 _ (by omega)]; exact C6⟩, ?_⟩
  exact C7.of (by omega) (a7 _ _ (by omega)) (by rw [a3]) (fun a _ _ => by rw [a1]) (fun f a h1 _ _ => a6 f a (by omega)) (fun f a h1 _ _ => a7 f a (by omega))
theorem c_run {n : Int32} (hI : IV X) (C : CA h x X) (K : ∀ h', CW x h h' → CA h' x (aRun X n).2 → Q (some (aRun X n).1) h') : tX10_run x n h Q := by
  have C0 := C
  have hM := hI.ask
  obtain ⟨fp, ip, Cg⟩ := C
  obtain ⟨P, D, ac, ar, tb, s, st⟩ := X
  obtain ⟨h1, h2, h3, h4, h5, h6⟩ := hI
  have Cg0 := Cg
  obtain ⟨⟨⟨c, -⟩, cp, cb, cq, c6, cr⟩, -, C4, -⟩ := Cg
  unfold aRun at K
  dsimp only at K
  refine wX10_run x n h Q (c_within (rI_of ?_))
  by_cases hw : wi n 2000
  case neg =>
    rw [if_neg hw] at K
    rw [if_neg hw, if_pos rfl]
    exact K h CW.rf C0
  rw [if_pos hw] at K
  rw [if_pos hw, if_neg (by decide)]
  have h20 := ((wi_nI (d := 2000) (by decide)).mp hw).2
  have en := nI_nt hw.1
  refine ⟨c.t9, dr_of c.r577 ⟨c.t5, wX5_advance (x + 3) n h _ ?_⟩⟩
  have := c_advance4 (Q := rI (fun x_4 h_3 => Q (some (tI x_4)) h_3)) h1 h5 hM h20 (nt n) 0 s h (by omega) (Nat.zero_le _) c cp C4 h6 cr (fun h' W e R => rI_of (K h' W.cw ⟨fp, ip, Cg0.run W (by rw [e, c6]) R⟩))
  rw [en] at this
  exact this
theorem c_call {f : Int32} (hI : IV X) (C : CA h x X) (K : ∀ h', CW x h h' → CA h' x (aCall X f).2 → Q (some (aCall X f).1) h') : tX10_call x f h Q := by
  have C0 := C
  have hM := hI.ask
  obtain ⟨fp, ip, Cg⟩ := C
  have hI0 := hI
  obtain ⟨P, D, ac, ar, tb, s, st⟩ := X
  obtain ⟨h1, h2, h3, h4, h5, h6⟩ := hI
  have Cg0 := Cg
  obtain ⟨⟨⟨c, -⟩, cp, cb, cq, c6, cr⟩, -, C4, ⟨C5, C6⟩, -⟩ := Cg
  unfold aCall at K
  dsimp only at K
  refine wX10_call x f h Q ⟨c.t9, dr_of c.r576 ⟨c.t7, c_whole hI0 Cg0 (rR_of ?_)⟩⟩
  dsimp only
  by_cases c0 : f < 0
  · rw [if_pos c0] at K
    rw [if_neg (show ¬ (¬ f < 0 ∧ nt f < P.length) from fun z => z.1 c0), if_pos rfl]
    exact K h CW.rf C0
  rw [if_neg c0] at K
  by_cases cP : nt f < P.length
  case neg =>
    rw [List.getElem?_eq_none (by omega)] at K
    rw [if_neg (show ¬ (¬ f < 0 ∧ nt f < P.length) from fun z => cP z.2), if_pos rfl]
    exact K h CW.rf C0
  rw [if_pos (show ¬ f < 0 ∧ nt f < P.length from ⟨c0, cP⟩), if_neg (Option.some_ne_none _)]
  have hg := List.getElem?_eq_getElem cP
  rw [hg] at K
  dsimp only at K
  obtain ⟨⟨f1, f2, -⟩, -⟩ := cp (nt f) _ hg
  have h8 := (h1 _ _ hg).2
  refine dr_of rfl ⟨f1, c.t9, ?_⟩
  rw [f2, C5]
  by_cases ca : ac = fP P[nt f]
  · rw [if_pos ca] at K
    rw [if_pos (by rw [ca])]
    refine ⟨c.t9, c.t9, dr_of c.r577 ⟨c.t5, ?_⟩⟩
    rw [c.r578]
    refine c_begin c cp h1 hM h6 cr hg ca C6 (fun h5 W e R => rV_of ?_)
    have C5' := Cg0.run W e R
    have c5 : CS h5 x := C5'.1.1.1
    refine ⟨c5.t9, fun h8 e8 => K h8 ?_ ⟨fp, ip, ?_⟩⟩
    · have w := W.cw
      obtain ⟨w1, w2, w3, w4⟩ := w
      rw [e8]
      refine ⟨w1, w2, w3, fun f a ha hf hn => ⟨?_, (w4 f a ha hf hn).2⟩⟩
      rw [gi_ne (by omega)]
      exact (w4 f a ha hf hn).1
    · obtain ⟨D1, ⟨D2, D3⟩, D4, -, D7⟩ := C5'
      refine ⟨?_, ⟨by rw [e8, gi_ne (by decide)]; exact D2, by rw [e8, gi_ne (by decide)]; exact D3⟩, by rw [e8]; exact D4, ⟨by rw [e8, gi_eq]; rfl, fun j hj => absurd hj (Nat.not_lt_zero j)⟩, ?_⟩
      · rw [e8]
        exact D1.of (A := fun _ => True) (afS_ok h1 ⟨h6.1, h6.2.1⟩ (cl_ok (ac := ac) h1 hg ca ⟨h6.1, h6.2.1⟩)) (fun _ _ _ => trivial) (fun _ _ _ => ⟨trivial, fun _ _ => trivial⟩) (Nat.le_refl _) (fun _ _ => rfl) (fun _ _ _ _ _ => rfl) (fun g a _ _ _ h579 _ => by rw [gi_ne h579]) rfl rfl rfl rfl (fun _ _ => rfl)
      · rw [e8]
        exact D7.of (Nat.le_refl _) rfl rfl (fun _ _ _ => rfl) (fun g a h1 _ _ => by rw [gi_na (by omega)]) (fun _ _ _ _ _ => rfl)
  · rw [if_neg ca] at K
    rw [if_neg (fun z => ca ((nJ_inj (by omega) (by omega)).mp z).symm)]
    exact K h CW.rf C0
theorem c_argument {y : Int64} (hI : IV X) (C : CA h x X) (K : ∀ h', CW x h h' → CA h' x (aArg X y).2 → Q (some (aArg X y).1) h') : tX10_argument x y h Q := by
  have C0 := C
  obtain ⟨fp, ip, Cg⟩ := C
  obtain ⟨P, D, ac, ar, tb, s, st⟩ := X
  obtain ⟨h1, h2, h3, h4, h5, h6⟩ := hI
  obtain ⟨CBb, ⟨C2, C3⟩, C4, ⟨C5, C6⟩, C7⟩ := Cg
  have CB0 := CBb
  obtain ⟨⟨c, cz⟩, cp, cb, cq, c6, cr⟩ := CBb
  unfold aArg at K
  dsimp only at K
  refine wX10_argument x y h Q ⟨c.t9, c.t9, dr_of c.r578 (al_of c.t41 ?_)⟩
  rw [C5]
  by_cases e8 : ac = 8
  · rw [if_pos e8] at K
    rw [if_neg (show ¬ nI ac < Int32.ofNat 8 from nI_nlt (b := 8) (by omega) (by omega))]
    exact K h CW.rf C0
  rw [if_neg e8] at K
  rw [if_pos (show nI ac < Int32.ofNat 8 from nI_lt (b := 8) (by omega) (by decide))]
  refine ⟨c.t9, c.t9, dr_of c.r578 (ix_of c.t41 rfl (nI_in (by omega) (by decide)) (fun k4 e4 => ?_))⟩
  rw [nck (by omega)] at e4
  have c4 : CS k4 x := by rw [e4]; exact c
  refine ⟨c4.t9, c4.t9, fun k5 e5 => ?_⟩
  have g4 : gi k4 579 x = nI ac := by rw [e4]; exact C5
  rw [g4, ← nI_succ] at e5
  have g5 : gi k5 579 x = nI (ac + 1) := by rw [e5, gi_eq]
  refine ⟨by rw [e5]; exact c4.t9, ?_⟩
  rw [g5]
  refine K k5 ?_ ⟨fp, ip, ?_, ⟨by rw [e5, gi_ne (by decide), e4]; exact C2, by rw [e5, gi_ne (by decide), e4]; exact C3⟩, by rw [e5, e4]; exact C4, ⟨g5, fun j hj => ?_⟩, ?_⟩
  · rw [e5, e4]
    refine ⟨⟨Nat.le_refl _, Nat.le_add_right _ _, Nat.le_add_right _ _⟩, fun _ _ => rfl, fun a _ hn => ⟨rfl, ?_, rfl⟩, fun f a _ hf _ => ⟨?_, rfl⟩⟩
    · rw [al_pi, al_ne (by omega)]
    · rw [gi_ne (by omega)]; rfl
  · rw [e5, e4]
    exact CB0.of (A := fun _ => True) h6 (fun _ _ _ => trivial) (fun _ _ _ => ⟨trivial, fun _ _ => trivial⟩) (Nat.le_refl _) (fun _ _ => rfl) (fun _ _ _ _ _ => rfl) (fun g a _ _ _ h579 _ => by rw [gi_ne h579]; rfl) rfl (by rw [al_pi, al_ne (by omega)]) (by rw [al_pi, al_ne (by omega)]) rfl (fun _ _ => rfl)
  · rw [e5, al_pi, e4, al_at]
    unfold upv
    by_cases e : j = ac
    · rw [if_pos e, if_pos e]
    · rw [if_neg e, if_neg e]
      exact C6 j (by omega)
  · rw [e5, e4]
    exact C7.of (Nat.le_refl _) rfl rfl (fun _ _ _ => rfl) (fun g a h1 _ _ => by rw [gi_na (by omega)]; rfl) (fun _ _ _ _ _ => rfl)
end CC
