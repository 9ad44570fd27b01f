/-! THE REFERENCE: the rest of its calls -/
theorem RXs.ofQ {P : List Fn} {m : Nat} {h h' : Hp} {s : RS} (S1 : ∀ f, f = 666 ∨ f = 668 ∨ f = 669 ∨ (671 ≤ f ∧ f ≤ 674) ∨ f = 680 → gi h' f m = gi h f m) (S2 : ∀ a, m + 18 ≤ a ∧ a ≤ m + 25 ∧ a ≠ m + 20 → ai h' a = ai h a ∧ al h' a = al h a) (H : RXs P m h s) : RXs P m h' s := by
  obtain ⟨h1, h2, ⟨h31, h32, h33⟩, h4, h5⟩ := H
  refine ⟨by rw [S1 668 (by omega)]; exact h1, by rw [S1 669 (by omega)]; exact h2, ⟨by rw [S1 666 (by omega)]; exact h31, by rw [(S2 (m + 19) (by omega)).1]; exact h32, by rw [(S2 (m + 18) (by omega)).2]; exact h33⟩, fun e => ?_, fun e => ?_⟩
  · obtain ⟨f, b, i, r, e1, L⟩ := h4 e
    obtain ⟨x1, x2, x3, x4, x5, x6, x7, x8, ⟨x91, x92, x93⟩, x10, x11⟩ := L
    refine ⟨f, b, i, r, e1, RW.rf _ _, ⟨rfl, rfl, rfl, rfl⟩, rfl, by rw [S1 668 (by omega)]; exact x4, by rw [S1 671 (by omega)]; exact x5, by rw [S1 672 (by omega)]; exact x6, by rw [S1 673 (by omega)]; exact x7, by rw [S1 674 (by omega)]; exact x8, ⟨by rw [S1 666 (by omega)]; exact x91, by rw [(S2 (m + 19) (by omega)).1]; exact x92, by rw [(S2 (m + 18) (by omega)).2]; exact x93⟩, fun j hj => by rw [(S2 (m + 21) (by omega)).2]; exact x10 j hj, ?_⟩
    exact x11.of (fun j _ => ⟨by rw [(S2 (m + 22) (by omega)).1], by rw [(S2 (m + 23) (by omega)).1], by rw [(S2 (m + 24) (by omega)).1]⟩)
  · obtain ⟨e1, e2⟩ := h5 e
    exact ⟨by rw [S1 680 (by omega)]; exact e1, fun j hj => by rw [(S2 (m + 25) (by omega)).2]; exact e2 j hj⟩
section MN
variable {m : Nat} {h : Hp} {Q : Option TV → Hp → Prop} {x : Ab} {P : List Fn} {D : Option Fn} {ac : Nat} {ar : VV} {tb : Nat → Option Nat} {s : RS} {st : Int32}
theorem m_whole {f : Int32} (hI : IV (P, D, ac, ar, tb, s, st)) (M : MA h m (P, D, ac, ar, tb, s, st)) (k : Q (some (tI (if ¬ f < 0 ∧ nt f < P.length then 1 else 0))) h) : tX11_isWhole m f h Q := by
  obtain ⟨m1, m2, m3, -⟩ := M
  have h40 : P.length ≤ 40 := by
    obtain ⟨-, h2, -⟩ := hI
    cases D with
    | none => exact h2
    | some d => exact Nat.le_of_lt h2.1
  refine wX11_isWhole m f h Q ?_
  by_cases c : f < 0
  · rw [if_pos c]
    rw [if_neg (fun z => z.1 c)] at k
    exact k
  · rw [if_neg c]
    refine ⟨m1.1, ?_⟩
    have main : tX11_isWhole_25 m (nI P.length) f h Q := by
      refine wX11_isWhole_25 m _ _ h Q ?_
      by_cases c2 : nt f < P.length
      · rw [if_pos (by rw [← nI_nt c]; exact nI_lt c2 (by omega))]
        rw [if_pos ⟨c, c2⟩] at k
        exact k
      · rw [if_neg (fun z => c2 (by rw [← nI_nt c] at z; exact (nJ_lt (nt_lt f) (by omega)).mp z))]
        rw [if_neg (fun z => c2 z.2)] at k
        exact k
    cases D with
    | none =>
      have m3 : gi h 642 m = 0 := m3
      rw [if_pos m3]
      refine ⟨m1.1, ?_⟩
      have : gi h 640 m = nI P.length := m2.1
      rw [this]
      exact main
    | some d =>
      rw [if_neg (by rw [m3.1]; decide)]
      refine ⟨m1.1, ?_⟩
      have : gi h 640 m = nI (P.length + 1) := by rw [m2.1]; show nI (P ++ [d]).length = _; simp
      rw [this, nI_sub1]
      exact main
theorem m_entry {k f : Int32} (hI : IV x) (M : MA h m x) (K : ∀ h', MW m h h' → MA h' m (aEntry x k f).2 → Q (some (aEntry x k f).1) h') : tX11_entry m k f h Q := by
  obtain ⟨P, D, ac, ar, tb, s, st⟩ := x
  have M0 := M
  obtain ⟨m1, m2, m3, m4, m5, m6, m7⟩ := M
  unfold aEntry at K
  dsimp only at K
  refine wX11_entry m k f h Q (s_within (rI_of ?_))
  by_cases ck : wi k 29
  case neg =>
    rw [if_neg (fun z => ck z.1)] at K
    rw [if_neg ck, if_pos rfl]
    exact K h (MW.rf _ _) M0
  rw [if_pos ck, if_neg (by decide)]
  have hk := ((wi_nI (d := 29) (by decide)).mp ck).2
  have put : (f = -1 ∨ (¬ f < 0 ∧ nt f < P.length)) → ob h m 10 (dr (gr h 663 m) (fun a_3 => ix h kIs a_3 k (∀ h_4, h_4 = si h a_3 k.toNatClampNeg f → Q (some (tI 1)) h_4))) := by
    intro hf
    rw [if_pos ⟨ck, hf⟩] at K
    rw [← nI_nt ck.1]
    refine ⟨m1.1, S_table m1 m1 (by omega) (fun h1 e1 => ?_)⟩
    rw [nck (by omega)] at e1
    have w1 : RW m h h1 := by rw [e1]; exact RW_si _ _ _ (by omega)
    have hS := w1.sm
    refine K h1 w1.mw ⟨w1.ms m1, m2.of hS, m3.of hS, fun j hj => ?_, ⟨by rw [e1]; exact m5.1, by rw [e1]; exact m5.2⟩, by rw [e1]; exact m6, m7.ofQ (fun f _ => by rw [e1]; rfl) (fun a ha => ⟨by rw [e1, ai_ne (by omega)], by rw [e1]; rfl⟩)⟩
    rw [e1, ai_si]
    dsimp only
    by_cases cj : j = nt k
    · rw [if_pos ⟨rfl, cj⟩, if_pos cj]
      by_cases cf : f = -1
      · rw [if_pos cf, cf]
      · rw [if_neg cf]
        exact (nI_nt (hf.resolve_left cf).1).symm
    · rw [if_neg (fun z => cj z.2), if_neg cj]
      exact m4 j hj
  by_cases cf : f = -1
  · rw [if_pos cf]
    exact put (Or.inl cf)
  · rw [if_neg cf]
    refine ⟨m1.1, m_whole hI M0 (rI_of ?_)⟩
    by_cases cw : ¬ f < 0 ∧ nt f < P.length
    · rw [if_pos cw, if_neg (by decide)]
      exact put (Or.inr cw)
    · rw [if_neg cw, if_pos rfl]
      rw [if_neg (fun z => z.2.elim cf cw)] at K
      exact K h (MW.rf _ _) M0
theorem m_argument {y : Int64} (hI : IV x) (M : MA h m x) (K : ∀ h', MW m h h' → MA h' m (aArg x y).2 → Q (some (aArg x y).1) h') : tX11_argument m y h Q := by
  obtain ⟨P, D, ac, ar, tb, s, st⟩ := x
  have M0 := M
  obtain ⟨m1, m2, m3, m4, m5, m6, m7⟩ := M
  obtain ⟨-, -, -, h8, -⟩ := hI
  unfold aArg at K
  dsimp only at K
  refine wX11_argument m y h Q ⟨m1.1, ?_⟩
  rw [m5.1]
  by_cases c8 : ac = 8
  · rw [if_pos c8] at K
    rw [if_pos (by rw [c8]; rfl)]
    exact K h (MW.rf _ _) M0
  · rw [if_neg c8] at K
    rw [if_neg (fun z => c8 ((nJ_inj (by omega) (by decide)).mp (z.trans (show (8 : Int32) = nI 8 from rfl))))]
    refine ⟨m1.1, m1.1, L_argument m1 m1 (by omega) (fun h1 e1 => ?_)⟩
    rw [nck (by omega)] at e1
    have s1 : MS h1 m := by rw [e1]; exact m1
    refine ⟨s1.1, s1.1, fun h2 e2 => ?_⟩
    have g1 : gi h1 667 m = nI ac := by rw [e1]; exact m5.1
    rw [g1, ← nI_succ] at e2
    have w1 : RW m h h2 := by rw [e2, e1]; exact (RW_sl _ _ _ (by omega)).tr (RW_pi _ _ (by omega))
    have hS := w1.sm
    have g2 : gi h2 667 m = nI (ac + 1) := by rw [e2, gi_eq]
    refine ⟨(w1.ms m1).1, ?_⟩
    rw [g2]
    refine K h2 w1.mw ⟨w1.ms m1, m2.of hS, m3.of hS, fun j hj => ?_, ⟨g2, fun j hj => ?_⟩, ?_, m7.ofQ (fun f hf => ?_) (fun a ha => ⟨?_, ?_⟩)⟩
    · rw [e2, e1]; exact m4 j hj
    · rw [e2, al_pi, e1, al_at]
      unfold upv
      by_cases cj : j = ac
      · rw [if_pos cj, if_pos cj]
      · rw [if_neg cj, if_neg cj]
        exact m5.2 j (by omega)
    · rw [e2, gi_ne (by decide), e1]; exact m6
    · rw [e2, gi_ne (by omega), e1]; rfl
    · rw [e2, e1]; rfl
    · rw [e2, al_pi, e1, al_ne (by omega)]
theorem m_run {n : Int32} (hI : IV x) (M : MA h m x) (K : ∀ h', MW m h h' → MA h' m (aRun x n).2 → Q (some (aRun x n).1) h') : tX11_run m n h Q := by
  obtain ⟨P, D, ac, ar, tb, s, st⟩ := x
  have M0 := M
  have mp := M.mp
  obtain ⟨m1, m2, m3, m4, m5, m6, m7⟩ := M
  obtain ⟨h1, h2, h3, h4, h5, h6⟩ := hI
  unfold aRun at K
  dsimp only at K
  refine wX11_run m n h Q (s_within (rI_of ?_))
  by_cases cn : wi n 2000
  · rw [if_pos cn] at K
    rw [if_pos cn, if_neg (by decide), ← nI_nt cn.1]
    have hn := ((wi_nI (d := 2000) (by decide)).mp cn).2
    refine s_run14 (d := 0) h1 h5 hn (nt n) s h (by omega) (Nat.zero_le _) m1 mp m4 h6 m7 (fun h' w a1 a2 a3 a4 a5 a6 a7 => ?_)
    have hS := w.sm
    exact K h' w.mw ⟨w.ms m1, m2.of hS, m3.of hS, fun j hj => by rw [a1]; exact m4 j hj, ⟨by rw [a3]; exact m5.1, by rw [a2]; exact m5.2⟩, by rw [a4, m6, Nat.sub_zero], a7⟩
  · rw [if_neg cn] at K
    rw [if_neg cn, if_pos rfl]
    exact K h (MW.rf _ _) M0
theorem m_call {f : Int32} (hI : IV x) (M : MA h m x) (K : ∀ h', MW m h h' → MA h' m (aCall x f).2 → Q (some (aCall x f).1) h') : tX11_call m f h Q := by
  obtain ⟨P, D, ac, ar, tb, s, st⟩ := x
  have M0 := M
  have mp := M.mp
  have hI0 := hI
  obtain ⟨m1, m2, m3, m4, m5, m6, m7⟩ := M
  obtain ⟨h1, h2, h3, h4, h5, h6⟩ := hI
  unfold aCall at K
  dsimp only at K
  refine wX11_call m f h Q ⟨m1.1, m_whole hI0 M0 (rI_of ?_)⟩
  by_cases c0 : f < 0
  · rw [if_pos c0] at K
    rw [if_neg (show ¬ (¬ f < 0 ∧ nt f < P.length) from fun z => z.1 c0), if_pos rfl]
    exact K h (MW.rf _ _) M0
  rw [if_neg c0] at K
  by_cases cw : nt f < P.length
  case neg =>
    rw [List.getElem?_eq_none (by omega)] at K
    rw [if_neg (show ¬ (¬ f < 0 ∧ nt f < P.length) from fun z => cw z.2), if_pos rfl]
    exact K h (MW.rf _ _) M0
  rw [if_pos (show ¬ f < 0 ∧ nt f < P.length from ⟨c0, cw⟩), if_neg (by decide)]
  have hg := List.getElem?_eq_getElem cw
  rw [hg] at K
  dsimp only at K
  have h40 := mp.1
  obtain ⟨r0, -, -, r3, -⟩ := mp.2.2 _ _ hg
  refine ⟨m1.1, m1.1, ?_⟩
  rw [← nI_nt c0]
  refine L_params m1 m1 (by omega) ?_
  rw [nck (by omega), r3, m5.1]
  by_cases ca : ac = fP P[nt f]
  case neg =>
    rw [if_neg ca] at K
    rw [if_neg (fun z => ca ((nJ_inj (by omega) (by omega)).mp z))]
    exact K h (MW.rf _ _) M0
  rw [if_pos ca] at K
  rw [if_pos (by rw [ca])]
  refine ⟨m1.1, fun k1 q1 => ?_⟩
  have s1 : MS k1 m := by rw [q1]; exact m1
  refine ⟨s1.1, fun k2 q2 => ?_⟩
  have s2 : MS k2 m := by rw [q2]; exact s1
  refine ⟨s2.1, fun k3 q3 => ?_⟩
  have s3 : MS k3 m := by rw [q3]; exact s2
  refine ⟨s3.1, fun k4 q4 => ?_⟩
  have s4 : MS k4 m := by rw [q4]; exact s3
  refine ⟨s4.1, fun k5 q5 => ?_⟩
  have s5 : MS k5 m := by rw [q5]; exact s4
  refine ⟨s5.1, fun k6 q6 => ?_⟩
  have s6 : MS k6 m := by rw [q6]; exact s5
  have w6 : RW m h k6 := by
    rw [q6, q5, q4, q3, q2, q1]
    exact (RW_pi _ _ (by omega)).tr ((RW_pi _ _ (by omega)).tr ((RW_pi _ _ (by omega)).tr ((RW_pi _ _ (by omega)).tr ((RW_pi _ _ (by omega)).tr (RW_pi _ _ (by omega))))))
  have oth : ∀ f, f ≠ 668 → f ≠ 670 → f ≠ 671 → f ≠ 672 → f ≠ 673 → f ≠ 680 → gi k6 f m = gi h f m := by
    intro f a1 a2 a3 a4 a5 a6
    rw [q6, gi_ne a6, q5, gi_ne a5, q4, gi_ne a4, q3, gi_ne a3, q2, gi_ne a2, q1, gi_ne a1]
  have eai : ai k6 = ai h := by rw [q6, q5, q4, q3, q2, q1]; rfl
  have eal : al k6 = al h := by rw [q6, q5, q4, q3, q2, q1]; rfl
  obtain ⟨A, hA⟩ := nI_surj (gi k6 674 m)
  obtain ⟨sst, tr, fr, n0, v, p, bb, g⟩ := s
  obtain ⟨x1, x2, ⟨x31, x32, x33⟩, -, -⟩ := m7
  have H6 : RLv P m k6 k6 [] (0, ag v ar 0, p, bb, g) A := by
    refine ⟨RW.rf _ _, ⟨rfl, rfl, rfl, rfl⟩, rfl, ?_, ?_, ?_, ?_, hA, ⟨?_, ?_, ?_⟩, fun j hj => absurd hj (Nat.not_lt_zero j), trivial⟩
    · rw [q6, gi_ne (by decide), q5, gi_ne (by decide), q4, gi_ne (by decide), q3, gi_ne (by decide), q2, gi_ne (by decide), q1, gi_eq]
    · rw [q6, gi_ne (by decide), q5, gi_ne (by decide), q4, gi_ne (by decide), q3, gi_eq]; rfl
    · rw [q6, gi_ne (by decide), q5, gi_ne (by decide), q4, gi_eq]; rfl
    · rw [q6, gi_ne (by decide), q5, gi_eq]; rfl
    · rw [oth 666 (by decide) (by decide) (by decide) (by decide) (by decide) (by decide)]; exact x31
    · rw [eai]; exact x32
    · rw [eal]; exact x33
  refine s_call55 (ac := ac) (ar := ar) (i := 0) s6 h4 (fun j hj => by rw [eal]; exact m5.2 j hj) (by rw [oth 667 (by decide) (by decide) (by decide) (by decide) (by decide) (by decide)]; exact m5.1) ac k6 (by omega) (Nat.zero_le _) H6 (fun k7 H7 => ?_)
  have s7 := H7.ms s6
  refine ⟨s7.1, fun k8 q8 => ?_⟩
  have s8 : MS k8 m := by rw [q8]; exact s7
  refine ⟨s8.1, fun k9 q9 => ?_⟩
  have w9 : RW m k7 k9 := by rw [q9, q8]; exact (RW_pi _ _ (by omega)).tr (RW_pi _ _ (by omega))
  have s9 := w9.ms s7
  have w09 : RW m h k9 := w6.tr (H7.1.tr w9)
  have hp9 := w09.mp mp
  obtain ⟨y1, ⟨y21, y22, y23, y24⟩, y3, y4, y5, y6, y7, y8, ⟨y91, y92, y93⟩, y10, y11⟩ := H7
  have H9 : RLv P m k9 k9 [] (ac, ag v ar ac, p, bb, g) 0 := by
    refine ⟨RW.rf _ _, ⟨rfl, rfl, rfl, rfl⟩, rfl, ?_, ?_, ?_, ?_, ?_, ⟨?_, ?_, ?_⟩, ?_, trivial⟩
    · rw [q9, gi_ne (by decide), q8, gi_ne (by decide)]; exact y4
    · rw [q9, gi_ne (by decide), q8, gi_ne (by decide)]; exact y5
    · rw [q9, gi_ne (by decide), q8, gi_ne (by decide)]; exact y6
    · rw [q9, gi_ne (by decide), q8, gi_ne (by decide)]; exact y7
    · rw [q9, gi_eq]; rfl
    · rw [q9, gi_ne (by decide), q8, gi_ne (by decide)]; exact y91
    · rw [q9, q8]; exact y92
    · rw [q9, q8]; exact y93
    · rw [q9, q8]; exact y10
  have t9 : gi k9 669 m = tr := by
    rw [q9, gi_ne (by decide), q8, gi_ne (by decide), y3, oth 669 (by decide) (by decide) (by decide) (by decide) (by decide) (by decide)]
    exact x2
  have z9 : gi k9 667 m = nI 0 := by rw [q9, gi_ne (by decide), q8, gi_eq]; rfl
  have v9 : gi k9 670 m = 0 := by
    rw [q9, gi_ne (by decide), q8, gi_ne (by decide), y24, q6, gi_ne (by decide), q5, gi_ne (by decide), q4, gi_ne (by decide), q3, gi_ne (by decide), q2, gi_eq]
  have tb9 : ai k9 (m + 17) = ai h (m + 17) := by
    rw [q9, q8]
    show ai k7 (m + 17) = _
    rw [y21, eai]
  -- what is there at the end
  have fin : KN P m k9 (rV (fun h_5 => Q (some (tI 1)) h_5)) (clS P (nt f) ac ar (sst, tr, fr, n0, v, p, bb, g)) := by
    intro h' w' ke' X'
    have w := w09.tr w'
    have hS := w.sm
    exact rV_of (K h' w.mw ⟨w.ms m1, m2.of hS, m3.of hS, fun j hj => by rw [ke'.1, tb9]; exact m4 j hj, ⟨by rw [ke'.2.2.1]; exact z9, fun j hj => absurd hj (Nat.not_lt_zero j)⟩, by rw [ke'.2.2.2]; exact v9, X'⟩)
  have hok := cl_ok (ac := ac) (w := (ac, ag v ar ac, p, bb, g)) h1 hg ca ⟨h6.1, h6.2.1⟩
  have kx : KX P m k9 (ac, ag v ar ac, p, bb, g) (rV (fun h_5 => Q (some (tI 1)) h_5)) (enA P (nt f) [] (ac, ag v ar ac, p, bb, g)) := KN.kx (tr := tr) t9 hok fin
  refine ⟨s9.1, s_enter s9 hp9 H9 (by decide) (by show 0 ≤ 220; omega) hg (by omega) (fun _ => by omega) (by decide) trivial ?_⟩
  cases he : enA P (nt f) [] (ac, ag v ar ac, p, bb, g) with
  | inl c =>
    rw [he] at kx
    have hc : c = 0 := by
      unfold enA at he
      rw [hg] at he
      dsimp only at he
      split at he
      · cases he; rfl
      · cases he
    subst hc
    have kx : ∀ h', RSt m k9 h' 4 (gi k9 669 m) (ac, ag v ar ac, p, bb, g) → rV (fun h_5 => Q (some (tI 1)) h_5) none h' := kx
    intro h' H'
    have s' := H'.1.ms s9
    exact rV_of ⟨s'.1, (s_passX s' (by rw [H'.2.2.1]; decide) (kx h' H')).2⟩
  | inr y =>
    have hO := hok y he
    rw [he] at kx
    unfold enA at he
    rw [hg] at he
    dsimp only at he
    split at he
    · cases he
    · cases he
      intro h' H'
      have s' := H'.ms s9
      refine rV_of ⟨s'.1, (s_pass s9 hp9 h1 [] (nt f) _ _ _ 0 0 _ _ h' _ (Nat.le_refl _) H' hg At.zero (by omega) rfl hO.1 (by decide) hO.2.2.2.1 kx).2⟩
theorem m_result {k : Int32} (hI : IV x) (M : MA h m x) (K : Q (some (aRes x k)) h) : tX11_result m k h Q := by
  obtain ⟨P, D, ac, ar, tb, s, st⟩ := x
  obtain ⟨m1, m2, m3, m4, m5, m6, m7⟩ := M
  obtain ⟨h1, h2, h3, h4, h5, h6⟩ := hI
  obtain ⟨x1, x2, x3, x4, x5⟩ := m7
  unfold aRes at K
  dsimp only at K
  refine wX11_result m k h Q ⟨m1.1, ?_⟩
  rw [x1]
  by_cases c2 : s.1 = 2
  case neg =>
    rw [if_neg (fun z => c2 z.1)] at K
    rw [if_neg c2]
    exact K
  rw [if_pos c2]
  obtain ⟨y1, y2⟩ := x5 c2
  have h8 := h6.2.2.2 c2
  by_cases c0 : k < 0
  · rw [if_neg (fun z => z.2.1 c0)] at K
    rw [if_pos c0]
    exact K
  rw [if_neg c0]
  refine ⟨m1.1, ?_⟩
  rw [y1, ← nI_nt c0]
  by_cases cn : nt k < s.2.2.2.1
  · rw [if_pos ⟨c2, c0, cn⟩] at K
    rw [if_pos (nI_lt cn (by omega))]
    refine ⟨m1.1, L_outcome m1 m1 (by omega) ?_⟩
    rw [nck (by omega), y2 _ cn]
    exact K
  · rw [if_neg (fun z => cn z.2.2)] at K
    rw [if_neg (fun z => cn ((nJ_lt (nt_lt k) (by omega)).mp z))]
    exact K
theorem m_global {k : Int32} (M : MA h m x) (K : Q (some (aGlob x k)) h) : tX11_global m k h Q := by
  obtain ⟨P, D, ac, ar, tb, s, st⟩ := x
  obtain ⟨m1, m2, m3, m4, m5, m6, m7⟩ := M
  obtain ⟨x1, x2, ⟨x31, x32, x33⟩, x4, x5⟩ := m7
  unfold aGlob at K
  dsimp only at K
  refine wX11_global m k h Q (s_within (rI_of ?_))
  by_cases c : wi k 7
  · rw [if_pos c] at K
    rw [if_pos c, if_neg (by decide), ← nI_nt c.1]
    have := ((wi_nI (d := 7) (by decide)).mp c).2
    refine ⟨m1.1, L_globals m1 m1 (by omega) ?_⟩
    rw [nck (by omega), x33]
    exact K
  · rw [if_neg c] at K
    rw [if_neg c, if_pos rfl]
    exact K
theorem nI_64 (p : Nat) : (64 : Int32) * nI p = nI (64 * p) := (Int32.ofNat_mul 64 p).symm
theorem m_memory {k : Int32} (hI : IV x) (M : MA h m x) (K : Q (some (aMem x k)) h) : tX11_memory m k h Q := by
  obtain ⟨P, D, ac, ar, tb, s, st⟩ := x
  obtain ⟨m1, m2, m3, m4, m5, m6, m7⟩ := M
  obtain ⟨x1, x2, ⟨x31, x32, x33⟩, x4, x5⟩ := m7
  obtain ⟨h1, h2, h3, h4, h5, h6⟩ := hI
  have hp := h6.2.1
  unfold aMem at K
  dsimp only at K
  refine wX11_memory m k h Q ?_
  by_cases c0 : k < 0
  · rw [if_neg (fun z => z.1 c0)] at K
    rw [if_pos c0]
    exact K
  rw [if_neg c0]
  refine ⟨m1.1, ?_⟩
  rw [x31, nI_64, ← nI_nt c0]
  by_cases cn : nt k < 64 * s.2.2.2.2.2.1
  · rw [if_pos ⟨c0, cn⟩] at K
    rw [if_pos (nI_lt cn (by omega))]
    refine ⟨m1.1, L_bytes m1 m1 (by omega) ?_⟩
    rw [nck (by omega), x32]
    exact K
  · rw [if_neg (fun z => cn z.2)] at K
    rw [if_neg (fun z => cn ((nJ_lt (nt_lt k) (by omega)).mp z))]
    exact K
theorem m_look {f k : Int32} (hI : IV x) (M : MA h m x) (K : Q (some (aLook x f k)) h) : tX11_look m f k h Q := by
  obtain ⟨P, D, ac, ar, tb, s, st⟩ := x
  have M0 := M
  have mp := M.mp
  obtain ⟨m1, -⟩ := M
  unfold aLook at K
  dsimp only at K
  refine wX11_look m f k h Q ⟨m1.1, m_whole hI M0 (rI_of ?_)⟩
  by_cases c0 : f < 0
  · rw [if_pos c0] at K
    rw [if_neg (show ¬ (¬ f < 0 ∧ nt f < P.length) from fun z => z.1 c0), if_pos rfl]
    exact K
  rw [if_neg c0] at K
  by_cases cw : nt f < P.length
  case neg =>
    rw [List.getElem?_eq_none (by omega)] at K
    rw [if_neg (show ¬ (¬ f < 0 ∧ nt f < P.length) from fun z => cw z.2), if_pos rfl]
    exact K
  rw [if_pos (show ¬ f < 0 ∧ nt f < P.length from ⟨c0, cw⟩), if_neg (by decide)]
  have hg := List.getElem?_eq_getElem cw
  rw [hg] at K
  dsimp only at K
  have h40 := mp.1
  obtain ⟨-, -, -, r3, r4, r5, ⟨u, hu, r6⟩, -⟩ := mp.2.2 _ _ hg
  have hmo := moF_some hg hu
  rw [← nI_nt c0]
  by_cases k0 : k = 0
  · rw [if_pos k0] at K ⊢
    refine ⟨m1.1, L_params m1 m1 (by omega) ?_⟩
    rw [nck (by omega), r3]
    exact K
  rw [if_neg k0] at K ⊢
  by_cases k1 : k = 1
  · rw [if_pos k1] at K ⊢
    refine ⟨m1.1, L_results m1 m1 (by omega) ?_⟩
    rw [nck (by omega), r4]
    exact K
  rw [if_neg k1] at K ⊢
  by_cases k2 : k = 2
  · rw [if_pos k2] at K ⊢
    refine ⟨m1.1, L_locals m1 m1 (by omega) ?_⟩
    rw [nck (by omega), r5]
    exact K
  rw [if_neg k2] at K ⊢
  by_cases k3 : k = 3
  · rw [if_pos k3] at K ⊢
    refine ⟨m1.1, L_most m1 m1 (by omega) ?_⟩
    rw [nck (by omega), r6, ← hmo]
    exact K
  rw [if_neg k3] at K ⊢
  exact K
theorem m_state {k : Int32} (hI : IV x) (M : MA h m x) (K : Q (some (aState x k)) h) : tX11_state m k h Q := by
  obtain ⟨P, D, ac, ar, tb, s, st⟩ := x
  obtain ⟨m1, m2, m3, m4, m5, m6, m7⟩ := M
  obtain ⟨x1, x2, ⟨x31, x32, x33⟩, x4, x5⟩ := m7
  obtain ⟨-, hd, hT, -, -, -⟩ := hI
  unfold aState at K
  dsimp only at K
  refine wX11_state m k h Q ?_
  by_cases k0 : k = 0
  · rw [if_pos k0] at K ⊢
    exact ⟨m1.1, by rw [x1]; exact K⟩
  rw [if_neg k0] at K ⊢
  by_cases k1 : k = 1
  · rw [if_pos k1] at K ⊢
    exact ⟨m1.1, by rw [x2]; exact K⟩
  rw [if_neg k1] at K ⊢
  by_cases k2 : k = 2
  · rw [if_pos k2] at K ⊢
    refine ⟨m1.1, ?_⟩
    rw [x1]
    by_cases c : s.1 = 1
    · rw [if_pos c] at K ⊢
      obtain ⟨f, b, i, r, e, L⟩ := x4 c
      refine ⟨m1.1, ?_⟩
      rw [L.2.2.2.2.1, ← e]
      exact K
    · rw [if_neg c] at K ⊢
      exact K
  rw [if_neg k2] at K ⊢
  by_cases k3 : k = 3
  · rw [if_pos k3] at K ⊢
    refine ⟨m1.1, ?_⟩
    rw [x1]
    by_cases c : s.1 = 1
    · rw [if_pos c] at K ⊢
      obtain ⟨f, b, i, r, e, L⟩ := x4 c
      refine ⟨m1.1, ?_⟩
      rw [L.2.2.2.2.2.1]
      exact K
    · rw [if_neg c] at K ⊢
      exact K
  rw [if_neg k3] at K ⊢
  by_cases k4 : k = 4
  · rw [if_pos k4] at K ⊢
    exact ⟨m1.1, by rw [m6]; exact K⟩
  rw [if_neg k4] at K ⊢
  by_cases k5 : k = 5
  · rw [if_pos k5] at K ⊢
    exact ⟨m1.1, by rw [m2.1]; exact K⟩
  rw [if_neg k5] at K ⊢
  by_cases k6 : k = 6
  · rw [if_pos k6] at K ⊢
    exact ⟨m1.1, by rw [m2.2.2.1]; exact K⟩
  rw [if_neg k6] at K ⊢
  cases D with
  | none =>
    have m3 : gi h 642 m = 0 := m3
    by_cases k7 : k = 7
    · rw [if_pos k7] at K ⊢
      refine ⟨m1.1, ?_⟩
      rw [if_pos m3]
      exact K
    rw [if_neg k7] at K ⊢
    by_cases k8 : k = 8
    · rw [if_pos k8] at K ⊢
      refine ⟨m1.1, ?_⟩
      rw [if_pos m3]
      exact K
    rw [if_neg k8] at K ⊢
    by_cases k9 : k = 9
    · rw [if_pos k9] at K ⊢
      refine ⟨m1.1, ?_⟩
      rw [if_pos m3]
      exact K
    rw [if_neg k9] at K ⊢
    by_cases k10 : k = 10
    · rw [if_pos k10] at K ⊢
      exact ⟨m1.1, by rw [x31]; exact K⟩
    rw [if_neg k10] at K ⊢
    exact K
  | some d =>
    obtain ⟨m31, m32⟩ := m3
    obtain ⟨-, -, v, hv, hne⟩ := hd
    obtain ⟨A0, g53, -⟩ := m32 v hv
    have el : labD P (some d) = some v.1 := by
      unfold labD
      dsimp only
      rw [hv]
    rw [el] at K
    dsimp only at K
    have hn : ¬ gi h 642 m = 0 := by rw [m31]; decide
    by_cases k7 : k = 7
    · rw [if_pos k7] at K ⊢
      refine ⟨m1.1, ?_⟩
      rw [if_neg hn]
      exact ⟨m1.1, by rw [g53]; exact K⟩
    rw [if_neg k7] at K ⊢
    have hlen : v.1.length ≤ 1501 := by
      rw [vk_last] at hv
      have h1 := vat_len hv hne
      have h2 := ps_len_le (fC d) (fC d).length
      have h3 : totL (P ++ [d]) ≤ 1500 := hT
      rw [totL_snoc] at h3
      omega
    cases hls : v.1 with
    | nil => exact absurd hls hne
    | cons l r =>
      rw [hls] at K A0 g53 hlen
      have hr : r.length < 1501 := by simp at hlen; omega
      by_cases k8 : k = 8
      · rw [if_pos k8] at K ⊢
        refine ⟨m1.1, ?_⟩
        rw [if_neg hn]
        refine ⟨m1.1, m1.1, s_inner m1 g53 (rI_of (L_own m1 m1 hr ?_))⟩
        rw [nck (by omega), A0.1.2.2.2.2.1]
        exact K
      rw [if_neg k8] at K ⊢
      by_cases k9 : k = 9
      · rw [if_pos k9] at K ⊢
        refine ⟨m1.1, ?_⟩
        rw [if_neg hn]
        refine ⟨m1.1, m1.1, s_inner m1 g53 (rI_of (L_dead m1 m1 hr ?_))⟩
        rw [nck (by omega), A0.1.2.2.2.2.2]
        dsimp only at K
        by_cases cd : dD l = true
        · rw [if_pos cd] at K ⊢
          rw [if_neg (by decide)]
          exact K
        · rw [if_neg cd] at K ⊢
          rw [if_pos rfl]
          exact K
      rw [if_neg k9] at K ⊢
      by_cases k10 : k = 10
      · rw [if_pos k10] at K ⊢
        exact ⟨m1.1, by rw [x31]; exact K⟩
      rw [if_neg k10] at K ⊢
      exact K
end MN
