/-! THE REFERENCE: its calls -/
/-- what the reference may change -/
def MW (m : Nat) (h h' : Hp) : Prop := tg h' = tg h ∧ gl h' = gl h ∧ gr h' = gr h ∧ aq h' = aq h ∧ sz h' = sz h ∧ us h' = us h ∧ (∀ f a, ¬ (640 ≤ f ∧ a = m) → gi h' f a = gi h f a) ∧ (∀ a, ¬ (m + 1 ≤ a ∧ a ≤ m + 25) → ai h' a = ai h a) ∧ ∀ a, ¬ (m + 1 ≤ a ∧ a ≤ m + 25) → al h' a = al h a
theorem MW.rf (m : Nat) (h : Hp) : MW m h h := ⟨rfl, rfl, rfl, rfl, rfl, rfl, fun _ _ _ => rfl, fun _ _ => rfl, fun _ _ => rfl⟩
theorem RW.mw {m : Nat} {h h' : Hp} (w : RW m h h') : MW m h h' := by
  obtain ⟨a1, a2, a3, a4, a5, a6, a7, a8, a9⟩ := w
  exact ⟨a1, a2, a3, a4, a5, a6, fun f a hf => a7 f a (fun q => hf ⟨by omega, q.2⟩), fun a ha => a8 a (fun q => ha (by omega)), fun a ha => a9 a (fun q => ha (by omega))⟩
theorem WW.mw {m : Nat} {h h' : Hp} (w : WW m h h') : MW m h h' := by
  obtain ⟨a1, a2, a3, a4, a5, a6, a7, a8, a9⟩ := w
  exact ⟨a1, a2, a3, a5, a6, a7, fun f a hf => a8 f a (fun q => hf ⟨by omega, q.2⟩), fun a ha => a9 a (fun q => ha (by omega)), fun a _ => by rw [a4]⟩
/-- its running part is the same -/
def SmR (m : Nat) (h h' : Hp) : Prop := (∀ f, (666 ≤ f ∧ f ≤ 674) ∨ f = 680 → gi h' f m = gi h f m) ∧ ∀ a, m + 17 ≤ a ∧ a ≤ m + 25 → ai h' a = ai h a ∧ al h' a = al h a
theorem WW.sm {m : Nat} {h h' : Hp} (w : WW m h h') : SmR m h h' := ⟨fun f hf => w.2.2.2.2.2.2.2.1 f m (fun q => by omega), fun a ha => ⟨w.2.2.2.2.2.2.2.2 a (fun q => by omega), by rw [w.2.2.2.1]⟩⟩
/-- its writing part is the same -/
def SmW (m : Nat) (h h' : Hp) : Prop := (∀ f, f = 640 ∨ f = 641 ∨ f = 642 ∨ (653 ≤ f ∧ f ≤ 656) → gi h' f m = gi h f m) ∧ ∀ a, m + 1 ≤ a ∧ a ≤ m + 16 → ai h' a = ai h a
theorem RW.sm {m : Nat} {h h' : Hp} (w : RW m h h') : SmW m h h' := ⟨fun f hf => w.2.2.2.2.2.2.1 f m (fun q => by omega), fun a ha => w.2.2.2.2.2.2.2.1 a (fun q => by omega)⟩
section MM
variable {P : List Fn} {D : Option Fn} {m : Nat} {h h' : Hp} {s : RS} {tb : Nat → Option Nat}
theorem RXs.of (S : SmR m h h') (H : RXs P m h s) : RXs P m h' s := by
  obtain ⟨h1, h2, ⟨h31, h32, h33⟩, h4, h5⟩ := H
  refine ⟨by rw [S.1 668 (by omega)]; exact h1, by rw [S.1 669 (by omega)]; exact h2, ⟨by rw [S.1 666 (by omega)]; exact h31, by rw [(S.2 (m + 19) (by omega)).1]; exact h32, by rw [(S.2 (m + 18) (by omega)).2]; exact h33⟩, fun e => ?_, fun e => ?_⟩
  · obtain ⟨f, b, i, r, e1, L⟩ := h4 e
    obtain ⟨x1, x2, x3, x4, x5, x6, x7, x8, ⟨x91, x92, x93⟩, x10, x11⟩ := L
    refine ⟨f, b, i, r, e1, RW.rf _ _, ⟨rfl, rfl, rfl, rfl⟩, rfl, by rw [S.1 668 (by omega)]; exact x4, by rw [S.1 671 (by omega)]; exact x5, by rw [S.1 672 (by omega)]; exact x6, by rw [S.1 673 (by omega)]; exact x7, by rw [S.1 674 (by omega)]; exact x8, ⟨by rw [S.1 666 (by omega)]; exact x91, by rw [(S.2 (m + 19) (by omega)).1]; exact x92, by rw [(S.2 (m + 18) (by omega)).2]; exact x93⟩, fun j hj => by rw [(S.2 (m + 21) (by omega)).2]; exact x10 j hj, ?_⟩
    exact x11.of (fun j _ => ⟨by rw [(S.2 (m + 22) (by omega)).1], by rw [(S.2 (m + 23) (by omega)).1], by rw [(S.2 (m + 24) (by omega)).1]⟩)
  · obtain ⟨e1, e2⟩ := h5 e
    exact ⟨by rw [S.1 680 (by omega)]; exact e1, fun j hj => by rw [(S.2 (m + 25) (by omega)).2]; exact e2 j hj⟩
theorem FA.app {d : Fn} : ∀ {fr : List Fm}, (∀ x ∈ fr, x.1 < P.length) → FA P h m fr → FA (P ++ [d]) h m fr := by
  intro fr
  induction fr with
  | nil => intro _ _; trivial
  | cons y r ih =>
    intro hx hF
    obtain ⟨f, b, p⟩ := y
    obtain ⟨h1, h2, h3, h4⟩ := hF
    refine ⟨h1, h2, ?_, ih (fun x hx2 => hx x (List.mem_cons_of_mem _ hx2)) h4⟩
    cases r with
    | nil => trivial
    | cons z q =>
      obtain ⟨f2, b2, p2⟩ := z
      obtain ⟨B, g, g2, k, y1, y2, y3, y4, y5, y6⟩ := h3
      have hf2 := lt_of_get y2
      refine ⟨B, g, g2, k, by rw [List.getElem?_append_left (lt_of_get y1)]; exact y1, by rw [List.getElem?_append_left hf2]; exact y2, by rw [pos0_app (Nat.le_of_lt hf2)]; exact y3, y4, y5, by rw [take_app hf2]; exact y6⟩
theorem RXs.app {d : Fn} (hO : OKS P s) (H : RXs P m h s) : RXs (P ++ [d]) m h s := by
  obtain ⟨h1, h2, h3, h4, h5⟩ := H
  refine ⟨h1, h2, h3, fun e => ?_, h5⟩
  obtain ⟨f, b, i, r, e1, L⟩ := h4 e
  obtain ⟨⟨o1, -⟩, -⟩ := hO.2.2.1 e
  rw [e1] at o1
  obtain ⟨-, a2, a3⟩ := o1.app (d := d)
  obtain ⟨x1, x2, x3, x4, x5, x6, x7, x8, x9, x10, x11⟩ := L
  refine ⟨f, b, i, r, e1, x1, x2, x3, x4, x5, x6, by rw [a2]; exact x7, ?_, x9, x10, x11.app a3⟩
  rw [pos0_app (Nat.le_of_lt (a3 _ List.mem_cons_self))]
  exact x8
theorem MF.mp {fns : List Fn} (hF : MF h m fns) : MP h m fns := ⟨hF.2.1, hF.2.2.2.1, hF.2.2.2.2⟩
theorem MP.pre {d : Fn} (hP : MP h m (P ++ [d])) : MP h m P := by
  obtain ⟨h1, h2, h3⟩ := hP
  rw [totL_snoc] at h2
  refine ⟨by simp at h1; omega, by omega, fun k f hf => ?_⟩
  have hk := lt_of_get hf
  exact (MFn_pre hk).mp (h3 k f (by rw [List.getElem?_append_left hk]; exact hf))
theorem MF.of {fns : List Fn} (S : SmW m h h') (hF : MF h m fns) : MF h' m fns := by
  obtain ⟨h1, h2, h3, h4, h5⟩ := hF
  refine ⟨by rw [S.1 640 (by omega)]; exact h1, h2, by rw [S.1 641 (by omega)]; exact h3, h4, fun k f hf => (h5 k f hf).of (fun x hx => by rw [S.2 (m + x) (by omega)]) (fun x hx i _ => by rw [S.2 (m + x) (by omega)])⟩
theorem MV.of {v : VS} (S : SmW m h h') (hV : MV h m v) : MV h' m v := by
  obtain ⟨h1, h2, h3, h4, h5⟩ := hV
  refine ⟨LA_oth h1 (fun a q1 q2 => S.2 a (by omega)), by rw [S.1 653 (by omega)]; exact h2, by rw [S.1 654 (by omega)]; exact h3, h4, fun h0 => ?_⟩
  have := h5 h0
  cases hw : v.2.2.1 with
  | none =>
    rw [hw] at this
    show gi h' 656 m = 1
    rw [S.1 656 (by omega)]
    exact this
  | some n =>
    rw [hw] at this
    show gi h' 656 m = 0 ∧ gi h' 655 m = nI n ∧ n < 100
    rw [S.1 656 (by omega), S.1 655 (by omega)]
    exact this
/-- the function that is written -/
def MD' (h : Hp) (m : Nat) (P : List Fn) (D : Option Fn) : Prop := match D with
  | none => gi h 642 m = 0
  | some d => gi h 642 m = 1 ∧ ∀ v, vk (P ++ [d]) P.length d (fC d).length = some v → MV h m v
theorem MD'.of (S : SmW m h h') (H : MD' h m P D) : MD' h' m P D := by
  cases D with
  | none => exact (S.1 642 (by omega)).trans H
  | some d => exact ⟨(S.1 642 (by omega)).trans H.1, fun v hv => (H.2 v hv).of S⟩
/-- the reference's heap and the state -/
def MA (h : Hp) (m : Nat) (x : Ab) : Prop := match x with
  | (P, D, ac, ar, tb, s, st) => MS h m ∧ MF h m (fnD P D) ∧ MD' h m P D ∧ TBm m h tb ∧ (gi h 667 m = nI ac ∧ ∀ j, j < ac → al h (m + 20) j = ar j) ∧ gi h 670 m = st ∧ RXs P m h s
theorem MA.mp {ac : Nat} {ar : VV} {st : Int32} (M : MA h m (P, D, ac, ar, tb, s, st)) : MP h m P := by
  obtain ⟨h1, h2, -⟩ := M
  cases D with
  | none => exact h2.mp
  | some d => exact MP.pre h2.mp
end MM
section MN
variable {m : Nat} {h : Hp} {Q : Option TV → Hp → Prop} {x : Ab}
theorem m_code {o a b : Int32} (hI : IV x) (M : MA h m x) (K : ∀ h', MW m h h' → MA h' m (aCode x o a b).2 → Q (some (aCode x o a b).1) h') : tX11_code m o a b h Q := by
  obtain ⟨P, D, ac, ar, tb, s, st⟩ := x
  have M0 := M
  obtain ⟨m1, m2, m3, m4, m5, m6, m7⟩ := M
  cases D with
  | none =>
    have m3 : gi h 642 m = 0 := m3
    refine wX11_code m o a b h Q ⟨m1.1, ?_⟩
    rw [if_pos m3]
    exact K h (MW.rf _ _) M0
  | some d =>
    obtain ⟨sg, c⟩ := d
    obtain ⟨h1, ⟨g1, g2, v, g3, g4⟩, h3, h4, h5, h6⟩ := hI
    obtain ⟨n1, n2⟩ := m3
    have hV := n2 v g3
    unfold aCode at K
    dsimp only at K
    refine s_mcode m1 m2 n1 g3 g4 hV ?_
    by_cases ct : totL (P ++ [(sg, c)]) = 1500
    · rw [if_pos ct] at K ⊢
      exact K h (MW.rf _ _) M0
    rw [if_neg ct] at K ⊢
    have g3' : vk (P ++ [(sg, c)]) P.length (sg, c) (fC (sg, c)).length = some v := g3
    rw [g3'] at K
    dsimp only at K
    have evs : vstep (sgs (P ++ [(sg, c)])) (fP (sg, c) + fL (sg, c)) v (o, a, b) = vstep (sgs (P ++ [(sg, c)])) (sg.1 + sg.2.2) v (o, a, b) := rfl
    rw [evs] at K
    cases hs : vstep (sgs (P ++ [(sg, c)])) (sg.1 + sg.2.2) v (o, a, b) with
    | none =>
      rw [hs] at K
      exact K h (MW.rf _ _) M0
    | some v' =>
      rw [hs] at K
      dsimp only at K ⊢
      intro h' w' ms' mf' g42 mv'
      have hS := w'.sm
      have hv' := vk_snoc P sg c (o, a, b) g3 hs
      refine K h' w'.mw ?_
      have tb' : TBm m h' tb := fun j hj => by rw [(hS.2 (m + 17) (by omega)).1]; exact m4 j hj
      have ar' : gi h' 667 m = nI ac ∧ ∀ j, j < ac → al h' (m + 20) j = ar j := ⟨by rw [hS.1 667 (by omega)]; exact m5.1, fun j hj => by rw [(hS.2 (m + 20) (by omega)).2]; exact m5.2 j hj⟩
      have st' : gi h' 670 m = st := by rw [hS.1 670 (by omega)]; exact m6
      have rx' := m7.of hS
      by_cases he : v'.1 = []
      · rw [if_pos he] at g42 ⊢
        exact ⟨ms', mf', g42, tb', ar', st', rx'.app h6⟩
      · rw [if_neg he] at g42 ⊢
        refine ⟨ms', mf', ⟨g42, fun v2 hv2 => ?_⟩, tb', ar', st', rx'⟩
        have hv2 : vk (P ++ [(sg, c ++ [(o, a, b)])]) P.length (sg, c ++ [(o, a, b)]) (c ++ [(o, a, b)]).length = some v2 := hv2
        rw [hv'] at hv2
        cases hv2
        exact mv' he
theorem m_drop (hI : IV x) (M : MA h m x) (K : ∀ h', MW m h h' → MA h' m (aDrop x).2 → Q (some (aDrop x).1) h') : tX11_drop m h Q := by
  obtain ⟨P, D, ac, ar, tb, s, st⟩ := x
  have M0 := M
  obtain ⟨m1, m2, m3, m4, m5, m6, m7⟩ := M
  cases D with
  | none =>
    have m3 : gi h 642 m = 0 := m3
    refine wX11_drop m h Q ⟨m1.1, ?_⟩
    rw [if_pos m3]
    exact K h (MW.rf _ _) M0
  | some d =>
    obtain ⟨n1, n2⟩ := m3
    obtain ⟨-, ⟨g1, -⟩, -⟩ := hI
    obtain ⟨f1, f2, f3, f4, f5⟩ := m2
    have f1 : gi h 640 m = nI (P.length + 1) := by rw [f1]; show nI (P ++ [d]).length = _; simp
    refine wX11_drop m h Q ⟨m1.1, ?_⟩
    rw [if_neg (by rw [n1]; decide)]
    refine ⟨m1.1, m1.1, fun h1 e1 => ?_⟩
    rw [f1, nI_sub1] at e1
    have ms1 : MS h1 m := by rw [e1]; exact m1
    refine ⟨ms1.1, ms1.1, ?_⟩
    have x40 : gi h1 640 m = nI P.length := by rw [e1, gi_eq]
    rw [x40]
    refine L_start ms1 ms1 g1 ⟨ms1.1, fun h3 e3 => ?_⟩
    have x1 : ai h1 (m + 1) P.length = nI (totL P) := by
      have := (f5 P.length d get_snoc).2.1
      rw [e1]
      show ai h (m + 1) P.length = _
      rw [this]
      show nI (pos0 (P ++ [d]) P.length) = _
      rw [pos0_app (Nat.le_refl _)]
      rfl
    rw [nck (by omega), x1] at e3
    have ms3 : MS h3 m := by rw [e3]; exact ms1
    refine ⟨ms3.1, fun h4 e4 => ?_⟩
    have ms4 : MS h4 m := by rw [e4]; exact ms3
    refine ⟨ms4.1, fun h5 e5 => ?_⟩
    have w5 : WW m h h5 := by
      rw [e5, e4, e3, e1]
      exact (WW_pi _ _ (by omega)).tr ((WW_pi _ _ (by omega)).tr ((WW_pi _ _ (by omega)).tr (WW_pi _ _ (by omega))))
    have hS := w5.sm
    have eai : ai h5 = ai h := by rw [e5, e4, e3, e1]; rfl
    refine K h5 w5.mw ⟨w5.ms m1, ⟨?_, (show P.length ≤ 40 by omega), ?_, ?_, fun k f hf => ?_⟩, ?_, fun j hj => by rw [eai]; exact m4 j hj, ⟨by rw [hS.1 667 (by omega)]; exact m5.1, fun j hj => by rw [(hS.2 (m + 20) (by omega)).2]; exact m5.2 j hj⟩, by rw [hS.1 670 (by omega)]; exact m6, m7.of hS⟩
    · rw [e5, gi_ne (by decide), e4, gi_ne (by decide), e3, gi_ne (by decide)]
      exact x40
    · rw [e5, gi_ne (by decide), e4, gi_ne (by decide), e3, gi_eq]
      rfl
    · have : totL (P ++ [d]) ≤ 1500 := f4
      rw [totL_snoc] at this
      show totL P ≤ 1500
      omega
    · have hf : P[k]? = some f := hf
      have hk := lt_of_get hf
      have hM := (MFn_pre hk).mp (f5 k f (by show (P ++ [d])[k]? = _; rw [List.getElem?_append_left hk]; exact hf))
      exact hM.of (fun x _ => by rw [eai]) (fun x _ i _ => by rw [eai])
    · show gi h5 642 m = 0
      rw [e5, gi_ne (by decide), e4, gi_eq]
theorem m_function {p r l : Int32} (hI : IV x) (M : MA h m x) (K : ∀ h', MW m h h' → MA h' m (aFun x p r l).2 → Q (some (aFun x p r l).1) h') : tX11_function m p r l h Q := by
  obtain ⟨P, D, ac, ar, tb, s, st⟩ := x
  have M0 := M
  obtain ⟨m1, m2, m3, m4, m5, m6, m7⟩ := M
  unfold aFun at K
  dsimp only at K
  cases D with
  | some d =>
    rw [if_pos (Or.inl (show (some d).isSome = true from rfl))] at K
    refine wX11_function m p r l h Q ⟨m1.1, ?_⟩
    rw [if_neg (by rw [m3.1]; decide)]
    exact K h (MW.rf _ _) M0
  | none =>
    have m3 : gi h 642 m = 0 := m3
    obtain ⟨h1, h2, h3, h4, h5, h6⟩ := hI
    have h2 : P.length ≤ 40 := h2
    obtain ⟨f1, f2, f3, f4, f5⟩ := m2
    have f1 : gi h 640 m = nI P.length := f1
    have f3 : gi h 641 m = nI (totL P) := f3
    have f4 : totL P ≤ 1500 := f4
    have f5 : ∀ k f, P[k]? = some f → MFn h m P k f := f5
    refine wX11_function m p r l h Q ⟨m1.1, ?_⟩
    rw [if_pos m3]
    refine ⟨m1.1, ?_⟩
    rw [f1]
    by_cases c40 : P.length = 40
    · rw [if_pos (Or.inr (Or.inl c40))] at K
      rw [if_pos (by rw [c40]; rfl)]
      exact K h (MW.rf _ _) M0
    rw [if_neg (fun z => c40 ((nJ_inj (by omega) (by decide)).mp (z.trans (show (40 : Int32) = nI 40 from rfl))))]
    refine s_within (rI_of ?_)
    by_cases cp : ¬ wi p 8
    · rw [if_pos (Or.inr (Or.inr (fun z => cp z.1)))] at K
      rw [if_neg cp, if_pos rfl]
      exact K h (MW.rf _ _) M0
    have cp := Classical.not_not.mp cp
    rw [if_pos cp, if_neg (by decide)]
    refine s_within (rI_of ?_)
    by_cases cr : ¬ wi r 8
    · rw [if_pos (Or.inr (Or.inr (fun z => cr z.2.1)))] at K
      rw [if_neg cr, if_pos rfl]
      exact K h (MW.rf _ _) M0
    have cr := Classical.not_not.mp cr
    rw [if_pos cr, if_neg (by decide)]
    refine s_within (rI_of ?_)
    by_cases cl : ¬ wi l 8
    · rw [if_pos (Or.inr (Or.inr (fun z => cl z.2.2)))] at K
      rw [if_neg cl, if_pos rfl]
      exact K h (MW.rf _ _) M0
    have cl := Classical.not_not.mp cl
    rw [if_pos cl, if_neg (by decide)]
    rw [if_neg (fun z => z.elim (fun y => by cases y) (fun y => y.elim c40 (fun y => y ⟨cp, cr, cl⟩)))] at K
    have b1 := ((wi_nI (d := 8) (by decide)).mp cp).2
    have b2 := ((wi_nI (d := 8) (by decide)).mp cr).2
    have b3 := ((wi_nI (d := 8) (by decide)).mp cl).2
    have hlt : P.length < 40 := by omega
    have hc : (nI P.length).toNatClampNeg = P.length := nck (by omega)
    refine ⟨m1.1, m1.1, m1.1, ?_⟩
    rw [f1]
    refine S_start m1 m1 hlt (fun h8 e8 => ?_)
    rw [hc, f3] at e8
    have g8 : gi h8 = gi h := by rw [e8]; rfl
    have s8 : MS h8 m := by rw [e8]; exact m1
    refine ⟨s8.1, s8.1, ?_⟩
    rw [g8, f1]
    refine S_length s8 s8 hlt (fun h10 e10 => ?_)
    rw [hc] at e10
    have g10 : gi h10 = gi h := by rw [e10]; exact g8
    have s10 : MS h10 m := by rw [e10]; exact s8
    refine ⟨s10.1, s10.1, ?_⟩
    rw [g10, f1]
    refine S_params s10 s10 hlt (fun h12 e12 => ?_)
    rw [hc] at e12
    have g12 : gi h12 = gi h := by rw [e12]; exact g10
    have s12 : MS h12 m := by rw [e12]; exact s10
    refine ⟨s12.1, s12.1, ?_⟩
    rw [g12, f1]
    refine S_results s12 s12 hlt (fun h14 e14 => ?_)
    rw [hc] at e14
    have g14 : gi h14 = gi h := by rw [e14]; exact g12
    have s14 : MS h14 m := by rw [e14]; exact s12
    refine ⟨s14.1, s14.1, ?_⟩
    rw [g14, f1]
    refine S_locals s14 s14 hlt (fun h16 e16 => ?_)
    rw [hc] at e16
    have g16 : gi h16 = gi h := by rw [e16]; exact g14
    have s16 : MS h16 m := by rw [e16]; exact s14
    refine ⟨s16.1, s16.1, ?_⟩
    rw [g16, f1]
    refine S_most s16 s16 hlt (fun h18 e18 => ?_)
    rw [hc] at e18
    have g18 : gi h18 = gi h := by rw [e18]; exact g16
    have s18 : MS h18 m := by rw [e18]; exact s16
    refine ⟨s18.1, s18.1, fun h19 e19 => ?_⟩
    rw [g18, f1, ← nI_succ] at e19
    have s19 : MS h19 m := by rw [e19]; exact s18
    refine ⟨s19.1, fun h20 e20 => ?_⟩
    have s20 : MS h20 m := by rw [e20]; exact s19
    refine ⟨s20.1, fun h21 e21 => ?_⟩
    have s21 : MS h21 m := by rw [e21]; exact s20
    refine ⟨s21.1, fun h22 e22 => ?_⟩
    have s22 : MS h22 m := by rw [e22]; exact s21
    have x53 : gi h22 653 m = nI ([] : List Lb).length := by rw [e22, gi_ne (by decide), e21, gi_eq]; rfl
    refine ⟨s22.1, ?_⟩
    have er : nI (nt r) = r := nI_nt cr.1
    rw [← er]
    refine s_begin (w := 0) (p := 0) (q := nt r) (ls := []) s22 x53 (by decide) trivial (fun h23 w23 A23 g23 a23 => rV_of ?_)
    have s23 := w23.ms s22
    have gg : ∀ f, ¬ f = 653 → gi h23 f m = gi h22 f m := fun f hf => w23.2.2.2.2.2.2.2.1 f m (fun q => hf q.1)
    have aa : ∀ a, ¬ (m + 10 ≤ a ∧ a ≤ m + 16) → ai h23 a = ai h22 a := w23.2.2.2.2.2.2.2.2
    refine ⟨s23.1, ?_⟩
    have y40 : gi h23 640 m = nI (P.length + 1) := by rw [gg 640 (by decide), e22, gi_ne (by decide), e21, gi_ne (by decide), e20, gi_ne (by decide), e19, gi_eq]
    rw [y40, nI_sub1]
    have ww : WW m h h22 := by
      rw [e22, e21, e20, e19, e18, e16, e14, e12, e10, e8]
      exact (WW_si _ _ _ (by omega)).tr ((WW_si _ _ _ (by omega)).tr ((WW_si _ _ _ (by omega)).tr ((WW_si _ _ _ (by omega)).tr ((WW_si _ _ _ (by omega)).tr ((WW_si _ _ _ (by omega)).tr ((WW_pi _ _ (by omega)).tr ((WW_pi _ _ (by omega)).tr ((WW_pi _ _ (by omega)).tr (WW_pi _ _ (by omega))))))))))
    have wv : WW m h22 h23 := (w23.mono (fun f e => Or.inl e)).ww
    have w := ww.tr wv
    have hS := w.sm
    have eA : ai h22 = ai h18 := by rw [e22, e21, e20, e19]; rfl
    have q1 : ∀ j, ai h18 (m + 1) j = if j = P.length then nI (totL P) else ai h (m + 1) j := fun j => by
      rw [e18, ai_ne (by omega), e16, ai_ne (by omega), e14, ai_ne (by omega), e12, ai_ne (by omega), e10, ai_ne (by omega), e8, ai_si]
      by_cases c : j = P.length
      · rw [if_pos ⟨rfl, c⟩, if_pos c]
      · rw [if_neg (fun z => c z.2), if_neg c]
    have q2 : ∀ j, ai h18 (m + 2) j = if j = P.length then 0 else ai h (m + 2) j := fun j => by
      rw [e18, ai_ne (by omega), e16, ai_ne (by omega), e14, ai_ne (by omega), e12, ai_ne (by omega), e10, ai_si, e8, ai_ne (by omega)]
      by_cases c : j = P.length
      · rw [if_pos ⟨rfl, c⟩, if_pos c]
      · rw [if_neg (fun z => c z.2), if_neg c]
    have q3 : ∀ j, ai h18 (m + 3) j = if j = P.length then p else ai h (m + 3) j := fun j => by
      rw [e18, ai_ne (by omega), e16, ai_ne (by omega), e14, ai_ne (by omega), e12, ai_si, e10, ai_ne (by omega), e8, ai_ne (by omega)]
      by_cases c : j = P.length
      · rw [if_pos ⟨rfl, c⟩, if_pos c]
      · rw [if_neg (fun z => c z.2), if_neg c]
    have q4 : ∀ j, ai h18 (m + 4) j = if j = P.length then r else ai h (m + 4) j := fun j => by
      rw [e18, ai_ne (by omega), e16, ai_ne (by omega), e14, ai_si, e12, ai_ne (by omega), e10, ai_ne (by omega), e8, ai_ne (by omega)]
      by_cases c : j = P.length
      · rw [if_pos ⟨rfl, c⟩, if_pos c]
      · rw [if_neg (fun z => c z.2), if_neg c]
    have q5 : ∀ j, ai h18 (m + 5) j = if j = P.length then l else ai h (m + 5) j := fun j => by
      rw [e18, ai_ne (by omega), e16, ai_si, e14, ai_ne (by omega), e12, ai_ne (by omega), e10, ai_ne (by omega), e8, ai_ne (by omega)]
      by_cases c : j = P.length
      · rw [if_pos ⟨rfl, c⟩, if_pos c]
      · rw [if_neg (fun z => c z.2), if_neg c]
    have q6 : ∀ j, ai h18 (m + 6) j = if j = P.length then 0 else ai h (m + 6) j := fun j => by
      rw [e18, ai_si, e16, ai_ne (by omega), e14, ai_ne (by omega), e12, ai_ne (by omega), e10, ai_ne (by omega), e8, ai_ne (by omega)]
      by_cases c : j = P.length
      · rw [if_pos ⟨rfl, c⟩, if_pos c]
      · rw [if_neg (fun z => c z.2), if_neg c]
    have q7 : ∀ a, m + 7 ≤ a → ai h18 a = ai h a := fun a ha => by
      rw [e18, ai_ne (by omega), e16, ai_ne (by omega), e14, ai_ne (by omega), e12, ai_ne (by omega), e10, ai_ne (by omega), e8, ai_ne (by omega)]
    refine K h23 w.mw ⟨s23, ⟨?_, ?_, ?_, ?_, fun k f hf => ?_⟩, ⟨?_, fun v hv => ?_⟩, fun j hj => by rw [(hS.2 (m + 17) (by omega)).1]; exact m4 j hj, ⟨by rw [hS.1 667 (by omega)]; exact m5.1, fun j hj => by rw [(hS.2 (m + 20) (by omega)).2]; exact m5.2 j hj⟩, by rw [hS.1 670 (by omega)]; exact m6, m7.of hS⟩
    · rw [y40]; show _ = nI (P ++ [_]).length; simp
    · show (P ++ [_]).length ≤ 40; simp; omega
    · rw [gg 641 (by decide), e22, gi_ne (by decide), e21, gi_ne (by decide), e20, gi_ne (by decide), e19, gi_ne (by decide), g18, f3]
      show _ = nI (totL (P ++ [_]))
      rw [totL_snoc]
      rfl
    · show totL (P ++ [_]) ≤ 1500
      rw [totL_snoc]
      exact f4
    · have hf : (P ++ [((nt p, nt r, nt l), [])])[k]? = some f := hf
      rcases snoc_cases hf with ⟨hk, hf⟩ | ⟨hk, rfl⟩
      · show MFn h23 m (P ++ [_]) k f
        rw [MFn_pre hk]
        refine (f5 k f hf).of (fun x hx => ?_) (fun x hx i _ => ?_)
        · have hne : k ≠ P.length := by omega
          rw [aa _ (by omega), eA]
          rcases hx with rfl | rfl | rfl | rfl | rfl | rfl
          · rw [q1, if_neg hne]
          · rw [q2, if_neg hne]
          · rw [q3, if_neg hne]
          · rw [q4, if_neg hne]
          · rw [q5, if_neg hne]
          · rw [q6, if_neg hne]
        · rcases hx with rfl | rfl | rfl | rfl
          · rw [aa _ (by omega), eA, q7 _ (by omega)]
          · rw [aa _ (by omega), eA, q7 _ (by omega)]
          · rw [aa _ (by omega), eA, q7 _ (by omega)]
          · rw [a23, eA, q7 _ (by omega)]
      · subst hk
        refine ⟨⟨b1, b2, b3⟩, ?_, ?_, ?_, ?_, ?_, ⟨_, rfl, ?_⟩, fun i x hx => by cases hx⟩
        · rw [aa _ (by omega), eA, q1, if_pos rfl]
          show _ = nI (pos0 (P ++ [_]) P.length)
          rw [pos0_app (Nat.le_refl _)]
          rfl
        · rw [aa _ (by omega), eA, q2, if_pos rfl]; rfl
        · rw [aa _ (by omega), eA, q3, if_pos rfl]; exact (nI_nt cp.1).symm
        · rw [aa _ (by omega), eA, q4, if_pos rfl]; exact (nI_nt cr.1).symm
        · rw [aa _ (by omega), eA, q5, if_pos rfl]; exact (nI_nt cl.1).symm
        · rw [aa _ (by omega), eA, q6, if_pos rfl]; rfl
    · rw [gg 642 (by decide), e22, gi_ne (by decide), e21, gi_ne (by decide), e20, gi_eq]
    · have hv : some ([((0, 0, nt r, 0, 0, false) : Lb)], 0, (none : Option Nat), 0) = some v := hv
      cases hv
      refine ⟨A23, g23, ?_, Nat.zero_le _, fun z => absurd z (Nat.lt_irrefl 0)⟩
      rw [gg 654 (by decide), e22, gi_eq]
      rfl
end MN
