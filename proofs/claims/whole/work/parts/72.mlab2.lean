/-! THE REFERENCE, 3: its checker's parts -/
theorem nI_nt {a : Int32} (h : ¬ a < 0) : nI (nt a) = a := by
  apply Int32.toInt_inj.mp
  have h1 : 0 ≤ a.toInt := by
    have := Int32.not_lt.mp h
    rw [Int32.le_iff_toInt_le, Int32.toInt_zero] at this
    exact this
  have h2 : a.toInt < 2 ^ 31 := Int32.toInt_lt a
  have h3 : nt a < 2147483648 := by
    unfold nt Int32.toNatClampNeg
    omega
  rw [nI_toInt h3]
  unfold nt Int32.toNatClampNeg
  omega
theorem nt_lt (a : Int32) : nt a < 2147483648 := by
  have h2 : a.toInt < 2 ^ 31 := Int32.toInt_lt a
  unfold nt Int32.toNatClampNeg
  omega
theorem wi_nI {a : Int32} {d : Nat} (hd : d < 2147483648) : wi a (nI d) ↔ ¬ a < 0 ∧ nt a ≤ d := by
  constructor
  · intro ⟨h1, h2⟩
    refine ⟨h1, ?_⟩
    rw [← nI_nt h1] at h2
    exact Nat.le_of_not_lt fun q => h2 (nI_lt q (nt_lt a))
  · intro ⟨h1, h2⟩
    refine ⟨h1, fun q => ?_⟩
    rw [← nI_nt h1] at q
    have := (nJ_lt hd (nt_lt a)).mp q
    omega
theorem LA.drop {h : Hp} {m : Nat} {ls : List Lb} (hA : LA h m ls) (k : Nat) : LA h m (ls.drop k) := by
  induction k generalizing ls with
  | zero => exact hA
  | succ k ih =>
    cases ls with
    | nil => trivial
    | cons l r => exact ih hA.2
/-- the reference's labels, and some of its fields, have changed -/
def VW (m : Nat) (F : Nat → Prop) (h h' : Hp) : Prop := tg h' = tg h ∧ gl h' = gl h ∧ gr h' = gr h ∧ al h' = al h ∧ aq h' = aq h ∧ sz h' = sz h ∧ us h' = us h ∧ (∀ f a, ¬ (F f ∧ a = m) → gi h' f a = gi h f a) ∧ ∀ a, ¬ (m + 10 ≤ a ∧ a ≤ m + 16) → ai h' a = ai h a
theorem VW.rf (m : Nat) (F : Nat → Prop) (h : Hp) : VW m F h h := ⟨rfl, rfl, rfl, rfl, rfl, rfl, rfl, fun _ _ _ => rfl, fun _ _ => rfl⟩
theorem VW.tr {m : Nat} {F : Nat → Prop} {h h1 h2 : Hp} (a : VW m F h h1) (b : VW m F h1 h2) : VW m F h h2 := by
  obtain ⟨a1, a2, a3, a4, a5, a6, a7, a8, a9⟩ := a
  obtain ⟨b1, b2, b3, b4, b5, b6, b7, b8, b9⟩ := b
  exact ⟨b1.trans a1, b2.trans a2, b3.trans a3, b4.trans a4, b5.trans a5, b6.trans a6, b7.trans a7, fun f x hx => (b8 f x hx).trans (a8 f x hx), fun x hx => (b9 x hx).trans (a9 x hx)⟩
theorem VW.mono {m : Nat} {F G : Nat → Prop} {h h1 : Hp} (a : VW m F h h1) (hF : ∀ f, F f → G f) : VW m G h h1 := by
  obtain ⟨a1, a2, a3, a4, a5, a6, a7, a8, a9⟩ := a
  exact ⟨a1, a2, a3, a4, a5, a6, a7, fun f x hx => a8 f x (fun q => hx ⟨hF f q.1, q.2⟩), a9⟩
theorem VW_si {m a : Nat} {F : Nat → Prop} (h : Hp) (j : Nat) (x : Int32) (ha : m + 10 ≤ a ∧ a ≤ m + 16) : VW m F h (si h a j x) := ⟨rfl, rfl, rfl, rfl, rfl, rfl, rfl, fun _ _ _ => rfl, fun b hb => by
  funext i
  rw [ai_si, if_neg (fun q => hb (by rw [q.1]; exact ha))]⟩
theorem VW_pi {m f : Nat} {F : Nat → Prop} (h : Hp) (x : Int32) (hf : F f) : VW m F h (pi h f m x) := ⟨rfl, rfl, rfl, rfl, rfl, rfl, rfl, fun g a hg => by
  rw [gi_pi, if_neg (fun q => hg ⟨by rw [q.1]; exact hf, q.2⟩)], fun _ _ => rfl⟩
theorem VW.ms {m : Nat} {F : Nat → Prop} {h h' : Hp} (w : VW m F h h') (hm : MS h m) : MS h' m := hm.of w.1 w.2.2.1
abbrev F3 : Nat → Prop := fun f => f = 653
section ML
variable {h : Hp} {m n : Nat} {l : Lb} {r ls : List Lb} {Q : Option TV → Hp → Prop}
theorem s_wants {k : Nat} (hm : MS h m) (hl : gi h 653 m = nI ls.length) (hlen : ls.length ≤ 1501) (hA : LA h m ls) (hk : ls.drop k = l :: r) (hs : SmL l) (kk : Q (some (tI (nI (wantL l)))) h) : tX11_wants m (nI k) h Q := by
  have hle : ls.length = k + (r.length + 1) := by
    have := congrArg List.length hk
    rw [List.length_drop, List.length_cons] at this
    omega
  have hA2 := hA.drop k
  rw [hk] at hA2
  obtain ⟨⟨a1, a2, a3, -, -, -⟩, -⟩ := hA2
  obtain ⟨b1, b2, b3, -⟩ := hs
  have hr : r.length < 1501 := by omega
  have hr2 : r.length < 2147483648 := by omega
  have hl2 : gi h 653 m = nI ((k + r.length) + 1) := by rw [hl, hle]; congr 1
  have hix : nI (k + r.length) - nI k = nI r.length := by rw [nJ_sub (by omega)]; congr 1; omega
  refine wX11_wants m (nI k) h Q ⟨hm.1, hm.1, s_inner hm hl2 (rI_of ?_)⟩
  rw [hix]
  refine L_by hm hm hr ?_
  rw [nck hr2, a1]
  by_cases c : bY l = 3
  · rw [if_pos (by rw [c]; rfl)]
    refine ⟨hm.1, hm.1, s_inner hm hl2 (rI_of ?_)⟩
    rw [hix]
    refine L_takes hm hm hr ?_
    rw [nck hr2, a2]
    unfold wantL at kk
    rw [if_pos c] at kk
    exact kk
  · rw [if_neg (fun q => c ((nJ_inj (by omega) (by decide)).mp (q.trans (show (3 : Int32) = nI 3 from rfl))))]
    refine ⟨hm.1, hm.1, s_inner hm hl2 (rI_of ?_)⟩
    rw [hix]
    refine L_gives hm hm hr ?_
    rw [nck hr2, a3]
    unfold wantL at kk
    rw [if_neg c] at kk
    exact kk
theorem s_isLabel {a : Int32} (hm : MS h m) (hl : gi h 653 m = nI (n + 1)) (hn : n < 1501) (k : Q (some (tI (if ¬ a < 0 ∧ nt a ≤ n then 1 else 0))) h) : tX11_isLabel m a h Q := by
  refine wX11_isLabel m a h Q ⟨hm.1, ?_⟩
  rw [hl, nI_sub1]
  refine s_within (rI_of ?_)
  by_cases c : wi a (nI n)
  · rw [if_pos c]
    rw [if_pos ((wi_nI (by omega)).mp c)] at k
    exact ⟨Or.inr rfl, k⟩
  · rw [if_neg c]
    rw [if_neg (fun q => c ((wi_nI (by omega)).mpr q))] at k
    exact ⟨Or.inl rfl, k⟩
def und (ls : List Lb) : Nat := match ls with
  | [] => 0
  | l :: _ => hT l + oW l
theorem s_begin {w p q : Nat} (hm : MS h m) (hl : gi h 653 m = nI ls.length) (hlen : ls.length < 1501) (hA : LA h m ls) (k : ∀ h', VW m F3 h h' → LA h' m ((w, p, q, und ls, p, false) :: ls) → gi h' 653 m = nI (ls.length + 1) → ai h' (m + 10) = ai h (m + 10) → Q none h') : tX11_begin m (nI w) (nI p) (nI q) h Q := by
  have hr2 : ls.length < 2147483648 := by omega
  have main : tX11_begin_34 m (nI w) (nI p) (nI q) (nI (und ls)) h Q := by
    refine wX11_begin_34 m (nI w) (nI p) (nI q) (nI (und ls)) h Q ⟨hm.1, hm.1, ?_⟩
    rw [hl]
    refine S_by hm hm hlen (fun h1 e1 => ?_)
    try rw [nck hr2] at e1
    have g1 : gi h1 653 m = nI ls.length := by rw [e1]; exact hl
    have m1 : MS h1 m := by rw [e1]; exact hm
    refine ⟨m1.1, m1.1, ?_⟩
    rw [g1]
    refine S_takes m1 m1 hlen (fun h2 e2 => ?_)
    try rw [nck hr2] at e2
    have g2 : gi h2 653 m = nI ls.length := by rw [e2]; exact g1
    have m2 : MS h2 m := by rw [e2]; exact m1
    refine ⟨m2.1, m2.1, ?_⟩
    rw [g2]
    refine S_gives m2 m2 hlen (fun h3 e3 => ?_)
    try rw [nck hr2] at e3
    have g3 : gi h3 653 m = nI ls.length := by rw [e3]; exact g2
    have m3 : MS h3 m := by rw [e3]; exact m2
    refine ⟨m3.1, m3.1, ?_⟩
    rw [g3]
    refine S_height m3 m3 hlen (fun h4 e4 => ?_)
    try rw [nck hr2] at e4
    have g4 : gi h4 653 m = nI ls.length := by rw [e4]; exact g3
    have m4 : MS h4 m := by rw [e4]; exact m3
    refine ⟨m4.1, m4.1, ?_⟩
    rw [g4]
    refine S_own m4 m4 hlen (fun h5 e5 => ?_)
    try rw [nck hr2] at e5
    have g5 : gi h5 653 m = nI ls.length := by rw [e5]; exact g4
    have m5 : MS h5 m := by rw [e5]; exact m4
    refine ⟨m5.1, m5.1, ?_⟩
    rw [g5]
    refine S_dead m5 m5 hlen (fun h6 e6 => ?_)
    try rw [nck hr2] at e6
    have g6 : gi h6 653 m = nI ls.length := by rw [e6]; exact g5
    have m6 : MS h6 m := by rw [e6]; exact m5
    refine ⟨m6.1, m6.1, fun h7 e7 => ?_⟩
    rw [g6, ← nI_succ] at e7
    have w6 : VW m F3 h h6 := by
      rw [e6, e5, e4, e3, e2, e1]
      exact (VW_si _ _ _ (by omega)).tr ((VW_si _ _ _ (by omega)).tr ((VW_si _ _ _ (by omega)).tr ((VW_si _ _ _ (by omega)).tr ((VW_si _ _ _ (by omega)).tr (VW_si _ _ _ (by omega))))))
    have hA6 : LA h6 m ls := by
      rw [e6, e5, e4, e3, e2, e1]
      exact LA_si (Nat.le_refl _) (LA_si (Nat.le_refl _) (LA_si (Nat.le_refl _) (LA_si (Nat.le_refl _) (LA_si (Nat.le_refl _) (LA_si (Nat.le_refl _) hA)))))
    have t1 : ai h6 (m + 11) ls.length = nI w := by
      rw [e6, ai_oth (by omega), e5, ai_oth (by omega), e4, ai_oth (by omega), e3, ai_oth (by omega), e2, ai_oth (by omega), e1, ai_same]
    have t2 : ai h6 (m + 12) ls.length = nI p := by
      rw [e6, ai_oth (by omega), e5, ai_oth (by omega), e4, ai_oth (by omega), e3, ai_oth (by omega), e2, ai_same]
    have t3 : ai h6 (m + 13) ls.length = nI q := by
      rw [e6, ai_oth (by omega), e5, ai_oth (by omega), e4, ai_oth (by omega), e3, ai_same]
    have t4 : ai h6 (m + 14) ls.length = nI (und ls) := by
      rw [e6, ai_oth (by omega), e5, ai_oth (by omega), e4, ai_same]
    have t5 : ai h6 (m + 15) ls.length = nI p := by
      rw [e6, ai_oth (by omega), e5, ai_same]
    have t6 : ai h6 (m + 16) ls.length = 0 := by
      rw [e6, ai_same]
      rfl
    have t0 : ai h6 (m + 10) = ai h (m + 10) := by
      funext i
      rw [e6, ai_oth (by omega), e5, ai_oth (by omega), e4, ai_oth (by omega), e3, ai_oth (by omega), e2, ai_oth (by omega), e1, ai_oth (by omega)]
    have hLA : ∀ hh : Hp, ai hh = ai h6 → LA hh m ls := by
      intro hh e
      have : ∀ r : List Lb, LA h6 m r → LA hh m r := by
        intro r
        induction r with
        | nil => intro _; trivial
        | cons l r ih => intro hx; exact ⟨by rw [e]; exact hx.1, ih hx.2⟩
      exact this ls hA6
    refine k h7 (by rw [e7]; exact w6.tr (VW_pi _ _ rfl)) ?_ (by rw [e7, gi_pi, if_pos ⟨rfl, rfl⟩]) (by rw [e7]; exact t0)
    have ea : ai h7 = ai h6 := by rw [e7]; rfl
    refine ⟨?_, hLA h7 ea⟩
    rw [ea]
    exact ⟨t1, t2, t3, t4, t5, t6⟩
  refine wX11_begin m (nI w) (nI p) (nI q) h Q ⟨hm.1, ?_⟩
  cases ls with
  | nil =>
    rw [if_pos (by rw [hl]; rfl)]
    exact main
  | cons l r =>
    have hl3 : gi h 653 m = nI (r.length + 1) := hl
    have hr : r.length < 1501 := by simp at hlen; omega
    obtain ⟨⟨-, -, -, a4, a5, -⟩, -⟩ := hA
    rw [if_neg (by rw [hl3]; exact nI_ne0 (by omega) (by omega))]
    refine ⟨hm.1, hm.1, ?_⟩
    rw [hl3, nI_sub1]
    refine L_height hm hm hr ⟨hm.1, hm.1, L_own hm hm hr ?_⟩
    rw [nck (by omega), a4, a5, nJ_add]
    exact main
/-- the parts of the checker: answer and labels -/
def VP (m tot : Nat) (o : Int32) (h : Hp) (f : Option (List Lb)) (Q : Option TV → Hp → Prop) : Prop := match f with
  | none => Q (some (tI 0)) h
  | some ls' => ∀ h', VW m F3 h h' → LA h' m ls' → gi h' 653 m = nI ls'.length → (∀ j, j ≠ tot → ai h' (m + 10) j = ai h (m + 10) j) → (isBg o = true → ai h' (m + 10) tot = nI (match ls' with
    | [] => 0
    | l :: _ => hT l)) → Q (some (tI 1)) h'
theorem VP_turn {t p tot : Nat} {o : Int32} (hb : isBg o = false) (hm : MS h m) (hl : gi h 653 m = nI ls.length) (hlen : ls.length ≤ 1501) (hA : LA h m ls) (hs : ∀ l ∈ ls, SmL l) (hne : ls ≠ []) (ht : t < 2147483648) (k : VP m tot o h (turnV ls t p) Q) : tX11_turn m (nI t) (nI p) h Q := by
  cases ls with
  | nil => exact absurd rfl hne
  | cons l r =>
    refine s_turn hm hl (by simp at hlen; omega) hA (hs l List.mem_cons_self) ht ?_
    unfold turnV at k
    dsimp only at k
    by_cases c : hasB l t = true
    · rw [if_pos c] at k ⊢
      exact k _ (VW_si _ _ _ (by omega)) (LA_own hA) hl (fun j _ => ai_oth (by omega) j) (fun q => by rw [hb] at q; cases q)
    · rw [if_neg c] at k ⊢
      exact k
theorem VP_ends {t tot : Nat} {o : Int32} (hb : isBg o = false) (hm : MS h m) (hl : gi h 653 m = nI ls.length) (hlen : ls.length ≤ 1501) (hA : LA h m ls) (hs : ∀ l ∈ ls, SmL l) (hne : ls ≠ []) (ht : t < 2147483648) (k : VP m tot o h (endsV ls t) Q) : tX11_ends m (nI t) h Q := by
  cases ls with
  | nil => exact absurd rfl hne
  | cons l r =>
    refine s_ends hm hl (by simp at hlen; omega) hA (hs l List.mem_cons_self) ht ?_
    unfold endsV at k
    dsimp only at k
    by_cases c : hasB l t = true
    · rw [if_pos c] at k ⊢
      exact k _ ((VW_si _ _ _ (by omega)).tr (VW_si _ _ _ (by omega))) (LA_die hA) hl (fun j _ => by rw [ai_oth (by omega), ai_oth (by omega)]) (fun q => by rw [hb] at q; cases q)
    · rw [if_neg c] at k ⊢
      exact k
end ML
