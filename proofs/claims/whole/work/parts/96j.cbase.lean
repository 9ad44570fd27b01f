/-! THE CLASS, 1: what it holds between calls -/
def CPb (h : Hp) (fp : Nat → Nat) (ip : Nat → Nat → Nat) (P : List Fn) : Prop := ∀ (k : Nat) (g : Fn), P[k]? = some g → fp k < sz h ∧ ∀ i, i < (fC g).length → ip k i < sz h
def CB (h : Hp) (x : Nat) (fp : Nat → Nat) (ip : Nat → Nat → Nat) (P : List Fn) (s : RS) (st : Int32) : Prop := (CS h x ∧ x + 41 < sz h) ∧ CP h x fp ip P ∧ CPb h fp ip P ∧ (∀ k, k < P.length → aq h (x + 2) k = some (fp k)) ∧ gi h 329 (x + 3) = st ∧ RXc P fp ip x h s
def CD (h : Hp) (x : Nat) (fp : Nat → Nat) (ip : Nat → Nat → Nat) (P : List Fn) (D : Option Fn) : Prop := match D with
  | none => gr h 580 x = none
  | some d => ∃ B da I L, gr h 580 x = some da ∧ x + 41 ≤ B ∧ (∀ (k : Nat) (g : Fn), P[k]? = some g → fp k ≤ B ∧ ∀ i, i < (fC g).length → ip k i ≤ B) ∧ aq h (x + 2) P.length = some (fp P.length) ∧ (gi h 128 (fp P.length) = nI (fP d) ∧ gi h 129 (fp P.length) = nI (fR d) ∧ gi h 130 (fp P.length) = nI (fL d) ∧ gi h 131 (fp P.length) = nI (fP d + fL d) ∧ gi h 132 (fp P.length) = 0) ∧ DSt h x B da (fp P.length) fp I L (sgs (P ++ [d])) (fP d + fL d) (fR d) (fC d) ∧ ∀ v, vk (P ++ [d]) P.length d (fC d).length = some v → DNm h da (fp P.length) L (fC d) v
def CAg (h : Hp) (x : Nat) (fp : Nat → Nat) (ip : Nat → Nat → Nat) (X : Ab) : Prop := match X with
  | (P, D, ac, ar, tb, s, st) => CB h x fp ip P s st ∧ (gi h 449 (x + 1) = nI (fnD P D).length ∧ gi h 450 (x + 1) = nI (totL P)) ∧ (∀ j, j < 30 → aq h (x + 4) j = (tb j).map fp) ∧ (gi h 579 x = nI ac ∧ ∀ j, j < ac → al h (x + 41) j = ar j) ∧ CD h x fp ip P D
def CA (h : Hp) (x : Nat) (X : Ab) : Prop := ∃ fp ip, CAg h x fp ip X
/-- what the class may change -/
def CW (x : Nat) (h h' : Hp) : Prop := (sz h ≤ sz h' ∧ sz h' ≤ sz h + 3 ∧ us h' ≤ us h + 25) ∧ (∀ a, a < sz h → tg h' a = tg h a) ∧ (∀ a, a < sz h → ¬ (x ≤ a ∧ a ≤ x + 41) → ai h' a = ai h a ∧ al h' a = al h a ∧ aq h' a = aq h a) ∧ ∀ f a, a < sz h → 640 ≤ f → ¬ (x ≤ a ∧ a ≤ x + 41) → gi h' f a = gi h f a ∧ gr h' f a = gr h f a
section CC
variable {h h' : Hp} {x : Nat} {fp fp' : Nat → Nat} {ip ip' : Nat → Nat → Nat} {P : List Fn} {s : RS} {st : Int32} {A : Nat → Prop}
theorem CW.rf : CW x h h := ⟨⟨Nat.le_refl _, by omega, by omega⟩, fun _ _ => rfl, fun _ _ _ => ⟨rfl, rfl, rfl⟩, fun _ _ _ _ _ => ⟨rfl, rfl⟩⟩
theorem CS.of (c : CS h x) (ht : ∀ a, x ≤ a → a ≤ x + 41 → tg h' a = tg h a) (hr : ∀ f a, x ≤ a → a ≤ x + 41 → f ≠ 580 → f < 640 → gr h' f a = gr h f a) (hq : aq h' (x + 6) = aq h (x + 6)) : CS h' x := by
  have t : ∀ k, k ≤ 41 → tg h' (x + k) = tg h (x + k) := fun k hk => ht _ (by omega) (by omega)
  have r : ∀ f k, k ≤ 41 → f ≠ 580 → f < 640 → gr h' f (x + k) = gr h f (x + k) := fun f k hk h1 h2 => hr f _ (by omega) (by omega) h1 h2
  have t0 : tg h' x = tg h x := t 0 (by omega)
  have r0 : ∀ f, f ≠ 580 → f < 640 → gr h' f x = gr h f x := fun f h1 h2 => r f 0 (by omega) h1 h2
  unfold CS
  refine ⟨by rw [t0]; exact c.t9, by rw [r0 _ (by decide) (by decide)]; exact c.r576, by rw [r0 _ (by decide) (by decide)]; exact c.r577, by rw [r0 _ (by decide) (by decide)]; exact c.r578, by rw [t 1 (by decide)]; exact c.t7, by rw [r _ 1 (by decide) (by decide) (by decide)]; exact c.r448, by rw [t 2 (by decide)]; exact c.t2, by rw [t 3 (by decide)]; exact c.t5, by rw [r _ 3 (by decide) (by decide) (by decide)]; exact c.r320, by rw [r _ 3 (by decide) (by decide) (by decide)]; exact c.r321, by rw [r _ 3 (by decide) (by decide) (by decide)]; exact c.r322, by rw [r _ 3 (by decide) (by decide) (by decide)]; exact c.r323, by rw [r _ 3 (by decide) (by decide) (by decide)]; exact c.r324, by rw [t 4 (by decide)]; exact c.t4a, by rw [t 5 (by decide)]; exact c.t5a, by rw [t 6 (by decide)]; exact c.t6a, by rw [t 7 (by decide)]; exact c.t6, by rw [r _ 7 (by decide) (by decide) (by decide)]; exact c.r384, by rw [t 8 (by decide)]; exact c.t8a, by rw [t 9 (by decide)]; exact c.t8, by rw [r _ 9 (by decide) (by decide) (by decide)]; exact c.r512, by rw [t 10 (by decide)]; exact c.t10a, fun k hk => ?_, by rw [t 41 (by decide)]; exact c.t41⟩
  rw [show x + 11 + k = x + (11 + k) by omega, t (11 + k) (by omega), hq, ← show x + 11 + k = x + (11 + k) by omega]
  exact c.fr k hk
theorem RXc.of (H : RXc P fp ip x h s) (hg : ∀ f a, x ≤ a → a ≤ x + 41 → f ≠ 449 → f ≠ 450 → f ≠ 579 → f < 640 → gi h' f a = gi h f a) (hr : ∀ f a, x ≤ a → a ≤ x + 41 → f ≠ 580 → f < 640 → gr h' f a = gr h f a) (h8 : ai h' (x + 8) = ai h (x + 8)) (h5 : al h' (x + 5) = al h (x + 5)) (h10 : al h' (x + 10) = al h (x + 10)) (h30 : s.1 = 1 → s.2.2.1.length ≤ 30) : RXc P fp ip x h' s := by
  obtain ⟨x1, x2, ⟨x31, x32, x33⟩, x4, x5⟩ := H
  have g3 : ∀ f, 325 ≤ f → f ≤ 329 → gi h' f (x + 3) = gi h f (x + 3) := fun f h1 h2 => hg f _ (by omega) (by omega) (by omega) (by omega) (by omega) (by omega)
  have g9 : gi h' 513 (x + 9) = gi h 513 (x + 9) := hg _ _ (by omega) (by omega) (by decide) (by decide) (by decide) (by decide)
  have g7 : gi h' 385 (x + 7) = gi h 385 (x + 7) := hg _ _ (by omega) (by omega) (by decide) (by decide) (by decide) (by decide)
  refine ⟨by rw [g3 327 (by decide) (by decide)]; exact x1, by rw [g3 328 (by decide) (by decide)]; exact x2, ⟨by rw [g7]; exact x31, by rw [h8]; exact x32, by rw [h5]; exact x33⟩, fun e => ?_, fun e => ?_⟩
  · obtain ⟨f, b, i, r, e1, L⟩ := x4 e
    obtain ⟨-, -, y3, y4, y5, y6, ⟨y71, y72, y73⟩, y8, y9⟩ := L
    have hl := h30 e
    rw [e1] at hl
    refine ⟨f, b, i, r, e1, CRW.rf _ _, ⟨rfl, rfl⟩, by rw [g3 327 (by decide) (by decide)]; exact y3, by rw [g3 326 (by decide) (by decide)]; exact y4, by rw [g9]; exact y5, by rw [g3 325 (by decide) (by decide)]; exact y6, ⟨by rw [g7]; exact y71, by rw [h8]; exact y72, by rw [h5]; exact y73⟩, by rw [h10]; exact y8, ?_⟩
    exact y9.of (fun j hj => ⟨hr _ _ (by omega) (by omega) (by decide) (by decide), hg _ _ (by omega) (by omega) (by decide) (by decide) (by decide) (by decide), hr _ _ (by omega) (by omega) (by decide) (by decide)⟩)
  · obtain ⟨e1, e2⟩ := x5 e
    exact ⟨by rw [g9]; exact e1, by rw [h10]; exact e2⟩
theorem OKS.len (hO : OKS P s) : s.1 = 1 → s.2.2.1.length ≤ 30 := fun e => (hO.2.2.1 e).1.2.2.1
theorem CB.of (C : CB h x fp ip P s st) (hO : OKS P s) (hA1 : ∀ a, x ≤ a → a ≤ x + 41 → A a) (hA2 : ∀ (k : Nat) (g : Fn), P[k]? = some g → A (fp k) ∧ ∀ i, i < (fC g).length → A (ip k i)) (hz : sz h ≤ sz h') (ht : ∀ a, A a → tg h' a = tg h a) (hr : ∀ f a, A a → f ≠ 580 → f < 640 → gr h' f a = gr h f a) (hg : ∀ f a, A a → f ≠ 449 → f ≠ 450 → f ≠ 579 → f < 640 → gi h' f a = gi h f a) (h8 : ai h' (x + 8) = ai h (x + 8)) (h5 : al h' (x + 5) = al h (x + 5)) (h10 : al h' (x + 10) = al h (x + 10)) (h6 : aq h' (x + 6) = aq h (x + 6)) (h2 : ∀ k, k < P.length → aq h' (x + 2) k = aq h (x + 2) k) : CB h' x fp ip P s st := by
  obtain ⟨⟨c1, c2⟩, c3, c4, c5, c6, c7⟩ := C
  refine ⟨⟨c1.of (fun a h1 h2 => ht a (hA1 a h1 h2)) (fun f a h1 h2 => hr f a (hA1 a h1 h2)) h6, by omega⟩, ?_, ?_, fun k hk => by rw [h2 k hk]; exact c5 k hk, by rw [hg _ _ (hA1 _ (by omega) (by omega)) (by decide) (by decide) (by decide) (by decide)]; exact c6, c7.of (fun f a h1 h2 => hg f a (hA1 a h1 h2)) (fun f a h1 h2 => hr f a (hA1 a h1 h2)) h8 h5 h10 hO.len⟩
  · intro k g hk
    obtain ⟨d1, d2, d3⟩ := c3 k g hk
    obtain ⟨a1, a2⟩ := hA2 k g hk
    obtain ⟨e1, e2, e3, e4, e5, e6, e7, e8, e9⟩ := d1
    refine ⟨⟨by rw [ht _ a1]; exact e1, by rw [hg _ _ a1 (by decide) (by decide) (by decide) (by decide)]; exact e2, by rw [hg _ _ a1 (by decide) (by decide) (by decide) (by decide)]; exact e3, by rw [hg _ _ a1 (by decide) (by decide) (by decide) (by decide)]; exact e4, by rw [hg _ _ a1 (by decide) (by decide) (by decide) (by decide)]; exact e5, by rw [hg _ _ a1 (by decide) (by decide) (by decide) (by decide)]; exact e6, by rw [hg _ _ a1 (by decide) (by decide) (by decide) (by decide)]; exact e7, by rw [hr _ _ a1 (by decide) (by decide)]; exact e8, fun i hi => ?_⟩, d2, d3⟩
    have ai := a2 i hi
    obtain ⟨f1, f2, f3, f4, f5, f6, f7, f8⟩ := e9 i hi
    refine ⟨by rw [ht _ ai]; exact f1, by rw [hg _ _ ai (by decide) (by decide) (by decide) (by decide)]; exact f2, by rw [hg _ _ ai (by decide) (by decide) (by decide) (by decide)]; exact f3, by rw [hg _ _ ai (by decide) (by decide) (by decide) (by decide)]; exact f4, by rw [hr _ _ ai (by decide) (by decide)]; exact f5, fun z => by rw [hr _ _ ai (by decide) (by decide)]; exact f6 z, fun z => ?_, fun z => by rw [hr _ _ ai (by decide) (by decide)]; exact f8 z⟩
    obtain ⟨g1, g2, g3⟩ := f7 z
    exact ⟨by rw [hr _ _ ai (by decide) (by decide)]; exact g1, by rw [hg _ _ ai (by decide) (by decide) (by decide) (by decide)]; exact g2, by rw [hg _ _ ai (by decide) (by decide) (by decide) (by decide)]; exact g3⟩
  · intro k g hk
    obtain ⟨d1, d2⟩ := c4 k g hk
    exact ⟨by omega, fun i hi => by have := d2 i hi; omega⟩
/-- a call in a whole function is to one that is there -/
theorem call_lt (hW : WhP P) {k i : Nat} {g : Fn} (hk : P[k]? = some g) (hi : i < (fC g).length) (h16 : oA (fC g) i = 16) : nt (aA (fC g) i) < P.length := by
  obtain ⟨v, v', y, hv, hv', hx, hs, hne⟩ := (hW k g hk).1.at hi
  have ho : y.1 = 16 := by rw [← oA_of hx]; exact h16
  have hc := (vstep_ctl hs (by rw [ho]; decide) (by rw [ho]; decide)).1
  unfold vctl at hc
  rw [ho] at hc
  have hc : (if y.2.1 < 0 then none else match (sgs (P.take (k + 1)))[nt y.2.1]? with
    | some s => turnV v.1 s.1 s.2
    | none => none) = some v'.1 := hc
  rw [aA_of hx]
  split at hc
  · cases hc
  · split at hc
    · rename_i s' hs'
      have h1 := (List.getElem?_eq_some_iff.mp hs').1
      unfold sgs at h1
      simp at h1
      omega
    · cases hc
theorem FC.ext : ∀ {fr : List Fm}, FC h x fp ip fr → (∀ y ∈ fr, fp' y.1 = fp y.1 ∧ ip' y.1 = ip y.1) → FC h x fp' ip' fr := by
  intro fr
  induction fr with
  | nil => intro _ _; trivial
  | cons y r ih =>
    intro hF e
    obtain ⟨f, b, p⟩ := y
    obtain ⟨h1, h2, h3, h4⟩ := hF
    obtain ⟨e1, e2⟩ := e (f, b, p) List.mem_cons_self
    dsimp only at e1 e2
    exact ⟨by rw [e1]; exact h1, h2, by rw [e2]; exact h3, ih h4 (fun z hz => e z (List.mem_cons_of_mem _ hz))⟩
theorem FrOK.lt : ∀ {fr : List Fm} {n : Nat}, FrOK P n fr → ∀ y ∈ fr, y.1 < P.length := by
  intro fr
  induction fr with
  | nil => intro n _ y hy; cases hy
  | cons z r ih =>
    intro n h y hy
    obtain ⟨f, b, p⟩ := z
    obtain ⟨g, hg, -, -, h5⟩ := h
    rcases List.mem_cons.mp hy with e | hy
    · rw [e]; exact lt_of_get hg
    · exact ih h5 y hy
/-- other names behind the functions that are there -/
theorem CB.ext (C : CB h x fp ip P s st) (hW : WhP P) (hO : OKS P s) (e : ∀ k, k < P.length → fp' k = fp k ∧ ip' k = ip k) : CB h x fp' ip' P s st := by
  obtain ⟨c1, c3, c4, c5, c6, ⟨x1, x2, x3, x4, x5⟩⟩ := C
  refine ⟨c1, ?_, ?_, fun k hk => by rw [(e k hk).1]; exact c5 k hk, c6, x1, x2, x3, fun z => ?_, x5⟩
  · intro k g hk
    obtain ⟨e1, e2⟩ := e k (lt_of_get hk)
    obtain ⟨⟨d1, d2, d3, d4, d5, d6, d7, d8, d9⟩, dB, dI⟩ := c3 k g hk
    refine ⟨⟨by rw [e1]; exact d1, by rw [e1]; exact d2, by rw [e1]; exact d3, by rw [e1]; exact d4, by rw [e1]; exact d5, by rw [e1]; exact d6, by rw [e1]; exact d7, by rw [e1, e2]; exact d8, fun i hi => ?_⟩, by rw [e1]; exact dB, by rw [e2]; exact dI⟩
    obtain ⟨f1, f2, f3, f4, f5, f6, f7, f8⟩ := d9 i hi
    unfold CIn
    rw [e2]
    refine ⟨f1, f2, f3, f4, f5, f6, f7, fun z16 => ?_⟩
    rw [(e _ (call_lt hW hk hi z16)).1]
    exact f8 z16
  · intro k g hk
    obtain ⟨e1, e2⟩ := e k (lt_of_get hk)
    rw [e1, e2]
    exact c4 k g hk
  · obtain ⟨f, b, i, r, e1, L⟩ := x4 z
    obtain ⟨y1, y2, y3, y4, y5, y6, y7, y8, y9⟩ := L
    obtain ⟨⟨o1, -⟩, -⟩ := hO.2.2.1 z
    rw [e1] at o1
    exact ⟨f, b, i, r, e1, y1, y2, y3, y4, y5, y6, y7, y8, y9.ext (fun y hy => e y.1 (o1.lt y hy))⟩
/-- a function more -/
theorem CB.app {d : Fn} (C : CB h x fp ip P s st) (hO : OKS P s) (hd : CFn h fp ip (P ++ [d]) P.length d) (hb : x + 41 < fp P.length ∧ fp P.length < sz h ∧ ∀ i, i < (fC d).length → x + 41 < ip P.length i ∧ ip P.length i < sz h) (hq : aq h (x + 2) P.length = some (fp P.length)) : CB h x fp ip (P ++ [d]) s st := by
  obtain ⟨c1, c3, c4, c5, c6, ⟨x1, x2, x3, x4, x5⟩⟩ := C
  refine ⟨c1, ?_, ?_, ?_, c6, x1, x2, x3, fun z => ?_, x5⟩
  · intro k g hk
    rcases snoc_cases hk with ⟨hk', hk⟩ | ⟨rfl, rfl⟩
    · obtain ⟨⟨d1, d2, d3, d4, d5, d6, d7, d8, d9⟩, dB, dI⟩ := c3 k g hk
      refine ⟨⟨d1, d2, d3, d4, d5, d6, by rw [moF_app hk']; exact d7, d8, fun i hi => ?_⟩, dB, dI⟩
      obtain ⟨f1, f2, f3, f4, f5, f6, f7, f8⟩ := d9 i hi
      refine ⟨f1, f2, f3, f4, f5, f6, fun z => ?_, f8⟩
      obtain ⟨g1, g2, g3⟩ := f7 z
      refine ⟨g1, g2, ?_⟩
      rw [hgtP_C, take_app hk', ← hgtP_C]
      exact g3
    · exact ⟨hd, hb.1, fun i hi => (hb.2.2 i hi).1⟩
  · intro k g hk
    rcases snoc_cases hk with ⟨hk', hk⟩ | ⟨rfl, rfl⟩
    · exact c4 k g hk
    · exact ⟨hb.2.1, fun i hi => (hb.2.2 i hi).2⟩
  · intro k hk
    by_cases e : k = P.length
    · rw [e]; exact hq
    · refine c5 k ?_
      simp at hk
      omega
  · obtain ⟨f, b, i, r, e1, L⟩ := x4 z
    obtain ⟨y1, y2, y3, y4, y5, y6, y7, y8, y9⟩ := L
    obtain ⟨⟨o1, -⟩, -⟩ := hO.2.2.1 z
    rw [e1] at o1
    exact ⟨f, b, i, r, e1, y1, y2, y3, y4, y5, by rw [(o1.app (d := d)).2.1]; exact y6, y7, y8, y9⟩
end CC
