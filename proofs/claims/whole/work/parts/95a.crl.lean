/-! THE CLASS RUNS, 1: where its parts lie, and the small moves -/
def CS (h : Hp) (x : Nat) : Prop := tg h x = some (.inl 9) ∧ gr h 576 x = some (x + 1) ∧ gr h 577 x = some (x + 3) ∧ gr h 578 x = some (x + 41) ∧ tg h (x + 1) = some (.inl 7) ∧ gr h 448 (x + 1) = some (x + 2) ∧ tg h (x + 2) = some (.inr (12, 40)) ∧ tg h (x + 3) = some (.inl 5) ∧ gr h 320 (x + 3) = some (x + 4) ∧ gr h 321 (x + 3) = some (x + 5) ∧ gr h 322 (x + 3) = some (x + 6) ∧ gr h 323 (x + 3) = some (x + 7) ∧ gr h 324 (x + 3) = some (x + 9) ∧ tg h (x + 4) = some (.inr (12, 30)) ∧ tg h (x + 5) = some (.inr (1, 8)) ∧ tg h (x + 6) = some (.inr (11, 30)) ∧ tg h (x + 7) = some (.inl 6) ∧ gr h 384 (x + 7) = some (x + 8) ∧ tg h (x + 8) = some (.inr (2, 384)) ∧ tg h (x + 9) = some (.inl 8) ∧ gr h 512 (x + 9) = some (x + 10) ∧ tg h (x + 10) = some (.inr (1, 220)) ∧ (∀ k, k < 30 → tg h (x + 11 + k) = some (.inl 1) ∧ aq h (x + 6) k = some (x + 11 + k)) ∧ tg h (x + 41) = some (.inr (1, 8))
theorem CS.t9 {h : Hp} {x : Nat} (c : CS h x) : tg h x = some (.inl 9) := c.1
theorem CS.r576 {h : Hp} {x : Nat} (c : CS h x) : gr h 576 x = some (x + 1) := c.2.1
theorem CS.r577 {h : Hp} {x : Nat} (c : CS h x) : gr h 577 x = some (x + 3) := c.2.2.1
theorem CS.r578 {h : Hp} {x : Nat} (c : CS h x) : gr h 578 x = some (x + 41) := c.2.2.2.1
theorem CS.t7 {h : Hp} {x : Nat} (c : CS h x) : tg h (x + 1) = some (.inl 7) := c.2.2.2.2.1
theorem CS.r448 {h : Hp} {x : Nat} (c : CS h x) : gr h 448 (x + 1) = some (x + 2) := c.2.2.2.2.2.1
theorem CS.t2 {h : Hp} {x : Nat} (c : CS h x) : tg h (x + 2) = some (.inr (12, 40)) := c.2.2.2.2.2.2.1
theorem CS.t5 {h : Hp} {x : Nat} (c : CS h x) : tg h (x + 3) = some (.inl 5) := c.2.2.2.2.2.2.2.1
theorem CS.r320 {h : Hp} {x : Nat} (c : CS h x) : gr h 320 (x + 3) = some (x + 4) := c.2.2.2.2.2.2.2.2.1
theorem CS.r321 {h : Hp} {x : Nat} (c : CS h x) : gr h 321 (x + 3) = some (x + 5) := c.2.2.2.2.2.2.2.2.2.1
theorem CS.r322 {h : Hp} {x : Nat} (c : CS h x) : gr h 322 (x + 3) = some (x + 6) := c.2.2.2.2.2.2.2.2.2.2.1
theorem CS.r323 {h : Hp} {x : Nat} (c : CS h x) : gr h 323 (x + 3) = some (x + 7) := c.2.2.2.2.2.2.2.2.2.2.2.1
theorem CS.r324 {h : Hp} {x : Nat} (c : CS h x) : gr h 324 (x + 3) = some (x + 9) := c.2.2.2.2.2.2.2.2.2.2.2.2.1
theorem CS.t4a {h : Hp} {x : Nat} (c : CS h x) : tg h (x + 4) = some (.inr (12, 30)) := c.2.2.2.2.2.2.2.2.2.2.2.2.2.1
theorem CS.t5a {h : Hp} {x : Nat} (c : CS h x) : tg h (x + 5) = some (.inr (1, 8)) := c.2.2.2.2.2.2.2.2.2.2.2.2.2.2.1
theorem CS.t6a {h : Hp} {x : Nat} (c : CS h x) : tg h (x + 6) = some (.inr (11, 30)) := c.2.2.2.2.2.2.2.2.2.2.2.2.2.2.2.1
theorem CS.t6 {h : Hp} {x : Nat} (c : CS h x) : tg h (x + 7) = some (.inl 6) := c.2.2.2.2.2.2.2.2.2.2.2.2.2.2.2.2.1
theorem CS.r384 {h : Hp} {x : Nat} (c : CS h x) : gr h 384 (x + 7) = some (x + 8) := c.2.2.2.2.2.2.2.2.2.2.2.2.2.2.2.2.2.1
theorem CS.t8a {h : Hp} {x : Nat} (c : CS h x) : tg h (x + 8) = some (.inr (2, 384)) := c.2.2.2.2.2.2.2.2.2.2.2.2.2.2.2.2.2.2.1
theorem CS.t8 {h : Hp} {x : Nat} (c : CS h x) : tg h (x + 9) = some (.inl 8) := c.2.2.2.2.2.2.2.2.2.2.2.2.2.2.2.2.2.2.2.1
theorem CS.r512 {h : Hp} {x : Nat} (c : CS h x) : gr h 512 (x + 9) = some (x + 10) := c.2.2.2.2.2.2.2.2.2.2.2.2.2.2.2.2.2.2.2.2.1
theorem CS.t10a {h : Hp} {x : Nat} (c : CS h x) : tg h (x + 10) = some (.inr (1, 220)) := c.2.2.2.2.2.2.2.2.2.2.2.2.2.2.2.2.2.2.2.2.2.1
theorem CS.fr {h : Hp} {x : Nat} (c : CS h x) : ∀ k, k < 30 → tg h (x + 11 + k) = some (.inl 1) ∧ aq h (x + 6) k = some (x + 11 + k) := c.2.2.2.2.2.2.2.2.2.2.2.2.2.2.2.2.2.2.2.2.2.2.1
theorem CS.t41 {h : Hp} {x : Nat} (c : CS h x) : tg h (x + 41) = some (.inr (1, 8)) := c.2.2.2.2.2.2.2.2.2.2.2.2.2.2.2.2.2.2.2.2.2.2.2
/-- what running may change in the class -/
def CRW (x : Nat) (h h' : Hp) : Prop := tg h' = tg h ∧ gl h' = gl h ∧ aq h' = aq h ∧ sz h' = sz h ∧ us h' = us h ∧ (∀ f a, ¬ ((a = x + 3 ∧ 325 ≤ f ∧ f ≤ 329) ∨ (a = x + 9 ∧ f = 513) ∨ (a = x + 7 ∧ f = 385) ∨ (x + 11 ≤ a ∧ a ≤ x + 40)) → gi h' f a = gi h f a) ∧ (∀ f a, ¬ (x + 11 ≤ a ∧ a ≤ x + 40) → gr h' f a = gr h f a) ∧ (∀ a, ¬ a = x + 8 → ai h' a = ai h a) ∧ ∀ a, ¬ (a = x + 5 ∨ a = x + 10) → al h' a = al h a
theorem CRW.rf (x : Nat) (h : Hp) : CRW x h h := ⟨rfl, rfl, rfl, rfl, rfl, fun _ _ _ => rfl, fun _ _ _ => rfl, fun _ _ => rfl, fun _ _ => rfl⟩
theorem CRW.tr {x : Nat} {h h1 h2 : Hp} (a : CRW x h h1) (b : CRW x h1 h2) : CRW x h h2 := by
  obtain ⟨a1, a2, a3, a4, a5, a6, a7, a8, a9⟩ := a
  obtain ⟨b1, b2, b3, b4, b5, b6, b7, b8, b9⟩ := b
  exact ⟨b1.trans a1, b2.trans a2, b3.trans a3, b4.trans a4, b5.trans a5, fun f y hy => (b6 f y hy).trans (a6 f y hy), fun f y hy => (b7 f y hy).trans (a7 f y hy), fun y hy => (b8 y hy).trans (a8 y hy), fun y hy => (b9 y hy).trans (a9 y hy)⟩
theorem CRW_pi {x f a : Nat} (h : Hp) (y : Int32) (hf : (a = x + 3 ∧ 325 ≤ f ∧ f ≤ 329) ∨ (a = x + 9 ∧ f = 513) ∨ (a = x + 7 ∧ f = 385) ∨ (x + 11 ≤ a ∧ a ≤ x + 40)) : CRW x h (pi h f a y) := ⟨rfl, rfl, rfl, rfl, rfl, fun g b hg => by
  rw [gi_pi, if_neg (fun q => hg (by rw [q.1, q.2]; exact hf))], fun _ _ _ => rfl, fun _ _ => rfl, fun _ _ => rfl⟩
theorem CRW_pr {x f a : Nat} (h : Hp) (y : Option Nat) (hf : x + 11 ≤ a ∧ a ≤ x + 40) : CRW x h (pr h f a y) := ⟨rfl, rfl, rfl, rfl, rfl, fun _ _ _ => rfl, fun g b hg => by
  rw [gr_pr, if_neg (fun q => hg (by rw [q.2]; exact hf))], fun _ _ => rfl, fun _ _ => rfl⟩
theorem CRW_si {x : Nat} (h : Hp) (j : Nat) (y : Int32) : CRW x h (si h (x + 8) j y) := ⟨rfl, rfl, rfl, rfl, rfl, fun _ _ _ => rfl, fun _ _ _ => rfl, fun b hb => ai_ne hb, fun _ _ => rfl⟩
theorem CRW_sl {x a : Nat} (h : Hp) (j : Nat) (y : Int64) (ha : a = x + 5 ∨ a = x + 10) : CRW x h (sl h a j y) := ⟨rfl, rfl, rfl, rfl, rfl, fun _ _ _ => rfl, fun _ _ _ => rfl, fun _ _ => rfl, fun b hb => al_ne (fun q => hb (by rw [q]; exact ha))⟩
theorem CRW.cs {x : Nat} {h h' : Hp} (w : CRW x h h') (c : CS h x) : CS h' x := by
  obtain ⟨a1, a2, a3, a4, a5, a6, a7, a8, a9⟩ := w
  have r : ∀ f k, k ≤ 10 → gr h' f (x + k) = gr h f (x + k) := fun f k hk => a7 f _ (by omega)
  have r0 : ∀ f, gr h' f x = gr h f x := fun f => a7 f _ (by omega)
  unfold CS
  rw [a1, a3, r0, r0, r0, r _ 1 (by omega), r _ 3 (by omega), r _ 3 (by omega), r _ 3 (by omega), r _ 3 (by omega), r _ 3 (by omega), r _ 7 (by omega), r _ 9 (by omega)]
  exact c
/-- height and operands of the label that begins at p -/
def hgtP (P : List Fn) (k : Nat) (g : Fn) (p : Option Nat) : Nat := match p with
  | none => 0
  | some p => match vk P k g (p + 1) with
    | none => 0
    | some v => match v.1 with
      | [] => 0
      | l :: _ => hT l
def wntP (g : Fn) (p : Option Nat) : Nat := match p with
  | none => fR g
  | some p => if oA (fC g) p = 3 then nt (aA (fC g) p) else nt (bA (fC g) p)
/-- the label that an instruction goes to -/
def jOf (g : Fn) (i : Nat) : Nat := if oA (fC g) i = 15 then (ps (fC g) i).length else nt (aA (fC g) i)
/-- an instruction of a whole function -/
def CIn (h : Hp) (fp : Nat → Nat) (ip : Nat → Nat → Nat) (P : List Fn) (k : Nat) (g : Fn) (i : Nat) : Prop := tg h (ip k i) = some (.inl 3) ∧ gi h 192 (ip k i) = oA (fC g) i ∧ gi h 193 (ip k i) = aA (fC g) i ∧ gi h 194 (ip k i) = bA (fC g) i ∧ gr h 198 (ip k i) = (settle (fC g) (i + 1)).map (ip k) ∧ (oA (fC g) i = 4 → gr h 199 (ip k i) = (elG (fC g) i).map (ip k)) ∧ (oA (fC g) i = 12 ∨ oA (fC g) i = 13 ∨ oA (fC g) i = 15 ∨ oA (fC g) i = 6 → gr h 199 (ip k i) = (tgt (fC g) (ps (fC g) i)[jOf g i]?).map (ip k) ∧ gi h 200 (ip k i) = nI (wntP g (ps (fC g) i)[jOf g i]?) ∧ gi h 201 (ip k i) = nI (hgtP P k g (ps (fC g) i)[jOf g i]?)) ∧ (oA (fC g) i = 16 → gr h 197 (ip k i) = some (fp (nt (aA (fC g) i))))
def CFn (h : Hp) (fp : Nat → Nat) (ip : Nat → Nat → Nat) (P : List Fn) (k : Nat) (g : Fn) : Prop := tg h (fp k) = some (.inl 2) ∧ gi h 128 (fp k) = nI (fP g) ∧ gi h 129 (fp k) = nI (fR g) ∧ gi h 130 (fp k) = nI (fL g) ∧ gi h 131 (fp k) = nI (fP g + fL g) ∧ gi h 132 (fp k) = 1 ∧ gi h 133 (fp k) = nI (moF P k) ∧ gr h 134 (fp k) = (settle (fC g) 0).map (ip k) ∧ ∀ i, i < (fC g).length → CIn h fp ip P k g i
/-- all whole functions; their cells lie behind the fixed ones -/
def CP (h : Hp) (x : Nat) (fp : Nat → Nat) (ip : Nat → Nat → Nat) (P : List Fn) : Prop := ∀ k g, P[k]? = some g → CFn h fp ip P k g ∧ x + 41 < fp k ∧ ∀ i, i < (fC g).length → x + 41 < ip k i
theorem CIn.of {h h' : Hp} {fp : Nat → Nat} {ip : Nat → Nat → Nat} {P : List Fn} {k : Nat} {g : Fn} {i : Nat} (H : CIn h fp ip P k g i) (ht : tg h' (ip k i) = tg h (ip k i)) (hg : ∀ f, gi h' f (ip k i) = gi h f (ip k i)) (hr : ∀ f, gr h' f (ip k i) = gr h f (ip k i)) : CIn h' fp ip P k g i := by
  unfold CIn
  rw [ht, hg, hg, hg, hr, hr, hg, hg, hr]
  exact H
theorem CFn.of {h h' : Hp} {fp : Nat → Nat} {ip : Nat → Nat → Nat} {P : List Fn} {k : Nat} {g : Fn} (H : CFn h fp ip P k g) (ht : ∀ a, a = fp k ∨ (∃ i, i < (fC g).length ∧ a = ip k i) → tg h' a = tg h a ∧ (∀ f, gi h' f a = gi h f a) ∧ ∀ f, gr h' f a = gr h f a) : CFn h' fp ip P k g := by
  obtain ⟨h1, h2, h3, h4, h5, h6, h7, h8, h9⟩ := H
  obtain ⟨a1, a2, a3⟩ := ht (fp k) (Or.inl rfl)
  refine ⟨by rw [a1]; exact h1, by rw [a2]; exact h2, by rw [a2]; exact h3, by rw [a2]; exact h4, by rw [a2]; exact h5, by rw [a2]; exact h6, by rw [a2]; exact h7, by rw [a3]; exact h8, fun i hi => ?_⟩
  obtain ⟨b1, b2, b3⟩ := ht (ip k i) (Or.inr ⟨i, hi, rfl⟩)
  exact (h9 i hi).of b1 b2 b3
theorem CRW.cp {x : Nat} {h h' : Hp} {fp : Nat → Nat} {ip : Nat → Nat → Nat} {P : List Fn} (w : CRW x h h') (c : CP h x fp ip P) : CP h' x fp ip P := by
  intro k g hg
  obtain ⟨c1, c2, c3⟩ := c k g hg
  refine ⟨c1.of (fun a ha => ?_), c2, c3⟩
  have hb : x + 41 < a := by
    rcases ha with e | ⟨i, hi, e⟩
    · rw [e]; exact c2
    · rw [e]; exact c3 i hi
  exact ⟨by rw [w.1], fun f => w.2.2.2.2.2.1 f a (by omega), fun f => w.2.2.2.2.2.2.1 f a (by omega)⟩
/-- the frames -/
def FC (h : Hp) (x : Nat) (fp : Nat → Nat) (ip : Nat → Nat → Nat) : List Fm → Prop
  | [] => True
  | (f, b, p) :: r => gr h 64 (x + 11 + r.length) = some (fp f) ∧ gi h 65 (x + 11 + r.length) = nI b ∧ gr h 66 (x + 11 + r.length) = p.map (ip f) ∧ FC h x fp ip r
theorem FC.of {h h' : Hp} {x : Nat} {fp : Nat → Nat} {ip : Nat → Nat → Nat} : ∀ {fr : List Fm}, FC h x fp ip fr → (∀ j, j < fr.length → gr h' 64 (x + 11 + j) = gr h 64 (x + 11 + j) ∧ gi h' 65 (x + 11 + j) = gi h 65 (x + 11 + j) ∧ gr h' 66 (x + 11 + j) = gr h 66 (x + 11 + j)) → FC h' x fp ip fr := by
  intro fr
  induction fr with
  | nil => intro _ _; trivial
  | cons y r ih =>
    intro hF e
    obtain ⟨f, b, p⟩ := y
    obtain ⟨h1, h2, h3, h4⟩ := hF
    obtain ⟨e1, e2, e3⟩ := e r.length (by simp)
    exact ⟨by rw [e1]; exact h1, by rw [e2]; exact h2, by rw [e3]; exact h3, ih h4 (fun j hj => e j (by simp; omega))⟩
def KC (x : Nat) (h0 h : Hp) : Prop := gi h 328 (x + 3) = gi h0 328 (x + 3) ∧ gi h 329 (x + 3) = gi h0 329 (x + 3)
def PC (x : Nat) (h : Hp) (w : Wd) : Prop := gi h 385 (x + 7) = nI w.2.2.1 ∧ (∀ j, ai h (x + 8) j &&& 255 = w.2.2.2.1 j) ∧ al h (x + 5) = w.2.2.2.2
/-- it runs -/
def RCv (P : List Fn) (fp : Nat → Nat) (ip : Nat → Nat → Nat) (x : Nat) (h0 h : Hp) (fr : List Fm) (w : Wd) : Prop := CRW x h0 h ∧ KC x h0 h ∧ gi h 327 (x + 3) = 1 ∧ gi h 326 (x + 3) = nI fr.length ∧ gi h 513 (x + 9) = nI w.1 ∧ gi h 325 (x + 3) = nI (askF P fr) ∧ PC x h w ∧ (∀ j, j < w.1 → al h (x + 10) j = w.2.1 j) ∧ FC h x fp ip fr
section RR
variable {P : List Fn} {fp : Nat → Nat} {ip : Nat → Nat → Nat} {x : Nat} {h0 h : Hp} {fr r : List Fm} {w : Wd} {n p : Nat} {v : VV} {bb : Nat → Int32} {g : VV} {Q : Option TV → Hp → Prop}
theorem gi_na {h : Hp} {f g a b : Nat} {y : Int32} (e : b ≠ a) : gi (pi h f a y) g b = gi h g b := by rw [gi_pi, if_neg (fun q => e q.2)]
theorem gr_ne {h : Hp} {f g a b : Nat} {y : Option Nat} (e : g ≠ f) : gr (pr h f a y) g b = gr h g b := by rw [gr_pr, if_neg (fun q => e q.1)]
theorem gr_na {h : Hp} {f g a b : Nat} {y : Option Nat} (e : b ≠ a) : gr (pr h f a y) g b = gr h g b := by rw [gr_pr, if_neg (fun q => e q.2)]
theorem gr_eq {h : Hp} {f a : Nat} {y : Option Nat} : gr (pr h f a y) f a = y := by rw [gr_pr, if_pos ⟨rfl, rfl⟩]
theorem RCv.pop' {n' : Nat} (H : RCv P fp ip x h0 h fr (n, v, p, bb, g)) (hn : n' ≤ n) : RCv P fp ip x h0 (pi h 513 (x + 9) (nI n')) fr (n', v, p, bb, g) := by
  obtain ⟨h1, ⟨h21, h22⟩, h3, h4, h5, h6, ⟨h71, h72, h73⟩, h8, h9⟩ := H
  exact ⟨h1.tr (CRW_pi _ _ (by omega)), ⟨by rw [gi_ne (by decide)]; exact h21, by rw [gi_ne (by decide)]; exact h22⟩, by rw [gi_ne (by decide)]; exact h3, by rw [gi_ne (by decide)]; exact h4, gi_eq, by rw [gi_ne (by decide)]; exact h6, ⟨by rw [gi_ne (by decide)]; exact h71, h72, h73⟩, fun j hj => h8 j (by dsimp only at hj ⊢; omega), h9.of (fun _ _ => ⟨rfl, by rw [gi_ne (by decide)], rfl⟩)⟩
theorem RCv.push' (H : RCv P fp ip x h0 h fr (n, v, p, bb, g)) (y : Int64) : RCv P fp ip x h0 (pi (sl h (x + 10) n y) 513 (x + 9) (nI (n + 1))) fr (n + 1, upv v n y, p, bb, g) := by
  obtain ⟨h1, ⟨h21, h22⟩, h3, h4, h5, h6, ⟨h71, h72, h73⟩, h8, h9⟩ := H
  refine ⟨h1.tr ((CRW_sl _ _ _ (Or.inr rfl)).tr (CRW_pi _ _ (by omega))), ⟨by rw [gi_ne (by decide)]; exact h21, by rw [gi_ne (by decide)]; exact h22⟩, by rw [gi_ne (by decide)]; exact h3, by rw [gi_ne (by decide)]; exact h4, gi_eq, by rw [gi_ne (by decide)]; exact h6, ⟨by rw [gi_ne (by decide)]; exact h71, h72, by rw [al_pi, al_ne (by omega)]; exact h73⟩, fun j hj => ?_, h9.of (fun _ _ => ⟨rfl, by rw [gi_ne (by decide)]; rfl, rfl⟩)⟩
  rw [al_pi, al_at]
  dsimp only at hj ⊢
  unfold upv
  by_cases e : j = n
  · rw [if_pos e, if_pos e]
  · rw [if_neg e, if_neg e]
    exact h8 j (by dsimp only; omega)
theorem RCv.vset (H : RCv P fp ip x h0 h fr (n, v, p, bb, g)) (i : Nat) (y : Int64) : RCv P fp ip x h0 (sl h (x + 10) i y) fr (n, upv v i y, p, bb, g) := by
  obtain ⟨h1, ⟨h21, h22⟩, h3, h4, h5, h6, ⟨h71, h72, h73⟩, h8, h9⟩ := H
  refine ⟨h1.tr (CRW_sl _ _ _ (Or.inr rfl)), ⟨h21, h22⟩, h3, h4, h5, h6, ⟨h71, h72, by rw [al_ne (by omega)]; exact h73⟩, fun j hj => ?_, h9.of (fun _ _ => ⟨rfl, rfl, rfl⟩)⟩
  rw [al_at]
  dsimp only at hj ⊢
  unfold upv
  by_cases e : j = i
  · rw [if_pos e, if_pos e]
  · rw [if_neg e, if_neg e]
    exact h8 j hj
theorem RCv.gset (H : RCv P fp ip x h0 h fr (n, v, p, bb, g)) (i : Nat) (y : Int64) : RCv P fp ip x h0 (sl h (x + 5) i y) fr (n, v, p, bb, upv g i y) := by
  obtain ⟨h1, ⟨h21, h22⟩, h3, h4, h5, h6, ⟨h71, h72, h73⟩, h8, h9⟩ := H
  refine ⟨h1.tr (CRW_sl _ _ _ (Or.inl rfl)), ⟨h21, h22⟩, h3, h4, h5, h6, ⟨h71, h72, ?_⟩, fun j hj => ?_, h9.of (fun _ _ => ⟨rfl, rfl, rfl⟩)⟩
  · rw [al_at]
    dsimp only at h73 ⊢
    rw [h73]
  · rw [al_ne (by omega)]
    exact h8 j hj
theorem RCv.page (H : RCv P fp ip x h0 h fr (n, v, p, bb, g)) (p' : Nat) : RCv P fp ip x h0 (pi h 385 (x + 7) (nI p')) fr (n, v, p', bb, g) := by
  obtain ⟨h1, ⟨h21, h22⟩, h3, h4, h5, h6, ⟨h71, h72, h73⟩, h8, h9⟩ := H
  exact ⟨h1.tr (CRW_pi _ _ (by omega)), ⟨by rw [gi_ne (by decide)]; exact h21, by rw [gi_ne (by decide)]; exact h22⟩, by rw [gi_ne (by decide)]; exact h3, by rw [gi_ne (by decide)]; exact h4, by rw [gi_ne (by decide)]; exact h5, by rw [gi_ne (by decide)]; exact h6, ⟨gi_eq, h72, h73⟩, h8, h9.of (fun _ _ => ⟨rfl, by rw [gi_ne (by decide)], rfl⟩)⟩
theorem RCv.bset (H : RCv P fp ip x h0 h fr (n, v, p, bb, g)) (i : Nat) (y z : Int32) (hz : y &&& 255 = z) : RCv P fp ip x h0 (si h (x + 8) i y) fr (n, v, p, (fun j => if j = i then z else bb j), g) := by
  obtain ⟨h1, ⟨h21, h22⟩, h3, h4, h5, h6, ⟨h71, h72, h73⟩, h8, h9⟩ := H
  refine ⟨h1.tr (CRW_si _ _ _), ⟨h21, h22⟩, h3, h4, h5, h6, ⟨h71, fun j => ?_, h73⟩, h8, h9.of (fun _ _ => ⟨rfl, rfl, rfl⟩)⟩
  dsimp only at h72 ⊢
  rw [ai_si]
  by_cases e : j = i
  · rw [if_pos ⟨rfl, e⟩, if_pos e, hz]
  · rw [if_neg (fun q => e q.2), if_neg e]
    exact h72 j
theorem RCv.setp {f b : Nat} {q : Option Nat} (H : RCv P fp ip x h0 h ((f, b, q) :: r) w) (h30 : r.length < 30) (q' : Option Nat) : RCv P fp ip x h0 (pr h 66 (x + 11 + r.length) (q'.map (ip f))) ((f, b, q') :: r) w := by
  obtain ⟨h1, ⟨h21, h22⟩, h3, h4, h5, h6, ⟨h71, h72, h73⟩, h8, ⟨h91, h92, h93, h94⟩⟩ := H
  refine ⟨h1.tr (CRW_pr _ _ (by omega)), ⟨h21, h22⟩, h3, h4, h5, h6, ⟨h71, h72, h73⟩, h8, ⟨by rw [gr_ne (by decide)]; exact h91, h92, gr_eq, h94.of (fun j hj => ⟨?_, rfl, ?_⟩)⟩⟩
  · rw [gr_ne (by decide)]
  · rw [gr_na (by omega)]
theorem RCv.cs (H : RCv P fp ip x h0 h fr w) (hc : CS h0 x) : CS h x := H.1.cs hc
theorem i31 {n k : Nat} (h : n < k) (hk : k < 2147483648) : nI n < Int32.ofNat k := nI_lt h hk
theorem c_at (hc : CS h0 x) (H : RCv P fp ip x h0 h fr (n, v, p, bb, g)) {i : Nat} (hi : i < n) (hn : n ≤ 220) (k : Q (some (tL (v i))) h) : tX9_at (x + 9) (nI i) h Q := by
  have c := H.cs hc
  refine wX9_at (x + 9) _ h Q ?_
  rw [if_neg (nI_n0 (by omega))]
  refine ⟨c.t8, dr_of c.r512 (al_of c.t10a ?_)⟩
  rw [if_pos (i31 (by omega) (by decide))]
  refine ⟨c.t8, dr_of c.r512 (ix_of c.t10a rfl (nI_in (by omega) (by decide)) ?_)⟩
  rw [nck (by omega), H.2.2.2.2.2.2.2.1 i hi]
  exact k
theorem c_set (hc : CS h0 x) (H : RCv P fp ip x h0 h fr (n, v, p, bb, g)) {i : Nat} {y : Int64} (hi : i < 220) (k : ∀ h', RCv P fp ip x h0 h' fr (n, upv v i y, p, bb, g) → Q none h') : tX9_set (x + 9) (nI i) y h Q := by
  have c := H.cs hc
  refine wX9_set (x + 9) _ _ h Q ?_
  rw [if_neg (nI_n0 (by omega))]
  refine ⟨c.t8, dr_of c.r512 (al_of c.t10a ?_)⟩
  rw [if_pos (i31 (by omega) (by decide))]
  refine ⟨c.t8, dr_of c.r512 (ix_of c.t10a rfl (nI_in (by omega) (by decide)) (fun h1 e1 => k h1 ?_))⟩
  rw [nck (by omega)] at e1
  rw [e1]
  exact H.vset i y
theorem c_push (hc : CS h0 x) (H : RCv P fp ip x h0 h fr (n, v, p, bb, g)) (hn : n < 220) {y : Int64} (k : ∀ h', RCv P fp ip x h0 h' fr (n + 1, upv v n y, p, bb, g) → Q none h') : tX9_push (x + 9) y h Q := by
  have c := H.cs hc
  have x5 : gi h 513 (x + 9) = nI n := H.2.2.2.2.1
  refine wX9_push (x + 9) y h Q ⟨c.t8, ?_⟩
  rw [x5, if_neg (nI_n0 (by omega))]
  refine ⟨c.t8, c.t8, dr_of c.r512 (al_of c.t10a ?_)⟩
  rw [if_pos (i31 (by omega) (by decide))]
  refine ⟨c.t8, c.t8, dr_of c.r512 (ix_of c.t10a rfl (nI_in hn (by decide)) (fun h1 e1 => ?_))⟩
  rw [nck (by omega)] at e1
  have c1 : CS h1 x := by rw [e1]; exact c
  refine ⟨c1.t8, c1.t8, fun h2 e2 => k h2 ?_⟩
  have x51 : gi h1 513 (x + 9) = nI n := by rw [e1]; exact x5
  rw [x51, ← nI_succ] at e2
  rw [e2, e1]
  exact H.push' y
theorem c_pop (hc : CS h0 x) (H : RCv P fp ip x h0 h fr (n + 1, v, p, bb, g)) (hn : n < 220) (k : ∀ h', RCv P fp ip x h0 h' fr (n, v, p, bb, g) → Q (some (tL (v n))) h') : tX9_pop (x + 9) h Q := by
  have c := H.cs hc
  have x5 : gi h 513 (x + 9) = nI (n + 1) := H.2.2.2.2.1
  refine wX9_pop (x + 9) h Q ⟨c.t8, ?_⟩
  rw [x5, if_pos (show (0 : Int32) < nI (n + 1) from nI_lt (a := 0) (by omega) (by omega)), nI_sub1]
  refine ⟨c.t8, c.t8, fun h1 e1 => ?_⟩
  have H1 : RCv P fp ip x h0 h1 fr (n, v, p, bb, g) := by rw [e1]; exact H.pop' (by omega)
  have c1 := H1.cs hc
  have x51 : gi h1 513 (x + 9) = nI n := H1.2.2.2.2.1
  refine ⟨c1.t8, c1.t8, ?_⟩
  rw [x51]
  refine wX9_at (x + 9) _ h1 _ ?_
  rw [if_neg (nI_n0 (by omega))]
  refine ⟨c1.t8, dr_of c1.r512 (al_of c1.t10a ?_)⟩
  rw [if_pos (i31 (by omega) (by decide))]
  refine ⟨c1.t8, dr_of c1.r512 (ix_of c1.t10a rfl (nI_in (by omega) (by decide)) (rL_of ?_))⟩
  have e : al h1 (x + 10) n = v n := by
    rw [e1]
    exact H.2.2.2.2.2.2.2.1 n (Nat.lt_succ_self n)
  rw [nck (by omega), e]
  exact k h1 H1
theorem c_keep10 (hc : CS h0 x) {c d : Nat} (hn : n ≤ 220) (hcn : c ≤ n) (hd : d + c ≤ n) : ∀ (t i : Nat) (h : Hp), t = c - i → i ≤ c → RCv P fp ip x h0 h fr (n, kp v (n - c) d i, p, bb, g) → (∀ h', RCv P fp ip x h0 h' fr (d + c, kp v (n - c) d c, p, bb, g) → Q none h') → tX9_keep_10 (x + 9) (nI c) (nI d) (nI (n - c)) (nI i) h Q := by
  intro t
  induction t with
  | zero =>
    intro i h ht hi H k
    have e : i = c := by omega
    subst e
    have c1 := H.cs hc
    refine wX9_keep_10 (x + 9) _ _ _ _ h Q ?_
    rw [if_neg (nI_nlt (Nat.le_refl _) (by omega))]
    refine ⟨c1.t8, fun h1 e1 => k h1 ?_⟩
    rw [nJ_add] at e1
    rw [e1]
    exact H.pop' hd
  | succ t ih =>
    intro i h ht hi H k
    have c1 := H.cs hc
    refine wX9_keep_10 (x + 9) _ _ _ _ h Q ?_
    rw [if_pos (nI_lt (by omega) (by omega)), nJ_add, nJ_add]
    refine ⟨c1.t8, c_at hc H (by omega) hn (rL_of ⟨c1.t8, c_set hc H (by omega) (fun h1 H1 => rV_of ?_)⟩)⟩
    rw [← nI_succ]
    exact ih (i + 1) h1 (by omega) (by omega) H1 k
theorem c_keep (hc : CS h0 x) {c d : Nat} (H : RCv P fp ip x h0 h fr (n, v, p, bb, g)) (hn : n ≤ 220) (hcn : c ≤ n) (hd : d + c ≤ n) (k : ∀ h', RCv P fp ip x h0 h' fr (d + c, kp v (n - c) d c, p, bb, g) → Q none h') : tX9_keep (x + 9) (nI c) (nI d) h Q := by
  have c1 := H.cs hc
  have x5 : gi h 513 (x + 9) = nI n := H.2.2.2.2.1
  refine wX9_keep (x + 9) _ _ h Q ⟨c1.t8, ?_⟩
  rw [x5, nJ_sub hcn]
  exact c_keep10 (i := 0) hc hn hcn hd c h (by omega) (Nat.zero_le _) H k
end RR
