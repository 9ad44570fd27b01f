/-! THE REFERENCE RUNS, 1: what its arrays hold, and the small moves -/
theorem gi_ne {h : Hp} {f g a b : Nat} {x : Int32} (e : g ≠ f) : gi (pi h f a x) g b = gi h g b := by rw [gi_pi, if_neg (fun q => e q.1)]
theorem gi_eq {h : Hp} {f a : Nat} {x : Int32} : gi (pi h f a x) f a = x := by rw [gi_pi, if_pos ⟨rfl, rfl⟩]
theorem al_ne {h : Hp} {a j b : Nat} {x : Int64} (e : b ≠ a) : al (sl h a j x) b = al h b := by
  funext i
  rw [al_sl, if_neg (fun q => e q.1)]
theorem al_at {h : Hp} {a j : Nat} {x : Int64} : al (sl h a j x) a = upv (al h a) j x := by
  funext i
  rw [al_sl]
  unfold upv
  by_cases e : i = j
  · rw [if_pos ⟨rfl, e⟩, if_pos e]
  · rw [if_neg (fun q => e q.2), if_neg e]
theorem ai_ne {h : Hp} {a j b : Nat} {x : Int32} (e : b ≠ a) : ai (si h a j x) b = ai h b := by
  funext i
  rw [ai_si, if_neg (fun q => e q.1)]
/-- what running may change in the reference -/
def RW (m : Nat) (h h' : Hp) : Prop := tg h' = tg h ∧ gl h' = gl h ∧ gr h' = gr h ∧ aq h' = aq h ∧ sz h' = sz h ∧ us h' = us h ∧ (∀ f a, ¬ (((666 ≤ f ∧ f ≤ 674) ∨ f = 680) ∧ a = m) → gi h' f a = gi h f a) ∧ (∀ a, ¬ (m + 17 ≤ a ∧ a ≤ m + 25) → ai h' a = ai h a) ∧ ∀ a, ¬ (m + 17 ≤ a ∧ a ≤ m + 25) → al h' a = al h a
theorem RW.rf (m : Nat) (h : Hp) : RW m h h := ⟨rfl, rfl, rfl, rfl, rfl, rfl, fun _ _ _ => rfl, fun _ _ => rfl, fun _ _ => rfl⟩
theorem RW.tr {m : Nat} {h h1 h2 : Hp} (a : RW m h h1) (b : RW m h1 h2) : RW m h h2 := by
  obtain ⟨a1, a2, a3, a4, a5, a6, a7, a8, a9⟩ := a
  obtain ⟨b1, b2, b3, b4, b5, b6, b7, b8, b9⟩ := b
  exact ⟨b1.trans a1, b2.trans a2, b3.trans a3, b4.trans a4, b5.trans a5, b6.trans a6, fun f x hx => (b7 f x hx).trans (a7 f x hx), fun x hx => (b8 x hx).trans (a8 x hx), fun x hx => (b9 x hx).trans (a9 x hx)⟩
theorem RW_si {m a : Nat} (h : Hp) (j : Nat) (x : Int32) (ha : m + 17 ≤ a ∧ a ≤ m + 25) : RW m h (si h a j x) := ⟨rfl, rfl, rfl, rfl, rfl, rfl, fun _ _ _ => rfl, fun b hb => ai_ne (fun q => hb (by rw [q]; exact ha)), fun _ _ => rfl⟩
theorem RW_sl {m a : Nat} (h : Hp) (j : Nat) (x : Int64) (ha : m + 17 ≤ a ∧ a ≤ m + 25) : RW m h (sl h a j x) := ⟨rfl, rfl, rfl, rfl, rfl, rfl, fun _ _ _ => rfl, fun _ _ => rfl, fun b hb => al_ne (fun q => hb (by rw [q]; exact ha))⟩
theorem RW_pi {m f : Nat} (h : Hp) (x : Int32) (hf : (666 ≤ f ∧ f ≤ 674) ∨ f = 680) : RW m h (pi h f m x) := ⟨rfl, rfl, rfl, rfl, rfl, rfl, fun g a hg => by
  rw [gi_pi, if_neg (fun q => hg ⟨by rw [q.1]; exact hf, q.2⟩)], fun _ _ => rfl, fun _ _ => rfl⟩
theorem RW.ms {m : Nat} {h h' : Hp} (w : RW m h h') (hm : MS h m) : MS h' m := hm.of w.1 w.2.2.1
/-- the whole functions, as the reference's arrays hold them -/
def MP (h : Hp) (m : Nat) (P : List Fn) : Prop := P.length ≤ 40 ∧ totL P ≤ 1500 ∧ ∀ (k : Nat) (f : Fn), P[k]? = some f → MFn h m P k f
theorem RW.mp {m : Nat} {h h' : Hp} {P : List Fn} (w : RW m h h') (hp : MP h m P) : MP h' m P := by
  refine ⟨hp.1, hp.2.1, fun k f hf => (hp.2.2 k f hf).of (fun x hx => ?_) (fun x hx i _ => ?_)⟩
  · rw [w.2.2.2.2.2.2.2.1 (m + x) (by omega)]
  · rw [w.2.2.2.2.2.2.2.1 (m + x) (by omega)]
/-- the frames -/
def FA (P : List Fn) (h : Hp) (m : Nat) : List Fm → Prop
  | [] => True
  | (f, b, _) :: r => ai h (m + 22) r.length = nI f ∧ ai h (m + 23) r.length = nI b ∧ (match r with
    | [] => True
    | (f2, b2, p2) :: _ => ∃ B g g2 k, P[f]? = some g ∧ P[f2]? = some g2 ∧ ai h (m + 24) r.length = nI (pos0 P f2 + B) ∧ settle (fC g2) B = p2 ∧ b + fR g = b2 + (fP g2 + fL g2) + k ∧ At (sgs (P.take (f2 + 1))) (fP g2 + fL g2) (fR g2) (fC g2) B k) ∧ FA P h m r
theorem FA.of {P : List Fn} {h h' : Hp} {m : Nat} : ∀ {fr : List Fm}, FA P h m fr → (∀ j, j < fr.length → ai h' (m + 22) j = ai h (m + 22) j ∧ ai h' (m + 23) j = ai h (m + 23) j ∧ ai h' (m + 24) j = ai h (m + 24) j) → FA P h' m fr := by
  intro fr
  induction fr with
  | nil => intro _ _; trivial
  | cons x r ih =>
    intro hF e
    obtain ⟨f, b, p⟩ := x
    obtain ⟨h1, h2, h3, h4⟩ := hF
    obtain ⟨e1, e2, e3⟩ := e r.length (by simp)
    refine ⟨by rw [e1]; exact h1, by rw [e2]; exact h2, ?_, ih h4 (fun j hj => e j (by simp; omega))⟩
    cases r with
    | nil => trivial
    | cons y q =>
      obtain ⟨f2, b2, p2⟩ := y
      obtain ⟨B, g, g2, k, g1, g3, g4, g5⟩ := h3
      exact ⟨B, g, g2, k, g1, g3, by rw [e3]; exact g4, g5⟩
/-- what running leaves alone besides: table, arguments -/
def KE (m : Nat) (h0 h : Hp) : Prop := ai h (m + 17) = ai h0 (m + 17) ∧ al h (m + 20) = al h0 (m + 20) ∧ gi h 667 m = gi h0 667 m ∧ gi h 670 m = gi h0 670 m
/-- pages, bytes, globals -/
def PG (m : Nat) (h : Hp) (w : Wd) : Prop := gi h 666 m = nI w.2.2.1 ∧ ai h (m + 19) = w.2.2.2.1 ∧ al h (m + 18) = w.2.2.2.2
/-- it runs -/
def RLv (P : List Fn) (m : Nat) (h0 h : Hp) (fr : List Fm) (w : Wd) (A : Nat) : Prop := RW m h0 h ∧ KE m h0 h ∧ gi h 669 m = gi h0 669 m ∧ gi h 668 m = 1 ∧ gi h 671 m = nI fr.length ∧ gi h 672 m = nI w.1 ∧ gi h 673 m = nI (askF P fr) ∧ gi h 674 m = nI A ∧ PG m h w ∧ (∀ j, j < w.1 → al h (m + 21) j = w.2.1 j) ∧ FA P h m fr
section RR
variable {P : List Fn} {m : Nat} {h0 h : Hp} {fr : List Fm} {w : Wd} {A n p : Nat} {v : VV} {bb : Nat → Int32} {g : VV} {Q : Option TV → Hp → Prop}
theorem RLv.pop' {n' : Nat} (H : RLv P m h0 h fr (n, v, p, bb, g) A) (hn : n' ≤ n) : RLv P m h0 (pi h 672 m (nI n')) fr (n', v, p, bb, g) A := by
  obtain ⟨h1, ⟨h21, h22, h23, h24⟩, h3, h4, h5, h6, h7, h8, ⟨h91, h92, h93⟩, h10, h11⟩ := H
  exact ⟨h1.tr (RW_pi _ _ (by omega)), ⟨h21, h22, by rw [gi_ne (by decide)]; exact h23, by rw [gi_ne (by decide)]; exact h24⟩, by rw [gi_ne (by decide)]; exact h3, by rw [gi_ne (by decide)]; exact h4, by rw [gi_ne (by decide)]; exact h5, gi_eq, by rw [gi_ne (by decide)]; exact h7, by rw [gi_ne (by decide)]; exact h8, ⟨by rw [gi_ne (by decide)]; exact h91, h92, h93⟩, fun j hj => h10 j (by dsimp only at hj ⊢; omega), h11.of (fun _ _ => ⟨rfl, rfl, rfl⟩)⟩
theorem RLv.push' (H : RLv P m h0 h fr (n, v, p, bb, g) A) (y : Int64) : RLv P m h0 (pi (sl h (m + 21) n y) 672 m (nI (n + 1))) fr (n + 1, upv v n y, p, bb, g) A := by
  obtain ⟨h1, ⟨h21, h22, h23, h24⟩, h3, h4, h5, h6, h7, h8, ⟨h91, h92, h93⟩, h10, h11⟩ := H
  refine ⟨h1.tr ((RW_sl _ _ _ (by omega)).tr (RW_pi _ _ (by omega))), ⟨h21, ?_, by rw [gi_ne (by decide)]; exact h23, by rw [gi_ne (by decide)]; exact h24⟩, by rw [gi_ne (by decide)]; exact h3, by rw [gi_ne (by decide)]; exact h4, by rw [gi_ne (by decide)]; exact h5, gi_eq, by rw [gi_ne (by decide)]; exact h7, by rw [gi_ne (by decide)]; exact h8, ⟨by rw [gi_ne (by decide)]; exact h91, h92, ?_⟩, fun j hj => ?_, h11.of (fun _ _ => ⟨rfl, rfl, rfl⟩)⟩
  · rw [al_pi, al_ne (by omega)]; exact h22
  · rw [al_pi, al_ne (by omega)]; exact h93
  · rw [al_pi, al_at]
    dsimp only at hj ⊢
    unfold upv
    by_cases e : j = n
    · rw [if_pos e, if_pos e]
    · rw [if_neg e, if_neg e]
      exact h10 j (by dsimp only; omega)
theorem RLv.vset (H : RLv P m h0 h fr (n, v, p, bb, g) A) (i : Nat) (y : Int64) : RLv P m h0 (sl h (m + 21) i y) fr (n, upv v i y, p, bb, g) A := by
  obtain ⟨h1, ⟨h21, h22, h23, h24⟩, h3, h4, h5, h6, h7, h8, ⟨h91, h92, h93⟩, h10, h11⟩ := H
  refine ⟨h1.tr (RW_sl _ _ _ (by omega)), ⟨h21, ?_, h23, h24⟩, h3, h4, h5, h6, h7, h8, ⟨h91, h92, ?_⟩, fun j hj => ?_, h11.of (fun _ _ => ⟨rfl, rfl, rfl⟩)⟩
  · rw [al_ne (by omega)]; exact h22
  · rw [al_ne (by omega)]; exact h93
  · rw [al_at]
    dsimp only at hj ⊢
    unfold upv
    by_cases e : j = i
    · rw [if_pos e, if_pos e]
    · rw [if_neg e, if_neg e]
      exact h10 j hj
theorem RLv.gset (H : RLv P m h0 h fr (n, v, p, bb, g) A) (i : Nat) (y : Int64) : RLv P m h0 (sl h (m + 18) i y) fr (n, v, p, bb, upv g i y) A := by
  obtain ⟨h1, ⟨h21, h22, h23, h24⟩, h3, h4, h5, h6, h7, h8, ⟨h91, h92, h93⟩, h10, h11⟩ := H
  refine ⟨h1.tr (RW_sl _ _ _ (by omega)), ⟨h21, ?_, h23, h24⟩, h3, h4, h5, h6, h7, h8, ⟨h91, h92, ?_⟩, fun j hj => ?_, h11.of (fun _ _ => ⟨rfl, rfl, rfl⟩)⟩
  · rw [al_ne (by omega)]; exact h22
  · rw [al_at]
    dsimp only at h93 ⊢
    rw [h93]
  · rw [al_ne (by omega)]
    exact h10 j hj
theorem RLv.at' (H : RLv P m h0 h fr w A) (A' : Nat) : RLv P m h0 (pi h 674 m (nI A')) fr w A' := by
  obtain ⟨h1, ⟨h21, h22, h23, h24⟩, h3, h4, h5, h6, h7, h8, ⟨h91, h92, h93⟩, h10, h11⟩ := H
  exact ⟨h1.tr (RW_pi _ _ (by omega)), ⟨h21, h22, by rw [gi_ne (by decide)]; exact h23, by rw [gi_ne (by decide)]; exact h24⟩, by rw [gi_ne (by decide)]; exact h3, by rw [gi_ne (by decide)]; exact h4, by rw [gi_ne (by decide)]; exact h5, by rw [gi_ne (by decide)]; exact h6, by rw [gi_ne (by decide)]; exact h7, gi_eq, ⟨by rw [gi_ne (by decide)]; exact h91, h92, h93⟩, h10, h11.of (fun _ _ => ⟨rfl, rfl, rfl⟩)⟩
theorem RLv.page (H : RLv P m h0 h fr (n, v, p, bb, g) A) (p' : Nat) : RLv P m h0 (pi h 666 m (nI p')) fr (n, v, p', bb, g) A := by
  obtain ⟨h1, ⟨h21, h22, h23, h24⟩, h3, h4, h5, h6, h7, h8, ⟨h91, h92, h93⟩, h10, h11⟩ := H
  exact ⟨h1.tr (RW_pi _ _ (by omega)), ⟨h21, h22, by rw [gi_ne (by decide)]; exact h23, by rw [gi_ne (by decide)]; exact h24⟩, by rw [gi_ne (by decide)]; exact h3, by rw [gi_ne (by decide)]; exact h4, by rw [gi_ne (by decide)]; exact h5, by rw [gi_ne (by decide)]; exact h6, by rw [gi_ne (by decide)]; exact h7, by rw [gi_ne (by decide)]; exact h8, ⟨gi_eq, h92, h93⟩, h10, h11.of (fun _ _ => ⟨rfl, rfl, rfl⟩)⟩
theorem RLv.bset (H : RLv P m h0 h fr (n, v, p, bb, g) A) (i : Nat) (y : Int32) : RLv P m h0 (si h (m + 19) i y) fr (n, v, p, (fun j => if j = i then y else bb j), g) A := by
  obtain ⟨h1, ⟨h21, h22, h23, h24⟩, h3, h4, h5, h6, h7, h8, ⟨h91, h92, h93⟩, h10, h11⟩ := H
  refine ⟨h1.tr (RW_si _ _ _ (by omega)), ⟨by rw [ai_ne (by omega)]; exact h21, h22, h23, h24⟩, h3, h4, h5, h6, h7, h8, ⟨h91, ?_, h93⟩, h10, h11.of (fun _ _ => ⟨by rw [ai_ne (by omega)], by rw [ai_ne (by omega)], by rw [ai_ne (by omega)]⟩)⟩
  funext j
  dsimp only at h92 ⊢
  rw [ai_si, ← h92]
  by_cases e : j = i
  · rw [if_pos ⟨rfl, e⟩, if_pos e]
  · rw [if_neg (fun q => e q.2), if_neg e]
theorem RLv.cong {v' : VV} (H : RLv P m h0 h fr (n, v, p, bb, g) A) (e : ∀ j, j < n → v j = v' j) : RLv P m h0 h fr (n, v', p, bb, g) A := by
  obtain ⟨h1, h2, h3, h4, h5, h6, h7, h8, h9, h10, h11⟩ := H
  exact ⟨h1, h2, h3, h4, h5, h6, h7, h8, h9, fun j hj => (h10 j hj).trans (e j hj), h11⟩
theorem RLv.ms (H : RLv P m h0 h fr w A) (hm : MS h0 m) : MS h m := H.1.ms hm
theorem s_push (hm : MS h0 m) (H : RLv P m h0 h fr (n, v, p, bb, g) A) (hn : n < 700) {y : Int64} (k : ∀ h', RLv P m h0 h' fr (n + 1, upv v n y, p, bb, g) A → Q none h') : tX11_push m y h Q := by
  have hm1 := H.ms hm
  have h6 : gi h 672 m = nI n := H.2.2.2.2.2.1
  refine wX11_push m y h Q ⟨hm1.1, hm1.1, ?_⟩
  rw [h6]
  refine L_value hm1 hm1 hn (fun h1 e1 => ?_)
  rw [nck (by omega)] at e1
  have hm2 : MS h1 m := by rw [e1]; exact hm1
  refine ⟨hm2.1, hm2.1, fun h2 e2 => ?_⟩
  have h7 : gi h1 672 m = nI n := by rw [e1]; exact h6
  rw [h7, ← nI_succ] at e2
  refine k h2 ?_
  rw [e2, e1]
  exact H.push' y
theorem s_pop (hm : MS h0 m) (H : RLv P m h0 h fr (n, v, p, bb, g) A) (h1 : 0 < n) (hn : n < 700) (k : ∀ h', RLv P m h0 h' fr (n - 1, v, p, bb, g) A → Q (some (tL (v (n - 1)))) h') : tX11_pop m h Q := by
  have hm1 := H.ms hm
  have h6 : gi h 672 m = nI n := H.2.2.2.2.2.1
  refine wX11_pop m h Q ⟨hm1.1, hm1.1, fun h2 e2 => ?_⟩
  rw [h6, n1, nJ_sub (by omega)] at e2
  have H2 : RLv P m h0 h2 fr (n - 1, v, p, bb, g) A := by rw [e2]; exact H.pop' (by omega)
  have hm2 := H2.ms hm
  have h7 : gi h2 672 m = nI (n - 1) := H2.2.2.2.2.2.1
  refine ⟨hm2.1, hm2.1, ?_⟩
  rw [h7]
  refine L_value hm2 hm2 (by omega) ?_
  rw [nck (by omega)]
  have e : al h2 (m + 21) (n - 1) = v (n - 1) := by
    rw [e2]
    exact H.2.2.2.2.2.2.2.2.2.1 (n - 1) (by dsimp only; omega)
  rw [e]
  exact k h2 H2
theorem s_keep (hm : MS h0 m) {c d : Nat} (hn : n < 700) (hc : c ≤ n) (hd : d + c ≤ n) : ∀ (t i : Nat) (h : Hp), t = c - i → i ≤ c → RLv P m h0 h fr (n, kp v (n - c) d i, p, bb, g) A → (∀ h', RLv P m h0 h' fr (d + c, kp v (n - c) d c, p, bb, g) A → Q none h') → tX11_keep_2 m (nI c) (nI d) (nI i) h Q := by
  intro t
  induction t with
  | zero =>
    intro i h ht hi H k
    have e : i = c := by omega
    subst e
    have hm1 := H.ms hm
    refine wX11_keep_2 m _ _ _ h Q ?_
    rw [if_neg (nI_nlt (Nat.le_refl _) (by omega))]
    refine ⟨hm1.1, fun h1 e1 => k h1 ?_⟩
    rw [nJ_add] at e1
    rw [e1]
    exact H.pop' hd
  | succ t ih =>
    intro i h ht hi H k
    have hm1 := H.ms hm
    have h6 : gi h 672 m = nI n := H.2.2.2.2.2.1
    refine wX11_keep_2 m _ _ _ h Q ?_
    rw [if_pos (nI_lt (by omega) (by omega)), h6, nJ_sub hc, nJ_add, nJ_add]
    refine ⟨hm1.1, hm1.1, hm1.1, L_value hm1 hm1 (by omega) (L_value hm1 hm1 (by omega) (fun h1 e1 => ?_))⟩
    rw [nck (by omega), nck (by omega), H.2.2.2.2.2.2.2.2.2.1 (n - c + i) (by dsimp only; omega)] at e1
    rw [← nI_succ]
    refine ih (i + 1) h1 (by omega) (by omega) ?_ k
    rw [e1]
    exact H.vset (d + i) _
theorem s_keep0 (hm : MS h0 m) {c d : Nat} (H : RLv P m h0 h fr (n, v, p, bb, g) A) (hn : n < 700) (hc : c ≤ n) (hd : d + c ≤ n) (k : ∀ h', RLv P m h0 h' fr (d + c, kp v (n - c) d c, p, bb, g) A → Q none h') : tX11_keep m (nI c) (nI d) h Q := wX11_keep m _ _ h Q (s_keep (i := 0) hm hn hc hd c h (by omega) (Nat.zero_le _) H k)
theorem s_namesOf {f : Nat} {gf : Fn} (hm : MS h m) (hP : MP h m P) (hg : P[f]? = some gf) (k : Q (some (tI (nI (fP gf + fL gf)))) h) : tX11_namesOf m (nI f) h Q := by
  have hf : f < 40 := by have := (List.getElem?_eq_some_iff.mp hg).1; have := hP.1; omega
  obtain ⟨-, -, -, g3, -, g5, -⟩ := hP.2.2 f gf hg
  refine wX11_namesOf m _ h Q ⟨hm.1, L_params hm hm hf ⟨hm.1, L_locals hm hm hf ?_⟩⟩
  rw [nck (by omega), g3, g5, nJ_add]
  exact k
theorem s_asks {f : Nat} {gf : Fn} (hm : MS h m) (hP : MP h m P) (hg : P[f]? = some gf) (k : Q (some (tI (nI (askN P f)))) h) : tX11_asks m (nI f) h Q := by
  have hf : f < 40 := by have := (List.getElem?_eq_some_iff.mp hg).1; have := hP.1; omega
  obtain ⟨-, -, -, -, -, -, ⟨u, hu, g6⟩, -⟩ := hP.2.2 f gf hg
  refine wX11_asks m _ h Q ⟨hm.1, s_namesOf hm hP hg (rI_of ⟨hm.1, L_most hm hm hf ?_⟩)⟩
  rw [nck (by omega), g6, nJ_add]
  rw [askN_some hg, moF_some hg hu] at k
  exact k
theorem s_base {f b : Nat} {q : Option Nat} {r : List Fm} {gf : Fn} (hm : MS h0 m) (hP : MP h0 m P) (H : RLv P m h0 h ((f, b, q) :: r) w A) (h30 : r.length < 30) (hg : P[f]? = some gf) (k : Q (some (tI (nI (b + (fP gf + fL gf))))) h) : tX11_base m h Q := by
  have hm1 := H.ms hm
  have h5 : gi h 671 m = nI (r.length + 1) := H.2.2.2.2.1
  obtain ⟨f1, f2, -, -⟩ := H.2.2.2.2.2.2.2.2.2.2
  refine wX11_base m h Q ⟨hm1.1, hm1.1, ?_⟩
  rw [h5, nI_sub1]
  refine L_first hm1 hm1 (by omega) ⟨hm1.1, hm1.1, L_function hm1 hm1 (by omega) ⟨hm1.1, ?_⟩⟩
  rw [nck (by omega), f1, f2]
  refine s_namesOf hm1 (H.1.mp hP) hg (rI_of ?_)
  rw [nJ_add]
  exact k
end RR
