/-! THE CLASS WRITES, 1: what is written, as the heap holds it -/
theorem oA_sn {c : List Ic} {x : Ic} {j : Nat} (h : j < c.length) : oA (c ++ [x]) j = oA c j := by unfold oA; rw [List.getElem?_append_left h]
theorem aA_sn {c : List Ic} {x : Ic} {j : Nat} (h : j < c.length) : aA (c ++ [x]) j = aA c j := by unfold aA; rw [List.getElem?_append_left h]
theorem bA_sn {c : List Ic} {x : Ic} {j : Nat} (h : j < c.length) : bA (c ++ [x]) j = bA c j := by unfold bA; rw [List.getElem?_append_left h]
theorem get_sn {c : List Ic} {x : Ic} : (c ++ [x])[c.length]? = some x := by rw [List.getElem?_append_right (Nat.le_refl _)]; simp
theorem oA_en {c : List Ic} {x : Ic} : oA (c ++ [x]) c.length = x.1 := oA_of get_sn
theorem aA_en {c : List Ic} {x : Ic} : aA (c ++ [x]) c.length = x.2.1 := aA_of get_sn
theorem bA_en {c : List Ic} {x : Ic} : bA (c ++ [x]) c.length = x.2.2 := bA_of get_sn
theorem ps_sn {c : List Ic} {x : Ic} : ∀ {j : Nat}, j ≤ c.length → ps (c ++ [x]) j = ps c j := by
  intro j
  induction j with
  | zero => intro _; rfl
  | succ j ih =>
    intro h
    unfold ps
    rw [oA_sn (by omega), ih (by omega)]
theorem len_sn {c : List Ic} {x : Ic} : (c ++ [x]).length = c.length + 1 := by simp
/-- of a label: kind, parameters, results, height -/
def kndQ (c : List Ic) (q : Option Nat) : Int32 := match q with
  | none => 2
  | some p => oA c p
def parQ (c : List Ic) (q : Option Nat) : Nat := match q with
  | none => 0
  | some p => nt (aA c p)
def resQ (r : Nat) (c : List Ic) (q : Option Nat) : Nat := match q with
  | none => r
  | some p => nt (bA c p)
def hgC (sg : List (Nat × Nat)) (nm r : Nat) (c : List Ic) (q : Option Nat) : Nat := match q with
  | none => 0
  | some p => match vat sg nm r c (p + 1) with
    | none => 0
    | some v => match v.1 with
      | [] => 0
      | l :: _ => hT l
def vQ (c : List Ic) (q : Option Nat) : Prop := match q with
  | none => True
  | some p => p < c.length ∧ isBg (oA c p) = true
def jOc (c : List Ic) (i : Nat) : Nat := if oA c i = 15 then (ps c i).length else nt (aA c i)
def isBr (o : Int32) : Bool := decide (o = 12) || (decide (o = 13) || (decide (o = 15) || decide (o = 6)))
/-- the label of an instruction -/
def lbO (c : List Ic) (j : Nat) : Option (Option Nat) := if isBg (oA c j) = true then some (some j) else if oA c j = 5 then some (ps c j)[0]? else if isBr (oA c j) = true then some (ps c j)[jOc c j]? else none
theorem hgtP_C (P : List Fn) (k : Nat) (g : Fn) (q : Option Nat) : hgtP P k g q = hgC (sgs (P.take (k + 1))) (fP g + fL g) (fR g) (fC g) q := rfl
section PU
variable {sg : List (Nat × Nat)} {nm r : Nat} {c : List Ic} {x : Ic} {q : Option Nat}
theorem kndQ_sn (h : vQ c q) : kndQ (c ++ [x]) q = kndQ c q := by
  cases q with
  | none => rfl
  | some p => exact oA_sn h.1
theorem parQ_sn (h : vQ c q) : parQ (c ++ [x]) q = parQ c q := by
  cases q with
  | none => rfl
  | some p => show nt (aA (c ++ [x]) p) = nt (aA c p); rw [aA_sn h.1]
theorem resQ_sn (h : vQ c q) : resQ r (c ++ [x]) q = resQ r c q := by
  cases q with
  | none => rfl
  | some p => show nt (bA (c ++ [x]) p) = nt (bA c p); rw [bA_sn h.1]
theorem hgC_sn (h : vQ c q) : hgC sg nm r (c ++ [x]) q = hgC sg nm r c q := by
  cases q with
  | none => rfl
  | some p =>
    unfold hgC
    dsimp only
    rw [vat_app (by have := h.1; omega)]
theorem vQ_sn (h : vQ c q) : vQ (c ++ [x]) q := by
  cases q with
  | none => trivial
  | some p => exact ⟨by rw [len_sn]; have := h.1; omega, by rw [oA_sn h.1]; exact h.2⟩
theorem vQ_inv (h : vQ (c ++ [x]) q) : vQ c q ∨ (q = some c.length ∧ isBg x.1 = true) := by
  cases q with
  | none => exact Or.inl trivial
  | some p =>
    obtain ⟨h1, h2⟩ := h
    rw [len_sn] at h1
    by_cases e : p = c.length
    · subst e
      rw [oA_en] at h2
      exact Or.inr ⟨rfl, h2⟩
    · rw [oA_sn (by omega)] at h2
      exact Or.inl ⟨by omega, h2⟩
theorem vQ_ps {i k : Nat} (hi : i ≤ c.length) : vQ c (ps c i)[k]? := by
  cases h : (ps c i)[k]? with
  | none => trivial
  | some p =>
    obtain ⟨h1, h2⟩ := ps_lt h
    exact ⟨by omega, h2⟩
theorem lbO_sn {j : Nat} (h : j < c.length) : lbO (c ++ [x]) j = lbO c j := by
  unfold lbO jOc
  rw [oA_sn h, aA_sn h, ps_sn (by omega)]
/-- an open label: what it is -/
theorem lbQ {i k : Nat} {v : VS} {l : Lb} (hv : vat sg nm r c i = some v) (hk : v.1[k]? = some l) : hT l = hgC sg nm r c (ps c i)[k]? ∧ tK l = parQ c (ps c i)[k]? ∧ gV l = resQ r c (ps c i)[k]? ∧ (bY l = 3 ↔ kndQ c (ps c i)[k]? = 3) ∧ ((bY l = 4 ∨ bY l = 5) ↔ kndQ c (ps c i)[k]? = 4) := by
  have hvl : v.1 ≠ [] := fun z => by rw [z] at hk; cases hk
  cases hpl : (ps c i)[k]? with
  | none =>
    have hjn : (ps c i).length ≤ k := by simpa using hpl
    have hvlen := vat_len hv hvl
    have hjl : k < v.1.length := (List.getElem?_eq_some_iff.mp hk).1
    have e : v.1.getLast? = some l := by
      rw [List.getLast?_eq_getElem?, show v.1.length - 1 = k by omega]
      exact hk
    obtain ⟨a1, a2, a3, a4⟩ := vat_last hv e
    refine ⟨a4, a2, a3, ?_, ?_⟩
    · rw [a1]
      show (0 = 3) ↔ ((2 : Int32) = 3)
      decide
    · rw [a1]
      show (0 = 4 ∨ 0 = 5) ↔ ((2 : Int32) = 4)
      decide
  | some p =>
    obtain ⟨vp, l0, l1, g1, g2, g3, g4, g5, g6, g7, g8, g9⟩ := snap hv hpl
    rw [hk] at g3
    cases g3
    obtain ⟨hpi, hpb⟩ := ps_lt hpl
    have ho : oA c p = 2 ∨ oA c p = 3 ∨ oA c p = 4 := by
      unfold isBg at hpb
      simpa using hpb
    refine ⟨?_, ?_, ?_, ?_, ?_⟩
    · rw [g4.2.2.1]
      unfold hgC
      dsimp only
      rw [g1]
      dsimp only
      rw [g2]
    · rw [g4.1, g6]; rfl
    · rw [g4.2.1, g7]; rfl
    · show bY l = 3 ↔ oA c p = 3
      rcases g4.2.2.2 with e | ⟨e1, e2⟩
      · rw [e, g5]
        rcases ho with e | e | e <;> rw [e] <;> decide
      · rw [e2]
        rw [g5] at e1
        rcases ho with e | e | e
        · rw [e] at e1; exact absurd e1 (by decide)
        · rw [e] at e1; exact absurd e1 (by decide)
        · rw [e]; decide
    · show (bY l = 4 ∨ bY l = 5) ↔ oA c p = 4
      rcases g4.2.2.2 with e | ⟨e1, e2⟩
      · rw [e, g5]
        rcases ho with e | e | e <;> rw [e] <;> decide
      · rw [e2]
        rw [g5] at e1
        rcases ho with e | e | e
        · rw [e] at e1; exact absurd e1 (by decide)
        · rw [e] at e1; exact absurd e1 (by decide)
        · rw [e]; decide
end PU
/-! the heap -/
def DLb (h : Hp) (I : Nat → Nat) (L : Option Nat → Nat) (sg : List (Nat × Nat)) (nm r : Nat) (c : List Ic) (q : Option Nat) : Prop := tg h (L q) = some (.inl 4) ∧ gi h 256 (L q) = kndQ c q ∧ gi h 257 (L q) = nI (parQ c q) ∧ gi h 258 (L q) = nI (resQ r c q) ∧ gi h 259 (L q) = nI (hgC sg nm r c q) ∧ gr h 260 (L q) = q.map (fun p => L (ps c p)[0]?) ∧ gr h 262 (L q) = q.map I ∧ (∀ a, gr h 263 (L q) = some a → ∃ j, j < c.length ∧ oA c j = 5 ∧ (ps c j)[0]? = q ∧ a = I j) ∧ (∀ a, gr h 264 (L q) = some a → ∃ j, j < c.length ∧ oA c j = 11 ∧ (ps c j)[0]? = q ∧ a = I j)
def DIn (h : Hp) (fp : Nat → Nat) (I : Nat → Nat) (L : Option Nat → Nat) (c : List Ic) (j : Nat) : Prop := tg h (I j) = some (.inl 3) ∧ gi h 192 (I j) = oA c j ∧ gi h 193 (I j) = aA c j ∧ gi h 194 (I j) = bA c j ∧ gr h 195 (I j) = (if j = 0 then none else some (I (j - 1))) ∧ gr h 196 (I j) = (lbO c j).map L ∧ (oA c j = 16 → gr h 197 (I j) = some (fp (nt (aA c j))))
/-- instructions and labels -/
def DSt (h : Hp) (x B da fd : Nat) (fp : Nat → Nat) (I : Nat → Nat) (L : Option Nat → Nat) (sg : List (Nat × Nat)) (nm r : Nat) (c : List Ic) : Prop := (tg h da = some (.inl 0) ∧ gr h 0 da = some (x + 1) ∧ gr h 1 da = some fd ∧ tg h fd = some (.inl 2) ∧ gr h 2 da = (if c.length = 0 then none else some (I (c.length - 1))) ∧ gi h 7 da = nI c.length) ∧ (∀ j, j < c.length → DIn h fp I L c j) ∧ (∀ q, vQ c q → DLb h I L sg nm r c q) ∧ (∀ j, j < c.length → oA c j = 5 → gr h 263 (L (ps c j)[0]?) = some (I j)) ∧ (∀ j, j < c.length → oA c j = 11 → gr h 264 (L (ps c j)[0]?) = some (I j)) ∧ (B < da ∧ da < sz h ∧ B < fd ∧ fd < sz h) ∧ (∀ j, j < c.length → B < I j ∧ I j < sz h) ∧ (∀ q, vQ c q → B < L q ∧ L q < sz h) ∧ (∀ j k, j < c.length → k < c.length → I j = I k → j = k) ∧ (∀ q q', vQ c q → vQ c q' → L q = L q' → q = q')
/-- numbers -/
def DNm (h : Hp) (da fd : Nat) (L : Option Nat → Nat) (c : List Ic) (v : VS) : Prop := gr h 3 da = some (L (ps c c.length)[0]?) ∧ gi h 8 da = nI v.1.length ∧ gi h 4 da = nI (Hh v.1) ∧ gi h 5 da = nI v.2.1 ∧ (0 < v.2.1 → gi h 6 da = (match v.2.2.1 with
  | none => -1
  | some n => nI n)) ∧ gi h 133 fd = nI v.2.2.2 ∧ ∀ (k : Nat) (l : Lb), v.1[k]? = some l → gi h 261 (L (ps c c.length)[k]?) = (if dD l = true then 1 else 0) ∧ gr h 264 (L (ps c c.length)[k]?) = none ∧ (bY l = 5 ↔ ¬ gr h 263 (L (ps c c.length)[k]?) = none)
/-- a write to instructions and labels -/
def SW (h h2 : Hp) (da lt N A : Nat) (x : Ic) (X Y : Option Nat) : Prop := (sz h ≤ A ∧ A < sz h2) ∧ (∀ a, a < sz h → tg h2 a = tg h a) ∧ (tg h2 A = some (.inl 3) ∧ gi h2 192 A = x.1 ∧ gi h2 193 A = x.2.1 ∧ gi h2 194 A = x.2.2 ∧ gr h2 195 A = gr h 2 da ∧ gr h2 196 A = X ∧ gr h2 197 A = Y) ∧ (gi h2 7 da = nI (N + 1) ∧ gr h2 2 da = some A) ∧ (∀ f a, a < sz h → ¬ (f = 4 ∨ f = 5 ∨ f = 6 ∨ f = 7 ∨ f = 8 ∨ f = 133 ∨ f = 261) → gi h2 f a = gi h f a) ∧ (∀ f a, a < sz h → ¬ (f = 2 ∨ f = 3) → ¬ (a = lt ∧ ((f = 263 ∧ x.1 = 5) ∨ (f = 264 ∧ x.1 = 11))) → gr h2 f a = gr h f a) ∧ (x.1 = 5 → gr h2 263 lt = some A) ∧ (x.1 = 11 → gr h2 264 lt = some A)
section DD
variable {h h2 : Hp} {x B da fd A : Nat} {fp I : Nat → Nat} {L L' : Option Nat → Nat} {sg : List (Nat × Nat)} {nm r : Nat} {c : List Ic} {y : Ic} {X Y : Option Nat}
theorem DSt.app (D : DSt h x B da fd fp I L sg nm r c) (W : SW h h2 da (L (ps c c.length)[0]?) c.length A y X Y) (hL : ∀ q, vQ c q → L' q = L q) (h5 : y.1 = 5 → gr h 263 (L (ps c c.length)[0]?) = none) (h11 : y.1 = 11 → gr h 264 (L (ps c c.length)[0]?) = none) (hX : X = (lbO (c ++ [y]) c.length).map L') (hY : y.1 = 16 → Y = some (fp (nt y.2.1))) (hb : isBg y.1 = true → (sz h ≤ L' (some c.length) ∧ L' (some c.length) < sz h2) ∧ DLb h2 (fun j => if j = c.length then A else I j) L' sg nm r (c ++ [y]) (some c.length)) : DSt h2 x B da fd fp (fun j => if j = c.length then A else I j) L' sg nm r (c ++ [y]) := by
  obtain ⟨⟨d1, d2, d3, d4, d5, d6⟩, dI, dL, d7, d8, ⟨d9, d10, d11, d12⟩, d13, d14, d15, d16⟩ := D
  obtain ⟨⟨w1, w2⟩, w3, ⟨w4, w5, w6, w7, w8, w9, w10⟩, ⟨w11, w12⟩, w13, w14, w15, w16⟩ := W
  have ql : vQ c (ps c c.length)[0]? := vQ_ps (Nat.le_refl _)
  have o : ∀ j, j < c.length → (if j = c.length then A else I j) = I j := fun j hj => if_neg (by omega)
  have oN : (if c.length = c.length then A else I c.length) = A := if_pos rfl
  have g4 : ∀ f q, vQ c q → ¬ (f = 4 ∨ f = 5 ∨ f = 6 ∨ f = 7 ∨ f = 8 ∨ f = 133 ∨ f = 261) → gi h2 f (L q) = gi h f (L q) := fun f q hq hf => w13 f _ (d14 q hq).2 hf
  have gI : ∀ f j, j < c.length → ¬ (f = 4 ∨ f = 5 ∨ f = 6 ∨ f = 7 ∨ f = 8 ∨ f = 133 ∨ f = 261) → gi h2 f (I j) = gi h f (I j) := fun f j hj hf => w13 f _ (d13 j hj).2 hf
  have r4 : ∀ f q, vQ c q → ¬ (f = 2 ∨ f = 3) → ¬ f = 263 → ¬ f = 264 → gr h2 f (L q) = gr h f (L q) := fun f q hq hf e1 e2 => w14 f _ (d14 q hq).2 hf (fun z => z.2.elim (fun u => e1 u.1) (fun u => e2 u.1))
  have rI : ∀ f j, j < c.length → ¬ (f = 2 ∨ f = 3) → ¬ f = 263 → ¬ f = 264 → gr h2 f (I j) = gr h f (I j) := fun f j hj hf e1 e2 => w14 f _ (d13 j hj).2 hf (fun z => z.2.elim (fun u => e1 u.1) (fun u => e2 u.1))
  have lm : ∀ q : Option (Option Nat), (∀ z, q = some z → vQ c z) → q.map L' = q.map L := by
    intro q hq
    cases q with
    | none => rfl
    | some z => show some (L' z) = some (L z); rw [hL z (hq z rfl)]
  have lv : ∀ j, j < c.length → ∀ z, lbO c j = some z → vQ c z := by
    intro j hj z hz
    unfold lbO at hz
    split at hz
    · cases hz
      exact ⟨hj, by assumption⟩
    · split at hz
      · cases hz
        exact vQ_ps (by omega)
      · split at hz
        · cases hz
          exact vQ_ps (by omega)
        · cases hz
  refine ⟨⟨by rw [w3 da d10]; exact d1, by rw [w14 0 da d10 (by decide) (by simp)]; exact d2, by rw [w14 1 da d10 (by decide) (by simp)]; exact d3, by rw [w3 fd d12]; exact d4, ?_, by rw [len_sn]; exact w11⟩, ?_, ?_, ?_, ?_, ⟨d9, by omega, d11, by omega⟩, ?_, ?_, ?_, ?_⟩
  · rw [len_sn, if_neg (by omega), show c.length + 1 - 1 = c.length by omega]
    dsimp only
    rw [oN]
    exact w12
  · intro j hj
    rw [len_sn] at hj
    by_cases e : j = c.length
    · subst e
      unfold DIn
      dsimp only
      rw [oN, oA_en, aA_en, bA_en]
      refine ⟨w4, w5, w6, w7, ?_, by rw [w9, hX], fun z => by rw [w10]; exact hY z⟩
      rw [w8, d5]
      by_cases e : c.length = 0
      · rw [if_pos e, if_pos e]
      · rw [if_neg e, if_neg e, o _ (by omega)]
    · have hj : j < c.length := by omega
      obtain ⟨i1, i2, i3, i4, i5, i6, i7⟩ := dI j hj
      unfold DIn
      dsimp only
      rw [o j hj, oA_sn hj, aA_sn hj, bA_sn hj, lbO_sn hj]
      refine ⟨by rw [w3 _ (d13 j hj).2]; exact i1, by rw [gI _ j hj (by decide)]; exact i2, by rw [gI _ j hj (by decide)]; exact i3, by rw [gI _ j hj (by decide)]; exact i4, ?_, ?_, fun z => ?_⟩
      · rw [rI _ j hj (by decide) (by decide) (by decide), i5]
        by_cases e : j = 0
        · rw [if_pos e, if_pos e]
        · rw [if_neg e, if_neg e, o _ (by omega)]
      · rw [rI _ j hj (by decide) (by decide) (by decide), i6, lm _ (lv j hj)]
      · rw [rI _ j hj (by decide) (by decide) (by decide)]
        exact i7 z
  · intro q hq
    rcases vQ_inv hq with hq | ⟨e, hbg⟩
    · obtain ⟨l1, l2, l3, l4, l5, l6, l7, l8, l9⟩ := dL q hq
      unfold DLb
      rw [hL q hq, kndQ_sn hq, parQ_sn hq, resQ_sn hq, hgC_sn hq]
      refine ⟨by rw [w3 _ (d14 q hq).2]; exact l1, by rw [g4 _ q hq (by decide)]; exact l2, by rw [g4 _ q hq (by decide)]; exact l3, by rw [g4 _ q hq (by decide)]; exact l4, by rw [g4 _ q hq (by decide)]; exact l5, ?_, ?_, ?_, ?_⟩
      · rw [r4 _ q hq (by decide) (by decide) (by decide), l6]
        cases q with
        | none => rfl
        | some p =>
          have hp := hq.1
          show some (L (ps c p)[0]?) = some (L' (ps (c ++ [y]) p)[0]?)
          rw [ps_sn (by omega), hL _ (vQ_ps (by omega))]
      · rw [r4 _ q hq (by decide) (by decide) (by decide), l7]
        cases q with
        | none => rfl
        | some p =>
          have hp := hq.1
          show some (I p) = some (if p = c.length then A else I p)
          rw [o p hp]
      · intro a ha
        by_cases e : L q = L (ps c c.length)[0]? ∧ y.1 = 5
        · have eq := d16 _ _ hq ql e.1
          rw [eq, w15 e.2] at ha
          cases ha
          exact ⟨c.length, by rw [len_sn]; omega, by rw [oA_en]; exact e.2, by rw [ps_sn (Nat.le_refl _), eq], oN.symm⟩
        · rw [w14 263 _ (d14 q hq).2 (by decide) (fun z => e ⟨z.1, by simpa using z.2⟩)] at ha
          obtain ⟨j, j1, j2, j3, j4⟩ := l8 a ha
          exact ⟨j, by rw [len_sn]; omega, by rw [oA_sn j1]; exact j2, by rw [ps_sn (by omega)]; exact j3, by dsimp only; rw [o j j1]; exact j4⟩
      · intro a ha
        by_cases e : L q = L (ps c c.length)[0]? ∧ y.1 = 11
        · have eq := d16 _ _ hq ql e.1
          rw [eq, w16 e.2] at ha
          cases ha
          exact ⟨c.length, by rw [len_sn]; omega, by rw [oA_en]; exact e.2, by rw [ps_sn (Nat.le_refl _), eq], oN.symm⟩
        · rw [w14 264 _ (d14 q hq).2 (by decide) (fun z => e ⟨z.1, by simpa using z.2⟩)] at ha
          obtain ⟨j, j1, j2, j3, j4⟩ := l9 a ha
          exact ⟨j, by rw [len_sn]; omega, by rw [oA_sn j1]; exact j2, by rw [ps_sn (by omega)]; exact j3, by dsimp only; rw [o j j1]; exact j4⟩
    · subst e
      exact (hb hbg).2
  · intro j hj h5j
    rw [len_sn] at hj
    by_cases e : j = c.length
    · subst e
      rw [oA_en] at h5j
      dsimp only
      rw [ps_sn (Nat.le_refl _), hL _ ql, oN]
      exact w15 h5j
    · have hj : j < c.length := by omega
      rw [oA_sn hj] at h5j
      dsimp only
      rw [ps_sn (by omega), hL _ (vQ_ps (by omega)), o j hj]
      have hd := d7 j hj h5j
      rw [w14 263 _ (d14 _ (vQ_ps (by omega))).2 (by decide) (fun z => ?_)]
      · exact hd
      · have e5 : y.1 = 5 := by simpa using z.2
        rw [z.1, h5 e5] at hd
        cases hd
  · intro j hj h5j
    rw [len_sn] at hj
    by_cases e : j = c.length
    · subst e
      rw [oA_en] at h5j
      dsimp only
      rw [ps_sn (Nat.le_refl _), hL _ ql, oN]
      exact w16 h5j
    · have hj : j < c.length := by omega
      rw [oA_sn hj] at h5j
      dsimp only
      rw [ps_sn (by omega), hL _ (vQ_ps (by omega)), o j hj]
      have hd := d8 j hj h5j
      rw [w14 264 _ (d14 _ (vQ_ps (by omega))).2 (by decide) (fun z => ?_)]
      · exact hd
      · have e5 : y.1 = 11 := by simpa using z.2
        rw [z.1, h11 e5] at hd
        cases hd
  · intro j hj
    rw [len_sn] at hj
    dsimp only
    by_cases e : j = c.length
    · rw [if_pos e]
      omega
    · rw [if_neg e]
      have := d13 j (by omega)
      omega
  · intro q hq
    rcases vQ_inv hq with hq | ⟨e, hbg⟩
    · rw [hL q hq]
      have := d14 q hq
      omega
    · subst e
      have := (hb hbg).1
      omega
  · intro j k hj hk e
    rw [len_sn] at hj hk
    dsimp only at e
    by_cases ej : j = c.length
    · by_cases ek : k = c.length
      · omega
      · rw [if_pos ej, if_neg ek] at e
        have := d13 k (by omega)
        omega
    · by_cases ek : k = c.length
      · rw [if_neg ej, if_pos ek] at e
        have := d13 j (by omega)
        omega
      · rw [if_neg ej, if_neg ek] at e
        exact d15 j k (by omega) (by omega) e
  · intro q q' hq hq' e
    rcases vQ_inv hq with hq | ⟨e1, hbg⟩
    · rcases vQ_inv hq' with hq' | ⟨e2, hbg⟩
      · rw [hL q hq, hL q' hq'] at e
        exact d16 _ _ hq hq' e
      · subst e2
        rw [hL q hq] at e
        have := (hb hbg).1
        have := d14 q hq
        omega
    · subst e1
      rcases vQ_inv hq' with hq' | ⟨e2, hbg⟩
      · rw [hL q' hq'] at e
        have := (hb hbg).1
        have := d14 q' hq'
        omega
      · exact e2.symm
end DD
