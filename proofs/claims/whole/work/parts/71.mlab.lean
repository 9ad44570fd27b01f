/-! THE REFERENCE, 2: its labels -/
def LA (h : Hp) (m : Nat) : List Lb → Prop
  | [] => True
  | l :: r => (ai h (m + 11) r.length = nI (bY l) ∧ ai h (m + 12) r.length = nI (tK l) ∧ ai h (m + 13) r.length = nI (gV l) ∧ ai h (m + 14) r.length = nI (hT l) ∧ ai h (m + 15) r.length = nI (oW l) ∧ ai h (m + 16) r.length = (if dD l = true then 1 else 0)) ∧ LA h m r
/-- all else than the ints at some addresses is the same -/
def eqX (h h' : Hp) (S : Nat → Prop) : Prop := tg h' = tg h ∧ gi h' = gi h ∧ gl h' = gl h ∧ gr h' = gr h ∧ al h' = al h ∧ aq h' = aq h ∧ sz h' = sz h ∧ us h' = us h ∧ ∀ a, ¬ S a → ai h' a = ai h a
theorem eqX.rf (h : Hp) (S : Nat → Prop) : eqX h h S := ⟨rfl, rfl, rfl, rfl, rfl, rfl, rfl, rfl, fun _ _ => rfl⟩
theorem eqX.tr {h h1 h2 : Hp} {S : Nat → Prop} (a : eqX h h1 S) (b : eqX h1 h2 S) : eqX h h2 S := by
  obtain ⟨a1, a2, a3, a4, a5, a6, a7, a8, a9⟩ := a
  obtain ⟨b1, b2, b3, b4, b5, b6, b7, b8, b9⟩ := b
  exact ⟨b1.trans a1, b2.trans a2, b3.trans a3, b4.trans a4, b5.trans a5, b6.trans a6, b7.trans a7, b8.trans a8, fun x hx => (b9 x hx).trans (a9 x hx)⟩
theorem eqX_si (h : Hp) {a : Nat} (j : Nat) (x : Int32) {S : Nat → Prop} (ha : S a) : eqX h (si h a j x) S := ⟨rfl, rfl, rfl, rfl, rfl, rfl, rfl, rfl, fun b hb => by
  funext i
  rw [ai_si, if_neg (fun q => hb (by rw [q.1]; exact ha))]⟩
/-- the reference's labels alone have changed -/
def LW (m : Nat) (h h' : Hp) : Prop := eqX h h' (fun a => m + 11 ≤ a ∧ a ≤ m + 16)
theorem MS.of {h h' : Hp} {m : Nat} (hm : MS h m) (ht : tg h' = tg h) (hg : gr h' = gr h) : MS h' m := by
  unfold MS
  rw [ht, hg]
  exact hm
theorem LW.ms {h h' : Hp} {m : Nat} (w : LW m h h') (hm : MS h m) : MS h' m := hm.of w.1 w.2.2.2.1
theorem LW.rf (m : Nat) (h : Hp) : LW m h h := eqX.rf h _
theorem LW.tr {m : Nat} {h h1 h2 : Hp} (a : LW m h h1) (b : LW m h1 h2) : LW m h h2 := eqX.tr a b
theorem LA_si {h : Hp} {m a i : Nat} {x : Int32} : ∀ {r : List Lb}, r.length ≤ i → LA h m r → LA (si h a i x) m r := by
  intro r
  induction r with
  | nil => intro _ _; trivial
  | cons l r ih =>
    intro hi hA
    have hne : ∀ b, ai (si h a i x) b r.length = ai h b r.length := fun b => by
      rw [ai_si, if_neg (fun q => by simp at hi; omega)]
    obtain ⟨h1, h2⟩ := hA
    refine ⟨?_, ih (by simp at hi; omega) h2⟩
    rw [hne, hne, hne, hne, hne, hne]
    exact h1
theorem ai_same {h : Hp} {a i : Nat} {x : Int32} : ai (si h a i x) a i = x := by rw [ai_si, if_pos ⟨rfl, rfl⟩]
theorem ai_oth {h : Hp} {a b i : Nat} {x : Int32} (hab : b ≠ a) (j : Nat) : ai (si h a i x) b j = ai h b j := by rw [ai_si, if_neg (fun q => hab q.1)]
theorem LA_own {h : Hp} {m n : Nat} {l : Lb} {r : List Lb} (hA : LA h m (l :: r)) : LA (si h (m + 15) r.length (nI n)) m (sOw l n :: r) := by
  obtain ⟨⟨h1, h2, h3, h4, h5, h6⟩, h7⟩ := hA
  exact ⟨⟨(ai_oth (by omega) _).trans h1, (ai_oth (by omega) _).trans h2, (ai_oth (by omega) _).trans h3, (ai_oth (by omega) _).trans h4, ai_same, (ai_oth (by omega) _).trans h6⟩, LA_si (Nat.le_refl _) h7⟩
/-- small numbers -/
def SmL (l : Lb) : Prop := bY l < 100 ∧ tK l < 100 ∧ gV l < 100 ∧ hT l + oW l < 1000000
section ML
variable {h : Hp} {m n : Nat} {l : Lb} {r : List Lb} {Q : Option TV → Hp → Prop}
theorem s_within {x y : Int32} (k : Q (some (tI (if wi x y then 1 else 0))) h) : tX11_within x y h Q := by
  refine wX11_within x y h Q ?_
  by_cases h1 : x < 0
  · rw [if_pos h1]
    rw [if_neg (fun q => q.1 h1)] at k
    exact k
  · rw [if_neg h1]
    by_cases h2 : y < x
    · rw [if_pos h2]
      rw [if_neg (fun q => q.2 h2)] at k
      exact k
    · rw [if_neg h2]
      rw [if_pos ⟨h1, h2⟩] at k
      exact k
theorem s_inner (hm : MS h m) (hl : gi h 653 m = nI (n + 1)) (k : Q (some (tI (nI n))) h) : tX11_inner m h Q := by
  refine wX11_inner m h Q ⟨hm.1, ?_⟩
  rw [hl, nI_sub1]
  exact k
theorem s_has (hm : MS h m) (hl : gi h 653 m = nI (r.length + 1)) (hr : r.length < 1501) (hA : LA h m (l :: r)) (hs : SmL l) (hn : n < 2147483648) (k : Q (some (tI (if hasB l n = true then 1 else 0))) h) : tX11_has m (nI n) h Q := by
  have hr2 : r.length < 2147483648 := by omega
  obtain ⟨⟨-, -, -, -, a5, a6⟩, -⟩ := hA
  refine wX11_has m (nI n) h Q ⟨hm.1, hm.1, s_inner hm hl (rI_of (L_own hm hm hr ?_))⟩
  rw [nck hr2, a5]
  by_cases c : oW l < n
  · rw [if_pos (nI_lt c hn)]
    refine ⟨hm.1, hm.1, s_inner hm hl (rI_of (L_dead hm hm hr ?_))⟩
    rw [nck hr2, a6]
    have hb : hasB l n = dD l := by
      unfold hasB
      rw [decide_eq_false (by omega), Bool.false_or]
    rw [hb] at k
    cases hd : dD l with
    | true =>
      rw [hd] at k
      exact k
    | false =>
      rw [hd] at k
      exact k
  · rw [if_neg (fun q => c ((nJ_lt (by have := hs.2.2.2; omega) hn).mp q))]
    have hb : hasB l n = true := by
      unfold hasB
      rw [decide_eq_true (by omega), Bool.true_or]
    rw [hb, if_pos rfl] at k
    exact k
theorem s_take (hm : MS h m) (hl : gi h 653 m = nI (r.length + 1)) (hr : r.length < 1501) (hA : LA h m (l :: r)) (hs : SmL l) (hn : n < 2147483648) (k : Q none (si h (m + 15) r.length (nI (oW l - n)))) : tX11_take m (nI n) h Q := by
  have hr2 : r.length < 2147483648 := by omega
  obtain ⟨⟨-, -, -, -, a5, a6⟩, -⟩ := hA
  refine wX11_take m (nI n) h Q ⟨hm.1, hm.1, s_inner hm hl (rI_of ⟨hm.1, hm.1, s_inner hm hl (rI_of (L_own hm hm hr ?_))⟩)⟩
  rw [nck hr2, a5]
  by_cases c : n < oW l
  · rw [if_pos (nI_lt c (by have := hs.2.2.2; omega))]
    refine ⟨hm.1, hm.1, s_inner hm hl (rI_of (L_own hm hm hr (S_own hm hm hr (fun h' e => ?_))))⟩
    rw [nck hr2, a5, nJ_sub (by omega)] at e
    rw [e]
    exact k
  · rw [if_neg (fun q => c ((nJ_lt hn (by have := hs.2.2.2; omega)).mp q))]
    refine S_own hm hm hr (fun h' e => ?_)
    try rw [nck hr2] at e
    rw [e]
    rw [show oW l - n = 0 by omega] at k
    exact k
theorem si_si (h : Hp) (a j : Nat) (x y : Int32) : si (si h a j x) a j y = si h a j y := by
  have : up2 (up2 h.2.2.2.2.1 a j x) a j y = up2 h.2.2.2.2.1 a j y := by
    funext f b
    unfold up2
    split
    · rfl
    · rfl
  show (h.1, h.2.1, h.2.2.1, h.2.2.2.1, up2 (up2 h.2.2.2.2.1 a j x) a j y, h.2.2.2.2.2) = (h.1, h.2.1, h.2.2.1, h.2.2.2.1, up2 h.2.2.2.2.1 a j y, h.2.2.2.2.2)
  rw [this]
theorem s_turn {p : Nat} (hm : MS h m) (hl : gi h 653 m = nI (r.length + 1)) (hr : r.length < 1501) (hA : LA h m (l :: r)) (hs : SmL l) (hn : n < 2147483648) (k : if hasB l n = true then Q (some (tI 1)) (si h (m + 15) r.length (nI (oW l - n + p))) else Q (some (tI 0)) h) : tX11_turn m (nI n) (nI p) h Q := by
  have hr2 : r.length < 2147483648 := by omega
  refine wX11_turn m (nI n) (nI p) h Q ⟨hm.1, s_has hm hl hr hA hs hn (rI_of ?_)⟩
  by_cases c : hasB l n = true
  · rw [if_pos c] at k
    rw [if_pos c, if_neg (by decide)]
    have hm2 : MS (si h (m + 15) r.length (nI (oW l - n))) m := hm
    refine ⟨hm.1, s_take hm hl hr hA hs hn (rV_of ⟨hm2.1, hm2.1, s_inner hm2 hl (rI_of (L_own hm2 hm2 hr (S_own hm2 hm2 hr (fun h' e => ?_))))⟩)⟩
    rw [nck hr2, ai_same, si_si, nJ_add] at e
    rw [e]
    exact k
  · rw [if_neg c] at k
    rw [if_neg c, if_pos rfl]
    exact k
theorem s_die (hm : MS h m) (hl : gi h 653 m = nI (r.length + 1)) (hr : r.length < 1501) (k : Q none (si (si h (m + 15) r.length 0) (m + 16) r.length 1)) : tX11_die m h Q := by
  have hr2 : r.length < 2147483648 := by omega
  refine wX11_die m h Q ⟨hm.1, hm.1, s_inner hm hl (rI_of (S_own hm hm hr (fun h1 e1 => ?_)))⟩
  try rw [nck hr2] at e1
  subst e1
  have hm2 : MS (si h (m + 15) r.length 0) m := hm
  refine ⟨hm2.1, hm2.1, s_inner hm2 hl (rI_of (S_dead hm2 hm2 hr (fun h2 e2 => ?_)))⟩
  try rw [nck hr2] at e2
  rw [e2]
  exact k
theorem LA_die (hA : LA h m (l :: r)) : LA (si (si h (m + 15) r.length 0) (m + 16) r.length 1) m (sDie l :: r) := by
  obtain ⟨⟨h1, h2, h3, h4, h5, h6⟩, h7⟩ := hA
  refine ⟨⟨?_, ?_, ?_, ?_, ?_, ai_same⟩, LA_si (Nat.le_refl _) (LA_si (Nat.le_refl _) h7)⟩
  · rw [ai_oth (by omega), ai_oth (by omega)]; exact h1
  · rw [ai_oth (by omega), ai_oth (by omega)]; exact h2
  · rw [ai_oth (by omega), ai_oth (by omega)]; exact h3
  · rw [ai_oth (by omega), ai_oth (by omega)]; exact h4
  · rw [ai_oth (by omega)]; exact ai_same
theorem s_ends (hm : MS h m) (hl : gi h 653 m = nI (r.length + 1)) (hr : r.length < 1501) (hA : LA h m (l :: r)) (hs : SmL l) (hn : n < 2147483648) (k : if hasB l n = true then Q (some (tI 1)) (si (si h (m + 15) r.length 0) (m + 16) r.length 1) else Q (some (tI 0)) h) : tX11_ends m (nI n) h Q := by
  refine wX11_ends m (nI n) h Q ⟨hm.1, s_has hm hl hr hA hs hn (rI_of ?_)⟩
  by_cases c : hasB l n = true
  · rw [if_pos c] at k
    rw [if_pos c, if_neg (by decide)]
    exact ⟨hm.1, s_die hm hl hr (rV_of k)⟩
  · rw [if_neg c] at k
    rw [if_neg c, if_pos rfl]
    exact k
theorem s_isDone (hm : MS h m) (hl : gi h 653 m = nI (r.length + 1)) (hr : r.length < 1501) (hA : LA h m (l :: r)) (hs : SmL l) (k : Q (some (tI (if doneB l = true then 1 else 0))) h) : tX11_isDone m h Q := by
  have hr2 : r.length < 2147483648 := by omega
  obtain ⟨⟨-, -, a3, -, a5, a6⟩, -⟩ := hA
  obtain ⟨-, -, b3, b4⟩ := hs
  refine wX11_isDone m h Q ⟨hm.1, hm.1, s_inner hm hl (rI_of (L_own hm hm hr ⟨hm.1, hm.1, s_inner hm hl (rI_of (L_gives hm hm hr ?_))⟩))⟩
  rw [nck hr2, a3, a5]
  by_cases c : oW l = gV l
  · rw [if_pos (by rw [c])]
    rw [if_pos (by unfold doneB; rw [decide_eq_true c, Bool.true_or])] at k
    exact k
  · rw [if_neg (fun q => c ((nJ_inj (by omega) (by omega)).mp q))]
    refine ⟨hm.1, hm.1, s_inner hm hl (rI_of (L_dead hm hm hr ?_))⟩
    rw [nck hr2, a6]
    have hd0 : doneB l = (dD l && decide (oW l < gV l)) := by
      unfold doneB
      rw [decide_eq_false c, Bool.false_or]
    rw [hd0] at k
    cases hd : dD l with
    | false =>
      rw [hd] at k
      exact k
    | true =>
      rw [hd, Bool.true_and] at k
      rw [if_pos rfl, if_neg (by decide)]
      refine ⟨hm.1, hm.1, s_inner hm hl (rI_of (L_own hm hm hr ⟨hm.1, hm.1, s_inner hm hl (rI_of (L_gives hm hm hr ?_))⟩))⟩
      rw [nck hr2, a3, a5]
      by_cases c2 : oW l < gV l
      · rw [if_pos (nI_lt c2 (by omega))]
        rw [decide_eq_true c2, if_pos rfl] at k
        exact k
      · rw [if_neg (fun q => c2 ((nJ_lt (by omega) (by omega)).mp q))]
        rw [decide_eq_false c2, if_neg (by decide)] at k
        exact k
end ML
