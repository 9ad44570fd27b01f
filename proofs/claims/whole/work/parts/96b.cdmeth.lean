/-! THE CLASS WRITES, 2: the small methods of a draft, and what a write leaves alone -/
def TL (h : Hp) (da lt : Nat) (l : Lb) : Prop := tg h da = some (.inl 0) ∧ gr h 3 da = some lt ∧ tg h lt = some (.inl 4) ∧ gi h 257 lt = nI (tK l) ∧ gi h 258 lt = nI (gV l) ∧ gi h 259 lt = nI (hT l) ∧ gi h 261 lt = (if dD l = true then 1 else 0) ∧ gi h 4 da = nI (hT l + oW l)
def FW (B S : Nat) (h h2 : Hp) : Prop := sz h ≤ sz h2 ∧ (∀ a, a < S → tg h2 a = tg h a ∧ ai h2 a = ai h a ∧ al h2 a = al h a ∧ aq h2 a = aq h a ∧ ∀ f, gl h2 f a = gl h f a) ∧ ∀ f a, a < S → (a ≤ B ∨ 640 ≤ f ∨ (128 ≤ f ∧ f ≤ 132)) → gi h2 f a = gi h f a ∧ gr h2 f a = gr h f a
def AP (h h2 : Hp) (da N : Nat) (x : Ic) : Prop := sz h2 = sz h + 1 ∧ us h2 = us h + 10 ∧ (∀ a, a ≠ sz h → tg h2 a = tg h a ∧ ai h2 a = ai h a ∧ al h2 a = al h a ∧ aq h2 a = aq h a ∧ ∀ f, gl h2 f a = gl h f a) ∧ (tg h2 (sz h) = some (.inl 3) ∧ gi h2 192 (sz h) = x.1 ∧ gi h2 193 (sz h) = x.2.1 ∧ gi h2 194 (sz h) = x.2.2 ∧ gr h2 195 (sz h) = gr h 2 da ∧ gr h2 196 (sz h) = none ∧ gr h2 197 (sz h) = none) ∧ (gi h2 7 da = nI (N + 1) ∧ gr h2 2 da = some (sz h)) ∧ (∀ f a, a ≠ sz h → ¬ (f = 7 ∧ a = da) → gi h2 f a = gi h f a) ∧ ∀ f a, a ≠ sz h → ¬ (f = 2 ∧ a = da) → gr h2 f a = gr h f a
def nF (f : Nat) : Prop := f = 4 ∨ f = 5 ∨ f = 6 ∨ f = 7 ∨ f = 8 ∨ f = 133 ∨ f = 261
def PRE (B : Nat) (h h2 : Hp) : Prop := FW B (sz h) h h2 ∧ (∀ f a, a < sz h → ¬ nF f → gi h2 f a = gi h f a) ∧ (∀ f a, a < sz h → gr h2 f a = gr h f a) ∧ sz h2 ≤ sz h + 1 ∧ us h2 ≤ us h + 9
/-- a write under way -/
def WR (B : Nat) (h h2 : Hp) (da lt N A : Nat) (x : Ic) (X Y : Option Nat) : Prop := (sz h ≤ A ∧ A < sz h2) ∧ (sz h2 ≤ sz h + 2 ∧ us h2 ≤ us h + 19) ∧ FW B (sz h) h h2 ∧ (tg h2 A = some (.inl 3) ∧ gi h2 192 A = x.1 ∧ gi h2 193 A = x.2.1 ∧ gi h2 194 A = x.2.2 ∧ gr h2 195 A = gr h 2 da ∧ gr h2 196 A = X ∧ gr h2 197 A = Y) ∧ (gi h2 7 da = nI (N + 1) ∧ gr h2 2 da = some A) ∧ (∀ f a, a < sz h → ¬ nF f → gi h2 f a = gi h f a) ∧ ∀ f a, a < sz h → ¬ (f = 2 ∨ f = 3) → ¬ (a = lt ∧ ((f = 263 ∧ x.1 = 5) ∨ (f = 264 ∧ x.1 = 11))) → gr h2 f a = gr h f a
section MM
variable {B S : Nat} {h h1 h2 : Hp} {da lt fd N A n : Nat} {l : Lb} {x : Ic} {X Y : Option Nat} {o a b : Int32} {Q : Option TV → Hp → Prop}
theorem FW.rf : FW B S h h := ⟨Nat.le_refl _, fun _ _ => ⟨rfl, rfl, rfl, rfl, fun _ => rfl⟩, fun _ _ _ _ => ⟨rfl, rfl⟩⟩
theorem FW.tr (a : FW B S h h1) (b : FW B S h1 h2) : FW B S h h2 := by
  obtain ⟨a1, a2, a3⟩ := a
  obtain ⟨b1, b2, b3⟩ := b
  refine ⟨Nat.le_trans a1 b1, fun y hy => ?_, fun f y hy hf => ⟨(b3 f y hy hf).1.trans (a3 f y hy hf).1, (b3 f y hy hf).2.trans (a3 f y hy hf).2⟩⟩
  obtain ⟨c1, c2, c3, c4, c5⟩ := a2 y hy
  obtain ⟨d1, d2, d3, d4, d5⟩ := b2 y hy
  exact ⟨d1.trans c1, d2.trans c2, d3.trans c3, d4.trans c4, fun f => (d5 f).trans (c5 f)⟩
theorem FW_pi {f y : Nat} (z : Int32) (hy : S ≤ y ∨ (B < y ∧ f < 640 ∧ ¬ (128 ≤ f ∧ f ≤ 132))) : FW B S h (pi h f y z) := ⟨Nat.le_refl _, fun _ _ => ⟨rfl, rfl, rfl, rfl, fun _ => rfl⟩, fun g u hu hg => ⟨by rw [gi_pi, if_neg (by omega)], rfl⟩⟩
theorem FW_pr {f y : Nat} (z : Option Nat) (hy : S ≤ y ∨ (B < y ∧ f < 640 ∧ ¬ (128 ≤ f ∧ f ≤ 132))) : FW B S h (pr h f y z) := ⟨Nat.le_refl _, fun _ _ => ⟨rfl, rfl, rfl, rfl, fun _ => rfl⟩, fun g u hu hg => ⟨rfl, by rw [gr_pr, if_neg (by omega)]⟩⟩
theorem ai_ext {h h' : Hp} {u : Nat} (e : ∀ i, ai h' u i = ai h u i) : ai h' u = ai h u := funext e
theorem nw_oth {t : Tg} {m u : Nat} (hu : u ≠ sz h) : tg (nw h t m) u = tg h u ∧ ai (nw h t m) u = ai h u ∧ al (nw h t m) u = al h u ∧ aq (nw h t m) u = aq h u ∧ (∀ f, gl (nw h t m) f u = gl h f u) ∧ (∀ f, gi (nw h t m) f u = gi h f u) ∧ ∀ f, gr (nw h t m) f u = gr h f u := by
  refine ⟨by rw [tg_nw, if_neg hu], funext fun i => ?_, funext fun i => ?_, funext fun i => ?_, fun f => ?_, fun f => ?_, fun f => ?_⟩
  · rw [ai_nw, if_neg hu]
  · rw [al_nw, if_neg hu]
  · rw [aq_nw, if_neg hu]
  · rw [gl_nw, if_neg hu]
  · rw [gi_nw, if_neg hu]
  · rw [gr_nw, if_neg hu]
theorem FW_nw {t : Tg} {m : Nat} (hS : S ≤ sz h) : FW B S h (nw h t m) := ⟨by rw [sz_nw]; omega, fun y hy => by
  obtain ⟨a1, a2, a3, a4, a5, -⟩ := nw_oth (h := h) (t := t) (m := m) (show y ≠ sz h by omega)
  exact ⟨a1, a2, a3, a4, a5⟩, fun f y hy _ => by
  obtain ⟨-, -, -, -, -, a6, a7⟩ := nw_oth (h := h) (t := t) (m := m) (show y ≠ sz h by omega)
  exact ⟨a6 f, a7 f⟩⟩
theorem PRE.rf : PRE B h h := ⟨FW.rf, fun _ _ _ _ => rfl, fun _ _ _ => rfl, by omega, by omega⟩
theorem AP.fw (W : AP h h2 da N x) (hB : B < da) (hS : S ≤ sz h) : FW B S h h2 := by
  obtain ⟨w1, w2, w3, w4, w5, w6, w7⟩ := W
  exact ⟨by omega, fun y hy => w3 y (by omega), fun f y hy hf => ⟨w6 f y (by omega) (by omega), w7 f y (by omega) (by omega)⟩⟩
theorem AP.wr {h0 : Hp} (W : AP h h2 da N x) (E : PRE B h0 h) (hB : B < da) (hda : da < sz h0) : WR B h0 h2 da lt N (sz h) x none none := by
  have F := W.fw (S := sz h0) hB E.1.1
  obtain ⟨w1, w2, w3, w4, ⟨w51, w52⟩, w6, w7⟩ := W
  obtain ⟨e1, e2, e3, e4, e5⟩ := E
  have e11 := e1.1
  refine ⟨⟨e11, by omega⟩, ⟨by omega, by omega⟩, e1.tr F, ?_, ⟨w51, w52⟩, fun f y hy hf => ?_, fun f y hy hf _ => ?_⟩
  · obtain ⟨v1, v2, v3, v4, v5, v6⟩ := w4
    exact ⟨v1, v2, v3, v4, by rw [v5, e3 2 da hda], v6⟩
  · rw [w6 f y (by omega) (fun z => hf (by unfold nF; omega)), e2 f y hy hf]
  · rw [w7 f y (by omega) (by omega), e3 f y hy]
theorem WR.pi (W : WR B h h2 da lt N A x X Y) {f y : Nat} (z : Int32) (hf : f = 4 ∨ f = 5 ∨ f = 6 ∨ f = 8 ∨ f = 133 ∨ f = 261) (hy : B < y) : WR B h (pi h2 f y z) da lt N A x X Y := by
  obtain ⟨w1, w2, w3, ⟨v1, v2, v3, v4, v5⟩, ⟨w51, w52⟩, w6, w7⟩ := W
  have ne : ∀ g, ¬ nF g ∨ g = 7 → g ≠ f := by
    intro g hg e
    unfold nF at hg
    omega
  refine ⟨w1, w2, w3.tr (FW_pi _ (Or.inr ⟨hy, by omega⟩)), ⟨v1, ?_, ?_, ?_, v5⟩, ⟨?_, w52⟩, fun g u hu hg => ?_, w7⟩
  · rw [gi_ne (by omega)]; exact v2
  · rw [gi_ne (by omega)]; exact v3
  · rw [gi_ne (by omega)]; exact v4
  · rw [gi_ne (by omega)]; exact w51
  · rw [gi_ne (ne g (Or.inl hg))]
    exact w6 g u hu hg
theorem WR.lab (W : WR B h h2 da lt N A x X Y) (X' : Option Nat) : WR B h (pr h2 196 A X') da lt N A x X' Y := by
  obtain ⟨w1, w2, w3, ⟨v1, v2, v3, v4, v5, v6, v7⟩, ⟨w51, w52⟩, w6, w7⟩ := W
  refine ⟨w1, w2, w3.tr (FW_pr _ (Or.inl w1.1)), ⟨v1, v2, v3, v4, by rw [gr_ne (by decide)]; exact v5, gr_eq, by rw [gr_ne (by decide)]; exact v7⟩, ⟨w51, by rw [gr_ne (by decide)]; exact w52⟩, w6, fun g u hu hg hz => ?_⟩
  rw [gr_na (by omega)]
  exact w7 g u hu hg hz
theorem WR.cal (W : WR B h h2 da lt N A x X Y) (Y' : Option Nat) : WR B h (pr h2 197 A Y') da lt N A x X Y' := by
  obtain ⟨w1, w2, w3, ⟨v1, v2, v3, v4, v5, v6, v7⟩, ⟨w51, w52⟩, w6, w7⟩ := W
  refine ⟨w1, w2, w3.tr (FW_pr _ (Or.inl w1.1)), ⟨v1, v2, v3, v4, by rw [gr_ne (by decide)]; exact v5, by rw [gr_ne (by decide)]; exact v6, gr_eq⟩, ⟨w51, by rw [gr_ne (by decide)]; exact w52⟩, w6, fun g u hu hg hz => ?_⟩
  rw [gr_na (by omega)]
  exact w7 g u hu hg hz
/-- a reference written: 3 of the draft, 262 of a new label, 263 and 264 of the top one -/
theorem WR.pr (W : WR B h h2 da lt N A x X Y) {f y : Nat} (z : Option Nat) (hy : B < y) (hf : f = 3 ∨ (f = 262 ∧ sz h ≤ y) ∨ (y = lt ∧ ((f = 263 ∧ x.1 = 5) ∨ (f = 264 ∧ x.1 = 11)))) : WR B h (pr h2 f y z) da lt N A x X Y := by
  obtain ⟨w1, w2, w3, ⟨v1, v2, v3, v4, v5, v6, v7⟩, ⟨w51, w52⟩, w6, w7⟩ := W
  refine ⟨w1, w2, w3.tr (FW_pr _ (Or.inr ⟨hy, by omega⟩)), ⟨v1, v2, v3, v4, by rw [gr_ne (by omega)]; exact v5, by rw [gr_ne (by omega)]; exact v6, by rw [gr_ne (by omega)]; exact v7⟩, ⟨w51, by rw [gr_ne (by omega)]; exact w52⟩, w6, fun g u hu hg hz => ?_⟩
  rw [gr_pr, if_neg ?_]
  · exact w7 g u hu hg hz
  · rintro ⟨rfl, rfl⟩
    rcases hf with e | ⟨e, e2⟩ | ⟨e, e2⟩
    · exact hg (Or.inr e)
    · omega
    · exact hz ⟨e, e2⟩
theorem WR.sw (W : WR B h h2 da lt N A x X Y) (h5 : x.1 = 5 → gr h2 263 lt = some A) (h11 : x.1 = 11 → gr h2 264 lt = some A) : SW h h2 da lt N A x X Y := by
  obtain ⟨w1, w2, w3, w4, w5, w6, w7⟩ := W
  exact ⟨w1, fun u hu => (w3.2.1 u hu).1, w4, w5, w6, w7, h5, h11⟩
theorem c_append (t0 : tg h da = some (.inl 0)) (hda : da < sz h) (e7 : gi h 7 da = nI N) (k : ∀ h', AP h h' da N (o, a, b) → Q (some (tR (some (sz h)))) h') : tX0_append da o a b h Q := by
  refine wX0_append da o a b h Q (fun k1 a2 e1 e2 => ?_)
  subst e2
  have hne : da ≠ sz h := by omega
  obtain ⟨o1, o2, o3, o4, o5, o6, o7⟩ := nw_oth (h := h) (t := .inl 3) (m := 10) hne
  have t1 : tg k1 da = some (.inl 0) := by rw [e1, o1]; exact t0
  have s1 : tg k1 (sz h) = some (.inl 3) := by rw [e1, tg_nw, if_pos rfl]
  refine ⟨t1, wX3_init _ _ _ _ _ k1 _ ⟨s1, fun k2 q2 => ?_⟩⟩
  refine ⟨by rw [q2]; exact s1, fun k3 q3 => ?_⟩
  refine ⟨by rw [q3, q2]; exact s1, fun k4 q4 => ?_⟩
  refine ⟨by rw [q4, q3, q2]; exact s1, fun k5 q5 => rV_of ?_⟩
  refine ⟨by rw [q5, q4, q3, q2]; exact t1, fun k6 q6 => ?_⟩
  refine ⟨by rw [q6, q5, q4, q3, q2]; exact t1, by rw [q6, q5, q4, q3, q2]; exact t1, fun k7 q7 => ?_⟩
  refine ⟨by rw [q7, q6, q5, q4, q3, q2]; exact t1, ?_⟩
  have g2 : gr k7 2 da = some (sz h) := by rw [q7, gr_pi, q6, gr_eq]
  have g6 : gi k6 7 da = nI N := by rw [q6, gi_pr, q5, gi_pr, q4, gi_ne (by decide), q3, gi_ne (by decide), q2, gi_ne (by decide), e1, o6]; exact e7
  rw [g6, ← nI_succ] at q7
  rw [g2]
  have gz : ∀ f, gr k1 f (sz h) = none := fun f => by rw [e1, gr_nw, if_pos rfl]
  refine k k7 ⟨?_, ?_, fun u hu => ?_, ⟨?_, ?_, ?_, ?_, ?_, ?_, ?_⟩, ⟨?_, g2⟩, fun f u hu hf => ?_, fun f u hu hf => ?_⟩
  · rw [q7, q6, q5, q4, q3, q2, e1]; rfl
  · rw [q7, q6, q5, q4, q3, q2, e1]; rfl
  · obtain ⟨u1, u2, u3, u4, u5, u6, u7⟩ := nw_oth (h := h) (t := .inl 3) (m := 10) hu
    rw [q7, q6, q5, q4, q3, q2, e1]
    exact ⟨u1, u2, u3, u4, u5⟩
  · rw [q7, q6, q5, q4, q3, q2]; exact s1
  · rw [q7, gi_ne (by decide), q6, gi_pr, q5, gi_pr, q4, gi_ne (by decide), q3, gi_ne (by decide), q2, gi_eq]
  · rw [q7, gi_ne (by decide), q6, gi_pr, q5, gi_pr, q4, gi_ne (by decide), q3, gi_eq]
  · rw [q7, gi_ne (by decide), q6, gi_pr, q5, gi_pr, q4, gi_eq]
  · rw [q7, gr_pi, q6, gr_ne (by decide), q5, gr_eq, e1, o7]
  · rw [q7, gr_pi, q6, gr_ne (by decide), q5, gr_ne (by decide), q4, gr_pi, q3, gr_pi, q2, gr_pi, gz]
  · rw [q7, gr_pi, q6, gr_ne (by decide), q5, gr_ne (by decide), q4, gr_pi, q3, gr_pi, q2, gr_pi, gz]
  · rw [q7, gi_eq]
  · obtain ⟨u1, u2, u3, u4, u5, u6, u7⟩ := nw_oth (h := h) (t := .inl 3) (m := 10) hu
    rw [q7, gi_pi, if_neg hf, q6, gi_pr, q5, gi_pr, q4, gi_na hu, q3, gi_na hu, q2, gi_na hu, e1, u6]
  · obtain ⟨u1, u2, u3, u4, u5, u6, u7⟩ := nw_oth (h := h) (t := .inl 3) (m := 10) hu
    rw [q7, gr_pi, q6, gr_pr, if_neg hf, q5, gr_na hu, q4, gr_pi, q3, gr_pi, q2, gr_pi, e1, u7]
theorem c_within {y z : Int32} (k : Q (some (tI (if wi y z then 1 else 0))) h) : tX10_isWithin y z h Q := by
  refine wX10_isWithin y z h Q ?_
  by_cases c1 : y < 0
  · rw [if_neg (fun q => q.1 c1)] at k
    rw [if_pos c1]
    exact k
  · rw [if_neg c1]
    by_cases c2 : z < y
    · rw [if_neg (fun q => q.2 c2)] at k
      rw [if_pos c2]
      exact k
    · rw [if_pos ⟨c1, c2⟩] at k
      rw [if_neg c2]
      exact k
theorem c_own (T : TL h da lt l) (k : Q (some (tI (nI (oW l)))) h) : tX0_ownOperands da h Q := by
  obtain ⟨t1, t2, t3, t4, t5, t6, t7, t8⟩ := T
  refine wX0_ownOperands da h Q ⟨t1, ?_⟩
  rw [if_neg (by rw [t2]; exact Option.some_ne_none _)]
  refine ⟨t1, t1, dr_of t2 ⟨t3, ?_⟩⟩
  rw [t8, t6, nJ_sub (by omega), Nat.add_sub_cancel_left]
  exact k
theorem c_has (T : TL h da lt l) (ho : oW l < 2147483648) (hn : n < 2147483648) (k : Q (some (tI (if hasB l n = true then 1 else 0))) h) : tX0_has da (nI n) h Q := by
  have T' := T
  obtain ⟨t1, t2, t3, t4, t5, t6, t7, t8⟩ := T
  refine wX0_has da _ h Q ⟨t1, dr_of t2 ⟨t3, ?_⟩⟩
  rw [t7]
  unfold hasB at k
  by_cases d : dD l = true
  · rw [if_pos d, if_neg (by decide)]
    rw [d] at k
    rw [if_pos (by simp)] at k
    exact k
  · rw [if_neg d, if_pos rfl]
    refine ⟨t1, c_own T' (rI_of ?_)⟩
    have d : dD l = false := by simpa using d
    rw [d] at k
    by_cases c : n ≤ oW l
    · rw [if_neg (nI_nlt c (by omega))]
      rw [if_pos (by simp [c])] at k
      exact k
    · rw [if_pos (nI_lt (by omega) (by omega))]
      rw [if_neg (by simp; omega)] at k
      exact k
theorem c_just (T : TL h da lt l) (ho : oW l < 2147483648) (hg : gV l < 2147483648) (k : Q (some (tI (if doneB l = true then 1 else 0))) h) : tX0_hasJustResults da h Q := by
  have T' := T
  obtain ⟨t1, t2, t3, t4, t5, t6, t7, t8⟩ := T
  refine wX0_hasJustResults da h Q ⟨t1, c_own T' (rI_of ⟨t1, dr_of t2 ⟨t3, ?_⟩⟩)⟩
  rw [t5]
  unfold doneB at k
  by_cases c : oW l = gV l
  · rw [if_pos (by rw [c])]
    rw [if_pos (by simp [c])] at k
    exact k
  · rw [if_neg (fun z => c ((nJ_inj ho hg).mp z))]
    refine ⟨t1, dr_of t2 ⟨t3, ?_⟩⟩
    rw [t7]
    by_cases d : dD l = true
    · rw [if_pos d, if_neg (by decide)]
      refine ⟨t1, dr_of t2 ⟨t3, ?_⟩⟩
      rw [t5]
      rw [d] at k
      by_cases c2 : oW l < gV l
      · rw [if_pos (nI_lt c2 hg)]
        rw [if_pos (by simp [c2])] at k
        exact k
      · rw [if_neg (nI_nlt (by omega) ho)]
        rw [if_neg (by simp [c, c2])] at k
        exact k
    · rw [if_neg d, if_pos rfl]
      have d : dD l = false := by simpa using d
      rw [d] at k
      rw [if_neg (by simp [c])] at k
      exact k
theorem nI_subc {a b c : Nat} (ha : a < 1000000) (hb : b < 1000000) (hc : c < 1000000) : (if nI a < nI (a + b) - nI c then nI (a + b) - nI c else nI a) = nI (a + (b - c)) := by
  by_cases h : c ≤ b
  · rw [nJ_sub (by omega)]
    by_cases h2 : a < a + b - c
    · rw [if_pos (nI_lt h2 (by omega))]
      congr 1
      omega
    · rw [if_neg (nI_nlt (by omega) (by omega))]
      congr 1
      omega
  · have e : ¬ nI a < nI (a + b) - nI c := by
      rw [Int32.lt_iff_toInt_lt]
      have e1 : (nI a).toInt = (a : Int) := Int32.toInt_ofNat_of_lt (by omega)
      have e2 : (nI (a + b) - nI c).toInt = (a : Int) + b - c := by
        rw [Int32.toInt_sub, show (nI (a + b)).toInt = ((a + b : Nat) : Int) from Int32.toInt_ofNat_of_lt (by omega), show (nI c).toInt = (c : Int) from Int32.toInt_ofNat_of_lt (by omega), Int.bmod_eq_of_le (by omega) (by omega)]
        omega
      rw [e1, e2]
      omega
    rw [if_neg e]
    congr 1
    omega
theorem c_take (T : TL h da lt l) (ho : hT l + oW l < 1000000) (hn : n < 1000000) (k : ∀ h', h' = pi h 4 da (nI (hT l + (oW l - n))) → Q none h') : tX0_take da (nI n) h Q := by
  obtain ⟨t1, t2, t3, t4, t5, t6, t7, t8⟩ := T
  refine wX0_take da _ h Q ⟨t1, dr_of t2 ⟨t3, t1, t1, fun h' e' => k h' ?_⟩⟩
  rw [e', t6, t8, nI_subc (by omega) (by omega) hn]
theorem c_put {ms o' : Nat} (t1 : tg h da = some (.inl 0)) (t2 : gr h 1 da = some fd) (t3 : tg h fd = some (.inl 2)) (t4 : gi h 4 da = nI o') (t5 : gi h 133 fd = nI ms) (ho : o' + n < 1000000) (hm : ms < 1000000) (k : ∀ h', h' = pi (pi h 4 da (nI (o' + n))) 133 fd (nI (if ms < o' + n then o' + n else ms)) → Q none h') : tX0_put da (nI n) h Q := by
  refine wX0_put da _ h Q ⟨t1, t1, fun h1 e1 => ?_⟩
  rw [t4, nJ_add] at e1
  have u1 : tg h1 da = some (.inl 0) := by rw [e1]; exact t1
  have u2 : gr h1 1 da = some fd := by rw [e1]; exact t2
  have u3 : tg h1 fd = some (.inl 2) := by rw [e1]; exact t3
  have u4 : gi h1 4 da = nI (o' + n) := by rw [e1, gi_eq]
  have u5 : gi h1 133 fd = nI ms := by rw [e1, gi_ne (by decide)]; exact t5
  refine ⟨u1, u1, dr_of u2 ⟨u3, u1, dr_of u2 ⟨u3, fun h3 e3 => k h3 ?_⟩⟩⟩
  rw [u4, u5] at e3
  rw [e3, e1]
  congr 1
  by_cases c : ms < o' + n
  · rw [if_pos (nI_lt c (by omega)), if_pos c]
  · rw [if_neg (nI_nlt (by omega) (by omega)), if_neg c]
theorem c_die (T : TL h da lt l) (k : ∀ h', h' = pi (pi h 4 da (nI (hT l))) 261 lt 1 → Q none h') : tX0_die da h Q := by
  obtain ⟨t1, t2, t3, t4, t5, t6, t7, t8⟩ := T
  refine wX0_die da h Q ⟨t1, dr_of t2 ⟨t3, t1, fun h1 e1 => ?_⟩⟩
  refine ⟨by rw [e1]; exact t1, dr_of (show gr h1 3 da = some lt by rw [e1]; exact t2) ⟨by rw [e1]; exact t3, fun h2 e2 => k h2 ?_⟩⟩
  rw [e2, e1, t6]
end MM
section MN
variable {h : Hp} {x B da fd : Nat} {fp I : Nat → Nat} {L : Option Nat → Nat} {sg : List (Nat × Nat)} {nm r : Nat} {c : List Ic} {v : VS} {Q : Option TV → Hp → Prop}
theorem get0 {l : Lb} {q : List Lb} (e : v.1 = l :: q) : v.1[0]? = some l := by rw [e]; rfl
theorem DNm.top (D : DSt h x B da fd fp I L sg nm r c) (M : DNm h da fd L c v) (hv : vat sg nm r c c.length = some v) {l : Lb} {q : List Lb} (e : v.1 = l :: q) : TL h da (L (ps c c.length)[0]?) l := by
  obtain ⟨⟨d1, -⟩, -, dL, -⟩ := D
  obtain ⟨m1, m2, m3, m4, m5, m6, m7⟩ := M
  obtain ⟨l1, l2, l3, l4, l5, -⟩ := dL _ (vQ_ps (k := 0) (Nat.le_refl c.length))
  obtain ⟨q1, q2, q3, -⟩ := lbQ hv (get0 e)
  refine ⟨d1, m1, l1, by rw [l3, q2], by rw [l4, q3], by rw [l5, q1], (m7 0 l (get0 e)).1, ?_⟩
  rw [m3, e]
  rfl
theorem c_wanted {k : Nat} {l : Lb} (D : DSt h x B da fd fp I L sg nm r c) (hv : vat sg nm r c c.length = some v) (hk : v.1[k]? = some l) (K : Q (some (tI (nI (wantL l)))) h) : tX4_wanted (L (ps c c.length)[k]?) h Q := by
  obtain ⟨-, -, dL, -⟩ := D
  obtain ⟨l1, l2, l3, l4, l5, -⟩ := dL _ (vQ_ps (k := k) (Nat.le_refl c.length))
  obtain ⟨q1, q2, q3, q4, -⟩ := lbQ hv hk
  refine wX4_wanted _ h Q ⟨l1, ?_⟩
  unfold wantL at K
  rw [l2]
  by_cases c3 : bY l = 3
  · rw [if_pos c3] at K
    rw [if_pos (q4.mp c3)]
    refine ⟨l1, ?_⟩
    rw [l3, ← q2]
    exact K
  · rw [if_neg c3] at K
    rw [if_neg (fun z => c3 (q4.mpr z))]
    refine ⟨l1, ?_⟩
    rw [l4, ← q3]
    exact K
theorem c_mayTurn {l : Lb} {q : List Lb} (D : DSt h x B da fd fp I L sg nm r c) (M : DNm h da fd L c v) (hv : vat sg nm r c c.length = some v) (e : v.1 = l :: q) (K : Q (some (tI (if bY l = 4 then 1 else 0))) h) : tX4_mayTurn (L (ps c c.length)[0]?) h Q := by
  obtain ⟨-, -, dL, -⟩ := D
  obtain ⟨m1, m2, m3, m4, m5, m6, m7⟩ := M
  obtain ⟨l1, l2, -⟩ := dL _ (vQ_ps (k := 0) (Nat.le_refl c.length))
  obtain ⟨q1, q2, q3, q4, q5⟩ := lbQ hv (get0 e)
  obtain ⟨-, -, n3⟩ := m7 0 l (get0 e)
  refine wX4_mayTurn _ h Q ⟨l1, ?_⟩
  rw [l2]
  by_cases c4 : kndQ c (ps c c.length)[0]? = 4
  · rw [if_pos c4]
    refine ⟨l1, ?_⟩
    rcases q5.mpr c4 with e4 | e5
    · rw [if_pos e4] at K
      rw [if_pos (Classical.byContradiction fun z => by
        have := n3.mpr z
        omega)]
      exact K
    · rw [if_neg (by omega)] at K
      rw [if_neg (n3.mp e5)]
      exact K
  · rw [if_neg c4]
    rw [if_neg (fun z => c4 (q5.mp (Or.inl z)))] at K
    exact K
theorem c_labelAt21 (D : DSt h x B da fd fp I L sg nm r c) {n : Nat} (hn : n ≤ (ps c c.length).length) (hb : n < 2147483648) (K : Q (some (tR (some (L (ps c c.length)[n]?)))) h) : ∀ (t i : Nat), t = n - i → i ≤ n → tX0_labelAt_21 da (nI n) (some (L (ps c c.length)[i]?)) (nI i) h Q := by
  obtain ⟨-, -, dL, -⟩ := D
  intro t
  induction t with
  | zero =>
    intro i ht hi
    have e : i = n := by omega
    subst e
    refine wX0_labelAt_21 da _ _ _ h Q ?_
    rw [if_neg (nI_nlt (Nat.le_refl _) hb)]
    exact K
  | succ t ih =>
    intro i ht hi
    refine wX0_labelAt_21 da _ _ _ h Q ?_
    rw [if_pos (nI_lt (by omega) hb), if_neg (Option.some_ne_none _)]
    have hx := List.getElem?_eq_getElem (show i < (ps c c.length).length by omega)
    obtain ⟨l1, l2, l3, l4, l5, l6, -⟩ := dL _ (vQ_ps (k := i) (Nat.le_refl c.length))
    refine dr_of rfl ⟨l1, ?_⟩
    have eo : gr h 260 (L (ps c c.length)[i]?) = some (L (ps c c.length)[i + 1]?) := by
      rw [l6]
      rw [hx]
      show some (L (ps c (ps c c.length)[i])[0]?) = _
      rw [← ps_below hx, List.getElem?_drop]
    rw [eo, ← nI_succ]
    exact ih (i + 1) (by omega) (by omega)
theorem c_labelAt {a : Int32} (D : DSt h x B da fd fp I L sg nm r c) (M : DNm h da fd L c v) (hv : vat sg nm r c c.length = some v) (hne : v.1 ≠ []) (hl : v.1.length < 2147483648) (K : Q (some (tR (match labAt v.1 a with
      | none => none
      | some _ => some (L (ps c c.length)[nt a]?)))) h) : tX0_labelAt da a h Q := by
  have D' := D
  obtain ⟨⟨d1, -⟩, -⟩ := D
  obtain ⟨m1, m2, m3, m4, m5, m6, m7⟩ := M
  have hlen := vat_len hv hne
  refine wX0_labelAt da a h Q ?_
  unfold labAt at K
  by_cases c0 : a < 0
  · rw [if_pos c0] at K ⊢
    exact K
  rw [if_neg c0] at K ⊢
  refine ⟨d1, ?_⟩
  rw [m2]
  have ea := nI_nt c0
  have ha := nt_lt a
  by_cases cl : nt a < v.1.length
  · rw [List.getElem?_eq_getElem cl] at K
    rw [if_pos (by rw [← ea]; exact nI_lt cl hl)]
    refine ⟨d1, ?_⟩
    rw [m1, ← ea]
    exact c_labelAt21 D' (by omega) ha K _ 0 rfl (Nat.zero_le _)
  · rw [List.getElem?_eq_none (by omega)] at K
    rw [if_neg (by rw [← ea]; exact nI_nlt (by omega) ha)]
    exact K
end MN
