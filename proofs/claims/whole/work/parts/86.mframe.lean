/-! THE REFERENCE RUNS, 3: frames come and go -/
/-- it has ended -/
def REn (m : Nat) (h0 h : Hp) (w : Wd) : Prop := RW m h0 h ∧ KE m h0 h ∧ gi h 669 m = gi h0 669 m ∧ gi h 668 m = 2 ∧ PG m h w ∧ gi h 680 m = nI w.1 ∧ ∀ j, j < w.1 → al h (m + 25) j = w.2.1 j
/-- it has stopped -/
def RSt (m : Nat) (h0 h : Hp) (st tr : Int32) (w : Wd) : Prop := RW m h0 h ∧ KE m h0 h ∧ gi h 668 m = st ∧ gi h 669 m = tr ∧ PG m h w
section FF
variable {P : List Fn} {m : Nat} {h0 h : Hp} {fr r : List Fm} {w : Wd} {A n p f b : Nat} {q : Option Nat} {v : VV} {bb : Nat → Int32} {g : VV} {gf : Fn} {Q : Option TV → Hp → Prop}
theorem s_traps (hm : MS h0 m) (H : RLv P m h0 h fr w A) {c : Int32} (k : ∀ h', RSt m h0 h' 3 c w → Q none h') : tX11_traps m c h Q := by
  have hm1 := H.ms hm
  obtain ⟨h1, ⟨h21, h22, h23, h24⟩, h3, h4, h5, h6, h7, h8, ⟨h91, h92, h93⟩, h10, h11⟩ := H
  refine wX11_traps m c h Q ⟨hm1.1, fun h2 e2 => ?_⟩
  have hm2 : MS h2 m := by rw [e2]; exact hm1
  refine ⟨hm2.1, fun h3 e3 => k h3 ?_⟩
  rw [e3, e2]
  exact ⟨h1.tr ((RW_pi _ _ (by omega)).tr (RW_pi _ _ (by omega))), ⟨h21, h22, by rw [gi_ne (by decide), gi_ne (by decide)]; exact h23, by rw [gi_ne (by decide), gi_ne (by decide)]; exact h24⟩, by rw [gi_ne (by decide), gi_eq], gi_eq, ⟨by rw [gi_ne (by decide), gi_ne (by decide)]; exact h91, h92, h93⟩⟩
theorem RLv.exh (H : RLv P m h0 h fr w A) : RSt m h0 (pi h 668 m 4) 4 (gi h0 669 m) w := by
  obtain ⟨h1, ⟨h21, h22, h23, h24⟩, h3, h4, h5, h6, h7, h8, ⟨h91, h92, h93⟩, h10, h11⟩ := H
  exact ⟨h1.tr (RW_pi _ _ (by omega)), ⟨h21, h22, by rw [gi_ne (by decide)]; exact h23, by rw [gi_ne (by decide)]; exact h24⟩, gi_eq, by rw [gi_ne (by decide)]; exact h3, ⟨by rw [gi_ne (by decide)]; exact h91, h92, h93⟩⟩
theorem s_back95 (hm : MS h0 m) {c : Nat} (hc : c ≤ 8) : ∀ (t i : Nat) (h : Hp), t = c - i → i ≤ c → (∀ j, j < c → al h (m + 21) j = v j) → (∀ j, j < i → al h (m + 25) j = v j) → RW m h0 h → KE m h0 h → gi h 669 m = gi h0 669 m → gi h 668 m = 2 → PG m h (c, v, p, bb, g) → gi h 680 m = nI c → (∀ h', REn m h0 h' (c, v, p, bb, g) → Q none h') → tX11_back_95 m (nI i) h Q := by
  intro t
  induction t with
  | zero =>
    intro i h ht hi hv ho w1 w2 w3 w4 w5 w6 k
    have e : i = c := by omega
    subst e
    have hm1 := w1.ms hm
    refine wX11_back_95 m _ h Q ⟨hm1.1, ?_⟩
    rw [w6, if_neg (nI_nlt (Nat.le_refl _) (by omega))]
    exact k h ⟨w1, w2, w3, w4, w5, w6, ho⟩
  | succ t ih =>
    intro i h ht hi hv ho w1 w2 w3 w4 w5 w6 k
    have hm1 := w1.ms hm
    refine wX11_back_95 m _ h Q ⟨hm1.1, ?_⟩
    rw [w6, if_pos (nI_lt (by omega) (by omega))]
    refine ⟨hm1.1, hm1.1, L_value hm1 hm1 (by omega) (L_outcome hm1 hm1 (by omega) (fun h1 e1 => ?_))⟩
    rw [nck (by omega), hv i (by omega)] at e1
    rw [← nI_succ]
    have hw : RW m h h1 := by rw [e1]; exact RW_sl _ _ _ (by omega)
    refine ih (i + 1) h1 (by omega) (by omega) ?_ ?_ (w1.tr hw) ?_ ?_ ?_ ?_ ?_ k
    · intro j hj
      rw [e1, al_ne (by omega)]
      exact hv j hj
    · intro j hj
      rw [e1, al_at]
      unfold upv
      by_cases e : j = i
      · rw [if_pos e, e]
      · rw [if_neg e]
        exact ho j (by omega)
    · obtain ⟨a1, a2, a3, a4⟩ := w2
      rw [e1]
      exact ⟨a1, by rw [al_ne (by omega)]; exact a2, a3, a4⟩
    · rw [e1]; exact w3
    · rw [e1]; exact w4
    · obtain ⟨a1, a2, a3⟩ := w5
      rw [e1]
      exact ⟨a1, a2, by rw [al_ne (by omega)]; exact a3⟩
    · rw [e1]; exact w6
theorem s_back (hm : MS h0 m) (hP : MP h0 m P) (H : RLv P m h0 h ((f, b, q) :: r) (n, v, p, bb, g) A) (h30 : r.length < 30) (hg : P[f]? = some gf) (hn : n < 700) (hb : b + fR gf ≤ n) (h220 : askF P ((f, b, q) :: r) ≤ 220) (hb0 : r = [] → b = 0)
    (k : match r with
      | [] => ∀ h', REn m h0 h' (b + fR gf, kp v (n - fR gf) b (fR gf), p, bb, g) → Q none h'
      | (f2, b2, p2) :: r2 => ∀ h' B g2 k2, P[f2]? = some g2 → settle (fC g2) B = p2 → b + fR gf = b2 + (fP g2 + fL g2) + k2 → At (sgs (P.take (f2 + 1))) (fP g2 + fL g2) (fR g2) (fC g2) B k2 → RLv P m h0 h' ((f2, b2, p2) :: r2) (b + fR gf, kp v (n - fR gf) b (fR gf), p, bb, g) (pos0 P f2 + B) → Q none h') : tX11_back m h Q := by
  have hm1 := H.ms hm
  have hP1 := H.1.mp hP
  have h5 : gi h 671 m = nI (r.length + 1) := H.2.2.2.2.1
  obtain ⟨ff1, ff2, -, -⟩ := H.2.2.2.2.2.2.2.2.2.2
  have hf : f < 40 := by have := (List.getElem?_eq_some_iff.mp hg).1; have := hP.1; omega
  obtain ⟨r0, -, -, -, r4, -⟩ := hP1.2.2 f gf hg
  refine wX11_back m h Q ⟨hm1.1, hm1.1, ?_⟩
  rw [h5, nI_sub1]
  refine L_function hm1 hm1 (by omega) ⟨hm1.1, ?_⟩
  rw [nck (by omega), ff1]
  refine L_results hm1 hm1 hf ⟨hm1.1, hm1.1, L_first hm1 hm1 (by omega) ⟨hm1.1, ?_⟩⟩
  rw [nck (by omega), r4, ff2]
  refine s_keep0 hm H hn (by omega) (by omega) (fun h4 H4 => rV_of ?_)
  have hm4 := H4.ms hm
  refine ⟨hm4.1, hm4.1, fun h6 e6 => ?_⟩
  have h45 : gi h4 671 m = nI (r.length + 1) := H4.2.2.2.2.1
  rw [h45, nI_sub1] at e6
  have w6 : RW m h4 h6 := by rw [e6]; exact RW_pi _ _ (by omega)
  have hm6 := w6.ms hm4
  refine ⟨hm6.1, hm6.1, s_asks hm6 (w6.mp (H4.1.mp hP)) hg (rI_of ⟨hm6.1, fun h9 e9 => ?_⟩)⟩
  have a67 : gi h6 673 m = nI (askN P f + askF P r) := by rw [e6, gi_ne (by decide)]; exact H4.2.2.2.2.2.2.1
  rw [a67, nJ_sub (by omega), Nat.add_sub_cancel_left] at e9
  have w9 : RW m h6 h9 := by rw [e9]; exact RW_pi _ _ (by omega)
  have hm9 := w9.ms hm6
  have h95 : gi h9 671 m = nI r.length := by rw [e9, gi_ne (by decide), e6, gi_eq]
  refine ⟨hm9.1, hm9.1, ?_⟩
  rw [h95]
  refine L_back hm9 hm9 (by omega) ⟨hm9.1, fun h11 e11 => ?_⟩
  rw [nck (by omega)] at e11
  have w11 : RW m h9 h11 := by rw [e11]; exact RW_pi _ _ (by omega)
  have hm11 := w11.ms hm9
  have h115 : gi h11 671 m = nI r.length := by rw [e11, gi_ne (by decide)]; exact h95
  have e24 : ai h9 (m + 24) = ai h4 (m + 24) := by rw [e9, e6]; rfl
  obtain ⟨x1, ⟨x21, x22, x23, x24⟩, x3, x4, x5, x6, x7, x8, ⟨x91, x92, x93⟩, x10, x11⟩ := H4
  have eh : h11 = pi (pi (pi h4 671 m (nI r.length)) 673 m (nI (askF P r))) 674 m (ai h9 (m + 24) r.length) := by rw [e11, e9, e6]
  refine ⟨hm11.1, ?_⟩
  rw [h115]
  cases r with
  | nil =>
    have hb1 := hb0 rfl
    rw [if_neg (by decide)]
    refine ⟨hm11.1, fun h12 e12 => ?_⟩
    have w12 : RW m h11 h12 := by rw [e12]; exact RW_pi _ _ (by omega)
    have hm12 := w12.ms hm11
    refine ⟨hm12.1, L_results hm12 hm12 hf ⟨hm12.1, fun h14 e14 => ?_⟩⟩
    have r12 : ai h12 (m + 4) f = nI (fR gf) := by rw [e12, eh]; exact ((x1.mp hP).2.2 f gf hg).2.2.2.2.1
    rw [r12] at e14
    have w14 : RW m h12 h14 := by rw [e14]; exact RW_pi _ _ (by omega)
    have k : ∀ h', REn m h0 h' (b + fR gf, kp v (n - fR gf) b (fR gf), p, bb, g) → Q none h' := k
    refine s_back95 (c := b + fR gf) (v := kp v (n - fR gf) b (fR gf)) (p := p) (bb := bb) (g := g) (h0 := h0) hm (by have := r0.2.1; omega) (b + fR gf) 0 h14 (by omega) (Nat.zero_le _) ?_ (fun j hj => by omega) (x1.tr (w6.tr (w9.tr (w11.tr (w12.tr w14))))) ?_ ?_ ?_ ?_ ?_ k
    · intro j hj
      rw [e14, e12, eh]
      exact x10 j hj
    · rw [e14, e12, eh]
      exact ⟨x21, x22, by rw [gi_ne (by decide), gi_ne (by decide), gi_ne (by decide), gi_ne (by decide), gi_ne (by decide)]; exact x23, by rw [gi_ne (by decide), gi_ne (by decide), gi_ne (by decide), gi_ne (by decide), gi_ne (by decide)]; exact x24⟩
    · rw [e14, e12, eh, gi_ne (by decide), gi_ne (by decide), gi_ne (by decide), gi_ne (by decide), gi_ne (by decide)]
      exact x3
    · rw [e14, gi_ne (by decide), e12, gi_eq]
    · rw [e14, e12, eh]
      exact ⟨by rw [gi_ne (by decide), gi_ne (by decide), gi_ne (by decide), gi_ne (by decide), gi_ne (by decide)]; exact x91, x92, x93⟩
    · rw [e14, gi_eq, hb1, Nat.zero_add]
  | cons y r2 =>
    obtain ⟨f2, b2, p2⟩ := y
    rw [if_pos (show (0 : Int32) < nI ((f2, b2, p2) :: r2).length from nI_lt (a := 0) (by simp) (by simp at h30 ⊢; omega))]
    obtain ⟨-, -, ⟨B, g1, g2, k2, y1, y2, y3, y4, y5, y6⟩, x12⟩ := x11
    rw [hg] at y1
    cases y1
    rw [e24, y3] at eh
    refine k h11 B g2 k2 y2 y4 y5 y6 ?_
    rw [eh]
    exact ⟨x1.tr ((RW_pi _ _ (by omega)).tr ((RW_pi _ _ (by omega)).tr (RW_pi _ _ (by omega)))), ⟨x21, x22, by rw [gi_ne (by decide), gi_ne (by decide), gi_ne (by decide)]; exact x23, by rw [gi_ne (by decide), gi_ne (by decide), gi_ne (by decide)]; exact x24⟩, by rw [gi_ne (by decide), gi_ne (by decide), gi_ne (by decide)]; exact x3, by rw [gi_ne (by decide), gi_ne (by decide), gi_ne (by decide)]; exact x4, by rw [gi_ne (by decide), gi_ne (by decide), gi_eq], by rw [gi_ne (by decide), gi_ne (by decide), gi_ne (by decide)]; exact x6, by rw [gi_ne (by decide), gi_eq], gi_eq, ⟨by rw [gi_ne (by decide), gi_ne (by decide), gi_ne (by decide)]; exact x91, x92, x93⟩, x10, x12.of (fun _ _ => ⟨rfl, rfl, rfl⟩)⟩
end FF
