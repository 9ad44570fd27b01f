/-! THE CLASS WRITES, 3: the numbers behind a write -/
theorem ps_dist {c : List Ic} {i k : Nat} (h1 : 1 ≤ k) (h2 : k ≤ (ps c i).length) : (ps c i)[k]? ≠ (ps c i)[0]? := by
  intro e
  by_cases hk : k = (ps c i).length
  · rw [hk, List.getElem?_eq_none (Nat.le_refl _)] at e
    have h0 := List.getElem?_eq_getElem (show 0 < (ps c i).length by omega)
    rw [h0] at e
    cases e
  · have h0 := List.getElem?_eq_getElem (show 0 < (ps c i).length by omega)
    have hb := ps_below h0
    have hx : (ps c (ps c i)[0])[k - 1]? = (ps c i)[k]? := by
      rw [← hb, List.getElem?_drop]
      congr 1
      omega
    rw [e, h0] at hx
    have := (ps_lt hx).1
    omega
theorem mstV_le {l : Lb} {q : List Lb} {m : Nat} (h : hT l + oW l ≤ m) : mstV (l :: q) m = m := by
  show (if m < hT l + oW l then hT l + oW l else m) = m
  rw [if_neg (by omega)]
def EQ1 (h h1 : Hp) (da : Nat) : Prop := (∀ f a, a < sz h → ¬ (f = 7 ∧ a = da) → gi h1 f a = gi h f a) ∧ (∀ f a, a < sz h → ¬ (f = 2 ∧ a = da) → gr h1 f a = gr h f a) ∧ ∀ a, a < sz h → tg h1 a = tg h a
def OUT (B : Nat) (h h2 : Hp) (x da fd : Nat) (fp I : Nat → Nat) (L' : Option Nat → Nat) (sg : List (Nat × Nat)) (nm r : Nat) (c : List Ic) (y : Ic) (A : Nat) (v' : VS) : Prop := FW B (sz h) h h2 ∧ (sz h2 ≤ sz h + 2 ∧ us h2 ≤ us h + 19) ∧ DSt h2 x B da fd fp (fun j => if j = c.length then A else I j) L' sg nm r (c ++ [y]) ∧ DNm h2 da fd L' (c ++ [y]) v'
section NN
variable {h h1 h2 : Hp} {x B da fd A : Nat} {fp I : Nat → Nat} {L : Option Nat → Nat} {sg : List (Nat × Nat)} {nm r : Nat} {c : List Ic} {v : VS} {y : Ic} {X Y : Option Nat} {l l' : Lb} {q : List Lb} {due : Nat} {w : Option Nat} {ms : Nat} {Q : Option TV → Hp → Prop}
theorem AP.eq1 (W : AP h h1 da c.length y) : EQ1 h h1 da := ⟨fun f a ha hf => W.2.2.2.2.2.1 f a (by omega) hf, fun f a ha hf => W.2.2.2.2.2.2 f a (by omega) hf, fun a ha => (W.2.2.1 a (by omega)).1⟩
theorem EQ1.pr (E : EQ1 h h1 da) {f u : Nat} (hu : sz h ≤ u) (z : Option Nat) : EQ1 h (pr h1 f u z) da := ⟨E.1, fun g a ha hg => by rw [gr_na (by omega)]; exact E.2.1 g a ha hg, E.2.2⟩
theorem TL.of {lt : Nat} (T : TL h da lt l) (E : EQ1 h h1 da) (h1' : da < sz h) (h2' : lt < sz h) : TL h1 da lt l := by
  obtain ⟨t1, t2, t3, t4, t5, t6, t7, t8⟩ := T
  obtain ⟨e1, e2, e3⟩ := E
  exact ⟨by rw [e3 _ h1']; exact t1, by rw [e2 _ _ h1' (by omega)]; exact t2, by rw [e3 _ h2']; exact t3, by rw [e1 _ _ h2' (by omega)]; exact t4, by rw [e1 _ _ h2' (by omega)]; exact t5, by rw [e1 _ _ h2' (by omega)]; exact t6, by rw [e1 _ _ h2' (by omega)]; exact t7, by rw [e1 _ _ h1' (by omega)]; exact t8⟩
/-- an instruction that neither begins nor turns nor ends a label -/
theorem DNm.next (D : DSt h x B da fd fp I L sg nm r c) (M : DNm h da fd L c v) (hv : vat sg nm r c c.length = some v) (e : v.1 = l :: q) (W : WR B h h2 da (L (ps c c.length)[0]?) c.length A y X Y) (hb : isBg y.1 = false) (h5 : ¬ y.1 = 5) (h11 : ¬ y.1 = 11) (hX : X = (lbO (c ++ [y]) c.length).map L) (hY : y.1 = 16 → Y = some (fp (nt y.2.1))) (hl : bY l' = bY l) (g3 : gr h2 3 da = gr h 3 da) (g8 : gi h2 8 da = gi h 8 da) (g4 : gi h2 4 da = nI (hT l' + oW l')) (g5 : gi h2 5 da = nI due) (g6 : 0 < due → gi h2 6 da = (match w with
      | none => -1
      | some n => nI n)) (g133 : gi h2 133 fd = nI ms) (g261 : gi h2 261 (L (ps c c.length)[0]?) = (if dD l' = true then 1 else 0)) (f261 : ∀ a, a < sz h → a ≠ L (ps c c.length)[0]? → gi h2 261 a = gi h 261 a) : OUT B h h2 x da fd fp I L sg nm r c y A (l' :: q, due, w, ms) := by
  have DA := D.app (W.sw (fun z => absurd z h5) (fun z => absurd z h11)) (fun _ _ => rfl) (fun z => absurd z h5) (fun z => absurd z h11) hX hY (fun z => by rw [hb] at z; cases z)
  refine ⟨W.2.2.1, W.2.1, DA, ?_⟩
  obtain ⟨m1, m2, m3, m4, m5, m6, m7⟩ := M
  have eps : ps (c ++ [y]) (c ++ [y]).length = ps c c.length := by
    rw [len_sn, ps_oth (by rw [oA_en]; exact hb) (by rw [oA_en]; exact h11), ps_sn (Nat.le_refl _)]
  have hlen := vat_len hv (by rw [e]; exact List.cons_ne_nil _ _)
  have D14 := D.2.2.2.2.2.2.2.1
  have D16 := D.2.2.2.2.2.2.2.2.2
  unfold DNm
  rw [eps]
  refine ⟨by rw [g3]; exact m1, by rw [g8, m2, e]; rfl, g4, g5, g6, g133, fun k l2 hk => ?_⟩
  have hq := D14 (ps c c.length)[k]? (vQ_ps (Nat.le_refl _))
  have r3 : ∀ f, f = 263 ∨ f = 264 → gr h2 f (L (ps c c.length)[k]?) = gr h f (L (ps c c.length)[k]?) := fun f hf => W.2.2.2.2.2.2 f _ hq.2 (by omega) (fun z => z.2.elim (fun u => h5 u.2) (fun u => h11 u.2))
  rw [r3 263 (Or.inl rfl), r3 264 (Or.inr rfl)]
  cases k with
  | zero =>
    have hk : some l' = some l2 := hk
    cases hk
    obtain ⟨n1, n2, n3⟩ := m7 0 l (get0 e)
    exact ⟨g261, n2, by rw [hl]; exact n3⟩
  | succ k =>
    have hk1 : q[k]? = some l2 := hk
    have hk2 : v.1[k + 1]? = some l2 := by rw [e]; exact hk1
    have hkl : k + 1 < v.1.length := (List.getElem?_eq_some_iff.mp hk2).1
    obtain ⟨n1, n2, n3⟩ := m7 (k + 1) l2 hk2
    refine ⟨?_, n2, n3⟩
    rw [f261 _ hq.2 (fun z => ps_dist (by omega) (by omega) (D16 _ _ (vQ_ps (Nat.le_refl _)) (vQ_ps (Nat.le_refl _)) z))]
    exact n1
/-- take and put -/
theorem fin_T (D : DSt h x B da fd fp I L sg nm r c) (M : DNm h da fd L c v) (hv : vat sg nm r c c.length = some v) (e : v.1 = l :: q) (W : WR B h h1 da (L (ps c c.length)[0]?) c.length A y X Y) (E : EQ1 h h1 da) (hb : isBg y.1 = false) (h5 : ¬ y.1 = 5) (h11 : ¬ y.1 = 11) (hX : X = (lbO (c ++ [y]) c.length).map L) (hY : y.1 = 16 → Y = some (fp (nt y.2.1))) {t p : Nat} {k2 k3 : Hp} (e2 : k2 = pi h1 4 da (nI (hT l + (oW l - t)))) (e3 : k3 = pi (pi k2 4 da (nI (hT l + (oW l - t) + p))) 133 fd (nI (if v.2.2.2 < hT l + (oW l - t) + p then hT l + (oW l - t) + p else v.2.2.2))) (hd : v.2.1 = 0) : OUT B h k3 x da fd fp I L sg nm r c y A (sOw l (oW l - t + p) :: q, 0, v.2.2.1, mstV (sOw l (oW l - t + p) :: q) v.2.2.2) := by
  have D0 := D
  have M0 := M
  obtain ⟨-, -, -, -, -, ⟨b1, b2, b3, b4⟩, -, b5, -⟩ := D
  have hq := b5 (ps c c.length)[0]? (vQ_ps (Nat.le_refl _))
  obtain ⟨m1, m2, m3, m4, m5, m6, m7⟩ := M
  have W3 : WR B h k3 da (L (ps c c.length)[0]?) c.length A y X Y := by
    rw [e3, e2]
    exact ((W.pi _ (by omega) b1).pi _ (by omega) b1).pi _ (by omega) b3
  refine DNm.next D0 M0 hv e W3 hb h5 h11 hX hY (l' := sOw l (oW l - t + p)) rfl ?_ ?_ ?_ ?_ (fun z => absurd z (by omega)) ?_ ?_ ?_
  · rw [e3, gr_pi, gr_pi, e2, gr_pi]
    exact E.2.1 3 da b2 (by omega)
  · rw [e3, gi_ne (by decide), gi_ne (by decide), e2, gi_ne (by decide)]
    exact E.1 8 da b2 (by omega)
  · rw [e3, gi_ne (by decide), gi_eq]
    show nI (hT l + (oW l - t) + p) = nI (hT l + (oW l - t + p))
    rw [Nat.add_assoc]
  · rw [e3, gi_ne (by decide), gi_ne (by decide), e2, gi_ne (by decide), E.1 5 da b2 (by omega), m4, hd]
  · rw [e3, gi_eq]
    show nI _ = nI (if v.2.2.2 < hT l + (oW l - t + p) then hT l + (oW l - t + p) else v.2.2.2)
    rw [Nat.add_assoc]
  · rw [e3, gi_ne (by decide), gi_ne (by decide), e2, gi_ne (by decide), E.1 261 _ hq.2 (by omega)]
    exact (m7 0 l (get0 e)).1
  · intro a ha _
    rw [e3, gi_ne (by decide), gi_ne (by decide), e2, gi_ne (by decide), E.1 261 _ ha (by omega)]
/-- the rest can't be reached -/
theorem fin_D (D : DSt h x B da fd fp I L sg nm r c) (M : DNm h da fd L c v) (hv : vat sg nm r c c.length = some v) (e : v.1 = l :: q) (W : WR B h h1 da (L (ps c c.length)[0]?) c.length A y X Y) (E : EQ1 h h1 da) (hb : isBg y.1 = false) (h5 : ¬ y.1 = 5) (h11 : ¬ y.1 = 11) (hX : X = (lbO (c ++ [y]) c.length).map L) (hY : y.1 = 16 → Y = some (fp (nt y.2.1))) {k3 : Hp} (e3 : k3 = pi (pi h1 4 da (nI (hT l))) 261 (L (ps c c.length)[0]?) 1) (hd : v.2.1 = 0) : OUT B h k3 x da fd fp I L sg nm r c y A (sDie l :: q, 0, v.2.2.1, mstV (sDie l :: q) v.2.2.2) := by
  have D0 := D
  have M0 := M
  obtain ⟨-, -, -, -, -, ⟨b1, b2, b3, b4⟩, -, b5, -⟩ := D
  have hq := b5 (ps c c.length)[0]? (vQ_ps (Nat.le_refl _))
  have hmo := vat_most hv
  rw [e] at hmo
  have hmo : hT l + oW l ≤ v.2.2.2 := hmo
  have em : mstV (sDie l :: q) v.2.2.2 = v.2.2.2 := mstV_le (show hT l + 0 ≤ v.2.2.2 by omega)
  obtain ⟨m1, m2, m3, m4, m5, m6, m7⟩ := M
  have W3 : WR B h k3 da (L (ps c c.length)[0]?) c.length A y X Y := by
    rw [e3]
    exact (W.pi _ (by omega) b1).pi _ (by omega) hq.1
  rw [em]
  refine DNm.next D0 M0 hv e W3 hb h5 h11 hX hY (l' := sDie l) rfl ?_ ?_ ?_ ?_ (fun z => absurd z (by omega)) ?_ ?_ ?_
  · rw [e3, gr_pi, gr_pi]
    exact E.2.1 3 da b2 (by omega)
  · rw [e3, gi_ne (by decide), gi_ne (by decide)]
    exact E.1 8 da b2 (by omega)
  · rw [e3, gi_ne (by decide), gi_eq]
    rfl
  · rw [e3, gi_ne (by decide), gi_ne (by decide), E.1 5 da b2 (by omega), m4, hd]
  · rw [e3, gi_ne (by decide), gi_ne (by decide), E.1 133 fd b4 (by omega), m6]
  · rw [e3, gi_eq]
    rfl
  · intro a ha hne
    rw [e3, gi_na hne, gi_ne (by decide), E.1 261 _ ha (by omega)]
end NN
