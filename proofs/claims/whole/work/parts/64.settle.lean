/-! THE PURE PART, 5: the next step, and where branches go -/
def stl (c : List Ic) : Nat → Nat → Option Nat
  | 0, _ => none
  | f + 1, i => if c.length ≤ i then none else if oA c i = 2 ∨ oA c i = 3 then stl c f (i + 1) else if oA c i = 11 then stl c f (i + 1) else if oA c i = 5 then (match enF c (ps c i).length false c.length (i + 1) with
    | some e => stl c f (e + 1)
    | none => none) else some i
/-- the step that is reached from place i -/
def settle (c : List Ic) (i : Nat) : Option Nat := stl c (c.length - i) i
theorem stl_out {c : List Ic} {f i : Nat} (h : c.length ≤ i) : stl c f i = none := by
  cases f with
  | zero => rfl
  | succ f =>
    unfold stl
    rw [if_pos h]
theorem stl_more {c : List Ic} : ∀ {f g i : Nat}, c.length - i ≤ f → f ≤ g → stl c g i = stl c f i := by
  intro f
  induction f with
  | zero => intro g i h1 _; rw [stl_out (by omega), stl_out (by omega)]
  | succ f ih =>
    intro g i h1 h2
    obtain ⟨g, rfl⟩ : ∃ k, g = k + 1 := ⟨g - 1, by omega⟩
    have step : ∀ j, i < j → stl c g j = stl c f j := fun j hj => ih (by omega) (by omega)
    unfold stl
    by_cases c0 : c.length ≤ i
    · rw [if_pos c0, if_pos c0]
    rw [if_neg c0, if_neg c0]
    by_cases c1 : oA c i = 2 ∨ oA c i = 3
    · rw [if_pos c1, if_pos c1, step _ (by omega)]
    rw [if_neg c1, if_neg c1]
    by_cases c2 : oA c i = 11
    · rw [if_pos c2, if_pos c2, step _ (by omega)]
    rw [if_neg c2, if_neg c2]
    by_cases c5 : oA c i = 5
    · rw [if_pos c5, if_pos c5]
      cases he : enF c (ps c i).length false c.length (i + 1) with
      | none => rfl
      | some e =>
        have := (enF_spec he).1
        exact step _ (by omega)
    · rw [if_neg c5, if_neg c5]
theorem settle_out {c : List Ic} {i : Nat} (h : c.length ≤ i) : settle c i = none := stl_out h
theorem settle_eq {c : List Ic} {i : Nat} (hi : i < c.length) : settle c i = if oA c i = 2 ∨ oA c i = 3 then settle c (i + 1) else if oA c i = 11 then settle c (i + 1) else if oA c i = 5 then (match enF c (ps c i).length false c.length (i + 1) with
    | some e => settle c (e + 1)
    | none => none) else some i := by
  have h1 : ∀ j, i < j → settle c j = stl c (c.length - i - 1) j := fun j hj => (stl_more (Nat.le_refl _) (by omega)).symm
  show stl c (c.length - i) i = _
  rw [show c.length - i = (c.length - i - 1) + 1 by omega]
  unfold stl
  rw [if_neg (by omega), h1 _ (by omega)]
  by_cases c1 : oA c i = 2 ∨ oA c i = 3
  · rw [if_pos c1, if_pos c1]
  rw [if_neg c1, if_neg c1]
  by_cases c2 : oA c i = 11
  · rw [if_pos c2, if_pos c2]
  rw [if_neg c2, if_neg c2]
  by_cases c5 : oA c i = 5
  · rw [if_pos c5, if_pos c5]
    cases he : enF c (ps c i).length false c.length (i + 1) with
    | none => rfl
    | some e =>
      have := (enF_spec he).1
      exact (h1 _ (by omega)).symm
  · rw [if_neg c5, if_neg c5]
theorem settle_go {c : List Ic} {i : Nat} (hi : i < c.length) (h : oA c i = 2 ∨ oA c i = 3 ∨ oA c i = 11) : settle c i = settle c (i + 1) := by
  rw [settle_eq hi]
  rcases h with h | h | h
  · rw [if_pos (Or.inl h)]
  · rw [if_pos (Or.inr h)]
  · rw [if_neg (by rw [h]; decide), if_pos h]
theorem settle_else {c : List Ic} {i e : Nat} (hi : i < c.length) (h : oA c i = 5) (he : enF c (ps c i).length false c.length (i + 1) = some e) : settle c i = settle c (e + 1) := by
  rw [settle_eq hi, if_neg (by rw [h]; decide), if_neg (by rw [h]; decide), if_pos h, he]
def isStep (o : Int32) : Prop := ¬ o = 2 ∧ ¬ o = 3 ∧ ¬ o = 5 ∧ ¬ o = 11
theorem settle_step {c : List Ic} {i : Nat} (hi : i < c.length) (h : isStep (oA c i)) : settle c i = some i := by
  rw [settle_eq hi, if_neg (fun q => q.elim h.1 h.2.1), if_neg h.2.2.2, if_neg h.2.2.1]
/-- where a branch to a label goes -/
def tgt (c : List Ic) (p : Option Nat) : Option Nat := match p with
  | none => none
  | some p => if oA c p = 3 then settle c (p + 1) else match clo c p with
    | some e => settle c (e + 1)
    | none => none
section ST
variable {sg : List (Nat × Nat)} {nm r : Nat} {c : List Ic}
/-- a place that can be reached, with k operands -/
def At (sg : List (Nat × Nat)) (nm r : Nat) (c : List Ic) (i k : Nat) : Prop := ∃ v, vat sg nm r c i = some v ∧ live v.1 ∧ v.1 ≠ [] ∧ Hh v.1 = k ∧ v.2.1 = 0
theorem At.lt (hw : Wh sg nm r c) {i k : Nat} (h : At sg nm r c i k) : i < c.length := by
  obtain ⟨v, hv, -, hne, -, -⟩ := h
  by_cases hi : i < c.length
  · exact hi
  · exfalso
    obtain ⟨w, h1, h2, -⟩ := hw
    by_cases e : i = c.length
    · rw [e, h1] at hv
      cases hv
      exact hne h2
    · obtain ⟨j, rfl⟩ : ∃ j, i = j + 1 := ⟨i - 1, by omega⟩
      obtain ⟨-, x, -, hx, -⟩ := vat_succ hv
      rw [List.getElem?_eq_none (by omega)] at hx
      cases hx
theorem At.zero : At sg nm r c 0 0 := by
  refine ⟨([(0, 0, r, 0, 0, false)], 0, none, 0), rfl, fun l hl => ?_, List.cons_ne_nil _ _, rfl, rfl⟩
  rcases List.mem_cons.mp hl with e | hl
  · rw [e]; rfl
  · cases hl
theorem At.endP (hw : Wh sg nm r c) {p e : Nat} (hp : p < c.length) (hb : isBg (oA c p) = true) (he : clo c p = some e) {vp : VS} {l0 : Lb} {q : List Lb} (hv : vat sg nm r c (p + 1) = some vp) (e1 : vp.1 = l0 :: q) (hl : live q) : At sg nm r c (e + 1) (hT l0 + nt (bA c p)) := by
  obtain ⟨vp', ve, l0', q', h1, h2, h3, h4, h5, h6, -, -, -, -, -, h9⟩ := behind_end hw hp hb he
  rw [hv] at h1
  cases h1
  rw [e1] at h3
  cases h3
  refine ⟨ve, h2, by rw [h4]; exact live_bump hl _, ?_, by rw [h4, Hh_bump h5, h6], h9⟩
  rw [h4]
  cases q with
  | nil => exact absurd rfl h5
  | cons y ys => exact List.cons_ne_nil _ _
theorem At.go (hw : Wh sg nm r c) {i k : Nat} (h : At sg nm r c i k) (ho : oA c i = 2 ∨ oA c i = 3) : At sg nm r c (i + 1) k := by
  have hi := h.lt hw
  obtain ⟨v, hv, hl, hne, hk, h0⟩ := h
  obtain ⟨v1, v', x, hv1, hv', hx, hs, -⟩ := hw.at hi
  rw [hv] at hv1
  cases hv1
  have hox := oA_of hx
  have h6 : ¬ x.1 = 6 := by rw [← hox]; rcases ho with h | h <;> (rw [h]; decide)
  have h14 : ¬ x.1 = 14 := by rw [← hox]; rcases ho with h | h <;> (rw [h]; decide)
  obtain ⟨-, -, hz⟩ := vstep_ctl hs h6 h14
  have hbg : isBg x.1 = true := by rw [← hox]; rcases ho with h | h <;> (rw [h]; decide)
  rcases vstep_shape hs with ⟨-, l, q, e1, -, -, hh, e2⟩ | ⟨hb, -⟩ | ⟨hb, -⟩
  · rw [e1] at hl hk
    have hd := hl l List.mem_cons_self
    have hn : blkN x.1 (nt x.2.1) = nt x.2.1 := by
      unfold blkN
      rw [if_neg (by rw [← hox]; rcases ho with h | h <;> (rw [h]; decide))]
    rw [hn] at hh e2
    have hle := has_live hh hd
    refine ⟨v', hv', ?_, by rw [e2]; exact List.cons_ne_nil _ _, ?_, hz⟩
    · rw [e2]
      intro y hy
      rcases List.mem_cons.mp hy with e | hy
      · rw [e]; rfl
      · rcases List.mem_cons.mp hy with e | hy
        · rw [e]; exact hd
        · exact hl y (List.mem_cons_of_mem _ hy)
    · rw [e2, ← hk]
      show hT l + (oW l - nt x.2.1) + nt x.2.1 = hT l + oW l
      omega
  · rw [hb] at hbg; cases hbg
  · rw [hb] at hbg; cases hbg
/-- END -/
theorem At.fin (hw : Wh sg nm r c) {i k : Nat} (h : At sg nm r c i k) (ho : oA c i = 11) : (i + 1 = c.length ∧ k = r) ∨ (i + 1 < c.length ∧ At sg nm r c (i + 1) k) := by
  have hi := h.lt hw
  obtain ⟨v, hv, hl, hne, hk, h0⟩ := h
  obtain ⟨v1, v', x, hv1, hv', hx, hs, -⟩ := hw.at hi
  rw [hv] at hv1
  cases hv1
  have hox := oA_of hx
  obtain ⟨e0, -, hz⟩ := vstep_ctl hs (by rw [← hox, ho]; decide) (by rw [← hox, ho]; decide)
  rcases vstep_shape hs with ⟨hb, -⟩ | ⟨-, -, l, q, e1, hd, -, e2⟩ | ⟨-, hb, -⟩
  · rw [← hox, ho] at hb; cases hb
  · rw [e1] at hl hk
    have hdl := hl l List.mem_cons_self
    have hog := done_live hd hdl
    have hch := vat_chain hv
    rw [e1] at hch
    cases q with
    | nil =>
      obtain ⟨-, -, g3, g4⟩ := vat_last hv (l := l) (by rw [e1]; rfl)
      left
      refine ⟨?_, ?_⟩
      · by_cases hn : i + 1 < c.length
        · exfalso
          obtain ⟨v2, v3, x2, hv2, -, -, -, hne2⟩ := hw.at hn
          rw [hv'] at hv2
          cases hv2
          exact hne2 e2
        · omega
      · rw [← hk]
        show hT l + oW l = r
        omega
    | cons y ys =>
      right
      have hA : At sg nm r c (i + 1) k := by
        refine ⟨v', hv', ?_, by rw [e2]; exact List.cons_ne_nil _ _, ?_, hz⟩
        · rw [e2]
          exact live_bump (fun z hz => hl z (List.mem_cons_of_mem _ hz)) _
        · rw [e2, Hh_bump (List.cons_ne_nil _ _), ← hk]
          show hT y + oW y + gV l = hT l + oW l
          have := hch.1
          omega
      exact ⟨hA.lt hw, hA⟩
  · exact absurd (hox.symm.trans ho) hb
/-- ELSE, come to from above -/
theorem At.elsP (hw : Wh sg nm r c) {i k : Nat} (h : At sg nm r c i k) (ho : oA c i = 5) : ∃ e, enF c (ps c i).length false c.length (i + 1) = some e ∧ i < e ∧ e + 1 < c.length ∧ oA c e = 11 ∧ At sg nm r c (e + 1) k := by
  have hi := h.lt hw
  obtain ⟨v, hv, hl, hne, hk, h0⟩ := h
  obtain ⟨v1, v', x, hv1, hv', hx, hs, -⟩ := hw.at hi
  rw [hv] at hv1
  cases hv1
  have hox := oA_of hx
  obtain ⟨e0, -, hz⟩ := vstep_ctl hs (by rw [← hox, ho]; decide) (by rw [← hox, ho]; decide)
  unfold vctl at e0
  rw [← hox, ho, if_neg (by decide), if_neg (by decide), if_neg (by decide), if_pos rfl] at e0
  obtain ⟨l, q, e1, d1, d2, -⟩ := elseV_inv e0
  have hlen := vat_len hv hne
  cases hp : ps c i with
  | nil =>
    rw [e1, hp] at hlen
    have hq : q = [] := List.length_eq_zero_iff.mp (by simpa using hlen)
    subst hq
    obtain ⟨g1, -⟩ := vat_last hv (l := l) (by rw [e1]; rfl)
    rw [g1] at d1
    cases d1
  | cons p t =>
    obtain ⟨hpi, hpb⟩ := ps_lt (c := c) (i := i) (k := 0) (p := p) (by rw [hp]; rfl)
    obtain ⟨vp, l0, l', g1, g2, g3, g4, g5, g6, g7, g8, g9⟩ := snap hv (k := 0) (p := p) (by rw [hp]; rfl)
    rw [e1] at g2 g3 hl hk
    cases g3
    have hpt : t = ps c p := by
      have := ps_below (c := c) (i := i) (k := 0) (p := p) (by rw [hp]; rfl)
      rw [hp] at this
      exact this
    obtain ⟨e, c1, c2, c3⟩ := hw.else_cl (p := p) (q := i) (by omega) hpb (by rw [ho]; decide) (by rw [hp, hpt])
    obtain ⟨e', b1, b2, b3, b4, b5⟩ := hw.cl (p := p) (by omega) hpb
    rw [c1] at b1
    cases b1
    refine ⟨e, by rw [← hp]; exact c3, c2, b3, b4, ?_⟩
    have hA := At.endP hw (p := p) (by omega) hpb c1 g1 g2 (fun z hz => hl z (List.mem_cons_of_mem _ hz))
    have hog := done_live d2 (hl l List.mem_cons_self)
    rw [← hk]
    show At sg nm r c (e + 1) (hT l + oW l)
    rw [hog, g4.2.1, g7, g4.2.2.1]
    exact hA
/-- a place that can be reached settles at a step with the same operands, or at the end with the results -/
theorem At.stle (hw : Wh sg nm r c) : ∀ (n i k : Nat), c.length - i ≤ n → At sg nm r c i k → (∃ j, settle c i = some j ∧ i ≤ j ∧ At sg nm r c j k ∧ isStep (oA c j)) ∨ (settle c i = none ∧ k = r) := by
  intro n
  induction n with
  | zero =>
    intro i k h1 h
    have := h.lt hw
    omega
  | succ n ih =>
    intro i k h1 h
    have hi := h.lt hw
    by_cases c1 : oA c i = 2 ∨ oA c i = 3
    · rw [settle_go hi (by rcases c1 with h | h; exact Or.inl h; exact Or.inr (Or.inl h))]
      rcases ih (i + 1) k (by omega) (h.go hw c1) with ⟨j, g1, g2, g3⟩ | g
      · exact Or.inl ⟨j, g1, by omega, g3⟩
      · exact Or.inr g
    · by_cases c2 : oA c i = 11
      · rw [settle_go hi (Or.inr (Or.inr c2))]
        rcases h.fin hw c2 with ⟨g1, g2⟩ | ⟨g1, g2⟩
        · exact Or.inr ⟨settle_out (by omega), g2⟩
        · rcases ih (i + 1) k (by omega) g2 with ⟨j, g1, g2, g3⟩ | g
          · exact Or.inl ⟨j, g1, by omega, g3⟩
          · exact Or.inr g
      · by_cases c5 : oA c i = 5
        · obtain ⟨e, g1, g2, g3, g4, g5⟩ := h.elsP hw c5
          rw [settle_else hi c5 g1]
          rcases ih (e + 1) k (by omega) g5 with ⟨j, g1, g2, g3⟩ | g
          · exact Or.inl ⟨j, g1, by omega, g3⟩
          · exact Or.inr g
        · have hst : isStep (oA c i) := ⟨fun q => c1 (Or.inl q), fun q => c1 (Or.inr q), c5, c2⟩
          exact Or.inl ⟨i, settle_step hi hst, Nat.le_refl _, h, hst⟩
end ST
