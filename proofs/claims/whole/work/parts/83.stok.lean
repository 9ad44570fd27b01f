/-! THE RUN, 3: a step keeps what holds of the frames -/
section SK
variable {P : List Fn} {f b0 i : Nat} {g : Fn} {r : List Fm} {w : Wd} {tb : Nat → Option Nat}
/-- the top frame at a step: its operands -/
theorem OKR.top (h : OKR P ((f, b0, some i) :: r) w) : ∃ g k, P[f]? = some g ∧ w.1 = b0 + (fP g + fL g) + k ∧ k ≤ moF P f ∧ At (sgs (P.take (f + 1))) (fP g + fL g) (fR g) (fC g) i k ∧ isStep (oA (fC g) i) ∧ (r = [] → b0 = 0) ∧ FrOK P (b0 + fR g) r ∧ askN P f + askF P r ≤ 220 ∧ b0 + askN P f ≤ 220 ∧ r.length + 1 ≤ 30 := by
  obtain ⟨h1, -, h3, h4, -, -⟩ := h
  have hb := h1.base
  obtain ⟨g, hg, ⟨k, hn, hk, hA, hs⟩, hr0, hr⟩ := h1
  have h4 : askN P f + askF P r ≤ 220 := h4
  exact ⟨g, k, hg, hn, hk, hA, hs, hr0, hr, h4, by omega, by simpa using h3⟩
theorem OKR.mk {p : Option Nat} {w2 : Wd} {k : Nat} (h : OKR P ((f, b0, some i) :: r) w) (hg : P[f]? = some g) (hn : w2.1 = b0 + (fP g + fL g) + k) (hk : k ≤ moF P f) (hp : match p with
      | some i => At (sgs (P.take (f + 1))) (fP g + fL g) (fR g) (fC g) i k ∧ isStep (oA (fC g) i)
      | none => k = fR g) (hpg : 1 ≤ w2.2.2.1 ∧ w2.2.2.1 ≤ 6) : OKR P ((f, b0, p) :: r) w2 := by
  obtain ⟨g1, k1, hg1, -, -, -, -, hr0, hr, h4, -, h30⟩ := h.top
  rw [hg] at hg1
  cases hg1
  exact ⟨⟨g, hg, ⟨k, hn, hk, hp⟩, hr0, hr⟩, List.cons_ne_nil _ _, by simpa using h30, h4, hpg⟩
theorem brA_ok (hW : WhP P) (h : OKR P ((f, b0, some i) :: r) w) (hg : P[f]? = some g) {k : Nat} (hA : At (sgs (P.take (f + 1))) (fP g + fL g) (fR g) (fC g) i k) {v : VS} (hv : vat (sgs (P.take (f + 1))) (fP g + fL g) (fR g) (fC g) i = some v) {j : Nat} {lb : Lb} (hj : v.1[j]? = some lb) (hle : hT lb + wantL lb ≤ k) (w1 : Wd) (hpg : w1.2.2 = w.2.2) : ∃ y, brA P f b0 g i j r w1 = .inr y ∧ OKR P y.1 y.2 ∧ y = ((f, b0, tgt (fC g) (ps (fC g) i)[j]?) :: r, (b0 + (fP g + fL g) + hT lb + wantL lb, kp w1.2.1 (w1.1 - wantL lb) (b0 + (fP g + fL g) + hT lb) (wantL lb), w1.2.2)) := by
  have e : brA P f b0 g i j r w1 = .inr ((f, b0, tgt (fC g) (ps (fC g) i)[j]?) :: r, (b0 + (fP g + fL g) + hT lb + wantL lb, kp w1.2.1 (w1.1 - wantL lb) (b0 + (fP g + fL g) + hT lb) (wantL lb), w1.2.2)) := by
    unfold brA vk
    rw [hv]
    dsimp only
    rw [hj]
  refine ⟨_, e, ?_, rfl⟩
  have hm := hA.most hW hg
  refine h.mk (k := hT lb + wantL lb) hg (by dsimp only; omega) (by omega) ?_ (by dsimp only; rw [hpg]; exact h.2.2.2.2)
  rcases hA.br (hW f g hg).1 hv hj with ⟨q, e1, h1, h2⟩ | ⟨e1, h1⟩
  · rw [e1]; exact ⟨h1, h2⟩
  · rw [e1]; exact h1
theorem enA_ok (hW : WhP P) {f2 : Nat} {g2 : Fn} {p : Option Nat} {k : Nat} {w1 : Wd} {y : List Fm × Wd} (h : OKR P ((f, b0, some i) :: r) w) (hg : P[f]? = some g) (hg2 : P[f2]? = some g2) (hn : w1.1 = b0 + (fP g + fL g) + k) (hk2 : fP g2 ≤ k) (hk : k - fP g2 + fR g2 ≤ moF P f) (hp : match p with
      | some i => At (sgs (P.take (f + 1))) (fP g + fL g) (fR g) (fC g) i (k - fP g2 + fR g2) ∧ isStep (oA (fC g) i)
      | none => k - fP g2 + fR g2 = fR g) (hpg : w1.2.2 = w.2.2) (he : enA P f2 ((f, b0, p) :: r) w1 = .inr y) : OKR P y.1 y.2 := by
  unfold enA at he
  rw [hg2] at he
  dsimp only at he
  split at he
  · cases he
  · rename_i hc
    cases he
    have h2 := h.mk (k := k - fP g2 + fR g2) (w2 := (b0 + (fP g + fL g) + (k - fP g2 + fR g2), w1.2)) hg rfl hk hp (by dsimp only; rw [hpg]; exact h.2.2.2.2)
    obtain ⟨h21, -, h23, h24, h25, h26⟩ := h2
    have hz := (At.zero (sg := sgs (P.take (f2 + 1))) (nm := fP g2 + fL g2) (r := fR g2) (c := fC g2)).stp hW hg2
    refine ⟨⟨g2, hg2, ⟨0, by dsimp only; omega, hz⟩, fun e => by (cases e), ?_⟩, List.cons_ne_nil _ _, ?_, ?_, by dsimp only; rw [hpg]; exact h.2.2.2.2⟩
    · have e : b0 + (fP g + fL g) + (k - fP g2 + fR g2) = w1.1 - fP g2 + fR g2 := by omega
      have h21 : FrOK P (b0 + (fP g + fL g) + (k - fP g2 + fR g2)) ((f, b0, p) :: r) := h21
      rw [e] at h21
      exact h21
    · have : ((f, b0, p) :: r).length ≠ 30 := fun e => hc (Or.inl e)
      simp at this h23 ⊢
      omega
    · have : ¬ 220 < askF P ((f, b0, p) :: r) + askN P f2 := fun e => hc (Or.inr e)
      show askN P f2 + askF P ((f, b0, p) :: r) ≤ 220
      omega
theorem lastLb {v : VS} {c : List Ic} {sg : List (Nat × Nat)} {nm r : Nat} {i : Nat} (hv : vat sg nm r c i = some v) (hne : v.1 ≠ []) : ∃ lb, v.1[(ps c i).length]? = some lb ∧ hT lb = 0 ∧ wantL lb = r := by
  have hl := vat_len hv hne
  have e : v.1[(ps c i).length]? = v.1.getLast? := by
    rw [List.getLast?_eq_getElem?, hl]
    rfl
  cases hx : v.1.getLast? with
  | none => exact absurd (List.getLast?_eq_none_iff.mp hx) hne
  | some lb =>
    obtain ⟨h1, h2, h3, h4⟩ := vat_last hv hx
    refine ⟨lb, by rw [e, hx], h4, ?_⟩
    unfold wantL
    rw [if_neg (by omega), h3]
theorem stA_ok (hW : WhP P) (hT : ∀ j f2, tb j = some f2 → f2 < P.length) (h : OKR P ((f, b0, some i) :: r) w) {y : List Fm × Wd} (he : stA P tb f b0 i r w = .inr y) : OKR P y.1 y.2 := by
  obtain ⟨g, k, hg, hn, hk, hA, hs, hr0, hr, h4, h5, h30⟩ := h.top
  have hpg := h.2.2.2.2
  have hw := (hW f g hg).1
  unfold stA at he
  rw [hg] at he
  dsimp only at he
  by_cases c0 : oA (fC g) i = 0
  · rw [if_pos c0] at he; cases he
  rw [if_neg c0] at he
  by_cases c4 : oA (fC g) i = 4
  · rw [if_pos c4] at he
    obtain ⟨h1, h2, q, h3, -, -, -, h6⟩ := hA.iff hw c4
    cases he
    split
    · have e : elG (fC g) i = settle (fC g) (q + 1) := by unfold elG; rw [h3]
      rw [e]
      have := h6.stp hW hg
      exact h.mk hg (k := k - 1) (by dsimp only; omega) this.1 this.2 hpg
    · have := h2.stp hW hg
      exact h.mk hg (k := k - 1) (by dsimp only; omega) this.1 this.2 hpg
  rw [if_neg c4] at he
  by_cases c12 : oA (fC g) i = 12
  · rw [if_pos c12] at he
    obtain ⟨v, lb, hv, -, hj, hle⟩ := hA.b12 hw c12
    obtain ⟨y2, e2, h2, -⟩ := brA_ok hW h hg hA hv hj hle w rfl
    rw [e2] at he
    cases he
    exact h2
  rw [if_neg c12] at he
  by_cases c13 : oA (fC g) i = 13
  · rw [if_pos c13] at he
    obtain ⟨v, lb, hv, -, hj, hle, h7⟩ := hA.b13 hw c13
    split at he
    · cases he
      have := h7.stp hW hg
      exact h.mk hg (k := k - 1) (by dsimp only; omega) this.1 this.2 hpg
    · obtain ⟨y2, e2, h2, -⟩ := brA_ok hW h hg hA hv hj (by omega) (w.1 - 1, w.2) rfl
      rw [e2] at he
      cases he
      exact h2
  rw [if_neg c13] at he
  by_cases c14 : oA (fC g) i = 14
  · rw [if_pos c14] at he
    obtain ⟨-, -, v, hv, hall⟩ := hA.tab hw c14
    obtain ⟨-, -, -, -, lb, hj, hle⟩ := hall (min (lwN (w.2.1 (w.1 - 1))) (nt (aA (fC g) i))) (Nat.min_le_right _ _)
    obtain ⟨y2, e2, h2, -⟩ := brA_ok hW h hg hA hv hj (by omega) (w.1 - 1, w.2) rfl
    rw [e2] at he
    cases he
    exact h2
  rw [if_neg c14] at he
  by_cases c15 : oA (fC g) i = 15
  · rw [if_pos c15] at he
    have hA2 := hA
    obtain ⟨v, hv, -, hne, -, -⟩ := hA
    obtain ⟨lb, hj, hz, hwt⟩ := lastLb hv hne
    have hle := hA2.b15 hw c15
    obtain ⟨y2, e2, h2, -⟩ := brA_ok hW h hg hA2 hv hj (by omega) w rfl
    rw [e2] at he
    cases he
    exact h2
  rw [if_neg c15] at he
  by_cases c16 : oA (fC g) i = 16
  · rw [if_pos c16] at he
    obtain ⟨ha, s, hs1, hs2, hs3⟩ := hA.call hw c16
    have hs1' := hs1
    unfold sgs at hs1
    rw [List.getElem?_map] at hs1
    cases hg2 : (P.take (f + 1))[nt (aA (fC g) i)]? with
    | none => rw [hg2] at hs1; cases hs1
    | some g2 =>
      rw [hg2] at hs1
      cases hs1
      have hg3 : P[nt (aA (fC g) i)]? = some g2 := by
        have hlt := (List.getElem?_eq_some_iff.mp hg2).1
        rw [List.getElem?_take] at hg2
        split at hg2
        · exact hg2
        · cases hg2
      have := hs3.stp hW hg
      exact enA_ok hW h hg hg3 hn hs2 this.1 this.2 rfl he
  rw [if_neg c16] at he
  by_cases c17 : oA (fC g) i = 17
  · rw [if_pos c17] at he
    obtain ⟨ha, hb, hle, hn2⟩ := hA.callt hw c17
    split at he
    · cases he
    · split at he
      · cases he
      · split at he
        · cases he
        · rename_i f2 htb _ g2 hg2
          split at he
          · rename_i hsg
            have e1 : nt (aA (fC g) i) = fP g2 := by
              rw [← hsg.1]
              exact nck (by have := (hW f2 g2 hg2).2.1; omega)
            have e2 : nt (bA (fC g) i) = fR g2 := by
              rw [← hsg.2]
              exact nck (by have := (hW f2 g2 hg2).2.2.1; omega)
            rw [e1, e2] at hn2
            rw [e1] at hle
            have e3 : k - (1 + fP g2) + fR g2 = k - 1 - fP g2 + fR g2 := by omega
            rw [e3] at hn2
            have := hn2.stp hW hg
            exact enA_ok (w1 := (w.1 - 1, w.2)) hW h hg hg2 (k := k - 1) (by dsimp only; omega) (by omega) this.1 this.2 rfl he
          · cases he
  rw [if_neg c17] at he
  split at he
  · cases he
  · rename_i w2 hw2
    cases he
    obtain ⟨n, v, p, bb, gl⟩ := w
    by_cases c1 : oA (fC g) i = 1
    · have := (hA.nop hw c1).stp hW hg
      rw [c1, smp_1] at hw2
      cases hw2
      exact h.mk hg (k := k) hn this.1 this.2 hpg
    · have hb : isBg (oA (fC g) i) = false := by
        unfold isBg
        rw [decide_eq_false hs.1, decide_eq_false hs.2.1, decide_eq_false c4]
        rfl
      have h6 : ¬ oA (fC g) i = 6 := by
        intro e
        obtain ⟨v1, v2, x, hv, -, hx, hst, -, -, -, h0⟩ := hA.v hw
        rw [oA_of hx] at e
        unfold vstep at hst
        rw [if_neg (by omega), if_pos e] at hst
        cases hst
      obtain ⟨t, q, ha, ht, hA2⟩ := hA.arp hw c0 c1 hb hs.2.2.1 h6 hs.2.2.2 c12 c13 c14 c15 c16 c17
      have hn : n = b0 + (fP g + fL g) + k := hn
      obtain ⟨e1, e2⟩ := smp_n ha (by dsimp only; omega) hpg hw2
      have := hA2.stp hW hg
      dsimp only at e1
      exact h.mk hg (k := k - t + q) (by show w2.1 = _; omega) this.1 this.2 e2
theorem lvS_ok {tr : Int32} {fr : List Fm} {w : Wd} (hW : WhP P) (h : OKR P fr w) : OKS P (lvS P tr fr w) := by
  obtain ⟨h1, h2, h3, h4, h5⟩ := h
  obtain ⟨k1, k2, k3, k4, k5⟩ := lvF_ok (v := w.2.1) h1 h3 h4 h2
  unfold lvS
  split
  rename_i fr2 n2 v2 e
  rw [e] at k1 k2 k3 k4 k5
  dsimp only at k1 k2 k3 k4 k5
  refine ⟨h5.1, h5.2, fun e1 => ?_, fun e2 => ?_⟩
  · dsimp only at e1
    have hne : fr2 ≠ [] := by
      intro z
      rw [if_pos z] at e1
      cases e1
    rcases k4 with z | z
    · exact absurd z hne
    · exact ⟨⟨k1, hne, k2, k3, h5⟩, z⟩
  · dsimp only at e2 ⊢
    by_cases z : fr2 = []
    · obtain ⟨f, g, hg, e⟩ := k5 z
      rw [e]
      exact (hW f g hg).2.2.1
    · rw [if_neg z] at e2
      cases e2
theorem afS_ok {tr : Int32} {w : Wd} {x : Int32 ⊕ (List Fm × Wd)} (hW : WhP P) (hw : 1 ≤ w.2.2.1 ∧ w.2.2.1 ≤ 6) (h : ∀ y, x = .inr y → OKR P y.1 y.2) : OKS P (afS P tr w x) := by
  cases x with
  | inl c =>
    unfold afS
    dsimp only
    split
    · exact ⟨hw.1, hw.2, fun e => absurd (show (4 : Int32) = 1 from e) (by decide), fun e => absurd (show (4 : Int32) = 2 from e) (by decide)⟩
    · exact ⟨hw.1, hw.2, fun e => absurd (show (3 : Int32) = 1 from e) (by decide), fun e => absurd (show (3 : Int32) = 2 from e) (by decide)⟩
  | inr y => exact lvS_ok hW (h y rfl)
theorem stS_ok {s : RS} (hW : WhP P) (hT : ∀ j f2, tb j = some f2 → f2 < P.length) (h : OKS P s) (h1 : s.1 = 1) : OKS P (stS P tb s) := by
  obtain ⟨p1, p2, p3, p4⟩ := h
  obtain ⟨h2, f, b, i, r, e⟩ := p3 h1
  obtain ⟨st, tr, fr, w⟩ := s
  have e : fr = (f, b, some i) :: r := e
  subst e
  exact afS_ok hW ⟨p1, p2⟩ (fun y hy => stA_ok hW hT h2 hy)
end SK
