/-! THE REFERENCE, 6: entries of tables -/
abbrev F6 : Nat → Prop := fun f => f = 653 ∨ f = 654 ∨ f = 655 ∨ f = 656
theorem chain_sum {ls : List Lb} (h : chain ls) : ∀ l ∈ ls, hT l + oW l ≤ Hh ls := by
  induction ls with
  | nil => intro l hl; cases hl
  | cons y ys ih =>
    intro l hl
    rcases List.mem_cons.mp hl with e | hl
    · rw [e]; exact Nat.le_refl _
    · have h1 := ih (chain_tail h) l hl
      cases ys with
      | nil => cases hl
      | cons z zs =>
        have h2 : hT y = hT z + oW z := h.1
        have h3 : Hh (z :: zs) = hT z + oW z := rfl
        have h4 : Hh (y :: z :: zs) = hT y + oW y := rfl
        omega
section ML
variable {h : Hp} {m : Nat} {ls : List Lb} {Q : Option TV → Hp → Prop} {a b : Int32}
theorem s_c14 (G : LG h m ls) (k : if wi a 20 then (match turnV ls 1 0 with
    | some ls' => ∀ h', VW m F6 h h' → LA h' m ls' → gi h' 653 m = nI ls'.length → gi h' 654 m = nI (nt a + 1) → gi h' 656 m = 1 → gi h' 655 m = gi h 655 m → ai h' (m + 10) = ai h (m + 10) → Q (some (tI 1)) h'
    | none => Q (some (tI 0)) h) else Q (some (tI 0)) h) : tX11_control m 14 a b h Q := by
  obtain ⟨hm, hl, hlen, hA, hs, hne⟩ := G
  refine wX11_control m 14 a b h Q ?_
  rw [if_neg (by decide), if_neg (by decide), if_neg (by decide), if_neg (by decide), if_neg (by decide), if_neg (by decide), if_neg (by decide), if_neg (by decide), if_neg (by decide), if_pos rfl]
  refine ⟨hm.1, wX11_entries m a h _ (s_within (rI_of ?_))⟩
  by_cases c1 : wi a 20
  · rw [if_pos c1] at k
    rw [if_pos c1, if_neg (by decide)]
    cases ls with
    | nil => exact absurd rfl hne
    | cons l r =>
      have hr : r.length < 1501 := by simp at hlen; omega
      have hsl := hs l List.mem_cons_self
      have hl : gi h 653 m = nI (r.length + 1) := hl
      unfold turnV at k
      dsimp only at k
      refine ⟨hm.1, s_has (n := 1) hm hl hr hA hsl (by decide) (rI_of ?_)⟩
      by_cases c2 : hasB l 1 = true
      · rw [if_pos c2] at k
        rw [if_pos c2, if_neg (by decide)]
        dsimp only at k
        refine ⟨hm.1, s_take (n := 1) hm hl hr hA hsl (by decide) (rV_of ⟨hm.1, fun h1 e1 => ?_⟩)⟩
        have m1 : MS h1 m := by rw [e1]; exact hm
        refine ⟨m1.1, fun h2 e2 => rI_of ⟨Or.inr rfl, k h2 ?_ ?_ ?_ ?_ ?_ ?_ ?_⟩⟩
        · rw [e2, e1]
          exact (VW_si _ _ _ (by omega)).tr ((VW_pi _ _ (Or.inr (Or.inl rfl))).tr (VW_pi _ _ (Or.inr (Or.inr (Or.inr rfl)))))
        · refine LA_oth (LA_own (n := oW l - 1 + 0) hA) (fun x _ _ => ?_)
          rw [e2, e1]
          rfl
        · rw [e2, e1]
          exact hl
        · rw [e2, gi_pi, if_neg (fun q => absurd q.1 (by decide)), e1, gi_pi, if_pos ⟨rfl, rfl⟩, nI_succ, nI_nt c1.1]
        · rw [e2, gi_pi, if_pos ⟨rfl, rfl⟩]
        · rw [e2, gi_pi, if_neg (fun q => absurd q.1 (by decide)), e1, gi_pi, if_neg (fun q => absurd q.1 (by decide))]
          rfl
        · rw [e2, e1]
          funext j
          exact ai_oth (by omega) j
      · rw [if_neg c2] at k
        rw [if_neg c2, if_pos rfl]
        exact rI_of ⟨Or.inl rfl, k⟩
  · rw [if_neg c1] at k
    rw [if_neg c1, if_pos rfl]
    exact rI_of ⟨Or.inl rfl, k⟩
/-- what is known of the entries that are due -/
def EN (h : Hp) (m lf : Nat) (w : Option Nat) : Prop := gi h 654 m = nI lf ∧ lf ≤ 21 ∧ (0 < lf → match w with
  | none => gi h 656 m = 1
  | some n => gi h 656 m = 0 ∧ gi h 655 m = nI n ∧ n < 100)
theorem s_entryTo {lf : Nat} {w : Option Nat} {l : Lb} {r : List Lb} (G : LG h m (l :: r)) (hE : EN h m lf w) (h0 : 0 < lf) (k : match labAt (l :: r) a with
    | none => Q (some (tI 0)) h
    | some t => if okE w l t = true then (∀ h', VW m F6 h h' → LA h' m (if lf = 1 then sDie l :: r else l :: r) → gi h' 653 m = nI (r.length + 1) → gi h' 654 m = nI (lf - 1) → gi h' 656 m = 0 → gi h' 655 m = nI (wantL t) → ai h' (m + 10) = ai h (m + 10) → Q (some (tI 1)) h') else Q (some (tI 0)) h) : tX11_entryTo m a h Q := by
  obtain ⟨hm, hl, hlen, hA, hs, hne⟩ := G
  obtain ⟨g4, glf, gw⟩ := hE
  have gw := gw h0
  have hr : r.length < 1501 := by simp at hlen; omega
  have hr2 : r.length < 2147483648 := by omega
  have hl1 : gi h 653 m = nI (r.length + 1) := hl
  refine wX11_entryTo m a h Q ⟨hm.1, ?_⟩
  rw [if_neg (by rw [g4]; exact nI_ne0 h0 (by omega))]
  refine ⟨hm.1, s_isLabel hm hl1 (by omega) (rI_of ?_)⟩
  rcases labAt_of (a := a) (ls := l :: r) (n := r.length) rfl with ⟨t, q, h1, h2, h3⟩ | ⟨h1, h3⟩
  · rw [h1] at k
    dsimp only at k
    rw [if_pos h3, if_neg (by decide)]
    have hst : SmL t := hs t (List.mem_of_mem_drop (by rw [h2]; exact List.mem_cons_self))
    have hw := wantL_lt hst
    have ha : nI (nt a) = a := nI_nt h3.1
    have hwants : ∀ Q' : Option TV → Hp → Prop, Q' (some (tI (nI (wantL t)))) h → tX11_wants m a h Q' := by
      intro Q' kk
      have := s_wants (Q := Q') hm hl (by omega) hA h2 hst kk
      rw [ha] at this
      exact this
    have main : (∀ h', VW m F6 h h' → LA h' m (if lf = 1 then sDie l :: r else l :: r) → gi h' 653 m = nI (r.length + 1) → gi h' 654 m = nI (lf - 1) → gi h' 656 m = 0 → gi h' 655 m = nI (wantL t) → ai h' (m + 10) = ai h (m + 10) → Q (some (tI 1)) h') → tX11_entryTo_53 m a h Q := by
      intro kk
      refine wX11_entryTo_53 m a h Q ⟨hm.1, hwants _ (rI_of ⟨hm.1, fun h1 e1 => ?_⟩)⟩
      have m1 : MS h1 m := by rw [e1]; exact hm
      refine ⟨m1.1, fun h2 e2 => ?_⟩
      have m2 : MS h2 m := by rw [e2]; exact m1
      refine ⟨m2.1, m2.1, fun h3 e3 => ?_⟩
      have m3 : MS h3 m := by rw [e3]; exact m2
      have x4 : gi h2 654 m = nI lf := by
        rw [e2, gi_pi, if_neg (fun q => absurd q.1 (by decide)), e1, gi_pi, if_neg (fun q => absurd q.1 (by decide)), g4]
      rw [x4, show (1 : Int32) = nI 1 from rfl, nJ_sub (by omega)] at e3
      have y4 : gi h3 654 m = nI (lf - 1) := by rw [e3, gi_pi, if_pos ⟨rfl, rfl⟩]
      have y6 : gi h3 656 m = 0 := by
        rw [e3, gi_pi, if_neg (fun q => absurd q.1 (by decide)), e2, gi_pi, if_pos ⟨rfl, rfl⟩]
      have y5 : gi h3 655 m = nI (wantL t) := by
        rw [e3, gi_pi, if_neg (fun q => absurd q.1 (by decide)), e2, gi_pi, if_neg (fun q => absurd q.1 (by decide)), e1, gi_pi, if_pos ⟨rfl, rfl⟩]
      have y3 : gi h3 653 m = nI (r.length + 1) := by
        rw [e3, gi_pi, if_neg (fun q => absurd q.1 (by decide)), e2, gi_pi, if_neg (fun q => absurd q.1 (by decide)), e1, gi_pi, if_neg (fun q => absurd q.1 (by decide)), hl1]
      have ya : ai h3 = ai h := by rw [e3, e2, e1]; rfl
      have w3 : VW m F6 h h3 := by
        rw [e3, e2, e1]
        exact (VW_pi _ _ (Or.inr (Or.inr (Or.inl rfl)))).tr ((VW_pi _ _ (Or.inr (Or.inr (Or.inr rfl)))).tr (VW_pi _ _ (Or.inr (Or.inl rfl))))
      have hA3 : LA h3 m (l :: r) := LA_oth hA (fun x _ _ => by rw [ya])
      refine ⟨m3.1, ?_⟩
      rw [y4]
      by_cases c : lf = 1
      · rw [if_pos (by rw [c]; rfl)]
        rw [if_pos c] at kk
        refine ⟨m3.1, s_die m3 y3 hr (rV_of (kk _ (w3.tr ((VW_si _ _ _ (by omega)).tr (VW_si _ _ _ (by omega)))) (LA_die hA3) y3 y4 y6 y5 ?_))⟩
        funext j
        rw [ai_oth (by omega), ai_oth (by omega), ya]
      · rw [if_neg (nI_ne0 (by omega) (by omega))]
        rw [if_neg c] at kk
        exact kk h3 w3 hA3 y3 y4 y6 y5 (by rw [ya])
    cases w with
    | none =>
      dsimp only at gw
      refine ⟨hm.1, ?_⟩
      rw [gw, if_neg (by decide)]
      refine ⟨hm.1, hwants _ (rI_of ⟨hm.1, s_has hm hl1 hr hA (hs l List.mem_cons_self) (by omega) (rI_of ?_)⟩)⟩
      have ho : okE none l t = hasB l (wantL t) := rfl
      rw [ho] at k
      by_cases c : hasB l (wantL t) = true
      · rw [if_pos c] at k
        rw [if_pos c, if_neg (by decide)]
        exact main k
      · rw [if_neg c] at k
        rw [if_neg c, if_pos rfl]
        exact k
    | some n =>
      dsimp only at gw
      refine ⟨hm.1, ?_⟩
      rw [gw.1, if_pos rfl]
      refine ⟨hm.1, hwants _ (rI_of ⟨hm.1, ?_⟩)⟩
      rw [gw.2.1]
      have ho : okE (some n) l t = decide (wantL t = n) := rfl
      rw [ho] at k
      by_cases c : wantL t = n
      · rw [if_pos (by rw [c])]
        rw [if_pos (decide_eq_true c)] at k
        exact main k
      · rw [if_neg (fun q => c ((nJ_inj (by omega) (by have := gw.2.2; omega)).mp q))]
        rw [if_neg (by rw [decide_eq_false c]; decide)] at k
        exact k
  · rw [h1] at k
    rw [if_neg h3, if_pos rfl]
    exact k
end ML
