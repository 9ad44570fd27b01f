/-! THE REFERENCE RUNS, 4: enter -/
section FF
variable {P : List Fn} {m : Nat} {h0 h : Hp} {fr r : List Fm} {w : Wd} {A n p f b : Nat} {q : Option Nat} {v : VV} {bb : Nat → Int32} {g : VV} {gf : Fn} {Q : Option TV → Hp → Prop}
theorem s_enter102 (hm : MS h0 m) (hP : MP h0 m P) (hg : P[f]? = some gf) (hn : n + fL gf < 700) : ∀ (t i : Nat) (h : Hp), t = fL gf - i → i ≤ fL gf → RLv P m h0 h fr (n + i, zr v n i, p, bb, g) A → (∀ h', RLv P m h0 h' fr (n + fL gf, zr v n (fL gf), p, bb, g) (pos0 P f) → Q none h') → tX11_enter_102 m (nI f) (nI i) h Q := by
  have hf : f < 40 := by have := (List.getElem?_eq_some_iff.mp hg).1; have := hP.1; omega
  intro t
  induction t with
  | zero =>
    intro i h ht hi H k
    have e : i = fL gf := by omega
    subst e
    have hm1 := H.ms hm
    obtain ⟨-, r1, -, -, -, r5, -⟩ := (H.1.mp hP).2.2 f gf hg
    refine wX11_enter_102 m _ _ h Q ⟨hm1.1, L_locals hm1 hm1 hf ?_⟩
    rw [nck (by omega), r5, if_neg (nI_nlt (Nat.le_refl _) (by omega))]
    refine ⟨hm1.1, L_start hm1 hm1 hf ⟨hm1.1, fun h1 e1 => k h1 ?_⟩⟩
    rw [r1] at e1
    rw [e1]
    exact H.at' _
  | succ t ih =>
    intro i h ht hi H k
    have hm1 := H.ms hm
    obtain ⟨-, -, -, -, -, r5, -⟩ := (H.1.mp hP).2.2 f gf hg
    refine wX11_enter_102 m _ _ h Q ⟨hm1.1, L_locals hm1 hm1 hf ?_⟩
    rw [nck (by omega), r5, if_pos (nI_lt (by omega) (by omega))]
    refine ⟨hm1.1, s_push hm H (by omega) (fun h1 H1 => rV_of ?_)⟩
    rw [← nI_succ]
    exact ih (i + 1) h1 (by omega) (by omega) H1 k
theorem s_enter (hm : MS h0 m) (hP : MP h0 m P) (H : RLv P m h0 h fr (n, v, p, bb, g) A) (hfr : fr.length ≤ 30) (ha220 : askF P fr ≤ 220) (hg : P[f]? = some gf) (hn : fP gf ≤ n) (hn2 : ¬ (fr.length = 30 ∨ 220 < askF P fr + askN P f) → n + fL gf < 700) (hA : A < 100000)
    (hL : match fr with
      | [] => True
      | (f1, b1, p1) :: _ => ∃ B g1 k1, P[f1]? = some g1 ∧ A + 1 = pos0 P f1 + B ∧ settle (fC g1) B = p1 ∧ (n - fP gf) + fR gf = b1 + (fP g1 + fL g1) + k1 ∧ At (sgs (P.take (f1 + 1))) (fP g1 + fL g1) (fR g1) (fC g1) B k1)
    (k : match enA P f fr (n, v, p, bb, g) with
      | .inl _ => ∀ h', RSt m h0 h' 4 (gi h0 669 m) (n, v, p, bb, g) → Q none h'
      | .inr y => ∀ h', RLv P m h0 h' y.1 y.2 (pos0 P f) → Q none h') : tX11_enter m (nI f) h Q := by
  have hm1 := H.ms hm
  have hP1 := H.1.mp hP
  have hf : f < 40 := by have := (List.getElem?_eq_some_iff.mp hg).1; have := hP.1; omega
  have h5 : gi h 671 m = nI fr.length := H.2.2.2.2.1
  have h7 : gi h 673 m = nI (askF P fr) := H.2.2.2.2.2.2.1
  have hak : askN P f < 1000000 := by
    rw [askN_some hg]
    obtain ⟨r0, -, -, -, -, -, ⟨u, hu, -⟩, -⟩ := hP1.2.2 f gf hg
    rw [moF_some hg hu]
    have hlen : (fC gf).length ≤ 1500 := by
      have h1 := pos0_succ hg
      have h2 := pos0_mono (fns := P) (j := f + 1) (k := P.length) (by have := (List.getElem?_eq_some_iff.mp hg).1; omega)
      have h3 := hP.2.1
      unfold totL at h3
      omega
    have := vat_mostB r0.2.1 (fun s hs => ?_) hu
    · omega
    · unfold sgs at hs
      obtain ⟨g2, hg2, rfl⟩ := List.mem_map.mp hs
      obtain ⟨i, hi⟩ := List.getElem?_of_mem (List.mem_of_mem_take hg2)
      exact (hP1.2.2 i g2 hi).1.2.1
  unfold enA at k
  rw [hg] at k
  dsimp only at k
  refine wX11_enter m _ h Q ⟨hm1.1, ?_⟩
  rw [h5]
  by_cases c30 : fr.length = 30
  · rw [if_pos (Or.inl c30)] at k
    rw [if_pos (by rw [c30]; rfl)]
    exact ⟨hm1.1, fun h1 e1 => k h1 (by rw [e1]; exact H.exh)⟩
  rw [if_neg (fun z => c30 ((nJ_inj (by omega) (by decide)).mp (z.trans (show (30 : Int32) = nI 30 from rfl))))]
  refine ⟨hm1.1, hm1.1, s_asks hm1 hP1 hg (rI_of ?_)⟩
  rw [h7, nJ_add]
  by_cases c220 : 220 < askF P fr + askN P f
  · rw [if_pos (Or.inr c220)] at k
    rw [if_pos (show (220 : Int32) < _ from nI_lt (a := 220) c220 (by omega))]
    exact ⟨hm1.1, fun h1 e1 => k h1 (by rw [e1]; exact H.exh)⟩
  have hno : ¬ (fr.length = 30 ∨ 220 < askF P fr + askN P f) := fun z => z.elim c30 c220
  rw [if_neg hno] at k
  rw [if_neg (show ¬ (220 : Int32) < nI (askF P fr + askN P f) from fun z => c220 ((nJ_lt (a := 220) (by decide) (by omega)).mp z))]
  refine ⟨hm1.1, hm1.1, s_asks hm1 hP1 hg (rI_of ⟨hm1.1, fun h6 e6 => ?_⟩)⟩
  rw [nJ_add] at e6
  have w6 : RW m h h6 := by rw [e6]; exact RW_pi _ _ (by omega)
  have hm6 := w6.ms hm1
  have x65 : gi h6 671 m = nI fr.length := by rw [e6, gi_ne (by decide)]; exact h5
  refine ⟨hm6.1, hm6.1, ?_⟩
  rw [x65]
  refine S_function hm6 hm6 (by omega) (fun h8 e8 => ?_)
  rw [nck (by omega)] at e8
  have w8 : RW m h6 h8 := by rw [e8]; exact RW_si _ _ _ (by omega)
  have hm8 := w8.ms hm6
  have x85 : gi h8 671 m = nI fr.length := by rw [e8]; exact x65
  have x86 : gi h8 672 m = nI n := by rw [e8, gi_si, e6, gi_ne (by decide)]; exact H.2.2.2.2.2.1
  obtain ⟨-, -, -, r3, -⟩ := (w8.mp (w6.mp hP1)).2.2 f gf hg
  refine ⟨hm8.1, hm8.1, hm8.1, hm8.1, L_params hm8 hm8 hf ?_⟩
  rw [x85, x86, nck (k := f) (by omega), r3, nJ_sub hn]
  refine S_first hm8 hm8 (by omega) (fun h11 e11 => ?_)
  rw [nck (by omega)] at e11
  have w11 : RW m h8 h11 := by rw [e11]; exact RW_si _ _ _ (by omega)
  have hm11 := w11.ms hm8
  have x115 : gi h11 671 m = nI fr.length := by rw [e11]; exact x85
  have x118 : gi h11 674 m = nI A := by rw [e11, gi_si, e8, gi_si, e6, gi_ne (by decide)]; exact H.2.2.2.2.2.2.2.1
  refine ⟨hm11.1, hm11.1, hm11.1, ?_⟩
  rw [x115, x118, ← nI_succ]
  refine S_back hm11 hm11 (by omega) (fun h13 e13 => ?_)
  rw [nck (by omega)] at e13
  have w13 : RW m h11 h13 := by rw [e13]; exact RW_si _ _ _ (by omega)
  have hm13 := w13.ms hm11
  have x135 : gi h13 671 m = nI fr.length := by rw [e13]; exact x115
  refine ⟨hm13.1, hm13.1, fun h14 e14 => ?_⟩
  rw [x135, ← nI_succ] at e14
  have eh : h14 = pi (si (si (si (pi h 673 m (nI (askF P fr + askN P f))) (m + 22) fr.length (nI f)) (m + 23) fr.length (nI (n - fP gf))) (m + 24) fr.length (nI (A + 1))) 671 m (nI (fr.length + 1)) := by rw [e14, e13, e11, e8, e6]
  obtain ⟨x1, ⟨x21, x22, x23, x24⟩, x3, x4, x5, x6, x7, x8, ⟨x91, x92, x93⟩, x10, x11⟩ := H
  have H14 : RLv P m h0 h14 ((f, n - fP gf, settle (fC gf) 0) :: fr) (n, v, p, bb, g) A := by
    refine ⟨x1.tr (w6.tr (w8.tr (w11.tr (w13.tr (by rw [e14]; exact RW_pi _ _ (by omega)))))), ⟨?_, ?_, ?_, ?_⟩, ?_, ?_, ?_, ?_, ?_, ?_, ⟨?_, ?_, ?_⟩, ?_, ?_⟩
    · rw [eh, ai_pi, ai_ne (by omega), ai_ne (by omega), ai_ne (by omega)]; exact x21
    · rw [eh]; exact x22
    · rw [eh, gi_ne (by decide), gi_si, gi_si, gi_si, gi_ne (by decide)]; exact x23
    · rw [eh, gi_ne (by decide), gi_si, gi_si, gi_si, gi_ne (by decide)]; exact x24
    · rw [eh, gi_ne (by decide), gi_si, gi_si, gi_si, gi_ne (by decide)]; exact x3
    · rw [eh, gi_ne (by decide), gi_si, gi_si, gi_si, gi_ne (by decide)]; exact x4
    · rw [eh, gi_eq]; rfl
    · rw [eh, gi_ne (by decide), gi_si, gi_si, gi_si, gi_ne (by decide)]; exact x6
    · rw [eh, gi_ne (by decide), gi_si, gi_si, gi_si, gi_eq]
      show nI (askF P fr + askN P f) = nI (askN P f + askF P fr)
      rw [Nat.add_comm]
    · rw [eh, gi_ne (by decide), gi_si, gi_si, gi_si, gi_ne (by decide)]; exact x8
    · rw [eh, gi_ne (by decide), gi_si, gi_si, gi_si, gi_ne (by decide)]; exact x91
    · rw [eh, ai_pi, ai_ne (by omega), ai_ne (by omega), ai_ne (by omega)]; exact x92
    · rw [eh]; exact x93
    · rw [eh]; exact x10
    · refine ⟨?_, ?_, ?_, ?_⟩
      · rw [eh, ai_pi, ai_ne (by omega), ai_ne (by omega)]
        exact ai_same
      · rw [eh, ai_pi, ai_ne (by omega)]
        exact ai_same
      · cases fr with
        | nil => trivial
        | cons y r2 =>
          obtain ⟨f1, b1, p1⟩ := y
          obtain ⟨B, g1, k1, y1, y2, y3, y4, y5⟩ := hL
          refine ⟨B, gf, g1, k1, hg, y1, ?_, y3, y4, y5⟩
          rw [← y2, eh, ai_pi]
          exact ai_same
      · refine x11.of (fun j hj => ?_)
        have hne : j ≠ fr.length := by omega
        rw [eh, ai_pi]
        refine ⟨?_, ?_, ?_⟩
        · rw [ai_ne (by omega), ai_ne (by omega), ai_si, if_neg (fun z => hne z.2)]; rfl
        · rw [ai_ne (by omega), ai_si, if_neg (fun z => hne z.2), ai_ne (by omega)]; rfl
        · rw [ai_si, if_neg (fun z => hne z.2), ai_ne (by omega), ai_ne (by omega)]; rfl
  exact s_enter102 (v := v) (n := n) (p := p) (bb := bb) (g := g) hm hP hg (hn2 hno) (fL gf) 0 h14 (by omega) (Nat.zero_le _) H14 k
end FF
