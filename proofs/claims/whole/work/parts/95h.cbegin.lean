/-! THE CLASS RUNS, 8: a call begins -/
section RR
variable {P : List Fn} {fp : Nat → Nat} {ip : Nat → Nat → Nat} {x a0 : Nat} {h0 h : Hp} {fr r : List Fm} {w : Wd} {n p f b i ac : Nat} {q : Option Nat} {v ar : VV} {bb : Nat → Int32} {g : VV} {gf : Fn} {Q : Option TV → Hp → Prop} {s : RS}
theorem c_begin41 (hc : CS h0 x) (hP : CP h0 x fp ip P) (hW : WhP P) (hM : ∀ f, askN P f < 1000000) (hg : P[f]? = some gf) (hac : ac = fP gf) (ha : ∀ j, j < ac → al h0 (x + 41) j = ar j) (K : KXc P fp ip x h0 (ac, ag v ar ac, p, bb, g) (fun _ h' => tX5_leaveWhatIsOver (x + 3) h' (rV (fun h_1 => Q none h_1))) (enA P f [] (ac, ag v ar ac, p, bb, g))) : ∀ (t i : Nat) (h : Hp), t = ac - i → i ≤ ac → RCv P fp ip x h0 h [] (i, ag v ar i, p, bb, g) → tX5_begin_41 (x + 3) (some (fp f)) (some (x + 41)) (nI ac) (nI i) h Q := by
  have h8 := (hW f gf hg).2
  intro t
  induction t with
  | zero =>
    intro i h ht hi H
    have e : i = ac := by omega
    subst e
    have c := H.cs hc
    refine wX5_begin_41 (x + 3) _ _ _ _ h Q ?_
    rw [if_neg (nI_nlt (Nat.le_refl _) (by omega))]
    refine ⟨c.t5, c_enter hc hP H (Nat.zero_le _) (Nat.zero_le _) hg (hM f) (by omega) (fun _ => by omega) ?_⟩
    cases he : enA P f [] (i, ag v ar i, p, bb, g) with
    | inl c =>
      rw [he] at K
      have hcz : c = 0 := by
        unfold enA at he
        rw [hg] at he
        dsimp only at he
        split at he
        · cases he; rfl
        · cases he
      subst hcz
      have K : ∀ h', CSt x h0 h' 4 (gi h0 328 (x + 3)) (i, ag v ar i, p, bb, g) → tX5_leaveWhatIsOver (x + 3) h' (rV (fun h_1 => Q none h_1)) := K
      exact fun h' H' => rV_of ⟨(H'.1.cs hc).t5, K h' H'⟩
    | inr y =>
      rw [he] at K
      exact fun h' H' => rV_of ⟨(H'.cs hc).t5, K h' H'⟩
  | succ t ih =>
    intro i h ht hi H
    have c := H.cs hc
    refine wX5_begin_41 (x + 3) _ _ _ _ h Q ?_
    rw [if_pos (nI_lt (by omega) (by omega))]
    refine ⟨c.t5, dr_of rfl (ix_of c.t41 rfl (nI_in (by omega) (by decide)) (dr_of c.r324 ⟨c.t8, ?_⟩))⟩
    have e : al h (x + 41) i = ar i := by rw [H.1.2.2.2.2.2.2.2.2 (x + 41) (by omega)]; exact ha i (by omega)
    rw [nck (by omega), e, ← nI_succ]
    exact c_push hc H (by omega) (fun h4 H4 => rV_of (ih (i + 1) h4 (by omega) (by omega) H4))
theorem c_begin (hc : CS h x) (hP : CP h x fp ip P) (hW : WhP P) (hM : ∀ f, askN P f < 1000000) (hO : OKS P s) (H : RXc P fp ip x h s) (hg : P[f]? = some gf) (hac : ac = fP gf) (ha : ∀ j, j < ac → al h (x + 41) j = ar j) (K : ∀ h', CRW x h h' → gi h' 329 (x + 3) = 0 → RXc P fp ip x h' (clS P f ac ar s) → Q none h') : tX5_begin (x + 3) (some (fp f)) (some (x + 41)) h Q := by
  obtain ⟨st, tr, fr, n, v, p, bb, g⟩ := s
  obtain ⟨x1, x2, ⟨x31, x32, x33⟩, -⟩ := H
  have x2 : gi h 328 (x + 3) = tr := x2
  have h8 := (hW f gf hg).2
  have hO1 : 1 ≤ p ∧ p ≤ 6 := ⟨hO.1, hO.2.1⟩
  refine wX5_begin (x + 3) _ _ h Q ⟨hc.t5, fun h1 e1 => ?_⟩
  have c1 : CS h1 x := by rw [e1]; exact hc
  refine ⟨c1.t5, fun h2 e2 => ?_⟩
  have c2 : CS h2 x := by rw [e2]; exact c1
  refine ⟨c2.t5, fun h3 e3 => ?_⟩
  have c3 : CS h3 x := by rw [e3]; exact c2
  refine ⟨c3.t5, dr_of c3.r324 ⟨c3.t8, fun h4 e4 => ?_⟩⟩
  have c4 : CS h4 x := by rw [e4]; exact c3
  refine ⟨c4.t5, fun h6 e6 => ?_⟩
  have c6 : CS h6 x := by rw [e6]; exact c4
  have w6 : CRW x h h6 := by
    rw [e6, e4, e3, e2, e1]
    exact (CRW_pi _ _ (by omega)).tr ((CRW_pi _ _ (by omega)).tr ((CRW_pi _ _ (by omega)).tr ((CRW_pi _ _ (by omega)).tr (CRW_pi _ _ (by omega)))))
  have p6 := w6.cp hP
  obtain ⟨⟨f1, f2, -⟩, -⟩ := p6 f gf hg
  refine dr_of rfl ⟨f1, dr_of rfl (al_of c6.t41 ?_)⟩
  rw [f2, if_neg (show ¬ Int32.ofNat 8 < nI (fP gf) from nI_nlt (a := 8) (b := fP gf) (by omega) (by decide)), ← hac]
  have y328 : gi h6 328 (x + 3) = tr := by rw [e6, gi_ne (by decide), e4, gi_ne (by decide), e3, gi_ne (by decide), e2, gi_ne (by decide), e1, gi_ne (by decide)]; exact x2
  have y329 : gi h6 329 (x + 3) = 0 := by rw [e6, gi_ne (by decide), e4, gi_ne (by decide), e3, gi_eq]
  have H6 : RCv P fp ip x h6 h6 [] (0, ag v ar 0, p, bb, g) := by
    refine ⟨CRW.rf _ _, ⟨rfl, rfl⟩, ?_, ?_, ?_, ?_, ⟨?_, ?_, ?_⟩, fun j hj => absurd hj (Nat.not_lt_zero j), trivial⟩
    · rw [e6, gi_eq]
    · rw [e6, gi_ne (by decide), e4, gi_ne (by decide), e3, gi_ne (by decide), e2, gi_ne (by decide), e1, gi_eq]; rfl
    · rw [e6, gi_ne (by decide), e4, gi_eq]; rfl
    · rw [e6, gi_ne (by decide), e4, gi_ne (by decide), e3, gi_ne (by decide), e2, gi_eq]; rfl
    · rw [e6, gi_ne (by decide), e4, gi_ne (by decide), e3, gi_ne (by decide), e2, gi_ne (by decide), e1, gi_ne (by decide)]; exact x31
    · rw [e6, e4, e3, e2, e1]; exact x32
    · rw [e6, e4, e3, e2, e1]; exact x33
  refine c_begin41 (v := v) (i := 0) c6 p6 hW hM hg hac (fun j hj => ?_) ?_ ac h6 (by omega) (Nat.zero_le _) H6
  · rw [w6.2.2.2.2.2.2.2.2 (x + 41) (by omega)]; exact ha j hj
  · refine KNc.kx (tr := tr) c6 p6 y328 (cl_ok (ac := ac) hW hg hac hO1) (fun h' a1 a2 a3 => rV_of (K h' (w6.tr a1) (by rw [a2, y329]) a3))
end RR
