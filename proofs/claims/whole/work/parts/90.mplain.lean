/-! THE REFERENCE RUNS, 7: plain operations -/
section FF
variable {P : List Fn} {m : Nat} {h0 h : Hp} {fr r : List Fm} {w w0 : Wd} {A n p f b i : Nat} {q : Option Nat} {v : VV} {bb : Nat → Int32} {g : VV} {gf : Fn} {Q : Option TV → Hp → Prop} {a o b' : Int32}
theorem s_pop1 (hm : MS h0 m) (H : RLv P m h0 h fr (n + 1, v, p, bb, g) A) (hn : n < 600) (k : ∀ h', RLv P m h0 h' fr (n, v, p, bb, g) A → Q (some (tL (v n))) h') : tX11_pop m h Q := s_pop hm H (Nat.succ_pos n) (by omega) k
theorem s_truth {x : Int32} (k : Q (some (tL (if x = 0 then 0 else 1))) h) : tX11_truth x h Q := by
  refine wX11_truth x h Q ?_
  split
  · rename_i c
    rw [if_pos c] at k
    exact k
  · rename_i c
    rw [if_neg c] at k
    exact k
theorem s_isTrue {y : Int64} (k : Q (some (tI (if low y = 0 then 0 else 1))) h) : tX11_isTrue y h Q := by
  refine wX11_isTrue y h Q ?_
  split
  · rename_i c
    rw [if_pos (show low y = 0 from c)] at k
    exact k
  · rename_i c
    rw [if_neg (show ¬ low y = 0 from c)] at k
    exact k
theorem RSt.at' {st tr : Int32} (H : RSt m h0 h st tr w) (x : Int32) : RSt m h0 (pi h 674 m x) st tr w := by
  obtain ⟨h1, ⟨h21, h22, h23, h24⟩, h3, h4, ⟨h91, h92, h93⟩⟩ := H
  exact ⟨h1.tr (RW_pi _ _ (by omega)), ⟨h21, h22, by rw [gi_ne (by decide)]; exact h23, by rw [gi_ne (by decide)]; exact h24⟩, by rw [gi_ne (by decide)]; exact h3, by rw [gi_ne (by decide)]; exact h4, ⟨by rw [gi_ne (by decide)]; exact h91, h92, h93⟩⟩
theorem s_choose (hm : MS h0 m) (H : RLv P m h0 h fr (n + 3, v, p, bb, g) A) (hn : n < 500) (k : ∀ h', RLv P m h0 h' fr (n + 1, upv v n (if low (v (n + 2)) = 0 then v (n + 1) else v n), p, bb, g) A → Q none h') : tX11_choose m h Q := by
  have hm1 := H.ms hm
  refine wX11_choose m h Q ⟨hm1.1, s_pop1 hm H (by omega) (fun h1 H1 => rL_of (s_isTrue (rI_of ?_)))⟩
  have hm2 := H1.ms hm
  refine ⟨hm2.1, s_pop1 hm H1 (by omega) (fun h2 H2 => rL_of ?_)⟩
  have hm3 := H2.ms hm
  refine ⟨hm3.1, s_pop1 hm H2 (by omega) (fun h3 H3 => rL_of ?_)⟩
  have hm4 := H3.ms hm
  by_cases c : low (v (n + 2)) = 0
  · rw [if_pos c] at k
    rw [if_pos (by rw [if_pos c])]
    exact wX11_choose_30 m _ _ h3 Q (dr_of rfl ⟨hm4.1, s_push hm H3 (by omega) (fun h4 H4 => rV_of (k h4 H4))⟩)
  · rw [if_neg c] at k
    rw [if_neg (by rw [if_neg c]; decide)]
    exact wX11_choose_30 m _ _ h3 Q (dr_of rfl ⟨hm4.1, s_push hm H3 (by omega) (fun h4 H4 => rV_of (k h4 H4))⟩)
theorem RLv.first (H : RLv P m h0 h ((f, b, q) :: r) w A) : ai h (m + 23) r.length = nI b := H.2.2.2.2.2.2.2.2.2.2.2.1

theorem s_var32 (hm : MS h0 m) (H : RLv P m h0 h ((f, b, q) :: r) (n, v, p, bb, g) A) (h30 : r.length < 30) (hn : n < 500) (ha : ¬ a < 0) (hab : b + nt a < n) (k : ∀ h', RLv P m h0 h' ((f, b, q) :: r) (n + 1, upv v n (v (b + nt a)), p, bb, g) A → Q none h') : tX11_variable m 32 a h Q := by
  have hm1 := H.ms hm
  have x5 : gi h 671 m = nI (r.length + 1) := H.2.2.2.2.1
  have ea : nI b + a = nI (b + nt a) := by rw [← nJ_add, nI_nt ha]
  refine wX11_variable m 32 a h Q ⟨hm1.1, hm1.1, ?_⟩
  rw [x5, nI_sub1]
  refine L_first hm1 hm1 (by omega) ?_
  rw [nck (by omega), H.first, if_pos rfl, ea]
  refine ⟨hm1.1, L_value hm1 hm1 (by omega) ⟨hm1.1, ?_⟩⟩
  rw [nck (by omega), H.2.2.2.2.2.2.2.2.2.1 (b + nt a) hab]
  exact s_push hm H (by omega) (fun h4 H4 => rV_of (k h4 H4))
theorem s_var33 (hm : MS h0 m) (H : RLv P m h0 h ((f, b, q) :: r) (n + 1, v, p, bb, g) A) (h30 : r.length < 30) (hn : n < 500) (ha : ¬ a < 0) (hab : b + nt a < 500) (k : ∀ h', RLv P m h0 h' ((f, b, q) :: r) (n, upv v (b + nt a) (v n), p, bb, g) A → Q none h') : tX11_variable m 33 a h Q := by
  have hm1 := H.ms hm
  have x5 : gi h 671 m = nI (r.length + 1) := H.2.2.2.2.1
  have ea : nI b + a = nI (b + nt a) := by rw [← nJ_add, nI_nt ha]
  refine wX11_variable m 33 a h Q ⟨hm1.1, hm1.1, ?_⟩
  rw [x5, nI_sub1]
  refine L_first hm1 hm1 (by omega) ?_
  rw [nck (by omega), H.first, if_neg (by decide), if_pos rfl, ea]
  refine ⟨hm1.1, hm1.1, s_pop1 hm H (by omega) (fun h1 H1 => rL_of ?_)⟩
  have hm2 := H1.ms hm
  refine L_value hm1 hm2 (by omega) (fun h2 e2 => k h2 ?_)
  rw [nck (by omega)] at e2
  rw [e2]
  exact H1.vset _ _
theorem s_var34 (hm : MS h0 m) (H : RLv P m h0 h ((f, b, q) :: r) (n + 1, v, p, bb, g) A) (h30 : r.length < 30) (hn : n < 500) (ha : ¬ a < 0) (hab : b + nt a < 500) (k : ∀ h', RLv P m h0 h' ((f, b, q) :: r) (n + 1, upv v (b + nt a) (v n), p, bb, g) A → Q none h') : tX11_variable m 34 a h Q := by
  have hm1 := H.ms hm
  have x5 : gi h 671 m = nI (r.length + 1) := H.2.2.2.2.1
  have x6 : gi h 672 m = nI (n + 1) := H.2.2.2.2.2.1
  have ea : nI b + a = nI (b + nt a) := by rw [← nJ_add, nI_nt ha]
  refine wX11_variable m 34 a h Q ⟨hm1.1, hm1.1, ?_⟩
  rw [x5, nI_sub1]
  refine L_first hm1 hm1 (by omega) ?_
  rw [nck (by omega), H.first, if_neg (by decide), if_neg (by decide), if_pos rfl, ea, x6, nI_sub1]
  refine ⟨hm1.1, hm1.1, hm1.1, L_value hm1 hm1 (by omega) (L_value hm1 hm1 (by omega) (fun h2 e2 => k h2 ?_))⟩
  rw [nck (by omega), nck (by omega), H.2.2.2.2.2.2.2.2.2.1 n (Nat.lt_succ_self n)] at e2
  rw [e2]
  exact H.vset _ _
theorem s_var35 (hm : MS h0 m) (H : RLv P m h0 h ((f, b, q) :: r) (n, v, p, bb, g) A) (h30 : r.length < 30) (hn : n < 500) (ha : ¬ a < 0) (hab : nt a < 8) (k : ∀ h', RLv P m h0 h' ((f, b, q) :: r) (n + 1, upv v n (g (nt a)), p, bb, g) A → Q none h') : tX11_variable m 35 a h Q := by
  have hm1 := H.ms hm
  have x5 : gi h 671 m = nI (r.length + 1) := H.2.2.2.2.1
  have xg : al h (m + 18) = g := H.2.2.2.2.2.2.2.2.1.2.2
  refine wX11_variable m 35 a h Q ⟨hm1.1, hm1.1, ?_⟩
  rw [x5, nI_sub1]
  refine L_first hm1 hm1 (by omega) ?_
  rw [if_neg (by decide), if_neg (by decide), if_neg (by decide), if_pos rfl, ← nI_nt ha]
  refine ⟨hm1.1, L_globals hm1 hm1 hab ⟨hm1.1, ?_⟩⟩
  rw [nck (by omega), xg]
  exact s_push hm H (by omega) (fun h4 H4 => rV_of (k h4 H4))
theorem s_var36 (hm : MS h0 m) (H : RLv P m h0 h ((f, b, q) :: r) (n + 1, v, p, bb, g) A) (h30 : r.length < 30) (hn : n < 500) (ha : ¬ a < 0) (hab : nt a < 8) (k : ∀ h', RLv P m h0 h' ((f, b, q) :: r) (n, v, p, bb, upv g (nt a) (v n)) A → Q none h') : tX11_variable m 36 a h Q := by
  have hm1 := H.ms hm
  have x5 : gi h 671 m = nI (r.length + 1) := H.2.2.2.2.1
  refine wX11_variable m 36 a h Q ⟨hm1.1, hm1.1, ?_⟩
  rw [x5, nI_sub1]
  refine L_first hm1 hm1 (by omega) ?_
  rw [if_neg (by decide), if_neg (by decide), if_neg (by decide), if_neg (by decide), ← nI_nt ha]
  refine ⟨hm1.1, hm1.1, s_pop1 hm H (by omega) (fun h1 H1 => rL_of ?_)⟩
  have hm2 := H1.ms hm
  refine L_globals hm1 hm2 hab (fun h2 e2 => k h2 ?_)
  rw [nck (by omega)] at e2
  rw [e2]
  exact H1.gset _ _
theorem s_workT (hm : MS h0 m) (H : RLv P m h0 h fr (n + 2, v, p, bb, g) A) (hn : n < 500) (ho : isTwo o) (k : match wk2 o (v n) (v (n + 1)) with
      | none => ∀ h', RSt m h0 h' 3 11 (n + 2, v, p, bb, g) → Q none h'
      | some z => ∀ h', RLv P m h0 h' fr (n + 1, upv v n z, p, bb, g) A → Q none h') : tX11_work m o h Q := by
  have hm1 := H.ms hm
  have ne : ∀ x : Int32, x = 69 ∨ x = 80 ∨ x = 167 ∨ x = 173 → ¬ o = x := by
    intro x hx e
    subst e
    unfold isTwo at ho
    rcases hx with e | e | e | e <;> (rw [e] at ho; revert ho; decide)
  refine wX11_work m o h Q ?_
  rw [if_neg (ne 69 (by simp)), if_neg (ne 80 (by simp)), if_neg (ne 167 (by simp)), if_neg (ne 173 (by simp))]
  refine ⟨hm1.1, s_pop1 hm H (by omega) (fun h1 H1 => rL_of ?_)⟩
  have hm2 := H1.ms hm
  refine ⟨hm2.1, s_pop1 hm H1 (by omega) (fun h2 H2 => rL_of ?_)⟩
  have hm3 := H2.ms hm
  have psh : ∀ z : Int64, (∀ h', RLv P m h0 h' fr (n + 1, upv v n z, p, bb, g) A → Q none h') → ob h2 m 10 (tX11_push m z h2 (rV (fun h5 => Q none h5))) := fun z kz => ⟨hm3.1, s_push hm H2 (by omega) (fun h4 H4 => rV_of (kz h4 H4))⟩
  have tr : ∀ z : Int64, (∀ h', RLv P m h0 h' fr (n + 1, upv v n z, p, bb, g) A → Q none h') → dr (some m) (fun a_5 => ob h2 a_5 10 (tX11_push a_5 z h2 (rV (fun h_3 => Q none h_3)))) := fun z kz => dr_of rfl (psh z kz)

  rcases ho with rfl | rfl | rfl | rfl | rfl | rfl | rfl | rfl | rfl | rfl | rfl | rfl | rfl | rfl | rfl
  · rw [if_pos rfl]
    have kk : ∀ h', RLv P m h0 h' fr (n + 1, upv v n (if low (v n) = low (v (n + 1)) then 1 else 0), p, bb, g) A → Q none h' := k
    by_cases c : low (v n) = low (v (n + 1))
    · rw [if_pos c] at kk
      rw [if_pos (show (v n &&& 4294967295) = (v (n + 1) &&& 4294967295) from c)]
      exact wX11_work_358 m _ _ h2 Q (s_truth (rL_of (tr _ kk)))
    · rw [if_neg c] at kk
      rw [if_neg (show ¬ (v n &&& 4294967295) = (v (n + 1) &&& 4294967295) from c)]
      exact wX11_work_358 m _ _ h2 Q (s_truth (rL_of (tr _ kk)))
  · rw [if_neg (by decide), if_pos rfl]
    have kk : ∀ h', RLv P m h0 h' fr (n + 1, upv v n (if low (v n) = low (v (n + 1)) then 0 else 1), p, bb, g) A → Q none h' := k
    by_cases c : low (v n) = low (v (n + 1))
    · rw [if_pos c] at kk
      rw [if_pos (show (v n &&& 4294967295) = (v (n + 1) &&& 4294967295) from c)]
      exact wX11_work_381 m _ _ h2 Q (s_truth (rL_of (tr _ kk)))
    · rw [if_neg c] at kk
      rw [if_neg (show ¬ (v n &&& 4294967295) = (v (n + 1) &&& 4294967295) from c)]
      exact wX11_work_381 m _ _ h2 Q (s_truth (rL_of (tr _ kk)))
  · rw [if_neg (by decide), if_neg (by decide), if_pos rfl]
    have kk : ∀ h', RLv P m h0 h' fr (n + 1, upv v n (if (v n).toInt32 < (v (n + 1)).toInt32 then 1 else 0), p, bb, g) A → Q none h' := k
    by_cases c : (v n).toInt32 < (v (n + 1)).toInt32
    · rw [if_pos c] at kk
      rw [if_pos (show (v n).toInt32 < (v (n + 1)).toInt32 from c)]
      exact wX11_work_404 m _ _ h2 Q (s_truth (rL_of (tr _ kk)))
    · rw [if_neg c] at kk
      rw [if_neg (show ¬ (v n).toInt32 < (v (n + 1)).toInt32 from c)]
      exact wX11_work_404 m _ _ h2 Q (s_truth (rL_of (tr _ kk)))
  · rw [if_neg (by decide), if_neg (by decide), if_neg (by decide), if_pos rfl]
    have kk : ∀ h', RLv P m h0 h' fr (n + 1, upv v n (if low (v n) < low (v (n + 1)) then 1 else 0), p, bb, g) A → Q none h' := k
    by_cases c : low (v n) < low (v (n + 1))
    · rw [if_pos c] at kk
      rw [if_pos (show (v n &&& 4294967295) < (v (n + 1) &&& 4294967295) from c)]
      exact wX11_work_427 m _ _ h2 Q (s_truth (rL_of (tr _ kk)))
    · rw [if_neg c] at kk
      rw [if_neg (show ¬ (v n &&& 4294967295) < (v (n + 1) &&& 4294967295) from c)]
      exact wX11_work_427 m _ _ h2 Q (s_truth (rL_of (tr _ kk)))
  · rw [if_neg (by decide), if_neg (by decide), if_neg (by decide), if_neg (by decide), if_pos rfl]
    have kk : ∀ h', RLv P m h0 h' fr (n + 1, upv v n (if v n = v (n + 1) then 1 else 0), p, bb, g) A → Q none h' := k
    by_cases c : v n = v (n + 1)
    · rw [if_pos c] at kk
      rw [if_pos (show v n = v (n + 1) from c)]
      exact wX11_work_449 m _ _ h2 Q (s_truth (rL_of (tr _ kk)))
    · rw [if_neg c] at kk
      rw [if_neg (show ¬ v n = v (n + 1) from c)]
      exact wX11_work_449 m _ _ h2 Q (s_truth (rL_of (tr _ kk)))
  · rw [if_neg (by decide), if_neg (by decide), if_neg (by decide), if_neg (by decide), if_neg (by decide), if_pos rfl]
    have kk : ∀ h', RLv P m h0 h' fr (n + 1, upv v n (if v n < v (n + 1) then 1 else 0), p, bb, g) A → Q none h' := k
    by_cases c : v n < v (n + 1)
    · rw [if_pos c] at kk
      rw [if_pos (show v n < v (n + 1) from c)]
      exact wX11_work_471 m _ _ h2 Q (s_truth (rL_of (tr _ kk)))
    · rw [if_neg c] at kk
      rw [if_neg (show ¬ v n < v (n + 1) from c)]
      exact wX11_work_471 m _ _ h2 Q (s_truth (rL_of (tr _ kk)))
  · rw [if_neg (by decide), if_neg (by decide), if_neg (by decide), if_neg (by decide), if_neg (by decide), if_neg (by decide), if_pos rfl]
    exact psh _ k
  · rw [if_neg (by decide), if_neg (by decide), if_neg (by decide), if_neg (by decide), if_neg (by decide), if_neg (by decide), if_neg (by decide), if_pos rfl]
    exact psh _ k
  · rw [if_neg (by decide), if_neg (by decide), if_neg (by decide), if_neg (by decide), if_neg (by decide), if_neg (by decide), if_neg (by decide), if_neg (by decide), if_pos rfl]
    exact psh _ k
  · rw [if_neg (by decide), if_neg (by decide), if_neg (by decide), if_neg (by decide), if_neg (by decide), if_neg (by decide), if_neg (by decide), if_neg (by decide), if_neg (by decide), if_pos rfl]
    have e : wk2 110 (v n) (v (n + 1)) = if low (v (n + 1)) = 0 then none else some (low (v n) / low (v (n + 1))) := rfl
    rw [e] at k
    by_cases c : low (v (n + 1)) = 0
    · rw [if_pos c] at k
      rw [if_pos (show (v (n + 1) &&& 4294967295) = 0 from c)]
      exact ⟨hm3.1, s_traps hm H2 (fun h4 H4 => rV_of (k h4 H4))⟩
    · rw [if_neg c] at k
      rw [if_neg (show ¬ (v (n + 1) &&& 4294967295) = 0 from c)]
      exact ⟨c, psh _ k⟩
  · rw [if_neg (by decide), if_neg (by decide), if_neg (by decide), if_neg (by decide), if_neg (by decide), if_neg (by decide), if_neg (by decide), if_neg (by decide), if_neg (by decide), if_neg (by decide), if_pos rfl]
    exact psh _ k
  · rw [if_neg (by decide), if_neg (by decide), if_neg (by decide), if_neg (by decide), if_neg (by decide), if_neg (by decide), if_neg (by decide), if_neg (by decide), if_neg (by decide), if_neg (by decide), if_neg (by decide), if_pos rfl]
    exact psh _ k
  · rw [if_neg (by decide), if_neg (by decide), if_neg (by decide), if_neg (by decide), if_neg (by decide), if_neg (by decide), if_neg (by decide), if_neg (by decide), if_neg (by decide), if_neg (by decide), if_neg (by decide), if_neg (by decide), if_pos rfl]
    exact psh _ k
  · rw [if_neg (by decide), if_neg (by decide), if_neg (by decide), if_neg (by decide), if_neg (by decide), if_neg (by decide), if_neg (by decide), if_neg (by decide), if_neg (by decide), if_neg (by decide), if_neg (by decide), if_neg (by decide), if_neg (by decide), if_pos rfl]
    exact psh _ k
  · rw [if_neg (by decide), if_neg (by decide), if_neg (by decide), if_neg (by decide), if_neg (by decide), if_neg (by decide), if_neg (by decide), if_neg (by decide), if_neg (by decide), if_neg (by decide), if_neg (by decide), if_neg (by decide), if_neg (by decide), if_neg (by decide)]
    exact psh _ k
theorem s_work1 (hm : MS h0 m) (H : RLv P m h0 h fr (n + 1, v, p, bb, g) A) (hn : n < 500) (ho : o = 69 ∨ o = 80 ∨ o = 167 ∨ o = 173) (k : ∀ h', RLv P m h0 h' fr (n + 1, upv v n (if o = 69 then (if low (v n) = 0 then 1 else 0) else if o = 80 then (if v n = 0 then 1 else 0) else low (v n)), p, bb, g) A → Q none h') : tX11_work m o h Q := by
  have hm1 := H.ms hm
  have w12 : o = 69 ∨ o = 80 → tX11_work_12 m o h Q := by
    intro hc
    refine wX11_work_12 m o h Q ⟨hm1.1, s_pop1 hm H (by omega) (fun h1 H1 => rL_of ?_)⟩
    have hm2 := H1.ms hm
    have tr : ∀ z : Int64, (∀ h', RLv P m h0 h' fr (n + 1, upv v n z, p, bb, g) A → Q none h') → dr (some m) (fun a_5 => ob h1 a_5 10 (tX11_push a_5 z h1 (rV (fun h_3 => Q none h_3)))) := fun z kz => dr_of rfl ⟨hm2.1, s_push hm H1 (by omega) (fun h4 H4 => rV_of (kz h4 H4))⟩
    by_cases c69 : o = 69
    · rw [if_pos c69] at k ⊢
      refine wX11_work_33 m _ _ h1 Q ?_
      by_cases c : low (v n) = 0
      · rw [if_pos c] at k
        rw [if_pos (show (v n &&& 4294967295) = 0 from c)]
        exact wX11_work_43 m _ _ h1 Q (s_truth (rL_of (tr _ k)))
      · rw [if_neg c] at k
        rw [if_neg (show ¬ (v n &&& 4294967295) = 0 from c)]
        exact wX11_work_43 m _ _ h1 Q (s_truth (rL_of (tr _ k)))
    · rw [if_neg c69] at k ⊢
      rw [if_pos (hc.resolve_left c69)] at k
      refine wX11_work_33 m _ _ h1 Q ?_
      by_cases c : v n = 0
      · rw [if_pos c] at k ⊢
        exact wX11_work_43 m _ _ h1 Q (s_truth (rL_of (tr _ k)))
      · rw [if_neg c] at k ⊢
        exact wX11_work_43 m _ _ h1 Q (s_truth (rL_of (tr _ k)))
  have w64 : ¬ o = 69 → ¬ o = 80 → tX11_work_64 m h Q := by
    intro c1 c2
    rw [if_neg c1, if_neg c2] at k
    refine wX11_work_64 m h Q ⟨hm1.1, s_pop1 hm H (by omega) (fun h1 H1 => rL_of ?_)⟩
    have hm2 := H1.ms hm
    exact ⟨hm2.1, s_push hm H1 (by omega) (fun h4 H4 => rV_of (k h4 H4))⟩
  refine wX11_work m o h Q ?_
  rcases ho with rfl | rfl | rfl | rfl
  · rw [if_pos rfl]; exact w12 (Or.inl rfl)
  · rw [if_neg (by decide), if_pos rfl]; exact w12 (Or.inr rfl)
  · rw [if_neg (by decide), if_neg (by decide), if_pos rfl]; exact w64 (by decide) (by decide)
  · rw [if_neg (by decide), if_neg (by decide), if_neg (by decide), if_pos rfl]; exact w64 (by decide) (by decide)
end FF
