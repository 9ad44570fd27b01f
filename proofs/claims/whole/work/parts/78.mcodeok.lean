/-! THE REFERENCE, 9: code -/
theorem ps_len_le (c : List Ic) : ∀ i, (ps c i).length ≤ i := by
  intro i
  induction i with
  | zero => exact Nat.le_refl _
  | succ i ih =>
    by_cases hb : isBg (oA c i) = true
    · rw [ps_bg hb, List.length_cons]; omega
    · by_cases h11 : oA c i = 11
      · rw [ps_end h11, List.length_tail]; omega
      · rw [ps_oth (by simpa using hb) h11]; omega
section BD
variable {sg : List (Nat × Nat)} {nm r : Nat} {c : List Ic}
theorem vstep_mst {v v' : VS} {x : Ic} (hs : vstep sg nm v x = some v') : v'.2.2.2 = mstV v'.1 v.2.2.2 := by
  unfold vstep at hs
  split at hs
  · split at hs
    · unfold entV at hs
      split at hs
      · cases hs
      · split at hs
        · cases hs
        · split at hs
          · split at hs
            · cases hs; rfl
            · cases hs; rfl
          · cases hs
    · cases hs
  · split at hs
    · cases hs
    · split at hs
      · split at hs
        · split at hs
          · cases hs; rfl
          · cases hs
        · cases hs
      · split at hs
        · cases hs; rfl
        · cases hs
theorem vat_mostB (hr : r ≤ 8) (hsg : ∀ s ∈ sg, s.2 ≤ 8) : ∀ {i : Nat} {v : VS}, vat sg nm r c i = some v → v.2.2.2 ≤ 8 * i := by
  intro i
  induction i with
  | zero => intro v h; cases h; exact Nat.le_refl _
  | succ i ih =>
    intro v' h
    have hB := (vat_sB hr hsg h).2
    obtain ⟨v, x, hv, -, hs⟩ := vat_succ h
    rw [vstep_mst hs]
    have := ih hv
    cases hl : v'.1 with
    | nil => show v.2.2.2 ≤ _; omega
    | cons l q =>
      rw [hl] at hB
      have hB : hT l + oW l ≤ 8 * (i + 1) := hB
      show (if v.2.2.2 < hT l + oW l then hT l + oW l else v.2.2.2) ≤ _
      split <;> omega
theorem o_small {o : Int32} {n : Nat} (h0 : ¬ o < 0) (h1 : o < nI n) (hn : n < 2147483648) : nt o < n ∧ o = nI (nt o) := by
  have e := nI_nt h0
  refine ⟨?_, e.symm⟩
  rw [← e] at h1
  exact (nJ_lt (nt_lt o) hn).mp h1
theorem vctl_neg {ls : List Lb} {o a b : Int32} (h : o < 0) : vctl sg nm ls o a b = none := by
  have ne : ∀ n : Int32, ¬ n < 0 → ¬ o = n := fun n hn e => hn (by rw [← e]; exact h)
  unfold vctl
  rw [if_neg (ne 0 (by decide)), if_neg (ne 1 (by decide)), if_neg (by
    unfold isBg
    rw [decide_eq_false (ne 2 (by decide)), decide_eq_false (ne 3 (by decide)), decide_eq_false (ne 4 (by decide))]
    decide), if_neg (ne 5 (by decide)), if_neg (ne 11 (by decide)), if_neg (ne 12 (by decide)), if_neg (ne 13 (by decide)), if_neg (ne 15 (by decide)), if_neg (ne 16 (by decide)), if_neg (ne 17 (by decide))]
  rw [arP_def (ne 26 (by decide)) (ne 27 (by decide)) (ne 32 (by decide)) (ne 33 (by decide)) (ne 34 (by decide)) (ne 35 (by decide)) (ne 36 (by decide)) (ne 63 (by decide)) (ne 64 (by decide)) (ne 65 (by decide)) (ne 66 (by decide)) (ne 69 (by decide)) (ne 70 (by decide)) (ne 71 (by decide)) (ne 72 (by decide)) (ne 73 (by decide)) (ne 80 (by decide)) (ne 81 (by decide)) (ne 83 (by decide)) (ne 106 (by decide)) (ne 107 (by decide)) (ne 108 (by decide)) (ne 110 (by decide)) (ne 113 (by decide)) (ne 116 (by decide)) (ne 124 (by decide)) (ne 125 (by decide)) (ne 126 (by decide)) (ne 167 (by decide)) (ne 173 (by decide))]
  have lt : ∀ n : Int32, ¬ n < 0 → o < n := by
    intro n hn
    have h2 := Int32.not_lt.mp hn
    rw [Int32.lt_iff_toInt_lt] at h ⊢
    rw [Int32.le_iff_toInt_le] at h2
    omega
  rw [if_neg (fun q => q.1 (lt 40 (by decide))), if_neg (fun q => q.1 (lt 54 (by decide)))]
end BD
section MC
variable {h : Hp} {m : Nat} {Q : Option TV → Hp → Prop} {o a b : Int32} {pre : List Fn} {s : Nat × Nat × Nat} {c : List Ic} {v : VS}
theorem sg_of (hF : MF h m (pre ++ [(s, c)])) : SG h m (sgs (pre ++ [(s, c)])) (s.1 + s.2.2) ∧ (∀ t ∈ sgs (pre ++ [(s, c)]), t.2 ≤ 8) ∧ s.2.1 ≤ 8 := by
  obtain ⟨f1, f2, f3, f4, f5⟩ := hF
  have hlen : (sgs (pre ++ [(s, c)])).length = pre.length + 1 := by unfold sgs; simp
  have hL := f5 pre.length (s, c) get_snoc
  have get : ∀ (k : Nat) (t : Nat × Nat), (sgs (pre ++ [(s, c)]))[k]? = some t → ∃ f, (pre ++ [(s, c)])[k]? = some f ∧ t = (fP f, fR f) := by
    intro k t ht
    unfold sgs at ht
    rw [List.getElem?_map] at ht
    cases hf : (pre ++ [(s, c)])[k]? with
    | none => rw [hf] at ht; cases ht
    | some f => rw [hf] at ht; cases ht; exact ⟨f, rfl, rfl⟩
  refine ⟨⟨by rw [hlen, f1]; simp, by omega, by rw [hlen]; simpa using f2, fun k t ht => ?_, ⟨s.2.2, ?_, hL.1.2.2, fun t ht => ?_⟩⟩, fun t ht => ?_, hL.1.2.1⟩
  · obtain ⟨f, hf, rfl⟩ := get k t ht
    obtain ⟨g0, -, -, g3, g4, -⟩ := f5 k f hf
    exact ⟨g3, g4, g0.1, g0.2.1⟩
  · rw [hlen]
    exact hL.2.2.2.2.2.1
  · rw [hlen] at ht
    obtain ⟨f, hf, rfl⟩ := get _ t ht
    rw [show pre.length + 1 - 1 = pre.length by omega, get_snoc] at hf
    cases hf
    rfl
  · obtain ⟨k, hk⟩ := List.getElem?_of_mem ht
    obtain ⟨f, hf, rfl⟩ := get k t hk
    exact (f5 k f hf).1.2.1
theorem sgs_snoc (pre : List Fn) (s : Nat × Nat × Nat) (c d : List Ic) : sgs (pre ++ [(s, c)]) = sgs (pre ++ [(s, d)]) := by
  unfold sgs
  simp [fP, fR]
/-- an instruction that the checker takes -/
theorem s_take108 {h1 : Hp} {v' : VS} (hm : MS h m) (hF : MF h m (pre ++ [(s, c)])) (hw : gi h 642 m = 1) (hv : vk (pre ++ [(s, c)]) pre.length (s, c) c.length = some v) (ht : totL (pre ++ [(s, c)]) < 1500) (hs : vstep (sgs (pre ++ [(s, c)])) (s.1 + s.2.2) v (o, a, b) = some v')
    (w1 : VW m F6 h h1) (A1 : LA h1 m v'.1) (g3 : gi h1 653 m = nI v'.1.length) (E1 : v'.1 ≠ [] → EN h1 m v'.2.1 v'.2.2.1) (b1 : ∀ j, j ≠ totL (pre ++ [(s, c)]) → ai h1 (m + 10) j = ai h (m + 10) j) (b2 : isBg o = true → ∃ l q, v'.1 = l :: q ∧ ai h1 (m + 10) (totL (pre ++ [(s, c)])) = nI (hT l))
    (k : ∀ h', WW m h h' → MS h' m → MF h' m (pre ++ [(s, c ++ [(o, a, b)])]) → gi h' 642 m = (if v'.1 = [] then 0 else 1) → (v'.1 ≠ [] → MV h' m v') → Q (some (tI (nI (totL (pre ++ [(s, c)]) + 1)))) h') : tX11_code_108 m o a b 1 h1 Q := by
  have hm1 := w1.ms hm
  obtain ⟨hSG, hsg8, hr8⟩ := sg_of hF
  have hF0 := hF
  obtain ⟨f1, f2, f3, f4, f5⟩ := hF
  have hL := f5 pre.length (s, c) get_snoc
  obtain ⟨l0, l1, l2, l3, l4, l5, ⟨vv, l6, l7⟩, l8⟩ := hL
  have l6 : vk (pre ++ [(s, c)]) pre.length (s, c) c.length = some vv := l6
  rw [hv] at l6
  cases l6
  have hv2 := hv
  rw [vk_last] at hv2
  have hv2 : vat (sgs (pre ++ [(s, c)])) (s.1 + s.2.2) s.2.1 c c.length = some v := hv2
  have hp0 : pos0 (pre ++ [(s, c)]) pre.length = totL pre := pos0_app (Nat.le_refl _)
  have htot : totL (pre ++ [(s, c)]) = totL pre + c.length := totL_snoc pre (s, c)
  have hpl : pre.length < 40 := by simp at f2; omega
  have hcl : c.length < 1500 := by omega
  have hv3 : vat (sgs (pre ++ [(s, c)])) (s.1 + s.2.2) s.2.1 (c ++ [(o, a, b)]) (c.length + 1) = some v' := by
    unfold vat
    rw [vat_app (Nat.le_refl _), hv2]
    dsimp only
    rw [List.getElem?_append_right (Nat.le_refl _)]
    simp [hs]
  have hSm : ∀ l ∈ v'.1, SmL l := SmL_of (vat_chain hv3) (vat_sB hr8 hsg8 hv3) (by omega)
  have hlen' : v'.1.length ≤ 1501 := by
    by_cases e : v'.1 = []
    · rw [e]; exact Nat.zero_le _
    · have h1 := vat_len hv3 e
      have h2 := ps_len_le (c ++ [(o, a, b)]) (c.length + 1)
      omega
  have hms : v.2.2.2 < 1000000 := by
    have := vat_mostB hr8 hsg8 hv2
    omega
  have ga : ∀ f, ¬ F6 f → gi h1 f m = gi h f m := fun f hf => w1.2.2.2.2.2.2.2.1 f m (fun q => hf q.1)
  have aa : ∀ x, x < 10 → ai h1 (m + x) = ai h (m + x) := fun x hx => w1.2.2.2.2.2.2.2.2 _ (fun q => by omega)
  refine s_108 (tot := totL (pre ++ [(s, c)])) (k0 := pre.length) (p0 := totL pre) (ms := v.2.2.2) (ls := v'.1) hm1 ?_ hpl ?_ ht ?_ (by omega) ?_ hms g3 hlen' A1 hSm ?_
  · rw [ga 640 (by unfold F6; omega), f1]; simp
  · rw [ga 641 (by unfold F6; omega), f3]
  · rw [aa 1 (by omega), l1, hp0]
  · rw [aa 6 (by omega)]; exact l7
  · intro h' w' A' gg g41 g42 x1 x2 x6 x7 x8 x9
    have hlast : fC (s, c ++ [(o, a, b)]) = c ++ [(o, a, b)] := rfl
    have hsgs := sgs_snoc pre s (c ++ [(o, a, b)]) c
    have hvk : ∀ i, vk (pre ++ [(s, c ++ [(o, a, b)])]) pre.length (s, c ++ [(o, a, b)]) i = vat (sgs (pre ++ [(s, c)])) (s.1 + s.2.2) s.2.1 (c ++ [(o, a, b)]) i := by
      intro i
      rw [vk_last, hsgs]
      rfl
    have hvk0 : ∀ i, vk (pre ++ [(s, c)]) pre.length (s, c) i = vat (sgs (pre ++ [(s, c)])) (s.1 + s.2.2) s.2.1 c i := by
      intro i
      rw [vk_last]
      rfl
    have htot2 : totL (pre ++ [(s, c ++ [(o, a, b)])]) = totL pre + c.length + 1 := by
      rw [totL_snoc, hlast]
      simp
      omega
    refine k h' (w1.ww.tr w') (w'.ms hm1) ⟨?_, by simpa using f2, ?_, by omega, fun k f hf => ?_⟩ ?_ (fun hne => ⟨A', ?_, ?_⟩)
    · rw [gg 640 (Or.inl rfl), ga 640 (by unfold F6; omega), f1]; simp
    · rw [g41, htot2, htot]
    · rcases snoc_cases hf with ⟨hk, hf⟩ | ⟨hk, rfl⟩
      · -- an earlier function
        rw [MFn_pre hk]
        have hfo : (pre ++ [(s, c)])[k]? = some f := by rw [List.getElem?_append_left hk]; exact hf
        have hMo := (MFn_pre hk).mp (f5 k f hfo)
        refine hMo.of (fun x hx => ?_) (fun x hx i hi => ?_)
        · rcases hx with rfl | rfl | rfl | rfl | rfl | rfl
          · rw [x1 1 (by omega), aa 1 (by omega)]
          · rw [x2, if_neg (by omega), aa 2 (by omega)]
          · rw [x1 3 (by omega), aa 3 (by omega)]
          · rw [x1 4 (by omega), aa 4 (by omega)]
          · rw [x1 5 (by omega), aa 5 (by omega)]
          · rw [x6, if_neg (by omega), aa 6 (by omega)]
        · have hpk : pos0 pre k + i < totL pre := by
            have h1 := pos0_succ (fns := pre) hf
            have h2 := pos0_mono (fns := pre) (j := k + 1) (k := pre.length) (by omega)
            unfold totL
            omega
          rcases hx with rfl | rfl | rfl | rfl
          · rw [x7, if_neg (by omega), aa 7 (by omega)]
          · rw [x8, if_neg (by omega), aa 8 (by omega)]
          · rw [x9, if_neg (by omega), aa 9 (by omega)]
          · rw [x1 10 (by omega), b1 _ (by omega)]
      · -- the function that is written
        subst hk
        have hp0' : pos0 (pre ++ [(s, c ++ [(o, a, b)])]) pre.length = totL pre := pos0_app (Nat.le_refl _)
        refine ⟨l0, ?_, ?_, ?_, ?_, ?_, ⟨v', ?_, ?_⟩, fun i x hx => ?_⟩
        · rw [x1 1 (by omega), aa 1 (by omega), l1, hp0, hp0']
        · rw [x2, if_pos rfl, hlast, List.length_append]
          congr 1
          simp
          omega
        · rw [x1 3 (by omega), aa 3 (by omega)]; exact l3
        · rw [x1 4 (by omega), aa 4 (by omega)]; exact l4
        · rw [x1 5 (by omega), aa 5 (by omega)]; exact l5
        · rw [hvk, hlast, List.length_append]
          exact hv3
        · rw [x6, if_pos rfl, vstep_mst hs]
        · rw [hp0']
          rw [hlast] at hx
          by_cases hi : i < c.length
          · rw [List.getElem?_append_left hi] at hx
            obtain ⟨q1, q2, q3, q4⟩ := l8 i x hx
            rw [hp0] at q1 q2 q3 q4
            refine ⟨?_, ?_, ?_, fun hb => ?_⟩
            · rw [x7, if_neg (by omega), aa 7 (by omega), q1]
            · rw [x8, if_neg (by omega), aa 8 (by omega), q2]
            · rw [x9, if_neg (by omega), aa 9 (by omega), q3]
            · obtain ⟨u, l, q, u1, u2, u3⟩ := q4 hb
              rw [hvk0] at u1
              refine ⟨u, l, q, ?_, u2, ?_⟩
              · rw [hvk, vat_app (by omega)]; exact u1
              · rw [x1 10 (by omega), b1 _ (by omega)]; exact u3
          · have hie : i = c.length := by
              have := (List.getElem?_eq_some_iff.mp hx).1
              simp at this
              omega
            subst hie
            rw [List.getElem?_append_right (Nat.le_refl _)] at hx
            simp at hx
            subst hx
            refine ⟨?_, ?_, ?_, fun hb => ?_⟩
            · rw [x7, if_pos (by omega)]
            · rw [x8, if_pos (by omega)]
            · rw [x9, if_pos (by omega)]
            · obtain ⟨l, q, u1, u2⟩ := b2 hb
              refine ⟨v', l, q, ?_, u1, ?_⟩
              · rw [hvk]; exact hv3
              · rw [x1 10 (by omega), ← htot]; exact u2
    · rw [g42]
      by_cases e : v'.1 = []
      · rw [if_pos e, if_pos e]
      · rw [if_neg e, if_neg e, ga 642 (by unfold F6; omega), hw]
    · rw [gg 653 (by omega), g3]
    · obtain ⟨e1, e2, e3⟩ := E1 hne
      refine ⟨by rw [gg 654 (by omega), e1], e2, fun h0 => ?_⟩
      have := e3 h0
      cases hw2 : v'.2.2.1 with
      | none =>
        rw [hw2] at this
        show gi h' 656 m = 1
        rw [gg 656 (by omega)]
        exact this
      | some n =>
        rw [hw2] at this
        show gi h' 656 m = 0 ∧ gi h' 655 m = nI n ∧ n < 100
        rw [gg 656 (by omega), gg 655 (by omega)]
        exact this
end MC
