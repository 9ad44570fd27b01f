/-! THE REFERENCE RUNS, 8: memory, and a plain operation as a whole -/
section FF
variable {P : List Fn} {m : Nat} {h0 h : Hp} {fr r : List Fm} {w w0 : Wd} {A n p f b i : Nat} {q : Option Nat} {v : VV} {bb : Nat → Int32} {g : VV} {gf : Fn} {Q : Option TV → Hp → Prop} {a o b' : Int32}
theorem s_size (k : Q (some (tI (nI (sizeN o)))) h) : tX11_size o h Q := by
  refine wX11_size o h Q ?_
  unfold sizeN at k
  by_cases c41 : o = 41
  · rw [if_pos c41] at k ⊢
    exact k
  rw [if_neg c41] at k ⊢
  by_cases c43 : o = 43
  · rw [if_pos c43] at k ⊢
    exact k
  rw [if_neg c43] at k ⊢
  by_cases c55 : o = 55
  · rw [if_pos c55] at k ⊢
    exact k
  rw [if_neg c55] at k ⊢
  by_cases c57 : o = 57
  · rw [if_pos c57] at k ⊢
    exact k
  rw [if_neg c57] at k ⊢
  by_cases c40 : o = 40
  · rw [if_pos c40] at k ⊢
    exact k
  rw [if_neg c40] at k ⊢
  by_cases c42 : o = 42
  · rw [if_pos c42] at k ⊢
    exact k
  rw [if_neg c42] at k ⊢
  by_cases c52 : o = 52
  · rw [if_pos c52] at k ⊢
    exact k
  rw [if_neg c52] at k ⊢
  by_cases c53 : o = 53
  · rw [if_pos c53] at k ⊢
    exact k
  rw [if_neg c53] at k ⊢
  by_cases c54 : o = 54
  · rw [if_pos c54] at k ⊢
    exact k
  rw [if_neg c54] at k ⊢
  by_cases c56 : o = 56
  · rw [if_pos c56] at k ⊢
    exact k
  rw [if_neg c56] at k ⊢
  by_cases c62 : o = 62
  · rw [if_pos c62] at k ⊢
    exact k
  rw [if_neg c62] at k ⊢
  by_cases c46 : o = 46
  · rw [if_pos c46] at k ⊢
    exact k
  rw [if_neg c46] at k ⊢
  by_cases c47 : o = 47
  · rw [if_pos c47] at k ⊢
    exact k
  rw [if_neg c47] at k ⊢
  by_cases c50 : o = 50
  · rw [if_pos c50] at k ⊢
    exact k
  rw [if_neg c50] at k ⊢
  by_cases c51 : o = 51
  · rw [if_pos c51] at k ⊢
    exact k
  rw [if_neg c51] at k ⊢
  by_cases c59 : o = 59
  · rw [if_pos c59] at k ⊢
    exact k
  rw [if_neg c59] at k ⊢
  by_cases c61 : o = 61
  · rw [if_pos c61] at k ⊢
    exact k
  rw [if_neg c61] at k ⊢
  exact k
theorem ite_in {c : Prop} [Decidable c] {x y : Nat} (hx : 1 ≤ x ∧ x ≤ 8) (hy : 1 ≤ y ∧ y ≤ 8) : 1 ≤ (if c then x else y) ∧ (if c then x else y) ≤ 8 := by
  by_cases e : c
  · rw [if_pos e]; exact hx
  · rw [if_neg e]; exact hy
theorem sizeN_le (o : Int32) : 1 ≤ sizeN o ∧ sizeN o ≤ 8 := by
  unfold sizeN
  refine ite_in (by decide) ?_
  refine ite_in (by decide) ?_
  refine ite_in (by decide) ?_
  refine ite_in (by decide) ?_
  refine ite_in (by decide) ?_
  refine ite_in (by decide) ?_
  refine ite_in (by decide) ?_
  refine ite_in (by decide) ?_
  refine ite_in (by decide) ?_
  refine ite_in (by decide) ?_
  refine ite_in (by decide) ?_
  refine ite_in (by decide) ?_
  refine ite_in (by decide) ?_
  refine ite_in (by decide) ?_
  refine ite_in (by decide) ?_
  refine ite_in (by decide) ?_
  refine ite_in (by decide) ?_
  decide
theorem s_ld (hm : MS h0 m) (H : RLv P m h0 h fr (n, v, p, bb, g) A) (hn : n < 500) {A0 : Nat} : ∀ (k : Nat) (y : Int64), A0 + k ≤ 384 → k ≤ 8 → (∀ h', RLv P m h0 h' fr (n + 1, upv v n (wid o (ldV bb A0 k y)), p, bb, g) A → Q none h') → tX11_move_128 m o (nI (sizeN o)) y (nI A0) (nI k - 1) h Q := by
  have hm1 := H.ms hm
  have xb : ai h (m + 19) = bb := H.2.2.2.2.2.2.2.2.1.2.1
  intro k
  induction k with
  | zero =>
    intro y _ _ kk
    have kk : ∀ h', RLv P m h0 h' fr (n + 1, upv v n (wid o y), p, bb, g) A → Q none h' := kk
    have psh : ∀ z : Int64, z = wid o y → tX11_move_230 m z (some m) h Q := by
      intro z e
      subst e
      exact wX11_move_230 m _ _ h Q (dr_of rfl ⟨hm1.1, s_push hm H (by omega) (fun h4 H4 => rV_of (kk h4 H4))⟩)
    have s204 : ∀ z : Int64, z = wid1 o y → tX11_move_204 m o z h Q := by
      intro z e
      subst e
      refine wX11_move_204 m o _ h Q ?_
      by_cases c1 : o = 44
      · rw [if_pos c1]
        exact wX11_move_219 m _ _ h Q (psh _ (by unfold wid; rw [if_pos (Or.inl c1)]; rfl))
      rw [if_neg c1]
      by_cases c2 : o = 46
      · rw [if_pos c2]
        exact wX11_move_219 m _ _ h Q (psh _ (by unfold wid; rw [if_pos (Or.inr c2)]; rfl))
      rw [if_neg c2]
      exact psh _ (by unfold wid; rw [if_neg (fun z => z.elim c1 c2)])
    refine wX11_move_128 m o _ y _ _ h Q ?_
    rw [if_pos (by decide)]
    by_cases c43 : 43 < o
    · rw [if_pos c43]
      refine ⟨by decide, ?_⟩
      by_cases ce : o - o / 2 * 2 = 0
      · rw [if_pos ce]
        refine wX11_move_184 m o y _ _ h Q ?_
        rw [if_neg (by decide)]
        refine s204 _ ?_
        unfold wid1 sgnO
        rw [decide_eq_true c43, decide_eq_true ce]
        rfl
      · rw [if_neg ce]
        refine wX11_move_183 m o y _ h Q (wX11_move_184 m o y _ _ h Q ?_)
        rw [if_pos rfl]
        refine s204 _ ?_
        unfold wid1 sgnO
        rw [decide_eq_false ce, Bool.and_false]
        rfl
    · rw [if_neg c43]
      refine wX11_move_183 m o y _ h Q (wX11_move_184 m o y _ _ h Q ?_)
      rw [if_pos rfl]
      refine s204 _ ?_
      unfold wid1 sgnO
      rw [decide_eq_false c43, Bool.false_and]
      rfl
  | succ k ih =>
    intro y h1 h2 kk
    rw [nI_sub1]
    refine wX11_move_128 m o _ y _ _ h Q ?_
    rw [if_neg (nI_n0 (by omega)), nJ_add]
    refine ⟨hm1.1, L_bytes hm1 hm1 (by omega) ?_⟩
    rw [nck (by omega), xb, show nI k + (-1) = nI k - 1 from (Int32.sub_eq_add_neg _ _).symm]
    exact ih _ (by omega) (by omega) kk
theorem s_st (hm : MS h0 m) {A0 c : Nat} {y : Int64} (hc : c ≤ 8) (hA : A0 + c ≤ 384) : ∀ (t k : Nat) (h : Hp), t = c - k → k ≤ c → RLv P m h0 h fr (n, v, p, stB bb A0 y k, g) A → (∀ h', RLv P m h0 h' fr (n, v, p, stB bb A0 y c, g) A → Q none h') → tX11_move_87 m (nI c) y (nI A0) (nI k) h Q := by
  intro t
  induction t with
  | zero =>
    intro k h ht hk H kk
    have e : k = c := by omega
    subst e
    refine wX11_move_87 m _ _ _ _ h Q ?_
    rw [if_neg (nI_nlt (Nat.le_refl _) (by omega))]
    exact kk h H
  | succ t ih =>
    intro k h ht hk H kk
    have hm1 := H.ms hm
    refine wX11_move_87 m _ _ _ _ h Q ?_
    rw [if_pos (nI_lt (by omega) (by omega)), nJ_add]
    refine ⟨hm1.1, S_bytes hm1 hm1 (by omega) (fun h1 e1 => ?_)⟩
    rw [nck (by omega)] at e1
    rw [← nI_succ]
    refine ih (k + 1) h1 (by omega) (by omega) ?_ kk
    rw [e1]
    exact H.bset _ _
theorem pg_lt {x y : Nat} (hp : p ≤ 6) (hx : x < 8589934592) (hy : y ≤ 8) : (64 * (nI p).toInt64 < jN x + (nI y).toInt64) ↔ 64 * p < x + y := by
  rw [nI_to64 (by omega), nI_to64 (by omega), jN_add, show (64 : Int64) * jN p = jN (64 * p) from jN_mul 64 p]
  exact jN_lt (by omega) (by omega)
theorem s_moveL (hm : MS h0 m) (H : RLv P m h0 h fr (n + 1, v, p, bb, g) A) (hn : n < 500) (hp : p ≤ 6) (ho : o < 54) (k : if 64 * p < ad (v n) a + sizeN o then ∀ h', RSt m h0 h' 3 4 (n + 1, v, p, bb, g) → Q none h' else ∀ h', RLv P m h0 h' fr (n + 1, upv v n (wid o (ldV bb (ad (v n) a) (sizeN o) 0)), p, bb, g) A → Q none h') : tX11_move m o a h Q := by
  have hm1 := H.ms hm
  have hsz := sizeN_le o
  refine wX11_move m o a h Q (s_size (rI_of ?_))
  rw [if_pos ho]
  refine wX11_move_16 m o a _ _ h Q ?_
  rw [if_neg (by decide)]
  refine wX11_move_31 m o a _ _ _ h Q ⟨hm1.1, s_pop1 hm H (by omega) (fun h1 H1 => rL_of ?_)⟩
  have hm2 := H1.ms hm
  have xp : gi h1 666 m = nI p := H1.2.2.2.2.2.2.2.2.1.1
  have ea : (v n &&& 4294967295) + (a.toInt64 &&& 4294967295) = jN (ad (v n) a) := ad_jN _ _
  refine ⟨hm2.1, ?_⟩
  rw [xp, ea]
  by_cases c : 64 * p < ad (v n) a + sizeN o
  · rw [if_pos c] at k
    rw [if_pos ((pg_lt hp (ad_lt _ _) hsz.2).mpr c)]
    exact ⟨hm2.1, s_traps hm H1 (fun h4 H4 => rV_of (k h4 H4))⟩
  · rw [if_neg c] at k
    rw [if_neg (fun z => c ((pg_lt hp (ad_lt _ _) hsz.2).mp z)), if_neg (by decide), jN_to32]
    exact s_ld hm H1 (by omega) (sizeN o) 0 (by omega) hsz.2 k
theorem s_moveS (hm : MS h0 m) (H : RLv P m h0 h fr (n + 2, v, p, bb, g) A) (hn : n < 500) (hp : p ≤ 6) (ho : ¬ o < 54) (k : if 64 * p < ad (v n) a + sizeN o then ∀ h', RSt m h0 h' 3 4 (n + 2, v, p, bb, g) → Q none h' else ∀ h', RLv P m h0 h' fr (n, v, p, stB bb (ad (v n) a) (v (n + 1)) (sizeN o), g) A → Q none h') : tX11_move m o a h Q := by
  have hm1 := H.ms hm
  have hsz := sizeN_le o
  refine wX11_move m o a h Q (s_size (rI_of ?_))
  rw [if_neg ho]
  refine wX11_move_16 m o a _ _ h Q ?_
  rw [if_pos rfl]
  refine ⟨hm1.1, s_pop1 hm H (by omega) (fun h0' H0 => rL_of ?_)⟩
  have hm0 := H0.ms hm
  refine wX11_move_31 m o a _ _ _ h0' Q ⟨hm0.1, s_pop1 hm H0 (by omega) (fun h1 H1 => rL_of ?_)⟩
  have hm2 := H1.ms hm
  have xp : gi h1 666 m = nI p := H1.2.2.2.2.2.2.2.2.1.1
  have ea : (v n &&& 4294967295) + (a.toInt64 &&& 4294967295) = jN (ad (v n) a) := ad_jN _ _
  refine ⟨hm2.1, ?_⟩
  rw [xp, ea]
  by_cases c : 64 * p < ad (v n) a + sizeN o
  · rw [if_pos c] at k
    rw [if_pos ((pg_lt hp (ad_lt _ _) hsz.2).mpr c)]
    exact ⟨hm2.1, s_traps hm H1 (fun h4 H4 => rV_of (k h4 H4))⟩
  · rw [if_neg c] at k
    rw [if_neg (fun z => c ((pg_lt hp (ad_lt _ _) hsz.2).mp z)), if_pos rfl, jN_to32]
    exact s_st hm hsz.2 (by omega) (sizeN o) 0 h1 (by omega) (Nat.zero_le _) H1 k
theorem s_grow (hm : MS h0 m) (H : RLv P m h0 h fr (n + 1, v, p, bb, g) A) (hn : n < 500) (hp : p ≤ 6) (k : if 6 < p + lwN (v n) then ∀ h', RLv P m h0 h' fr (n + 1, upv v n 4294967295, p, bb, g) A → Q none h' else ∀ h', RLv P m h0 h' fr (n + 1, upv v n (nI p).toInt64, p + lwN (v n), bb, g) A → Q none h') : tX11_grow m h Q := by
  have hm1 := H.ms hm
  refine wX11_grow m h Q ⟨hm1.1, s_pop1 hm H (by omega) (fun h1 H1 => rL_of ?_)⟩
  have hm2 := H1.ms hm
  have xp : gi h1 666 m = nI p := H1.2.2.2.2.2.2.2.2.1.1
  have el : (v n &&& 4294967295) = jN (lwN (v n)) := low_jN (v n)
  have hl := lwN_lt (v n)
  refine ⟨hm2.1, ?_⟩
  rw [xp, nI_to64 (by omega), el, jN_add]
  by_cases c : 6 < p + lwN (v n)
  · rw [if_pos c] at k
    rw [if_pos (show (6 : Int64) < _ from (jN_lt (a := 6) (by decide) (by omega)).mpr c)]
    refine wX11_grow_28 m _ _ h1 Q ?_
    rw [if_pos rfl]
    refine wX11_grow_45 m _ _ _ _ h1 Q (dr_of rfl ⟨hm2.1, s_push hm H1 (by omega) (fun h4 H4 => rV_of ?_)⟩)
    have hm4 := H4.ms hm
    refine ⟨hm4.1, ?_⟩
    rw [if_pos rfl]
    refine ⟨hm4.1, fun h5 e5 => k h5 ?_⟩
    have xp4 : gi h4 666 m = nI p := H4.2.2.2.2.2.2.2.2.1.1
    rw [xp4, show nI p + 0 = nI p from by simp] at e5
    rw [e5]
    exact H4.page p
  · rw [if_neg c] at k
    rw [if_neg (show ¬ (6 : Int64) < _ from fun z => c ((jN_lt (a := 6) (by decide) (by omega)).mp z))]
    refine wX11_grow_28 m _ _ h1 Q ?_
    rw [if_neg (by decide)]
    refine ⟨hm2.1, ?_⟩
    rw [xp]
    refine wX11_grow_45 m _ _ _ _ h1 Q (dr_of rfl ⟨hm2.1, s_push hm H1 (by omega) (fun h4 H4 => rV_of ?_)⟩)
    have hm4 := H4.ms hm
    refine ⟨hm4.1, ?_⟩
    rw [if_neg (by decide)]
    refine ⟨hm4.1, fun h5 e5 => k h5 ?_⟩
    have xp4 : gi h4 666 m = nI p := H4.2.2.2.2.2.2.2.2.1.1
    rw [xp4, jN_to32, nJ_add] at e5
    rw [e5]
    exact H4.page _
/-- a plain operation -/
theorem s_simple (hm : MS h0 m) (H : RLv P m h0 h ((f, b, q) :: r) (n, v, p, bb, g) A) (h30 : r.length < 30) {nm kk : Nat} {t : Nat × Nat} (hn : n = b + nm + kk) (hk : b + nm + kk - t.1 + t.2 ≤ 220) (ht : t.1 ≤ kk) (hn2 : n ≤ 220) (hp : p ≤ 6) (har : arP o a nm = some t ∨ (o = 1 ∧ t = (0, 0)))
    (k : match smp o a b' b (n, v, p, bb, g) with
      | .inl c => ∀ h', RSt m h0 h' 3 c (n, v, p, bb, g) → Q none h'
      | .inr w2 => ∀ h', RLv P m h0 h' ((f, b, q) :: r) w2 (A + 1) → Q none h') : tX11_simple m o a b' h Q := by
  have hm1 := H.ms hm
  have fin : ∀ (w2 : Wd) (h1 : Hp), RLv P m h0 h1 ((f, b, q) :: r) w2 A → (∀ h', RLv P m h0 h' ((f, b, q) :: r) w2 (A + 1) → Q none h') → ob h1 m 10 (ob h1 m 10 (∀ h_9, h_9 = pi h1 674 m ((gi h1 674 m) + 1) → Q none h_9)) := by
    intro w2 h1 H1 k1
    have hm2 := H1.ms hm
    refine ⟨hm2.1, hm2.1, fun h2 e2 => k1 h2 ?_⟩
    have x8 : gi h1 674 m = nI A := H1.2.2.2.2.2.2.2.1
    rw [x8, ← nI_succ] at e2
    rw [e2]
    exact H1.at' _
  have finT : ∀ (c : Int32) (h1 : Hp) (n1 : Nat), RSt m h0 h1 3 c (n1, v, p, bb, g) → (∀ h', RSt m h0 h' 3 c (n, v, p, bb, g) → Q none h') → ob h1 m 10 (ob h1 m 10 (∀ h_9, h_9 = pi h1 674 m ((gi h1 674 m) + 1) → Q none h_9)) := by
    intro c h1 n1 H1 k1
    have hm2 := H1.1.ms hm
    refine ⟨hm2.1, hm2.1, fun h2 e2 => k1 h2 ?_⟩
    rw [e2]
    exact H1.at' _
  refine wX11_simple m o a b' h Q ?_
  rcases har with har | ⟨rfl, rfl⟩
  · rcases arP_cases har with ⟨rfl, rfl⟩ | ⟨rfl, rfl⟩ | ⟨rfl, ha, hb, rfl⟩ | ⟨rfl, ha, hb, rfl⟩ | ⟨rfl, ha, hb, rfl⟩ | ⟨rfl, ha, rfl⟩ | ⟨rfl, ha, rfl⟩ | ⟨hc, rfl⟩ | ⟨hc, rfl⟩ | ⟨hc, rfl⟩ | ⟨⟨h1, h2⟩, rfl⟩ | ⟨⟨h1, h2⟩, rfl⟩
    · -- 26
      rw [if_pos rfl]
      obtain ⟨n0, rfl⟩ : ∃ n0, n = n0 + 1 := ⟨n - 1, by dsimp only at ht; omega⟩
      exact ⟨hm1.1, s_pop1 hm H (by omega) (fun h1 H1 => rL_of (fin _ h1 H1 k))⟩
    · -- 27
      rw [if_neg (by decide), if_pos rfl]
      obtain ⟨n0, rfl⟩ : ∃ n0, n = n0 + 3 := ⟨n - 3, by dsimp only at ht; omega⟩
      exact ⟨hm1.1, s_choose hm H (by omega) (fun h1 H1 => rV_of (fin _ h1 H1 k))⟩
    · rw [if_neg (by decide), if_neg (by decide), if_pos (by decide), if_pos (by decide)]
      exact ⟨hm1.1, s_var32 hm H h30 (by omega) ha (by omega) (fun h1 H1 => rV_of (fin _ h1 H1 k))⟩
    · rw [if_neg (by decide), if_neg (by decide), if_pos (by decide), if_pos (by decide)]
      obtain ⟨n0, rfl⟩ : ∃ n0, n = n0 + 1 := ⟨n - 1, by dsimp only at ht; omega⟩
      exact ⟨hm1.1, s_var33 hm H h30 (by omega) ha (by omega) (fun h1 H1 => rV_of (fin _ h1 H1 k))⟩
    · rw [if_neg (by decide), if_neg (by decide), if_pos (by decide), if_pos (by decide)]
      obtain ⟨n0, rfl⟩ : ∃ n0, n = n0 + 1 := ⟨n - 1, by dsimp only at ht; omega⟩
      exact ⟨hm1.1, s_var34 hm H h30 (by omega) ha (by omega) (fun h1 H1 => rV_of (fin _ h1 H1 k))⟩
    · rw [if_neg (by decide), if_neg (by decide), if_pos (by decide), if_pos (by decide)]
      have := ((wi_nI (d := 7) (by decide)).mp ha).2
      exact ⟨hm1.1, s_var35 hm H h30 (by omega) ha.1 (by omega) (fun h1 H1 => rV_of (fin _ h1 H1 k))⟩
    · rw [if_neg (by decide), if_neg (by decide), if_pos (by decide), if_pos (by decide)]
      have := ((wi_nI (d := 7) (by decide)).mp ha).2
      obtain ⟨n0, rfl⟩ : ∃ n0, n = n0 + 1 := ⟨n - 1, by dsimp only at ht; omega⟩
      exact ⟨hm1.1, s_var36 hm H h30 (by omega) ha.1 (by omega) (fun h1 H1 => rV_of (fin _ h1 H1 k))⟩
    · rcases hc with rfl | rfl | rfl
      · rw [if_neg (by decide), if_neg (by decide), if_pos (by decide), if_neg (by decide)]
        refine wX11_simple_48 m _ _ _ h Q ?_
        rw [if_pos (by decide), if_neg (by decide)]
        refine wX11_simple_69 m _ _ _ h Q ?_
        rw [if_pos rfl]
        have xp : gi h 666 m = nI p := H.2.2.2.2.2.2.2.2.1.1
        rw [xp]
        exact ⟨hm1.1, hm1.1, s_push hm H (by omega) (fun h1 H1 => rV_of (fin _ h1 H1 k))⟩
      · rw [if_neg (by decide), if_neg (by decide), if_pos (by decide), if_neg (by decide)]
        refine wX11_simple_48 m _ _ _ h Q ?_
        rw [if_pos (by decide), if_neg (by decide)]
        refine wX11_simple_69 m _ _ _ h Q ?_
        rw [if_neg (by decide), if_neg (by decide), if_pos rfl]
        exact ⟨hm1.1, s_push hm H (by omega) (fun h1 H1 => rV_of (fin _ h1 H1 k))⟩
      · rw [if_neg (by decide), if_neg (by decide), if_pos (by decide), if_neg (by decide)]
        refine wX11_simple_48 m _ _ _ h Q ?_
        rw [if_pos (by decide), if_neg (by decide)]
        refine wX11_simple_69 m _ _ _ h Q ?_
        rw [if_neg (by decide), if_neg (by decide), if_neg (by decide), if_pos rfl]
        exact ⟨hm1.1, s_push hm H (by omega) (fun h1 H1 => rV_of (fin _ h1 H1 k))⟩
    · obtain ⟨n0, rfl⟩ : ∃ n0, n = n0 + 1 := ⟨n - 1, by dsimp only at ht; omega⟩
      have w1 : ∀ o : Int32, o = 69 ∨ o = 80 ∨ o = 167 ∨ o = 173 → (∀ h', RLv P m h0 h' ((f, b, q) :: r) (n0 + 1, upv v n0 (if o = 69 then (if low (v n0) = 0 then 1 else 0) else if o = 80 then (if v n0 = 0 then 1 else 0) else low (v n0)), p, bb, g) (A + 1) → Q none h') → tX11_simple_69 m o a b' h Q := by
        intro o ho k1
        refine wX11_simple_69 m o a b' h Q ?_
        have hne : ¬ o = 63 ∧ ¬ o = 64 ∧ ¬ o = 65 ∧ ¬ o = 66 ∧ 68 < o := by rcases ho with rfl | rfl | rfl | rfl <;> decide
        rw [if_neg hne.1, if_neg hne.2.1, if_neg hne.2.2.1, if_neg hne.2.2.2.1, if_pos hne.2.2.2.2]
        exact ⟨hm1.1, s_work1 hm H (by omega) ho (fun h1 H1 => rV_of (fin _ h1 H1 k1))⟩
      rcases hc with rfl | rfl | rfl | rfl | rfl
      · rw [if_neg (by decide), if_neg (by decide), if_pos (by decide), if_neg (by decide)]
        refine wX11_simple_48 m _ _ _ h Q ?_
        rw [if_pos (by decide), if_neg (by decide)]
        refine wX11_simple_69 m _ _ _ h Q ?_
        rw [if_neg (by decide), if_pos rfl]
        rw [smp_64] at k
        refine ⟨hm1.1, s_grow hm H (by omega) hp ?_⟩
        rw [Nat.add_sub_cancel] at k
        by_cases c : 6 < p + lwN (v n0)
        · rw [if_pos c] at k ⊢
          exact fun h1 H1 => rV_of (fin _ h1 H1 k)
        · rw [if_neg c] at k ⊢
          exact fun h1 H1 => rV_of (fin _ h1 H1 k)
      · rw [if_neg (by decide), if_neg (by decide), if_pos (by decide), if_neg (by decide)]
        refine wX11_simple_48 m _ _ _ h Q ?_
        rw [if_pos (by decide), if_neg (by decide)]
        exact w1 69 (by decide) k
      · rw [if_neg (by decide), if_neg (by decide), if_pos (by decide), if_neg (by decide)]
        refine wX11_simple_48 m _ _ _ h Q ?_
        rw [if_pos (by decide), if_neg (by decide)]
        exact w1 80 (by decide) k
      · rw [if_neg (by decide), if_neg (by decide), if_pos (by decide), if_neg (by decide)]
        refine wX11_simple_48 m _ _ _ h Q ?_
        rw [if_pos (by decide), if_neg (by decide)]
        exact w1 167 (by decide) k
      · rw [if_neg (by decide), if_neg (by decide), if_pos (by decide), if_neg (by decide)]
        refine wX11_simple_48 m _ _ _ h Q ?_
        rw [if_pos (by decide), if_neg (by decide)]
        exact w1 173 (by decide) k
    · obtain ⟨n0, rfl⟩ : ∃ n0, n = n0 + 2 := ⟨n - 2, by dsimp only at ht; omega⟩
      have hne : ¬ o = 26 ∧ ¬ o = 27 ∧ 31 < o ∧ ¬ o < 37 ∧ 39 < o ∧ ¬ o < 63 ∧ ¬ o = 63 ∧ ¬ o = 64 ∧ ¬ o = 65 ∧ ¬ o = 66 ∧ 68 < o := by rcases hc with rfl | rfl | rfl | rfl | rfl | rfl | rfl | rfl | rfl | rfl | rfl | rfl | rfl | rfl | rfl <;> decide
      have ksm : match wk2 o (v n0) (v (n0 + 1)) with
          | none => ∀ h', RSt m h0 h' 3 11 (n0 + 2, v, p, bb, g) → Q none h'
          | some z => ∀ h', RLv P m h0 h' ((f, b, q) :: r) (n0 + 1, upv v n0 z, p, bb, g) (A + 1) → Q none h' := by
        have e : smp o a b' b (n0 + 2, v, p, bb, g) = match wk2 o (v n0) (v (n0 + 1)) with
            | none => .inl 11
            | some z => .inr (n0 + 1, upv v n0 z, p, bb, g) := by
          rcases hc with rfl | rfl | rfl | rfl | rfl | rfl | rfl | rfl | rfl | rfl | rfl | rfl | rfl | rfl | rfl <;> rfl
        rw [e] at k
        cases hz : wk2 o (v n0) (v (n0 + 1)) with
        | none => rw [hz] at k; exact k
        | some z => rw [hz] at k; exact k
      rw [if_neg hne.1, if_neg hne.2.1, if_pos hne.2.2.1, if_neg hne.2.2.2.1]
      refine wX11_simple_48 m _ _ _ h Q ?_
      rw [if_pos hne.2.2.2.2.1, if_neg hne.2.2.2.2.2.1]
      refine wX11_simple_69 m _ _ _ h Q ?_
      rw [if_neg hne.2.2.2.2.2.2.1, if_neg hne.2.2.2.2.2.2.2.1, if_neg hne.2.2.2.2.2.2.2.2.1, if_neg hne.2.2.2.2.2.2.2.2.2.1, if_pos hne.2.2.2.2.2.2.2.2.2.2]
      refine ⟨hm1.1, s_workT hm H (by omega) hc ?_⟩
      cases hz : wk2 o (v n0) (v (n0 + 1)) with
      | none =>
        rw [hz] at ksm
        exact fun h1 H1 => rV_of (finT _ h1 _ H1 ksm)
      | some z =>
        rw [hz] at ksm
        exact fun h1 H1 => rV_of (fin _ h1 H1 ksm)
    · obtain ⟨n0, rfl⟩ : ∃ n0, n = n0 + 1 := ⟨n - 1, by dsimp only at ht; omega⟩
      have ne : ∀ x : Int32, x < 40 → ¬ o = x := fun x hx e => h1 (by rw [e]; exact hx)
      have lt : ∀ x : Int32, x < 40 → x < o := fun x hx => by
        have := Int32.not_lt.mp h1
        rw [Int32.lt_iff_toInt_lt] at hx ⊢
        rw [Int32.le_iff_toInt_le] at this
        omega
      have nl : ¬ o < 37 := fun z => h1 (Int32.lt_trans z (by decide))
      have l63 : o < 63 := Int32.lt_trans h2 (by decide)
      rw [smp_ld h1 h2] at k
      rw [if_neg (ne 26 (by decide)), if_neg (ne 27 (by decide)), if_pos (lt 31 (by decide)), if_neg nl]
      refine wX11_simple_48 m _ _ _ h Q ?_
      rw [if_pos (lt 39 (by decide)), if_pos l63]
      refine ⟨hm1.1, s_moveL hm H (by omega) hp h2 ?_⟩
      rw [Nat.add_sub_cancel] at k
      by_cases c : 64 * p < ad (v n0) a + sizeN o
      · rw [if_pos c] at k ⊢
        exact fun h1 H1 => rV_of (finT _ h1 _ H1 k)
      · rw [if_neg c] at k ⊢
        exact fun h1 H1 => rV_of (fin _ h1 H1 k)
    · obtain ⟨n0, rfl⟩ : ∃ n0, n = n0 + 2 := ⟨n - 2, by dsimp only at ht; omega⟩
      have ne : ∀ x : Int32, x < 54 → ¬ o = x := fun x hx e => h1 (by rw [e]; exact hx)
      have lt : ∀ x : Int32, x < 54 → x < o := fun x hx => by
        have := Int32.not_lt.mp h1
        rw [Int32.lt_iff_toInt_lt] at hx ⊢
        rw [Int32.le_iff_toInt_le] at this
        omega
      have nl : ¬ o < 37 := fun z => h1 (Int32.lt_trans z (by decide))
      rw [smp_st h1 h2] at k
      rw [if_neg (ne 26 (by decide)), if_neg (ne 27 (by decide)), if_pos (lt 31 (by decide)), if_neg nl]
      refine wX11_simple_48 m _ _ _ h Q ?_
      rw [if_pos (lt 39 (by decide)), if_pos h2]
      refine ⟨hm1.1, s_moveS hm H (by omega) hp h1 ?_⟩
      have k : match (if 64 * p < ad (v n0) a + sizeN o then (Sum.inl 4 : Int32 ⊕ Wd) else .inr (n0, v, p, stB bb (ad (v n0) a) (v (n0 + 1)) (sizeN o), g)) with
          | .inl c => ∀ h', RSt m h0 h' 3 c (n0 + 2, v, p, bb, g) → Q none h'
          | .inr w2 => ∀ h', RLv P m h0 h' ((f, b, q) :: r) w2 (A + 1) → Q none h' := k
      by_cases c : 64 * p < ad (v n0) a + sizeN o
      · rw [if_pos c] at k ⊢
        exact fun h1 H1 => rV_of (finT _ h1 _ H1 k)
      · rw [if_neg c] at k ⊢
        exact fun h1 H1 => rV_of (fin _ h1 H1 k)
  · rw [if_neg (by decide), if_neg (by decide), if_neg (by decide)]
    refine wX11_simple_48 m _ _ _ h Q ?_
    rw [if_neg (by decide)]
    refine wX11_simple_69 m _ _ _ h Q ?_
    rw [if_neg (by decide), if_neg (by decide), if_neg (by decide), if_neg (by decide), if_neg (by decide)]
    exact fin _ h H k
end FF
