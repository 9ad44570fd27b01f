/-! THE LAW -/
section LL
variable {h h' : Hp} {x m : Nat} {X : Ab} {Q : Option TV → Hp → Prop}
theorem mAr_b : ∀ q ∈ mAr, 640 ≤ q.1 ∧ 1 ≤ q.2.1 ∧ q.2.1 ≤ 25 := by decide
theorem MA.cw (M : MA h m X) (W : CW x h h') (hd : x + 41 < m) (hm : m + 25 < sz h) : MA h' m X := by
  obtain ⟨P, D, ac, ar, tb, s, st⟩ := X
  obtain ⟨m1, m2, m3, m4, ⟨m5, m6⟩, m7, m8⟩ := M
  obtain ⟨-, w2, w3, w4⟩ := W
  have g : ∀ f, 640 ≤ f → gi h' f m = gi h f m ∧ gr h' f m = gr h f m := fun f hf => w4 f m (by omega) hf (by omega)
  have a : ∀ k, 1 ≤ k → k ≤ 25 → ai h' (m + k) = ai h (m + k) ∧ al h' (m + k) = al h (m + k) := fun k h1 h2 => by
    obtain ⟨z1, z2, -⟩ := w3 (m + k) (by omega) (by omega)
    exact ⟨z1, z2⟩
  have S1 : SmR m h h' := ⟨fun f hf => (g f (by omega)).1, fun b hb => by
    obtain ⟨k, rfl⟩ : ∃ k, b = m + k := ⟨b - m, by omega⟩
    exact a k (by omega) (by omega)⟩
  have S2 : SmW m h h' := ⟨fun f hf => (g f (by omega)).1, fun b hb => by
    obtain ⟨k, rfl⟩ : ∃ k, b = m + k := ⟨b - m, by omega⟩
    exact (a k (by omega) (by omega)).1⟩
  refine ⟨⟨by rw [w2 _ (by omega)]; exact m1.1, fun q hq => ?_⟩, m2.of S2, m3.of S2, fun j hj => by rw [(a 17 (by omega) (by omega)).1]; exact m4 j hj, ⟨by rw [(g _ (by omega)).1]; exact m5, fun j hj => by rw [(a 20 (by omega) (by omega)).2]; exact m6 j hj⟩, by rw [(g _ (by omega)).1]; exact m7, m8.of S1⟩
  obtain ⟨b1, b2, b3⟩ := mAr_b q hq
  obtain ⟨c1, c2⟩ := m1.2 q hq
  exact ⟨by rw [(g _ b1).2]; exact c1, by rw [w2 _ (by omega)]; exact c2⟩
theorem aFun_I (X : Ab) (p r l : Int32) : ∃ v, (aFun X p r l).1 = tI v := by
  obtain ⟨P, D, ac, ar, tb, s, st⟩ := X
  unfold aFun
  dsimp only
  split
  · exact ⟨_, rfl⟩
  · exact ⟨_, rfl⟩
theorem aCode_I (X : Ab) (o a b : Int32) : ∃ v, (aCode X o a b).1 = tI v := by
  obtain ⟨P, D, ac, ar, tb, s, st⟩ := X
  unfold aCode
  dsimp only
  split
  · exact ⟨_, rfl⟩
  · split
    · exact ⟨_, rfl⟩
    · split
      · exact ⟨_, rfl⟩
      · split
        · exact ⟨_, rfl⟩
        · exact ⟨_, rfl⟩
theorem aDrop_I (X : Ab) : ∃ v, (aDrop X).1 = tI v := by
  obtain ⟨P, D, ac, ar, tb, s, st⟩ := X
  unfold aDrop
  dsimp only
  split
  · exact ⟨_, rfl⟩
  · exact ⟨_, rfl⟩
theorem aEntry_I (X : Ab) (k f : Int32) : ∃ v, (aEntry X k f).1 = tI v := by
  obtain ⟨P, D, ac, ar, tb, s, st⟩ := X
  unfold aEntry
  dsimp only
  split
  · exact ⟨_, rfl⟩
  · exact ⟨_, rfl⟩
theorem aArg_I (X : Ab) (y : Int64) : ∃ v, (aArg X y).1 = tI v := by
  obtain ⟨P, D, ac, ar, tb, s, st⟩ := X
  unfold aArg
  dsimp only
  split
  · exact ⟨_, rfl⟩
  · exact ⟨_, rfl⟩
theorem aCall_I (X : Ab) (f : Int32) : ∃ v, (aCall X f).1 = tI v := by
  obtain ⟨P, D, ac, ar, tb, s, st⟩ := X
  unfold aCall
  dsimp only
  split
  · exact ⟨_, rfl⟩
  · split
    · exact ⟨_, rfl⟩
    · split
      · exact ⟨_, rfl⟩
      · exact ⟨_, rfl⟩
theorem aRun_I (X : Ab) (n : Int32) : ∃ v, (aRun X n).1 = tI v := by
  obtain ⟨P, D, ac, ar, tb, s, st⟩ := X
  unfold aRun
  dsimp only
  split
  · exact ⟨_, rfl⟩
  · exact ⟨_, rfl⟩
theorem aState_I (X : Ab) (k : Int32) : ∃ v, aState X k = tI v := by
  obtain ⟨P, D, ac, ar, tb, s, st⟩ := X
  have ite_T : ∀ {c : Prop} [Decidable c] {a b : TV}, (∃ v, a = tI v) → (∃ v, b = tI v) → ∃ v, (if c then a else b) = tI v := by
    intro c _ a b ha hb
    split
    · exact ha
    · exact hb
  unfold aState
  dsimp only
  exact ite_T ⟨_, rfl⟩ (ite_T ⟨_, rfl⟩ (ite_T ⟨_, rfl⟩ (ite_T ⟨_, rfl⟩ (ite_T ⟨_, rfl⟩ (ite_T ⟨_, rfl⟩ (ite_T ⟨_, rfl⟩ (ite_T ⟨_, rfl⟩ (ite_T ⟨_, rfl⟩ (ite_T ⟨_, rfl⟩ (ite_T ⟨_, rfl⟩ ⟨_, rfl⟩))))))))))
theorem aMem_I (X : Ab) (k : Int32) : ∃ v, aMem X k = tI v := by
  obtain ⟨P, D, ac, ar, tb, s, st⟩ := X
  exact ⟨_, rfl⟩
theorem aRes_L (X : Ab) (k : Int32) : ∃ v, aRes X k = tL v := by
  obtain ⟨P, D, ac, ar, tb, s, st⟩ := X
  exact ⟨_, rfl⟩
theorem aGlob_L (X : Ab) (k : Int32) : ∃ v, aGlob X k = tL v := by
  obtain ⟨P, D, ac, ar, tb, s, st⟩ := X
  exact ⟨_, rfl⟩
theorem aLook_I (X : Ab) (f k : Int32) : ∃ v, aLook X f k = tI v := by
  obtain ⟨P, D, ac, ar, tb, s, st⟩ := X
  unfold aLook
  dsimp only
  split
  · exact ⟨_, rfl⟩
  · split
    · exact ⟨_, rfl⟩
    · exact ⟨_, rfl⟩
theorem law_18 {b L : Nat} (hL : L ≤ 2048) (hbx : b < x) {S0 U0 : Nat} (K : ∀ h', sz h' ≤ S0 + 3 * 512 → us h' ≤ U0 + 25 * 512 → Q (some (tI 1)) h') : ∀ (t i : Nat) (h : Hp) (X : Ab), t = L / 4 - i → i ≤ L / 4 → IV X → CA h x X → MA h (x + 42) X → tg h b = some (.inr (9, L)) → x + 67 < sz h → sz h ≤ S0 + 3 * i → us h ≤ U0 + 25 * i → tL_law_18 (some b) (some x) (some (x + 42)) (nI (4 * i)) h Q := by
  have eL : (nI L - 4).toInt = (L : Int) - 4 := by
    rw [Int32.toInt_sub, show (nI L).toInt = (L : Int) from Int32.toInt_ofNat_of_lt (by omega), show (4 : Int32).toInt = 4 from rfl]
    exact Int.bmod_eq_of_le (by omega) (by omega)
  intro t
  induction t with
  | zero =>
    intro i h X ht hi hI C M hb hz hs hu
    have e : i = L / 4 := by omega
    refine wL_law_18 _ _ _ _ h Q (dr_of rfl (al_of hb ?_))
    rw [if_pos (show Int32.ofNat L - 4 < nI (4 * i) by
      rw [Int32.lt_iff_toInt_lt, show (Int32.ofNat L - 4).toInt = (L : Int) - 4 from eL, show (nI (4 * i)).toInt = ((4 * i : Nat) : Int) from Int32.toInt_ofNat_of_lt (by omega)]
      omega)]
    exact K h (by omega) (by omega)
  | succ t ih =>
    intro i h X ht hi hI C M hb hz hs hu
    have h4 : 4 * i + 4 ≤ L := by omega
    have x1 : nI (4 * i) + 1 = nI (4 * i + 1) := (nI_succ _).symm
    have x2 : nI (4 * i) + 2 = nI (4 * i + 2) := nJ_add (4 * i) 2
    have x3 : nI (4 * i) + 3 = nI (4 * i + 3) := nJ_add (4 * i) 3
    have x4 : nI (4 * i) + 4 = nI (4 * (i + 1)) := nJ_add (4 * i) 4
    have r0 : ¬ (nI (4 * i) < 0 ∨ L ≤ (nI (4 * i)).toNatClampNeg) := nI_in (by omega) (by omega)
    have r1 : ¬ (nI (4 * i) + 1 < 0 ∨ L ≤ (nI (4 * i) + 1).toNatClampNeg) := by rw [x1]; exact nI_in (by omega) (by omega)
    have r2 : ¬ (nI (4 * i) + 2 < 0 ∨ L ≤ (nI (4 * i) + 2).toNatClampNeg) := by rw [x2]; exact nI_in (by omega) (by omega)
    have r3 : ¬ (nI (4 * i) + 3 < 0 ∨ L ≤ (nI (4 * i) + 3).toNatClampNeg) := by rw [x3]; exact nI_in (by omega) (by omega)
    have fin : ∀ h7 h13 X', CW x h h7 → MW (x + 42) h7 h13 → IV X' → CA h13 x X' → MA h13 (x + 42) X' → tL_law_454 (some b) (some x) (some (x + 42)) (nI (4 * i)) h13 Q := by
      intro h7 h13 X' W7 W13 I' C' M'
      obtain ⟨⟨a1, a2, a3⟩, a4, -⟩ := W7
      obtain ⟨b1, -, -, -, b5, b6, -⟩ := W13
      refine wL_law_454 _ _ _ _ h13 Q ?_
      rw [x4]
      exact ih (i + 1) h13 X' (by omega) (by omega) I' C' M' (by rw [b1, a4 b (by omega)]; exact hb) (by omega) (by omega) (by omega)
    have skip : tL_law_454 (some b) (some x) (some (x + 42)) (nI (4 * i)) h Q := fin h h X CW.rf (MW.rf _ _) hI C M
    have cx : tg h x = some (.inl 9) := by
      obtain ⟨fp, ip, Cg⟩ := C
      obtain ⟨P, D, ac, ar, tb, s, st⟩ := X
      exact Cg.1.1.1.t9
    have mx : ∀ h7, CW x h h7 → MA h7 (x + 42) X ∧ tg h7 (x + 42) = some (.inl 10) ∧ tg h7 b = some (.inr (9, L)) ∧ ai h7 b = ai h b := by
      intro h7 W7
      have M7 := M.cw W7 (by omega) (by omega)
      refine ⟨M7, ?_, by rw [W7.2.1 b (by omega)]; exact hb, (W7.2.2.1 b (by omega) (by omega)).1⟩
      obtain ⟨P, D, ac, ar, tb, s, st⟩ := X
      exact M7.1.1
    refine wL_law_18 _ _ _ _ h Q (dr_of rfl (al_of hb ?_))
    rw [if_neg (show ¬ Int32.ofNat L - 4 < nI (4 * i) by
      rw [Int32.lt_iff_toInt_lt, show (Int32.ofNat L - 4).toInt = (L : Int) - 4 from eL, show (nI (4 * i)).toInt = ((4 * i : Nat) : Int) from Int32.toInt_ofNat_of_lt (by omega)]
      omega)]
    refine dr_of rfl (ix_of hb rfl r0 ?_)
    by_cases c0 : (ai h b (nI (4 * i)).toNatClampNeg &&& 15) = 0
    · rw [if_pos c0]
      refine dr_of rfl (ix_of hb rfl r1 (dr_of rfl (ix_of hb rfl r2 (dr_of rfl (ix_of hb rfl r3 (dr_of rfl ⟨cx, c_function hI C (fun h7 W7 C7 => ?_)⟩))))))
      obtain ⟨M7, t7, b7, e7⟩ := mx h7 W7
      obtain ⟨v, hv⟩ := aFun_I X (ai h b (nI (4 * i) + 1).toNatClampNeg) (ai h b (nI (4 * i) + 2).toNatClampNeg) (ai h b (nI (4 * i) + 3).toNatClampNeg)
      rw [hv]
      refine rI_of ?_
      rw [← e7] at hv
      refine dr_of rfl (ix_of b7 rfl r1 (dr_of rfl (ix_of b7 rfl r2 (dr_of rfl (ix_of b7 rfl r3 (dr_of rfl ⟨t7, m_function hI M7 (fun h13 W13 M13 => ?_)⟩))))))
      rw [hv]
      refine rI_of ?_
      rw [if_pos rfl]
      rw [← e7] at C7
      exact fin h7 h13 _ W7 W13 (iv_fun hI _ _ _) (C7.mw (iv_fun hI _ _ _) W13 (by omega)) M13
    rw [if_neg c0]
    by_cases c1 : (ai h b (nI (4 * i)).toNatClampNeg &&& 15) = 1
    · rw [if_pos c1]
      refine dr_of rfl (ix_of hb rfl r1 (dr_of rfl (ix_of hb rfl r2 (dr_of rfl (ix_of hb rfl r3 (dr_of rfl ⟨cx, c_code hI C (fun h7 W7 C7 => ?_)⟩))))))
      obtain ⟨M7, t7, b7, e7⟩ := mx h7 W7
      obtain ⟨v, hv⟩ := aCode_I X (ai h b (nI (4 * i) + 1).toNatClampNeg) (ai h b (nI (4 * i) + 2).toNatClampNeg) (ai h b (nI (4 * i) + 3).toNatClampNeg)
      rw [hv]
      refine rI_of ?_
      rw [← e7] at hv
      refine dr_of rfl (ix_of b7 rfl r1 (dr_of rfl (ix_of b7 rfl r2 (dr_of rfl (ix_of b7 rfl r3 (dr_of rfl ⟨t7, m_code hI M7 (fun h13 W13 M13 => ?_)⟩))))))
      rw [hv]
      refine rI_of ?_
      rw [if_pos rfl]
      rw [← e7] at C7
      exact fin h7 h13 _ W7 W13 (iv_code hI _ _ _) (C7.mw (iv_code hI _ _ _) W13 (by omega)) M13
    rw [if_neg c1]
    by_cases c2 : (ai h b (nI (4 * i)).toNatClampNeg &&& 15) = 2
    · rw [if_pos c2]
      refine dr_of rfl ⟨cx, c_drop hI C (fun h7 W7 C7 => ?_)⟩
      obtain ⟨M7, t7, b7, e7⟩ := mx h7 W7
      obtain ⟨v, hv⟩ := aDrop_I X 
      rw [hv]
      refine rI_of ?_
      refine dr_of rfl ⟨t7, m_drop hI M7 (fun h13 W13 M13 => ?_)⟩
      rw [hv]
      refine rI_of ?_
      rw [if_pos rfl]
      exact fin h7 h13 _ W7 W13 (iv_drop hI ) (C7.mw (iv_drop hI ) W13 (by omega)) M13
    rw [if_neg c2]
    by_cases c3 : (ai h b (nI (4 * i)).toNatClampNeg &&& 15) = 3
    · rw [if_pos c3]
      refine dr_of rfl (ix_of hb rfl r1 (dr_of rfl (ix_of hb rfl r2 (dr_of rfl ⟨cx, c_entry hI C (fun h7 W7 C7 => ?_)⟩))))
      obtain ⟨M7, t7, b7, e7⟩ := mx h7 W7
      obtain ⟨v, hv⟩ := aEntry_I X (ai h b (nI (4 * i) + 1).toNatClampNeg) (ai h b (nI (4 * i) + 2).toNatClampNeg)
      rw [hv]
      refine rI_of ?_
      rw [← e7] at hv
      refine dr_of rfl (ix_of b7 rfl r1 (dr_of rfl (ix_of b7 rfl r2 (dr_of rfl ⟨t7, m_entry hI M7 (fun h13 W13 M13 => ?_)⟩))))
      rw [hv]
      refine rI_of ?_
      rw [if_pos rfl]
      rw [← e7] at C7
      exact fin h7 h13 _ W7 W13 (iv_entry hI _ _) (C7.mw (iv_entry hI _ _) W13 (by omega)) M13
    rw [if_neg c3]
    by_cases c4 : (ai h b (nI (4 * i)).toNatClampNeg &&& 15) = 4
    · rw [if_pos c4]
      refine dr_of rfl (ix_of hb rfl r1 (dr_of rfl (ix_of hb rfl r2 (dr_of rfl ⟨cx, c_argument hI C (fun h7 W7 C7 => ?_)⟩))))
      obtain ⟨M7, t7, b7, e7⟩ := mx h7 W7
      obtain ⟨v, hv⟩ := aArg_I X ((((ai h b (nI (4 * i) + 1).toNatClampNeg).toInt64) <<< ((32 : Int32).toInt64 &&& 63)) ||| (((ai h b (nI (4 * i) + 2).toNatClampNeg).toInt64) &&& 4294967295))
      rw [hv]
      refine rI_of ?_
      rw [← e7] at hv
      refine dr_of rfl (ix_of b7 rfl r1 (dr_of rfl (ix_of b7 rfl r2 (dr_of rfl ⟨t7, m_argument hI M7 (fun h13 W13 M13 => ?_)⟩))))
      rw [hv]
      refine rI_of ?_
      rw [if_pos rfl]
      rw [← e7] at C7
      exact fin h7 h13 _ W7 W13 (iv_arg hI _) (C7.mw (iv_arg hI _) W13 (by omega)) M13
    rw [if_neg c4]
    by_cases c5 : (ai h b (nI (4 * i)).toNatClampNeg &&& 15) = 5
    · rw [if_pos c5]
      refine dr_of rfl (ix_of hb rfl r1 (dr_of rfl ⟨cx, c_call hI C (fun h7 W7 C7 => ?_)⟩))
      obtain ⟨M7, t7, b7, e7⟩ := mx h7 W7
      obtain ⟨v, hv⟩ := aCall_I X (ai h b (nI (4 * i) + 1).toNatClampNeg)
      rw [hv]
      refine rI_of ?_
      rw [← e7] at hv
      refine dr_of rfl (ix_of b7 rfl r1 (dr_of rfl ⟨t7, m_call hI M7 (fun h13 W13 M13 => ?_)⟩))
      rw [hv]
      refine rI_of ?_
      rw [if_pos rfl]
      rw [← e7] at C7
      exact fin h7 h13 _ W7 W13 (iv_call hI _) (C7.mw (iv_call hI _) W13 (by omega)) M13
    rw [if_neg c5]
    by_cases c6 : (ai h b (nI (4 * i)).toNatClampNeg &&& 15) = 6
    · rw [if_pos c6]
      refine dr_of rfl (ix_of hb rfl r1 (dr_of rfl ⟨cx, c_run hI C (fun h7 W7 C7 => ?_)⟩))
      obtain ⟨M7, t7, b7, e7⟩ := mx h7 W7
      obtain ⟨v, hv⟩ := aRun_I X (ai h b (nI (4 * i) + 1).toNatClampNeg)
      rw [hv]
      refine rI_of ?_
      rw [← e7] at hv
      refine dr_of rfl (ix_of b7 rfl r1 (dr_of rfl ⟨t7, m_run hI M7 (fun h13 W13 M13 => ?_)⟩))
      rw [hv]
      refine rI_of ?_
      rw [if_pos rfl]
      rw [← e7] at C7
      exact fin h7 h13 _ W7 W13 (iv_run hI _) (C7.mw (iv_run hI _) W13 (by omega)) M13
    rw [if_neg c6]
    by_cases c7 : (ai h b (nI (4 * i)).toNatClampNeg &&& 15) = 7
    · rw [if_pos c7]
      refine dr_of rfl (ix_of hb rfl r1 (dr_of rfl ⟨cx, c_state hI C (fun h7 W7 C7 => ?_)⟩))
      obtain ⟨M7, t7, b7, e7⟩ := mx h7 W7
      obtain ⟨v, hv⟩ := aState_I X (ai h b (nI (4 * i) + 1).toNatClampNeg)
      rw [hv]
      refine rI_of ?_
      rw [← e7] at hv
      refine dr_of rfl (ix_of b7 rfl r1 (dr_of rfl ⟨t7, m_state hI M7 ?_⟩))
      rw [hv]
      refine rI_of ?_
      rw [if_pos rfl]
      exact fin h7 h7 _ W7 (MW.rf _ _) hI C7 M7
    rw [if_neg c7]
    by_cases c8 : (ai h b (nI (4 * i)).toNatClampNeg &&& 15) = 8
    · rw [if_pos c8]
      refine dr_of rfl (ix_of hb rfl r1 (dr_of rfl ⟨cx, c_result hI C (fun h7 W7 C7 => ?_)⟩))
      obtain ⟨M7, t7, b7, e7⟩ := mx h7 W7
      obtain ⟨v, hv⟩ := aRes_L X (ai h b (nI (4 * i) + 1).toNatClampNeg)
      rw [hv]
      refine rL_of ?_
      rw [← e7] at hv
      refine dr_of rfl (ix_of b7 rfl r1 (dr_of rfl ⟨t7, m_result hI M7 ?_⟩))
      rw [hv]
      refine rL_of ?_
      rw [if_pos rfl]
      exact fin h7 h7 _ W7 (MW.rf _ _) hI C7 M7
    rw [if_neg c8]
    by_cases c9 : (ai h b (nI (4 * i)).toNatClampNeg &&& 15) = 9
    · rw [if_pos c9]
      refine dr_of rfl (ix_of hb rfl r1 (dr_of rfl ⟨cx, c_global C (fun h7 W7 C7 => ?_)⟩))
      obtain ⟨M7, t7, b7, e7⟩ := mx h7 W7
      obtain ⟨v, hv⟩ := aGlob_L X (ai h b (nI (4 * i) + 1).toNatClampNeg)
      rw [hv]
      refine rL_of ?_
      rw [← e7] at hv
      refine dr_of rfl (ix_of b7 rfl r1 (dr_of rfl ⟨t7, m_global M7 ?_⟩))
      rw [hv]
      refine rL_of ?_
      rw [if_pos rfl]
      exact fin h7 h7 _ W7 (MW.rf _ _) hI C7 M7
    rw [if_neg c9]
    by_cases c10 : (ai h b (nI (4 * i)).toNatClampNeg &&& 15) = 10
    · rw [if_pos c10]
      refine dr_of rfl (ix_of hb rfl r1 (dr_of rfl ⟨cx, c_memory hI C (fun h7 W7 C7 => ?_)⟩))
      obtain ⟨M7, t7, b7, e7⟩ := mx h7 W7
      obtain ⟨v, hv⟩ := aMem_I X (ai h b (nI (4 * i) + 1).toNatClampNeg)
      rw [hv]
      refine rI_of ?_
      rw [← e7] at hv
      refine dr_of rfl (ix_of b7 rfl r1 (dr_of rfl ⟨t7, m_memory hI M7 ?_⟩))
      rw [hv]
      refine rI_of ?_
      rw [if_pos rfl]
      exact fin h7 h7 _ W7 (MW.rf _ _) hI C7 M7
    rw [if_neg c10]
    by_cases c11 : (ai h b (nI (4 * i)).toNatClampNeg &&& 15) = 11
    · rw [if_pos c11]
      refine dr_of rfl (ix_of hb rfl r1 (dr_of rfl (ix_of hb rfl r2 (dr_of rfl ⟨cx, c_look hI C (fun h7 W7 C7 => ?_)⟩))))
      obtain ⟨M7, t7, b7, e7⟩ := mx h7 W7
      obtain ⟨v, hv⟩ := aLook_I X (ai h b (nI (4 * i) + 1).toNatClampNeg) (ai h b (nI (4 * i) + 2).toNatClampNeg)
      rw [hv]
      refine rI_of ?_
      rw [← e7] at hv
      refine dr_of rfl (ix_of b7 rfl r1 (dr_of rfl (ix_of b7 rfl r2 (dr_of rfl ⟨t7, m_look hI M7 ?_⟩))))
      rw [hv]
      refine rI_of ?_
      rw [if_pos rfl]
      exact fin h7 h7 _ W7 (MW.rf _ _) hI C7 M7
    rw [if_neg c11]
    exact skip
end LL
