/-! THE CLASS RUNS, 5: plain operations on the values -/
/-- an instruction's cell -/
def Ins (h : Hp) (ia : Nat) (o a b : Int32) : Prop := tg h ia = some (.inl 3) ∧ gi h 192 ia = o ∧ gi h 193 ia = a ∧ gi h 194 ia = b
theorem Ins.of {x : Nat} {h h' : Hp} {ia : Nat} {o a b : Int32} (w : CRW x h h') (hi : x + 41 < ia) (I : Ins h ia o a b) : Ins h' ia o a b := by
  obtain ⟨i1, i2, i3, i4⟩ := I
  have g : ∀ f, gi h' f ia = gi h f ia := fun f => w.2.2.2.2.2.1 f ia (by omega)
  exact ⟨by rw [w.1]; exact i1, by rw [g]; exact i2, by rw [g]; exact i3, by rw [g]; exact i4⟩
section RR
variable {P : List Fn} {fp : Nat → Nat} {ip : Nat → Nat → Nat} {x : Nat} {h0 h : Hp} {fr r : List Fm} {w : Wd} {n p f b i ia : Nat} {q : Option Nat} {v : VV} {bb : Nat → Int32} {g : VV} {gf : Fn} {Q : Option TV → Hp → Prop} {o a b' : Int32}
theorem c_popd (hc : CS h0 x) (H : RCv P fp ip x h0 h fr (n + 1, v, p, bb, g)) (hn : n < 220) {K : Int64 → Hp → Prop} (k : ∀ h', RCv P fp ip x h0 h' fr (n, v, p, bb, g) → K (v n) h') : dr (gr h 324 (x + 3)) (fun a_3 => ob h a_3 8 (tX9_pop a_3 h (rL K))) := by
  have c := H.cs hc
  exact dr_of c.r324 ⟨c.t8, c_pop hc H hn (fun h' H' => rL_of (k h' H'))⟩
theorem c_pushd (hc : CS h0 x) {h1 : Hp} (c1 : CS h1 x) (H : RCv P fp ip x h0 h fr (n, v, p, bb, g)) (hn : n < 220) {y : Int64} {K : Hp → Prop} (k : ∀ h', RCv P fp ip x h0 h' fr (n + 1, upv v n y, p, bb, g) → K h') : dr (gr h1 324 (x + 3)) (fun a_3 => ob h a_3 8 (tX9_push a_3 y h (rV K))) := by
  have c := H.cs hc
  exact dr_of c1.r324 ⟨c.t8, c_push hc H hn (fun h' H' => rV_of (k h' H'))⟩
theorem c_select (hc : CS h0 x) (H : RCv P fp ip x h0 h fr (n + 3, v, p, bb, g)) (hn : n + 3 ≤ 220) (k : ∀ h', RCv P fp ip x h0 h' fr (n + 1, upv v n (if low (v (n + 2)) = 0 then v (n + 1) else v n), p, bb, g) → Q none h') : tX5_select (x + 3) h Q := by
  have c := H.cs hc
  refine wX5_select (x + 3) h Q ⟨c.t5, c_popd hc H (by omega) (fun h1 H1 => c_isTrue (rI_of ?_))⟩
  have c1 := H1.cs hc
  refine ⟨c1.t5, c_popd hc H1 (by omega) (fun h2 H2 => ?_)⟩
  have c2 := H2.cs hc
  refine ⟨c2.t5, c_popd hc H2 (by omega) (fun h3 H3 => ?_)⟩
  have c3 := H3.cs hc
  refine ⟨c3.t5, ?_⟩
  by_cases cz : low (v (n + 2)) = 0
  · rw [if_pos cz] at k
    rw [if_pos (by rw [if_pos cz])]
    exact wX5_select_42 _ _ _ h3 Q (c_pushd hc c3 H3 (by omega) k)
  · rw [if_neg cz] at k
    rw [if_neg (by rw [if_neg cz]; decide)]
    exact wX5_select_42 _ _ _ h3 Q (c_pushd hc c3 H3 (by omega) k)
theorem c_globalAt (hc : CS h0 x) (H : RCv P fp ip x h0 h fr (n, v, p, bb, g)) (ha : ¬ a < 0) (hab : nt a < 8) (k : Q (some (tL (g (nt a)))) h) : tX5_globalAt (x + 3) a h Q := by
  have c := H.cs hc
  have xg : al h (x + 5) = g := H.2.2.2.2.2.2.1.2.2
  refine wX5_globalAt (x + 3) a h Q ?_
  rw [if_neg ha]
  refine ⟨c.t5, dr_of c.r321 (al_of c.t5a ?_)⟩
  rw [if_pos (by rw [← nI_nt ha]; exact i31 hab (by decide)), ← nI_nt ha]
  refine ⟨c.t5, dr_of c.r321 (ix_of c.t5a rfl (nI_in hab (by decide)) ?_)⟩
  rw [nck (by omega), xg]
  exact k
theorem c_setGlobal (hc : CS h0 x) (H : RCv P fp ip x h0 h fr (n, v, p, bb, g)) {y : Int64} (ha : ¬ a < 0) (hab : nt a < 8) (k : ∀ h', RCv P fp ip x h0 h' fr (n, v, p, bb, upv g (nt a) y) → Q none h') : tX5_setGlobal (x + 3) a y h Q := by
  have c := H.cs hc
  refine wX5_setGlobal (x + 3) a y h Q ?_
  rw [if_neg ha]
  refine ⟨c.t5, dr_of c.r321 (al_of c.t5a ?_)⟩
  rw [if_pos (by rw [← nI_nt ha]; exact i31 hab (by decide)), ← nI_nt ha]
  refine ⟨c.t5, dr_of c.r321 (ix_of c.t5a rfl (nI_in hab (by decide)) (fun h1 e1 => k h1 ?_))⟩
  rw [nck (by omega)] at e1
  rw [e1]
  exact H.gset _ _
/-- the operations that move values -/
theorem c_move (hc : CS h0 x) (H : RCv P fp ip x h0 h ((f, b, q) :: r) (n, v, p, bb, g)) (h30 : r.length < 30) (hia : x + 41 < ia) (I : Ins h ia o a b') {nm kk : Nat} {t : Nat × Nat} (hn : n = b + nm + kk) (hk : b + nm + kk - t.1 + t.2 ≤ 220) (ht : t.1 ≤ kk) (hn2 : n ≤ 220) (har : arP o a nm = some t) (ho : o < 40)
    (k : match smp o a b' b (n, v, p, bb, g) with
      | .inl c => True
      | .inr w2 => ∀ h', RCv P fp ip x h0 h' ((f, b, q) :: r) w2 → Q none h') : tX5_move (x + 3) (some (x + 11 + r.length)) (some ia) h Q := by
  have c := H.cs hc
  obtain ⟨cf1, -⟩ := c.fr r.length (by omega)
  obtain ⟨i1, i2, i3, i4⟩ := I
  have fb : gi h 65 (x + 11 + r.length) = nI b := H.2.2.2.2.2.2.2.2.2.1
  refine wX5_move (x + 3) _ _ h Q (dr_of rfl ⟨i1, ?_⟩)
  rw [i2]
  rcases arP_cases har with ⟨rfl, rfl⟩ | ⟨rfl, rfl⟩ | ⟨rfl, ha, hb, rfl⟩ | ⟨rfl, ha, hb, rfl⟩ | ⟨rfl, ha, hb, rfl⟩ | ⟨rfl, ha, rfl⟩ | ⟨rfl, ha, rfl⟩ | ⟨hc', rfl⟩ | ⟨hc', rfl⟩ | ⟨hc', rfl⟩ | ⟨⟨h1, h2⟩, rfl⟩ | ⟨⟨h1, h2⟩, rfl⟩
  · rw [if_pos rfl]
    obtain ⟨n0, rfl⟩ : ∃ n0, n = n0 + 1 := ⟨n - 1, by dsimp only at ht; omega⟩
    exact ⟨c.t5, c_popd hc H (by omega) (fun h1 H1 => k h1 H1)⟩
  · rw [if_neg (by decide), if_pos rfl]
    obtain ⟨n0, rfl⟩ : ∃ n0, n = n0 + 3 := ⟨n - 3, by dsimp only at ht; omega⟩
    exact ⟨c.t5, c_select hc H (by omega) (fun h1 H1 => rV_of (k h1 H1))⟩
  · rw [if_neg (by decide), if_neg (by decide), if_pos rfl]
    have ea : nI b + a = nI (b + nt a) := by rw [← nJ_add, nI_nt ha]
    refine ⟨c.t5, c.t5, dr_of rfl ⟨cf1, dr_of rfl ⟨i1, dr_of c.r324 ⟨c.t8, ?_⟩⟩⟩⟩
    rw [fb, i3, ea]
    exact c_at hc H (by omega) hn2 (rL_of (c_pushd hc c H (by dsimp only at hk; omega) k))
  · rw [if_neg (by decide), if_neg (by decide), if_neg (by decide), if_pos rfl]
    have ea : nI b + a = nI (b + nt a) := by rw [← nJ_add, nI_nt ha]
    obtain ⟨n0, rfl⟩ : ∃ n0, n = n0 + 1 := ⟨n - 1, by dsimp only at ht; omega⟩
    refine ⟨c.t5, dr_of rfl ⟨cf1, dr_of rfl ⟨i1, c.t5, c_popd hc H (by omega) (fun h1 H1 => ?_)⟩⟩⟩
    have c1 := H1.cs hc
    rw [fb, i3, ea]
    exact dr_of c.r324 ⟨c1.t8, c_set hc H1 (by omega) (fun h2 H2 => rV_of (k h2 H2))⟩
  · rw [if_neg (by decide), if_neg (by decide), if_neg (by decide), if_neg (by decide), if_pos rfl]
    have ea : nI b + a = nI (b + nt a) := by rw [← nJ_add, nI_nt ha]
    obtain ⟨n0, rfl⟩ : ∃ n0, n = n0 + 1 := ⟨n - 1, by dsimp only at ht; omega⟩
    refine ⟨c.t5, dr_of rfl ⟨cf1, dr_of rfl ⟨i1, c.t5, c.t5, dr_of c.r324 ⟨c.t8, dr_of c.r324 ⟨c.t8, ?_⟩⟩⟩⟩⟩
    have x5 : gi h 513 (x + 9) = nI (n0 + 1) := H.2.2.2.2.1
    rw [x5, nI_sub1, fb, i3, ea]
    exact c_at hc H (by omega) hn2 (rL_of (dr_of c.r324 ⟨c.t8, c_set hc H (by omega) (fun h2 H2 => rV_of (k h2 H2))⟩))
  · rw [if_neg (by decide), if_neg (by decide), if_neg (by decide), if_neg (by decide), if_neg (by decide), if_pos rfl]
    have := ((wi_nI (d := 7) (by decide)).mp ha).2
    refine ⟨c.t5, dr_of rfl ⟨i1, c.t5, ?_⟩⟩
    rw [i3]
    exact c_globalAt hc H ha.1 (by omega) (rL_of (c_pushd hc c H (by dsimp only at hk; omega) k))
  · rw [if_neg (by decide), if_neg (by decide), if_neg (by decide), if_neg (by decide), if_neg (by decide), if_neg (by decide), if_pos rfl]
    have := ((wi_nI (d := 7) (by decide)).mp ha).2
    obtain ⟨n0, rfl⟩ : ∃ n0, n = n0 + 1 := ⟨n - 1, by dsimp only at ht; omega⟩
    refine dr_of rfl ⟨i1, c.t5, c_popd hc H (by omega) (fun h1 H1 => ⟨(H1.cs hc).t5, ?_⟩)⟩
    rw [i3]
    exact c_setGlobal hc H1 ha.1 (by omega) (fun h2 H2 => rV_of (k h2 H2))
  · rcases hc' with rfl | rfl | rfl <;> exact absurd ho (by decide)
  · rcases hc' with rfl | rfl | rfl | rfl | rfl <;> exact absurd ho (by decide)
  · unfold isTwo at hc'
    rcases hc' with rfl | rfl | rfl | rfl | rfl | rfl | rfl | rfl | rfl | rfl | rfl | rfl | rfl | rfl | rfl <;> exact absurd ho (by decide)
  · exact absurd ho h1
  · exact absurd (Int32.lt_trans ho (by decide)) h1
/-- memory -/
theorem c_holds (hc : CS h x) {A0 s : Nat} (hA : A0 < 8589934592) (hs : s ≤ 8) (hp : p ≤ 6) (xp : gi h 385 (x + 7) = nI p) (k : Q (some (tI (if 64 * p < A0 + s then 0 else 1))) h) : tX6_holds (x + 7) (jN A0) (nI s) h Q := by
  refine wX6_holds (x + 7) _ _ h Q ⟨hc.t6, hc.t6, dr_of hc.r384 (al_of hc.t8a ?_)⟩
  rw [if_neg (show ¬ jN A0 < 0 from fun z => absurd ((jN_lt (b := 0) (by omega) (by decide)).mp z) (Nat.not_lt_zero _)), if_neg (nI_n0 (by omega)), xp, nI_to64 (by omega), nI_to64 (by omega), jN_add]
  have e1 : (Int32.ofNat 384).toInt64 = jN 384 := nI_to64 (n := 384) (by decide)
  have e2 : jN p * 64 = jN (p * 64) := jN_mul p 64
  rw [e1, e2, if_neg (show ¬ jN 384 < jN (p * 64) from fun z => by have := (jN_lt (by decide) (by omega)).mp z; omega)]
  by_cases c : 64 * p < A0 + s
  · rw [if_pos c] at k
    rw [if_pos ((jN_lt (by omega) (by omega)).mpr (by omega))]
    exact k
  · rw [if_neg c] at k
    rw [if_neg (fun z => c (by have := (jN_lt (by omega) (by omega)).mp z; omega))]
    exact k
theorem c_load23 (hc : CS h x) (hb : ∀ j, ai h (x + 8) j &&& 255 = bb j) {A0 : Nat} : ∀ (k : Nat) (y : Int64), A0 + k ≤ 384 → Q (some (tL (ldV bb A0 k y))) h → tX6_load_23 (x + 7) (nI A0) y (nI k - 1) h Q := by
  intro k
  induction k with
  | zero =>
    intro y _ kk
    refine wX6_load_23 (x + 7) _ _ _ h Q ?_
    rw [if_pos (by decide)]
    exact kk
  | succ k ih =>
    intro y h1 kk
    rw [nI_sub1]
    refine wX6_load_23 (x + 7) _ _ _ h Q ?_
    rw [if_neg (nI_n0 (by omega)), nJ_add]
    refine ⟨hc.t6, dr_of hc.r384 (ix_of hc.t8a rfl (nI_in (by omega) (by decide)) ?_)⟩
    rw [nck (by omega), hb, show nI k + (-1) = nI k - 1 from (Int32.sub_eq_add_neg _ _).symm]
    exact ih _ (by omega) kk
theorem c_store17 (hc : CS h0 x) {A0 c : Nat} {y : Int64} (hc8 : c ≤ 8) (hA : A0 + c ≤ 384) : ∀ (t k : Nat) (h : Hp), t = c - k → k ≤ c → RCv P fp ip x h0 h fr (n, v, p, stB bb A0 y k, g) → (∀ h', RCv P fp ip x h0 h' fr (n, v, p, stB bb A0 y c, g) → Q none h') → tX6_store_17 (x + 7) (nI c) y (nI A0) (nI k) h Q := by
  intro t
  induction t with
  | zero =>
    intro k h ht hk H kk
    have e : k = c := by omega
    subst e
    refine wX6_store_17 (x + 7) _ _ _ _ h Q ?_
    rw [if_neg (nI_nlt (Nat.le_refl _) (by omega))]
    exact kk h H
  | succ t ih =>
    intro k h ht hk H kk
    have c1 := H.cs hc
    refine wX6_store_17 (x + 7) _ _ _ _ h Q ?_
    rw [if_pos (nI_lt (by omega) (by omega)), nJ_add]
    refine ⟨c1.t6, dr_of c1.r384 (ix_of c1.t8a rfl (nI_in (by omega) (by decide)) (fun h1 e1 => ?_))⟩
    rw [nck (by omega)] at e1
    rw [← nI_succ]
    refine ih (k + 1) h1 (by omega) (by omega) ?_ kk
    rw [e1]
    exact H.bset _ _ _ (byte_eq y ⟨k, by omega⟩)
theorem c_loadI (hc : CS h0 x) (H : RCv P fp ip x h0 h fr (n + 1, v, p, bb, g)) (hn : n < 220) (hp : p ≤ 6) (hia : x + 41 < ia) (I : Ins h ia o a b') (h1 : ¬ o < 40) (h2 : o < 54) (k : if 64 * p < ad (v n) a + sizeN o then ∀ h', CSt x h0 h' 3 4 (n + 1, v, p, bb, g) → Q none h' else ∀ h', RCv P fp ip x h0 h' fr (n + 1, upv v n (wid o (ldV bb (ad (v n) a) (sizeN o) 0)), p, bb, g) → Q none h') : tX5_load (x + 3) (some ia) h Q := by
  have c := H.cs hc
  have hsz := sizeN_le o
  refine wX5_load (x + 3) _ h Q ⟨c.t5, c_popd hc H hn (fun h1' H1 => ?_)⟩
  have c1 := H1.cs hc
  have I1 : Ins h1' ia o a b' := by
    obtain ⟨i1, i2, i3, i4⟩ := I
    have w0 := H.1
    have w1 := H1.1
    have e : ∀ f, gi h1' f ia = gi h f ia := fun f => (w1.2.2.2.2.2.1 f ia (by omega)).trans (w0.2.2.2.2.2.1 f ia (by omega)).symm
    exact ⟨by rw [w1.1, ← w0.1]; exact i1, by rw [e]; exact i2, by rw [e]; exact i3, by rw [e]; exact i4⟩
  obtain ⟨i1, i2, i3, i4⟩ := I1
  refine dr_of rfl ⟨i1, dr_of rfl ⟨i1, ?_⟩⟩
  rw [i2, i3]
  have ea : (v n &&& 4294967295) + (a.toInt64 &&& 4294967295) = jN (ad (v n) a) := ad_jN _ _
  refine c_sizeOf h1 (Int32.lt_trans h2 (by decide)) (rI_of ⟨c1.t5, dr_of c1.r323 ⟨c1.t6, ?_⟩⟩)
  rw [ea]
  have xp : gi h1' 385 (x + 7) = nI p := H1.2.2.2.2.2.2.1.1
  refine c_holds c1 (ad_lt _ _) hsz.2 hp xp (rI_of ?_)
  by_cases cc : 64 * p < ad (v n) a + sizeN o
  · rw [if_pos cc] at k
    rw [if_pos cc, if_pos rfl]
    exact ⟨c1.t5, c_trap hc H1 (fun h4 H4 => rV_of (k h4 H4))⟩
  · rw [if_neg cc] at k
    rw [if_neg cc, if_neg (by decide)]
    refine ⟨c1.t5, dr_of rfl ⟨i1, c1.t5, dr_of c1.r323 ⟨c1.t6, wX6_load (x + 7) _ _ h1' _ ⟨c1.t6, c_holds c1 (ad_lt _ _) hsz.2 hp xp (rI_of ?_)⟩⟩⟩⟩
    rw [if_neg cc, if_neg (by decide), jN_to32]
    refine c_load23 c1 H1.2.2.2.2.2.2.1.2.1 (sizeN o) 0 (by omega) (rL_of ?_)
    rw [i2]
    exact c_widened h1 h2 (rL_of (c_pushd hc c1 H1 (by omega) k))
theorem c_storeI (hc : CS h0 x) (H : RCv P fp ip x h0 h fr (n + 2, v, p, bb, g)) (hn : n + 2 ≤ 220) (hp : p ≤ 6) (hia : x + 41 < ia) (I : Ins h ia o a b') (h1 : ¬ o < 54) (h2 : o < 63) (k : if 64 * p < ad (v n) a + sizeN o then ∀ h', CSt x h0 h' 3 4 (n + 2, v, p, bb, g) → Q none h' else ∀ h', RCv P fp ip x h0 h' fr (n, v, p, stB bb (ad (v n) a) (v (n + 1)) (sizeN o), g) → Q none h') : tX5_store (x + 3) (some ia) h Q := by
  have c := H.cs hc
  have hsz := sizeN_le o
  refine wX5_store (x + 3) _ h Q ⟨c.t5, c_popd hc H (by omega) (fun h0' H0 => ?_)⟩
  have c0 := H0.cs hc
  refine ⟨c0.t5, c_popd hc H0 (by omega) (fun h1' H1 => ?_)⟩
  have c1 := H1.cs hc
  have I1 : Ins h1' ia o a b' := by
    obtain ⟨i1, i2, i3, i4⟩ := I
    have w0 := H.1
    have w1 := H1.1
    have e : ∀ f, gi h1' f ia = gi h f ia := fun f => (w1.2.2.2.2.2.1 f ia (by omega)).trans (w0.2.2.2.2.2.1 f ia (by omega)).symm
    exact ⟨by rw [w1.1, ← w0.1]; exact i1, by rw [e]; exact i2, by rw [e]; exact i3, by rw [e]; exact i4⟩
  obtain ⟨i1, i2, i3, i4⟩ := I1
  refine dr_of rfl ⟨i1, dr_of rfl ⟨i1, ?_⟩⟩
  rw [i2, i3]
  have ea : (v n &&& 4294967295) + (a.toInt64 &&& 4294967295) = jN (ad (v n) a) := ad_jN _ _
  have h40 : ¬ o < 40 := fun z => h1 (Int32.lt_trans z (by decide))
  refine c_sizeOf h40 h2 (rI_of ⟨c1.t5, dr_of c1.r323 ⟨c1.t6, ?_⟩⟩)
  rw [ea]
  have xp : gi h1' 385 (x + 7) = nI p := H1.2.2.2.2.2.2.1.1
  refine c_holds c1 (ad_lt _ _) hsz.2 hp xp (rI_of ?_)
  by_cases cc : 64 * p < ad (v n) a + sizeN o
  · rw [if_pos cc] at k
    rw [if_pos cc, if_pos rfl]
    exact ⟨c1.t5, c_trap hc H1 (fun h4 H4 => rV_of (k h4 H4))⟩
  · rw [if_neg cc] at k
    rw [if_neg cc, if_neg (by decide)]
    refine ⟨c1.t5, dr_of c1.r323 ⟨c1.t6, wX6_store (x + 7) _ _ _ h1' _ ⟨c1.t6, c_holds c1 (ad_lt _ _) hsz.2 hp xp (rI_of ?_)⟩⟩⟩
    rw [if_neg cc, if_neg (by decide), jN_to32]
    exact c_store17 hc hsz.2 (by omega) (sizeN o) 0 h1' (by omega) (Nat.zero_le _) H1 (fun h4 H4 => rV_of (k h4 H4))
theorem c_grow (hc : CS h0 x) (H : RCv P fp ip x h0 h fr (n, v, p, bb, g)) (hp : p ≤ 6) {l : Nat} (hl : l < 4294967296) {Q : Option TV → Hp → Prop} (k : if 6 < p + l then Q (some (tL 4294967295)) h else ∀ h', RCv P fp ip x h0 h' fr (n, v, p + l, bb, g) → Q (some (tL (nI p).toInt64)) h') : tX6_grow (x + 7) (jN l) h Q := by
  have c := H.cs hc
  have xp : gi h 385 (x + 7) = nI p := H.2.2.2.2.2.2.1.1
  refine wX6_grow (x + 7) _ h Q ?_
  rw [if_neg (show ¬ jN l < 0 from fun z => absurd ((jN_lt (b := 0) (by omega) (by decide)).mp z) (Nat.not_lt_zero _))]
  refine ⟨c.t6, ?_⟩
  rw [xp, show (6 : Int32) - nI p = nI (6 - p) from nJ_sub (a := 6) hp, nI_to64 (by omega)]
  by_cases cc : 6 < p + l
  · rw [if_pos cc] at k
    rw [if_pos ((jN_lt (by omega) (by omega)).mpr (by omega))]
    exact k
  · rw [if_neg cc] at k
    rw [if_neg (fun z => cc (by have := (jN_lt (by omega) (by omega)).mp z; omega))]
    refine ⟨c.t6, c.t6, c.t6, fun h1 e1 => k h1 ?_⟩
    rw [jN_to32, nJ_add] at e1
    rw [e1]
    exact H.page _
theorem c_provide (hc : CS h0 x) (H : RCv P fp ip x h0 h fr (n, v, p, bb, g)) (hp : p ≤ 6) (hia : x + 41 < ia) (I : Ins h ia o a b') (ho : o = 63 ∨ o = 64 ∨ o = 65 ∨ o = 66) (hn : if o = 64 then 1 ≤ n ∧ n ≤ 220 else n < 220) (k : match smp o a b' b (n, v, p, bb, g) with
      | .inl c => True
      | .inr w2 => ∀ h', RCv P fp ip x h0 h' fr w2 → Q none h') : tX5_provide (x + 3) (some ia) h Q := by
  have c := H.cs hc
  obtain ⟨i1, i2, i3, i4⟩ := I
  have xp : gi h 385 (x + 7) = nI p := H.2.2.2.2.2.2.1.1
  refine wX5_provide (x + 3) _ h Q (dr_of rfl ⟨i1, ?_⟩)
  rw [i2]
  rcases ho with rfl | rfl | rfl | rfl
  · rw [if_neg (by decide)] at hn
    rw [if_pos rfl]
    refine ⟨c.t5, c.t5, dr_of c.r323 ⟨c.t6, ?_⟩⟩
    rw [xp]
    exact c_pushd hc c H hn k
  · rw [if_pos rfl] at hn
    rw [if_neg (by decide), if_pos rfl]
    obtain ⟨n0, rfl⟩ : ∃ n0, n = n0 + 1 := ⟨n - 1, by omega⟩
    refine ⟨c.t5, c.t5, c.t5, c_popd hc H (by omega) (fun h1 H1 => ?_)⟩
    have c1 := H1.cs hc
    have el : (v n0 &&& 4294967295) = jN (lwN (v n0)) := low_jN (v n0)
    rw [el]
    refine dr_of c.r323 ⟨c1.t6, c_grow hc H1 hp (lwN_lt _) ?_⟩
    rw [smp_64, Nat.add_sub_cancel] at k
    by_cases cc : 6 < p + lwN (v n0)
    · rw [if_pos cc] at k ⊢
      exact rL_of (c_pushd hc c H1 (by omega) k)
    · rw [if_neg cc] at k ⊢
      exact fun h2 H2 => rL_of (c_pushd hc c H2 (by omega) k)
  · rw [if_neg (by decide)] at hn
    rw [if_neg (by decide), if_neg (by decide), if_pos rfl]
    refine ⟨c.t5, dr_of rfl ⟨i1, ?_⟩⟩
    rw [i3]
    exact c_pushd hc c H hn k
  · rw [if_neg (by decide)] at hn
    rw [if_neg (by decide), if_neg (by decide), if_neg (by decide), if_pos rfl]
    refine ⟨c.t5, dr_of rfl ⟨i1, dr_of rfl ⟨i1, ?_⟩⟩⟩
    rw [i3, i4]
    exact c_pushd hc c H hn k
theorem c_one (hc : CS h0 x) (H : RCv P fp ip x h0 h fr (n + 1, v, p, bb, g)) (hn : n < 220) (ho : o = 69 ∨ o = 80 ∨ o = 167 ∨ o = 173) (k : ∀ h', RCv P fp ip x h0 h' fr (n + 1, upv v n (if o = 69 then (if low (v n) = 0 then 1 else 0) else if o = 80 then (if v n = 0 then 1 else 0) else low (v n)), p, bb, g) → Q none h') : tX5_computeOfOne (x + 3) o h Q := by
  have c := H.cs hc
  refine wX5_computeOfOne (x + 3) o h Q ⟨c.t5, c_popd hc H hn (fun h1 H1 => ?_)⟩
  have c1 := H1.cs hc
  rcases ho with rfl | rfl | rfl | rfl
  · rw [if_pos rfl] at k ⊢
    refine ⟨c1.t5, c_isTrue (rI_of ?_)⟩
    by_cases cz : low (v n) = 0
    · rw [if_pos cz] at k
      rw [if_pos (by rw [if_pos cz])]
      exact wX5_computeOfOne_68 _ _ _ h1 Q (c_pushd hc c1 H1 (by omega) k)
    · rw [if_neg cz] at k
      rw [if_neg (by rw [if_neg cz]; decide)]
      exact wX5_computeOfOne_68 _ _ _ h1 Q (c_pushd hc c1 H1 (by omega) k)
  · rw [if_neg (by decide), if_pos rfl] at k
    rw [if_neg (by decide), if_pos rfl]
    refine ⟨c1.t5, ?_⟩
    by_cases cz : v n = 0
    · rw [if_pos cz] at k ⊢
      exact wX5_computeOfOne_89 _ _ _ h1 Q (c_pushd hc c1 H1 (by omega) k)
    · rw [if_neg cz] at k ⊢
      exact wX5_computeOfOne_89 _ _ _ h1 Q (c_pushd hc c1 H1 (by omega) k)
  · rw [if_neg (by decide), if_neg (by decide)] at k
    rw [if_neg (by decide), if_neg (by decide), if_pos rfl]
    exact ⟨c1.t5, c_pushd hc c1 H1 (by omega) k⟩
  · rw [if_neg (by decide), if_neg (by decide)] at k
    rw [if_neg (by decide), if_neg (by decide), if_neg (by decide), if_pos rfl]
    exact ⟨c1.t5, c_pushd hc c1 H1 (by omega) k⟩
/-- what follows behind the question whether an operation is one of 64 bits -/
def TwoK (a0 : Nat) (y5 y2 : Int64) (x1 : Int32) (Q : Option TV → Hp → Prop) : Int32 → Hp → Prop := fun x8 h7 => (if x8 = 0 then ob h7 a0 5 (tX7_of32 x1 y5.toInt32 y2.toInt32 h7 (rI (fun x10 h9 => dr (gr h7 324 a0) (fun a13 => ob h9 a13 8 (tX9_push a13 (x10.toInt64 &&& 4294967295) h9 (rV (fun h11 => Q none h11))))))) else ob h7 a0 5 (tX7_of64 x1 y5 y2 h7 (rL (fun y15 h14 => dr (gr h7 324 a0) (fun a18 => ob h14 a18 8 (tX9_push a18 y15 h14 (rV (fun h16 => Q none h16))))))))
theorem c_two (hc : CS h0 x) (H : RCv P fp ip x h0 h fr (n + 2, v, p, bb, g)) (hn : n + 2 ≤ 220) (ho : isTwo o) (k : match wk2 o (v n) (v (n + 1)) with
      | none => ∀ h', CSt x h0 h' 3 11 (n + 2, v, p, bb, g) → Q none h'
      | some z => ∀ h', RCv P fp ip x h0 h' fr (n + 1, upv v n z, p, bb, g) → Q none h') : tX5_computeOfTwo (x + 3) o h Q := by
  have c := H.cs hc
  refine wX5_computeOfTwo (x + 3) o h Q ⟨c.t5, c_popd hc H (by omega) (fun h1 H1 => ?_)⟩
  have c1 := H1.cs hc
  refine ⟨c1.t5, c_popd hc H1 (by omega) (fun h2 H2 => ?_)⟩
  have c2 := H2.cs hc
  have psh : ∀ z : Int64, (∀ h', RCv P fp ip x h0 h' fr (n + 1, upv v n z, p, bb, g) → Q none h') → dr (gr h2 324 (x + 3)) (fun a_3 => ob h2 a_3 8 (tX9_push a_3 z h2 (rV (fun h_1 => Q none h_1)))) := fun z kz => c_pushd hc c2 H2 (by omega) kz
  have r64 : ∀ {z : Int64}, (∀ h', RCv P fp ip x h0 h' fr (n + 1, upv v n z, p, bb, g) → Q none h') → (o = 81 ∨ o = 83 ∨ (¬ o < 124 ∧ ¬ 126 < o)) → (∀ Q' : Option TV → Hp → Prop, Q' (some (tL z)) h2 → tX7_of64 o (v n) (v (n + 1)) h2 Q') → tX7_isOf64 o h2 (rI (TwoK (x + 3) (v n) (v (n + 1)) o Q)) := by
    intro z kz h64 hof
    refine wX7_isOf64 o h2 _ ?_
    have fin : rI (TwoK (x + 3) (v n) (v (n + 1)) o Q) (some (tI 1)) h2 := by
      refine rI_of ?_
      unfold TwoK
      rw [if_neg (by decide)]
      exact ⟨c2.t5, hof _ (rL_of (psh z kz))⟩
    by_cases d1 : o = 81
    · rw [if_pos d1]; exact fin
    rw [if_neg d1]
    by_cases d2 : o = 83
    · rw [if_pos d2]; exact fin
    rw [if_neg d2]
    have d3 := (h64.resolve_left d1).resolve_left d2
    rw [if_neg d3.1, if_neg d3.2]
    exact fin
  have r32 : ∀ {z : Int32} {y : Int64}, (∀ h', RCv P fp ip x h0 h' fr (n + 1, upv v n y, p, bb, g) → Q none h') → y = low z.toInt64 → ¬ o = 81 → ¬ o = 83 → o < 124 → (∀ Q' : Option TV → Hp → Prop, Q' (some (tI z)) h2 → tX7_of32 o (v n).toInt32 (v (n + 1)).toInt32 h2 Q') → tX7_isOf64 o h2 (rI (TwoK (x + 3) (v n) (v (n + 1)) o Q)) := by
    intro z y kz ey d1 d2 d3 hof
    refine wX7_isOf64 o h2 _ ?_
    rw [if_neg d1, if_neg d2, if_pos d3]
    refine rI_of ?_
    unfold TwoK
    rw [if_pos rfl]
    refine ⟨c2.t5, hof _ (rI_of ?_)⟩
    subst ey
    exact psh _ kz
  rcases ho with rfl | rfl | rfl | rfl | rfl | rfl | rfl | rfl | rfl | rfl | rfl | rfl | rfl | rfl | rfl
  · rw [if_neg (by decide)]
    have kk : ∀ h', RCv P fp ip x h0 h' fr (n + 1, upv v n (if low (v n) = low (v (n + 1)) then 1 else 0), p, bb, g) → Q none h' := k
    by_cases c : low (v n) = low (v (n + 1))
    · rw [if_pos c] at kk
      refine r32 (z := 1) kk rfl (by decide) (by decide) (by decide) (fun Q' q' => wX7_of32 _ _ _ h2 Q' ?_)
      rw [if_pos rfl, if_pos (show (v n).toInt32 = (v (n + 1)).toInt32 from (low_iff _ _).mp c)]
      exact q'
    · rw [if_neg c] at kk
      refine r32 (z := 0) kk rfl (by decide) (by decide) (by decide) (fun Q' q' => wX7_of32 _ _ _ h2 Q' ?_)
      rw [if_pos rfl, if_neg (show ¬ ((v n).toInt32 = (v (n + 1)).toInt32) from fun z => c ((low_iff _ _).mpr z))]
      exact q'
  · rw [if_neg (by decide)]
    have kk : ∀ h', RCv P fp ip x h0 h' fr (n + 1, upv v n (if low (v n) = low (v (n + 1)) then 0 else 1), p, bb, g) → Q none h' := k
    by_cases c : low (v n) = low (v (n + 1))
    · rw [if_pos c] at kk
      refine r32 (z := 0) kk rfl (by decide) (by decide) (by decide) (fun Q' q' => wX7_of32 _ _ _ h2 Q' ?_)
      rw [if_neg (by decide), if_pos rfl, if_pos (show (v n).toInt32 = (v (n + 1)).toInt32 from (low_iff _ _).mp c)]
      exact q'
    · rw [if_neg c] at kk
      refine r32 (z := 1) kk rfl (by decide) (by decide) (by decide) (fun Q' q' => wX7_of32 _ _ _ h2 Q' ?_)
      rw [if_neg (by decide), if_pos rfl, if_neg (show ¬ ((v n).toInt32 = (v (n + 1)).toInt32) from fun z => c ((low_iff _ _).mpr z))]
      exact q'
  · rw [if_neg (by decide)]
    have kk : ∀ h', RCv P fp ip x h0 h' fr (n + 1, upv v n (if (v n).toInt32 < (v (n + 1)).toInt32 then 1 else 0), p, bb, g) → Q none h' := k
    by_cases c : (v n).toInt32 < (v (n + 1)).toInt32
    · rw [if_pos c] at kk
      refine r32 (z := 1) kk rfl (by decide) (by decide) (by decide) (fun Q' q' => wX7_of32 _ _ _ h2 Q' ?_)
      rw [if_neg (by decide), if_neg (by decide), if_pos rfl, if_pos (show (v n).toInt32 < (v (n + 1)).toInt32 from c)]
      exact q'
    · rw [if_neg c] at kk
      refine r32 (z := 0) kk rfl (by decide) (by decide) (by decide) (fun Q' q' => wX7_of32 _ _ _ h2 Q' ?_)
      rw [if_neg (by decide), if_neg (by decide), if_pos rfl, if_neg (show ¬ ((v n).toInt32 < (v (n + 1)).toInt32) from c)]
      exact q'
  · rw [if_neg (by decide)]
    have kk : ∀ h', RCv P fp ip x h0 h' fr (n + 1, upv v n (if low (v n) < low (v (n + 1)) then 1 else 0), p, bb, g) → Q none h' := k
    by_cases c : low (v n) < low (v (n + 1))
    · rw [if_pos c] at kk
      refine r32 (z := 1) kk rfl (by decide) (by decide) (by decide) (fun Q' q' => wX7_of32 _ _ _ h2 Q' ?_)
      rw [if_neg (by decide), if_neg (by decide), if_neg (by decide), if_pos rfl, if_pos (show ((v n).toInt32.toInt64 &&& 4294967295) < ((v (n + 1)).toInt32.toInt64 &&& 4294967295) from (by have e1 := low_sx (v n); have e2 := low_sx (v (n + 1)); unfold low at e1 e2 c; rw [e1, e2]; exact c))]
      exact q'
    · rw [if_neg c] at kk
      refine r32 (z := 0) kk rfl (by decide) (by decide) (by decide) (fun Q' q' => wX7_of32 _ _ _ h2 Q' ?_)
      rw [if_neg (by decide), if_neg (by decide), if_neg (by decide), if_pos rfl, if_neg (show ¬ (((v n).toInt32.toInt64 &&& 4294967295) < ((v (n + 1)).toInt32.toInt64 &&& 4294967295)) from fun z => c (by have e1 := low_sx (v n); have e2 := low_sx (v (n + 1)); unfold low at e1 e2 ⊢; rw [e1, e2] at z; exact z))]
      exact q'
  · rw [if_neg (by decide)]
    have kk : ∀ h', RCv P fp ip x h0 h' fr (n + 1, upv v n (if v n = v (n + 1) then 1 else 0), p, bb, g) → Q none h' := k
    by_cases c : v n = v (n + 1)
    · rw [if_pos c] at kk
      refine r64 kk (by decide) (fun Q' q' => wX7_of64 _ _ _ h2 Q' ?_)
      rw [if_pos rfl, if_pos c]
      exact q'
    · rw [if_neg c] at kk
      refine r64 kk (by decide) (fun Q' q' => wX7_of64 _ _ _ h2 Q' ?_)
      rw [if_pos rfl, if_neg c]
      exact q'
  · rw [if_neg (by decide)]
    have kk : ∀ h', RCv P fp ip x h0 h' fr (n + 1, upv v n (if v n < v (n + 1) then 1 else 0), p, bb, g) → Q none h' := k
    by_cases c : v n < v (n + 1)
    · rw [if_pos c] at kk
      refine r64 kk (by decide) (fun Q' q' => wX7_of64 _ _ _ h2 Q' ?_)
      rw [if_neg (by decide), if_pos rfl, if_pos c]
      exact q'
    · rw [if_neg c] at kk
      refine r64 kk (by decide) (fun Q' q' => wX7_of64 _ _ _ h2 Q' ?_)
      rw [if_neg (by decide), if_pos rfl, if_neg c]
      exact q'
  · rw [if_neg (by decide)]
    refine r32 (z := (v n).toInt32 + (v (n + 1)).toInt32) k (low_add _ _).symm (by decide) (by decide) (by decide) (fun Q' q' => wX7_of32 _ _ _ h2 Q' ?_)
    rw [if_neg (by decide), if_neg (by decide), if_neg (by decide), if_neg (by decide), if_pos rfl]
    exact q'
  · rw [if_neg (by decide)]
    refine r32 (z := (v n).toInt32 - (v (n + 1)).toInt32) k (low_sub _ _).symm (by decide) (by decide) (by decide) (fun Q' q' => wX7_of32 _ _ _ h2 Q' ?_)
    rw [if_neg (by decide), if_neg (by decide), if_neg (by decide), if_neg (by decide), if_neg (by decide), if_pos rfl]
    exact q'
  · rw [if_neg (by decide)]
    refine r32 (z := (v n).toInt32 * (v (n + 1)).toInt32) k (low_mul _ _).symm (by decide) (by decide) (by decide) (fun Q' q' => wX7_of32 _ _ _ h2 Q' ?_)
    rw [if_neg (by decide), if_neg (by decide), if_neg (by decide), if_neg (by decide), if_neg (by decide), if_neg (by decide), if_pos rfl]
    exact q'
  · rw [if_pos rfl]
    have e : wk2 110 (v n) (v (n + 1)) = if low (v (n + 1)) = 0 then none else some (low (v n) / low (v (n + 1))) := rfl
    rw [e] at k
    refine ⟨c2.t5, wX5_divide (x + 3) _ _ h2 _ ?_⟩
    by_cases c : low (v (n + 1)) = 0
    · rw [if_pos c] at k
      rw [if_pos (show (v (n + 1) &&& 4294967295) = 0 from c)]
      exact ⟨c2.t5, c_trap hc H2 (fun h4 H4 => rV_of (rV_of (k h4 H4)))⟩
    · rw [if_neg c] at k
      rw [if_neg (show ¬ (v (n + 1) &&& 4294967295) = 0 from c)]
      exact ⟨c2.t5, c, c_pushd hc c2 H2 (by omega) (fun h4 H4 => rV_of (k h4 H4))⟩
  · rw [if_neg (by decide)]
    refine r32 (z := (v n).toInt32 &&& (v (n + 1)).toInt32) k (low_and _ _).symm (by decide) (by decide) (by decide) (fun Q' q' => wX7_of32 _ _ _ h2 Q' ?_)
    rw [if_neg (by decide), if_neg (by decide), if_neg (by decide), if_neg (by decide), if_neg (by decide), if_neg (by decide), if_neg (by decide), if_pos rfl]
    exact q'
  · rw [if_neg (by decide)]
    refine r32 (z := (v n).toInt32 <<< (((v (n + 1)).toInt32 &&& 31) &&& 31)) k (low_shl _ _).symm (by decide) (by decide) (by decide) (fun Q' q' => wX7_of32 _ _ _ h2 Q' ?_)
    rw [if_neg (by decide), if_neg (by decide), if_neg (by decide), if_neg (by decide), if_neg (by decide), if_neg (by decide), if_neg (by decide), if_neg (by decide), if_pos rfl]
    exact q'
  · rw [if_neg (by decide)]
    refine r64 k (by decide) (fun Q' q' => wX7_of64 _ _ _ h2 Q' ?_)
    rw [if_neg (by decide), if_neg (by decide), if_pos rfl]
    exact q'
  · rw [if_neg (by decide)]
    refine r64 k (by decide) (fun Q' q' => wX7_of64 _ _ _ h2 Q' ?_)
    rw [if_neg (by decide), if_neg (by decide), if_neg (by decide), if_pos rfl]
    exact q'
  · rw [if_neg (by decide)]
    refine r64 k (by decide) (fun Q' q' => wX7_of64 _ _ _ h2 Q' ?_)
    rw [if_neg (by decide), if_neg (by decide), if_neg (by decide), if_neg (by decide), if_pos rfl]
    exact q'
end RR
