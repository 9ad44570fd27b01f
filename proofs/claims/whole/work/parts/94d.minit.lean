/-! THE REFERENCE: its constructor -/
/-- below m all is as it was -/
def FB (m : Nat) (h0 h : Hp) : Prop := ∀ a, a < m → tg h a = tg h0 a ∧ (∀ f, gi h f a = gi h0 f a ∧ gl h f a = gl h0 f a ∧ gr h f a = gr h0 f a) ∧ ai h a = ai h0 a ∧ al h a = al h0 a ∧ aq h a = aq h0 a
theorem FB.rf (m : Nat) (h : Hp) : FB m h h := fun _ _ => ⟨rfl, fun _ => ⟨rfl, rfl, rfl⟩, rfl, rfl, rfl⟩
theorem FB.tr {m : Nat} {h h1 h2 : Hp} (x : FB m h h1) (y : FB m h1 h2) : FB m h h2 := fun a ha => by
  obtain ⟨x1, x2, x3, x4, x5⟩ := x a ha
  obtain ⟨y1, y2, y3, y4, y5⟩ := y a ha
  exact ⟨y1.trans x1, fun f => ⟨(y2 f).1.trans (x2 f).1, (y2 f).2.1.trans (x2 f).2.1, (y2 f).2.2.trans (x2 f).2.2⟩, y3.trans x3, y4.trans x4, y5.trans x5⟩
theorem FB_nw {m : Nat} {h : Hp} (hs : m ≤ sz h) (t : Tg) (n : Nat) : FB m h (nw h t n) := fun a ha => by
  have hne : ¬ a = sz h := by omega
  refine ⟨by rw [tg_nw, if_neg hne], fun f => ⟨by rw [gi_nw, if_neg hne], by rw [gl_nw, if_neg hne], by rw [gr_nw, if_neg hne]⟩, ?_, ?_, ?_⟩
  · funext j; rw [ai_nw, if_neg hne]
  · funext j; rw [al_nw, if_neg hne]
  · funext j; rw [aq_nw, if_neg hne]
theorem FB_pr {m : Nat} {h : Hp} (f b : Nat) (x : Option Nat) (hb : m ≤ b) : FB m h (pr h f b x) := fun a ha => ⟨rfl, fun g => ⟨rfl, rfl, by rw [gr_pr, if_neg (fun q => by omega)]⟩, rfl, rfl, rfl⟩
theorem FB_pi {m : Nat} {h : Hp} (f b : Nat) (x : Int32) (hb : m ≤ b) : FB m h (pi h f b x) := fun a ha => ⟨rfl, fun g => ⟨by rw [gi_pi, if_neg (fun q => by omega)], rfl, rfl⟩, rfl, rfl, rfl⟩
theorem FB_si {m : Nat} {h : Hp} (b j : Nat) (x : Int32) (hb : m ≤ b) : FB m h (si h b j x) := fun a ha => ⟨rfl, fun g => ⟨rfl, rfl, rfl⟩, ai_ne (by omega), rfl, rfl⟩
theorem FB_sq {m : Nat} {h : Hp} (b j : Nat) (x : Option Nat) (hb : m ≤ b) : FB m h (sq h b j x) := fun a ha => ⟨rfl, fun g => ⟨rfl, rfl, rfl⟩, rfl, rfl, by
  funext i
  rw [aq_sq, if_neg (fun q => by omega)]⟩
def MIN (h0 : Hp) (m : Nat) (e : Int32) (S : Nat) (L : List (Nat × Nat × Nat × Nat)) (h : Hp) : Prop := sz h = m + 1 + L.length ∧ us h = us h0 + S ∧ tg h m = some (.inl 10) ∧ (∀ q ∈ L, gr h q.1 m = some (m + q.2.1) ∧ tg h (m + q.2.1) = some (.inr (q.2.2.1, q.2.2.2)) ∧ 1 ≤ q.2.1 ∧ q.2.1 ≤ L.length) ∧ (∀ f, gi h f m = if f = 666 then e else 0) ∧ (∀ a, m < a → a < sz h → (∀ j, ai h a j = 0) ∧ ∀ j, al h a j = 0) ∧ FB m h0 h
theorem MIN.step {h0 h h1 h3 : Hp} {m : Nat} {e : Int32} {S : Nat} {L : List (Nat × Nat × Nat × Nat)} (H : MIN h0 m e S L h) {f t n a1 : Nat} (e1 : h1 = nw h (.inr (t, n)) n) (ea : a1 = sz h) (e3 : h3 = pr h1 f m (some a1)) (hf : ∀ q ∈ L, q.1 ≠ f) : MIN h0 m e (S + n) ((f, L.length + 1, t, n) :: L) h3 := by
  obtain ⟨x1, x2, x3, x4, x5, x6, x7⟩ := H
  have hm : ¬ m = sz h := by omega
  refine ⟨?_, ?_, ?_, fun q hq => ?_, fun g => ?_, fun a ha hs => ?_, ?_⟩
  · rw [e3, sz_pr, e1, sz_nw, x1, List.length_cons]; omega
  · rw [e3, us_pr, e1, us_nw, x2]; omega
  · rw [e3, tg_pr, e1, tg_nw, if_neg hm]; exact x3
  · rcases List.mem_cons.mp hq with rfl | hq
    · refine ⟨?_, ?_, by show 1 ≤ L.length + 1; omega, by show L.length + 1 ≤ _; rw [List.length_cons]; omega⟩
      · rw [e3, gr_pr, if_pos ⟨rfl, rfl⟩, ea, x1]
        show some (m + 1 + L.length) = some (m + (L.length + 1))
        congr 1
        omega
      · rw [e3, tg_pr, e1, tg_nw, if_pos (by show m + (L.length + 1) = _; omega)]
    · obtain ⟨y1, y2, y3, y4⟩ := x4 q hq
      refine ⟨?_, ?_, y3, by rw [List.length_cons]; omega⟩
      · rw [e3, gr_pr, if_neg (fun z => hf q hq z.1), e1, gr_nw, if_neg hm]; exact y1
      · rw [e3, tg_pr, e1, tg_nw, if_neg (by omega)]; exact y2
  · rw [e3, gi_pr, e1, gi_nw, if_neg hm]; exact x5 g
  · rw [e3, sz_pr, e1, sz_nw] at hs
    rw [e3, ai_pr, al_pr, e1]
    refine ⟨fun j => ?_, fun j => ?_⟩
    · rw [ai_nw]
      by_cases c : a = sz h
      · rw [if_pos c]
      · rw [if_neg c]; exact (x6 a ha (by omega)).1 j
    · rw [al_nw]
      by_cases c : a = sz h
      · rw [if_pos c]
      · rw [if_neg c]; exact (x6 a ha (by omega)).2 j
  · rw [e3, e1]
    exact x7.tr ((FB_nw (by omega) _ _).tr (FB_pr _ _ _ (Nat.le_refl _)))
def x00 : Ab := ([], none, 0, (fun _ => 0), (fun _ => none), (0, 0, [], (0, (fun _ => 0), 1, (fun _ => 0), fun _ => 0)), 0)
theorem m_init223 {m : Nat} {Q : Option TV → Hp → Prop} {h0 : Hp} : ∀ (t i : Nat) (h : Hp), t = 30 - i → i ≤ 30 → MS h m → (∀ j, j < i → ai h (m + 17) j = -1) → (∀ f, gi h f m = if f = 666 then 1 else 0) → (∀ j, ai h (m + 19) j = 0 ∧ al h (m + 18) j = 0) → FB m h0 h → sz h = m + 26 → us h = us h0 + 16477 → (∀ h', FB m h0 h' → sz h' = m + 26 → us h' = us h0 + 16477 → MA h' m x00 → Q none h') → tX11_init_223 m (nI i) h Q := by
  intro t
  induction t with
  | zero =>
    intro i h ht hi hm h1 h2 h3 h4 h5 h6 K
    have e : i = 30 := by omega
    subst e
    refine wX11_init_223 m _ h Q ?_
    rw [if_neg (show ¬ nI 30 < 30 by decide)]
    have gz : ∀ f, f ≠ 666 → gi h f m = 0 := fun f hf => by rw [h2, if_neg hf]
    refine K h h4 h5 h6 ⟨hm, ⟨gz 640 (by decide), Nat.zero_le _, gz 641 (by decide), Nat.zero_le _, fun k f hf => by cases hf⟩, gz 642 (by decide), fun j hj => h1 j hj, ⟨gz 667 (by decide), fun j hj => absurd hj (Nat.not_lt_zero j)⟩, gz 670 (by decide), gz 668 (by decide), gz 669 (by decide), ⟨?_, ?_, ?_⟩, fun e => absurd (show (0 : Int32) = 1 from e) (by decide), fun e => absurd (show (0 : Int32) = 2 from e) (by decide)⟩
    · rw [h2, if_pos rfl]; rfl
    · funext j; exact (h3 j).1
    · funext j; exact (h3 j).2
  | succ t ih =>
    intro i h ht hi hm h1 h2 h3 h4 h5 h6 K
    refine wX11_init_223 m _ h Q ?_
    rw [if_pos (show nI i < 30 from nI_lt (b := 30) (by omega) (by decide))]
    refine ⟨hm.1, S_table hm hm (by omega) (fun h1' e1 => ?_)⟩
    rw [nck (by omega)] at e1
    rw [← nI_succ]
    refine ih (i + 1) h1' (by omega) (by omega) (by rw [e1]; exact hm) (fun j hj => ?_) (by rw [e1]; exact h2) (fun j => ?_) (by rw [e1]; exact h4.tr (FB_si _ _ _ (by omega))) (by rw [e1]; exact h5) (by rw [e1]; exact h6) K
    · rw [e1, ai_si]
      by_cases c : j = i
      · rw [if_pos ⟨rfl, c⟩]
      · rw [if_neg (fun z => c z.2)]
        exact h1 j (by omega)
    · rw [e1, ai_ne (by omega)]
      exact h3 j
theorem m_init {m : Nat} {h : Hp} {Q : Option TV → Hp → Prop} (ht : tg h m = some (.inl 10)) (hs : sz h = m + 1) (hz : ∀ f, gi h f m = 0) (K : ∀ h', FB m h h' → sz h' = m + 26 → us h' = us h + 16477 → MA h' m x00 → Q none h') : tX11_init m h Q := by
  have H0 : MIN h m 0 0 [] h := ⟨hs, rfl, ht, fun q hq => (by cases hq), fun f => by rw [hz f]; split <;> rfl, fun a h1 h2 => by omega, FB.rf _ _⟩
  refine wX11_init m h Q ?_
  intro h1a a1 q1a q1b
  have b1 : tg h1a m = some (.inl 10) := by rw [q1a, tg_nw, if_neg (by have z : sz _ = m + 1 + 0 := H0.1; omega)]; exact H0.2.2.1
  refine ⟨b1, fun h1 q1c => ?_⟩
  have H1 : MIN h m 0 40 [(643, 1, 0, 40)] h1 := H0.step q1a q1b q1c (by decide)
  intro h2a a2 q2a q2b
  have b2 : tg h2a m = some (.inl 10) := by rw [q2a, tg_nw, if_neg (by have z : sz _ = m + 1 + 1 := H1.1; omega)]; exact H1.2.2.1
  refine ⟨b2, fun h2 q2c => ?_⟩
  have H2 : MIN h m 0 80 [(644, 2, 0, 40), (643, 1, 0, 40)] h2 := H1.step q2a q2b q2c (by decide)
  intro h3a a3 q3a q3b
  have b3 : tg h3a m = some (.inl 10) := by rw [q3a, tg_nw, if_neg (by have z : sz _ = m + 1 + 2 := H2.1; omega)]; exact H2.2.2.1
  refine ⟨b3, fun h3 q3c => ?_⟩
  have H3 : MIN h m 0 120 [(645, 3, 0, 40), (644, 2, 0, 40), (643, 1, 0, 40)] h3 := H2.step q3a q3b q3c (by decide)
  intro h4a a4 q4a q4b
  have b4 : tg h4a m = some (.inl 10) := by rw [q4a, tg_nw, if_neg (by have z : sz _ = m + 1 + 3 := H3.1; omega)]; exact H3.2.2.1
  refine ⟨b4, fun h4 q4c => ?_⟩
  have H4 : MIN h m 0 160 [(646, 4, 0, 40), (645, 3, 0, 40), (644, 2, 0, 40), (643, 1, 0, 40)] h4 := H3.step q4a q4b q4c (by decide)
  intro h5a a5 q5a q5b
  have b5 : tg h5a m = some (.inl 10) := by rw [q5a, tg_nw, if_neg (by have z : sz _ = m + 1 + 4 := H4.1; omega)]; exact H4.2.2.1
  refine ⟨b5, fun h5 q5c => ?_⟩
  have H5 : MIN h m 0 200 [(647, 5, 0, 40), (646, 4, 0, 40), (645, 3, 0, 40), (644, 2, 0, 40), (643, 1, 0, 40)] h5 := H4.step q5a q5b q5c (by decide)
  intro h6a a6 q6a q6b
  have b6 : tg h6a m = some (.inl 10) := by rw [q6a, tg_nw, if_neg (by have z : sz _ = m + 1 + 5 := H5.1; omega)]; exact H5.2.2.1
  refine ⟨b6, fun h6 q6c => ?_⟩
  have H6 : MIN h m 0 240 [(648, 6, 0, 40), (647, 5, 0, 40), (646, 4, 0, 40), (645, 3, 0, 40), (644, 2, 0, 40), (643, 1, 0, 40)] h6 := H5.step q6a q6b q6c (by decide)
  intro h7a a7 q7a q7b
  have b7 : tg h7a m = some (.inl 10) := by rw [q7a, tg_nw, if_neg (by have z : sz _ = m + 1 + 6 := H6.1; omega)]; exact H6.2.2.1
  refine ⟨b7, fun h7 q7c => ?_⟩
  have H7 : MIN h m 0 1740 [(649, 7, 0, 1500), (648, 6, 0, 40), (647, 5, 0, 40), (646, 4, 0, 40), (645, 3, 0, 40), (644, 2, 0, 40), (643, 1, 0, 40)] h7 := H6.step q7a q7b q7c (by decide)
  intro h8a a8 q8a q8b
  have b8 : tg h8a m = some (.inl 10) := by rw [q8a, tg_nw, if_neg (by have z : sz _ = m + 1 + 7 := H7.1; omega)]; exact H7.2.2.1
  refine ⟨b8, fun h8 q8c => ?_⟩
  have H8 : MIN h m 0 3240 [(650, 8, 0, 1500), (649, 7, 0, 1500), (648, 6, 0, 40), (647, 5, 0, 40), (646, 4, 0, 40), (645, 3, 0, 40), (644, 2, 0, 40), (643, 1, 0, 40)] h8 := H7.step q8a q8b q8c (by decide)
  intro h9a a9 q9a q9b
  have b9 : tg h9a m = some (.inl 10) := by rw [q9a, tg_nw, if_neg (by have z : sz _ = m + 1 + 8 := H8.1; omega)]; exact H8.2.2.1
  refine ⟨b9, fun h9 q9c => ?_⟩
  have H9 : MIN h m 0 4740 [(651, 9, 0, 1500), (650, 8, 0, 1500), (649, 7, 0, 1500), (648, 6, 0, 40), (647, 5, 0, 40), (646, 4, 0, 40), (645, 3, 0, 40), (644, 2, 0, 40), (643, 1, 0, 40)] h9 := H8.step q9a q9b q9c (by decide)
  intro h10a a10 q10a q10b
  have b10 : tg h10a m = some (.inl 10) := by rw [q10a, tg_nw, if_neg (by have z : sz _ = m + 1 + 9 := H9.1; omega)]; exact H9.2.2.1
  refine ⟨b10, fun h10 q10c => ?_⟩
  have H10 : MIN h m 0 6240 [(652, 10, 0, 1500), (651, 9, 0, 1500), (650, 8, 0, 1500), (649, 7, 0, 1500), (648, 6, 0, 40), (647, 5, 0, 40), (646, 4, 0, 40), (645, 3, 0, 40), (644, 2, 0, 40), (643, 1, 0, 40)] h10 := H9.step q10a q10b q10c (by decide)
  intro h11a a11 q11a q11b
  have b11 : tg h11a m = some (.inl 10) := by rw [q11a, tg_nw, if_neg (by have z : sz _ = m + 1 + 10 := H10.1; omega)]; exact H10.2.2.1
  refine ⟨b11, fun h11 q11c => ?_⟩
  have H11 : MIN h m 0 7741 [(657, 11, 0, 1501), (652, 10, 0, 1500), (651, 9, 0, 1500), (650, 8, 0, 1500), (649, 7, 0, 1500), (648, 6, 0, 40), (647, 5, 0, 40), (646, 4, 0, 40), (645, 3, 0, 40), (644, 2, 0, 40), (643, 1, 0, 40)] h11 := H10.step q11a q11b q11c (by decide)
  intro h12a a12 q12a q12b
  have b12 : tg h12a m = some (.inl 10) := by rw [q12a, tg_nw, if_neg (by have z : sz _ = m + 1 + 11 := H11.1; omega)]; exact H11.2.2.1
  refine ⟨b12, fun h12 q12c => ?_⟩
  have H12 : MIN h m 0 9242 [(658, 12, 0, 1501), (657, 11, 0, 1501), (652, 10, 0, 1500), (651, 9, 0, 1500), (650, 8, 0, 1500), (649, 7, 0, 1500), (648, 6, 0, 40), (647, 5, 0, 40), (646, 4, 0, 40), (645, 3, 0, 40), (644, 2, 0, 40), (643, 1, 0, 40)] h12 := H11.step q12a q12b q12c (by decide)
  intro h13a a13 q13a q13b
  have b13 : tg h13a m = some (.inl 10) := by rw [q13a, tg_nw, if_neg (by have z : sz _ = m + 1 + 12 := H12.1; omega)]; exact H12.2.2.1
  refine ⟨b13, fun h13 q13c => ?_⟩
  have H13 : MIN h m 0 10743 [(659, 13, 0, 1501), (658, 12, 0, 1501), (657, 11, 0, 1501), (652, 10, 0, 1500), (651, 9, 0, 1500), (650, 8, 0, 1500), (649, 7, 0, 1500), (648, 6, 0, 40), (647, 5, 0, 40), (646, 4, 0, 40), (645, 3, 0, 40), (644, 2, 0, 40), (643, 1, 0, 40)] h13 := H12.step q13a q13b q13c (by decide)
  intro h14a a14 q14a q14b
  have b14 : tg h14a m = some (.inl 10) := by rw [q14a, tg_nw, if_neg (by have z : sz _ = m + 1 + 13 := H13.1; omega)]; exact H13.2.2.1
  refine ⟨b14, fun h14 q14c => ?_⟩
  have H14 : MIN h m 0 12244 [(660, 14, 0, 1501), (659, 13, 0, 1501), (658, 12, 0, 1501), (657, 11, 0, 1501), (652, 10, 0, 1500), (651, 9, 0, 1500), (650, 8, 0, 1500), (649, 7, 0, 1500), (648, 6, 0, 40), (647, 5, 0, 40), (646, 4, 0, 40), (645, 3, 0, 40), (644, 2, 0, 40), (643, 1, 0, 40)] h14 := H13.step q14a q14b q14c (by decide)
  intro h15a a15 q15a q15b
  have b15 : tg h15a m = some (.inl 10) := by rw [q15a, tg_nw, if_neg (by have z : sz _ = m + 1 + 14 := H14.1; omega)]; exact H14.2.2.1
  refine ⟨b15, fun h15 q15c => ?_⟩
  have H15 : MIN h m 0 13745 [(661, 15, 0, 1501), (660, 14, 0, 1501), (659, 13, 0, 1501), (658, 12, 0, 1501), (657, 11, 0, 1501), (652, 10, 0, 1500), (651, 9, 0, 1500), (650, 8, 0, 1500), (649, 7, 0, 1500), (648, 6, 0, 40), (647, 5, 0, 40), (646, 4, 0, 40), (645, 3, 0, 40), (644, 2, 0, 40), (643, 1, 0, 40)] h15 := H14.step q15a q15b q15c (by decide)
  intro h16a a16 q16a q16b
  have b16 : tg h16a m = some (.inl 10) := by rw [q16a, tg_nw, if_neg (by have z : sz _ = m + 1 + 15 := H15.1; omega)]; exact H15.2.2.1
  refine ⟨b16, fun h16 q16c => ?_⟩
  have H16 : MIN h m 0 15246 [(662, 16, 3, 1501), (661, 15, 0, 1501), (660, 14, 0, 1501), (659, 13, 0, 1501), (658, 12, 0, 1501), (657, 11, 0, 1501), (652, 10, 0, 1500), (651, 9, 0, 1500), (650, 8, 0, 1500), (649, 7, 0, 1500), (648, 6, 0, 40), (647, 5, 0, 40), (646, 4, 0, 40), (645, 3, 0, 40), (644, 2, 0, 40), (643, 1, 0, 40)] h16 := H15.step q16a q16b q16c (by decide)
  intro h17a a17 q17a q17b
  have b17 : tg h17a m = some (.inl 10) := by rw [q17a, tg_nw, if_neg (by have z : sz _ = m + 1 + 16 := H16.1; omega)]; exact H16.2.2.1
  refine ⟨b17, fun h17 q17c => ?_⟩
  have H17 : MIN h m 0 15276 [(663, 17, 0, 30), (662, 16, 3, 1501), (661, 15, 0, 1501), (660, 14, 0, 1501), (659, 13, 0, 1501), (658, 12, 0, 1501), (657, 11, 0, 1501), (652, 10, 0, 1500), (651, 9, 0, 1500), (650, 8, 0, 1500), (649, 7, 0, 1500), (648, 6, 0, 40), (647, 5, 0, 40), (646, 4, 0, 40), (645, 3, 0, 40), (644, 2, 0, 40), (643, 1, 0, 40)] h17 := H16.step q17a q17b q17c (by decide)
  intro h18a a18 q18a q18b
  have b18 : tg h18a m = some (.inl 10) := by rw [q18a, tg_nw, if_neg (by have z : sz _ = m + 1 + 17 := H17.1; omega)]; exact H17.2.2.1
  refine ⟨b18, fun h18 q18c => ?_⟩
  have H18 : MIN h m 0 15284 [(664, 18, 1, 8), (663, 17, 0, 30), (662, 16, 3, 1501), (661, 15, 0, 1501), (660, 14, 0, 1501), (659, 13, 0, 1501), (658, 12, 0, 1501), (657, 11, 0, 1501), (652, 10, 0, 1500), (651, 9, 0, 1500), (650, 8, 0, 1500), (649, 7, 0, 1500), (648, 6, 0, 40), (647, 5, 0, 40), (646, 4, 0, 40), (645, 3, 0, 40), (644, 2, 0, 40), (643, 1, 0, 40)] h18 := H17.step q18a q18b q18c (by decide)
  intro h19a a19 q19a q19b
  have b19 : tg h19a m = some (.inl 10) := by rw [q19a, tg_nw, if_neg (by have z : sz _ = m + 1 + 18 := H18.1; omega)]; exact H18.2.2.1
  refine ⟨b19, fun h19 q19c => ?_⟩
  have H19 : MIN h m 0 15668 [(665, 19, 0, 384), (664, 18, 1, 8), (663, 17, 0, 30), (662, 16, 3, 1501), (661, 15, 0, 1501), (660, 14, 0, 1501), (659, 13, 0, 1501), (658, 12, 0, 1501), (657, 11, 0, 1501), (652, 10, 0, 1500), (651, 9, 0, 1500), (650, 8, 0, 1500), (649, 7, 0, 1500), (648, 6, 0, 40), (647, 5, 0, 40), (646, 4, 0, 40), (645, 3, 0, 40), (644, 2, 0, 40), (643, 1, 0, 40)] h19 := H18.step q19a q19b q19c (by decide)
  refine ⟨H19.2.2.1, fun hx qx => ?_⟩
  have HX : MIN h m 1 15668 [(665, 19, 0, 384), (664, 18, 1, 8), (663, 17, 0, 30), (662, 16, 3, 1501), (661, 15, 0, 1501), (660, 14, 0, 1501), (659, 13, 0, 1501), (658, 12, 0, 1501), (657, 11, 0, 1501), (652, 10, 0, 1500), (651, 9, 0, 1500), (650, 8, 0, 1500), (649, 7, 0, 1500), (648, 6, 0, 40), (647, 5, 0, 40), (646, 4, 0, 40), (645, 3, 0, 40), (644, 2, 0, 40), (643, 1, 0, 40)] hx := by
    obtain ⟨x1, x2, x3, x4, x5, x6, x7⟩ := H19
    refine ⟨by rw [qx]; exact x1, by rw [qx]; exact x2, by rw [qx]; exact x3, by rw [qx]; exact x4, fun f => ?_, by rw [qx]; exact x6, by rw [qx]; exact x7.tr (FB_pi _ _ _ (Nat.le_refl _))⟩
    rw [qx, gi_pi]
    by_cases c : f = 666
    · rw [if_pos ⟨c, rfl⟩, if_pos c]
    · rw [if_neg (fun z => c z.1), if_neg c, x5, if_neg c]
  intro h20a a20 q20a q20b
  have b20 : tg h20a m = some (.inl 10) := by rw [q20a, tg_nw, if_neg (by have z : sz _ = m + 1 + 19 := HX.1; omega)]; exact HX.2.2.1
  refine ⟨b20, fun h20 q20c => ?_⟩
  have H20 : MIN h m 1 15676 [(675, 20, 1, 8), (665, 19, 0, 384), (664, 18, 1, 8), (663, 17, 0, 30), (662, 16, 3, 1501), (661, 15, 0, 1501), (660, 14, 0, 1501), (659, 13, 0, 1501), (658, 12, 0, 1501), (657, 11, 0, 1501), (652, 10, 0, 1500), (651, 9, 0, 1500), (650, 8, 0, 1500), (649, 7, 0, 1500), (648, 6, 0, 40), (647, 5, 0, 40), (646, 4, 0, 40), (645, 3, 0, 40), (644, 2, 0, 40), (643, 1, 0, 40)] h20 := HX.step q20a q20b q20c (by decide)
  intro h21a a21 q21a q21b
  have b21 : tg h21a m = some (.inl 10) := by rw [q21a, tg_nw, if_neg (by have z : sz _ = m + 1 + 20 := H20.1; omega)]; exact H20.2.2.1
  refine ⟨b21, fun h21 q21c => ?_⟩
  have H21 : MIN h m 1 16376 [(676, 21, 1, 700), (675, 20, 1, 8), (665, 19, 0, 384), (664, 18, 1, 8), (663, 17, 0, 30), (662, 16, 3, 1501), (661, 15, 0, 1501), (660, 14, 0, 1501), (659, 13, 0, 1501), (658, 12, 0, 1501), (657, 11, 0, 1501), (652, 10, 0, 1500), (651, 9, 0, 1500), (650, 8, 0, 1500), (649, 7, 0, 1500), (648, 6, 0, 40), (647, 5, 0, 40), (646, 4, 0, 40), (645, 3, 0, 40), (644, 2, 0, 40), (643, 1, 0, 40)] h21 := H20.step q21a q21b q21c (by decide)
  intro h22a a22 q22a q22b
  have b22 : tg h22a m = some (.inl 10) := by rw [q22a, tg_nw, if_neg (by have z : sz _ = m + 1 + 21 := H21.1; omega)]; exact H21.2.2.1
  refine ⟨b22, fun h22 q22c => ?_⟩
  have H22 : MIN h m 1 16407 [(677, 22, 0, 31), (676, 21, 1, 700), (675, 20, 1, 8), (665, 19, 0, 384), (664, 18, 1, 8), (663, 17, 0, 30), (662, 16, 3, 1501), (661, 15, 0, 1501), (660, 14, 0, 1501), (659, 13, 0, 1501), (658, 12, 0, 1501), (657, 11, 0, 1501), (652, 10, 0, 1500), (651, 9, 0, 1500), (650, 8, 0, 1500), (649, 7, 0, 1500), (648, 6, 0, 40), (647, 5, 0, 40), (646, 4, 0, 40), (645, 3, 0, 40), (644, 2, 0, 40), (643, 1, 0, 40)] h22 := H21.step q22a q22b q22c (by decide)
  intro h23a a23 q23a q23b
  have b23 : tg h23a m = some (.inl 10) := by rw [q23a, tg_nw, if_neg (by have z : sz _ = m + 1 + 22 := H22.1; omega)]; exact H22.2.2.1
  refine ⟨b23, fun h23 q23c => ?_⟩
  have H23 : MIN h m 1 16438 [(678, 23, 0, 31), (677, 22, 0, 31), (676, 21, 1, 700), (675, 20, 1, 8), (665, 19, 0, 384), (664, 18, 1, 8), (663, 17, 0, 30), (662, 16, 3, 1501), (661, 15, 0, 1501), (660, 14, 0, 1501), (659, 13, 0, 1501), (658, 12, 0, 1501), (657, 11, 0, 1501), (652, 10, 0, 1500), (651, 9, 0, 1500), (650, 8, 0, 1500), (649, 7, 0, 1500), (648, 6, 0, 40), (647, 5, 0, 40), (646, 4, 0, 40), (645, 3, 0, 40), (644, 2, 0, 40), (643, 1, 0, 40)] h23 := H22.step q23a q23b q23c (by decide)
  intro h24a a24 q24a q24b
  have b24 : tg h24a m = some (.inl 10) := by rw [q24a, tg_nw, if_neg (by have z : sz _ = m + 1 + 23 := H23.1; omega)]; exact H23.2.2.1
  refine ⟨b24, fun h24 q24c => ?_⟩
  have H24 : MIN h m 1 16469 [(679, 24, 0, 31), (678, 23, 0, 31), (677, 22, 0, 31), (676, 21, 1, 700), (675, 20, 1, 8), (665, 19, 0, 384), (664, 18, 1, 8), (663, 17, 0, 30), (662, 16, 3, 1501), (661, 15, 0, 1501), (660, 14, 0, 1501), (659, 13, 0, 1501), (658, 12, 0, 1501), (657, 11, 0, 1501), (652, 10, 0, 1500), (651, 9, 0, 1500), (650, 8, 0, 1500), (649, 7, 0, 1500), (648, 6, 0, 40), (647, 5, 0, 40), (646, 4, 0, 40), (645, 3, 0, 40), (644, 2, 0, 40), (643, 1, 0, 40)] h24 := H23.step q24a q24b q24c (by decide)
  intro h25a a25 q25a q25b
  have b25 : tg h25a m = some (.inl 10) := by rw [q25a, tg_nw, if_neg (by have z : sz _ = m + 1 + 24 := H24.1; omega)]; exact H24.2.2.1
  refine ⟨b25, fun h25 q25c => ?_⟩
  have H25 : MIN h m 1 16477 [(681, 25, 1, 8), (679, 24, 0, 31), (678, 23, 0, 31), (677, 22, 0, 31), (676, 21, 1, 700), (675, 20, 1, 8), (665, 19, 0, 384), (664, 18, 1, 8), (663, 17, 0, 30), (662, 16, 3, 1501), (661, 15, 0, 1501), (660, 14, 0, 1501), (659, 13, 0, 1501), (658, 12, 0, 1501), (657, 11, 0, 1501), (652, 10, 0, 1500), (651, 9, 0, 1500), (650, 8, 0, 1500), (649, 7, 0, 1500), (648, 6, 0, 40), (647, 5, 0, 40), (646, 4, 0, 40), (645, 3, 0, 40), (644, 2, 0, 40), (643, 1, 0, 40)] h25 := H24.step q25a q25b q25c (by decide)
  obtain ⟨x1, x2, x3, x4, x5, x6, x7⟩ := H25
  have hms : MS h25 m := ⟨x3, fun q hq => by
    have := x4 q (by revert hq; revert q; decide)
    exact ⟨this.1, this.2.1⟩⟩
  have hsz : sz h25 = m + 26 := by rw [x1]; rfl
  exact m_init223 (i := 0) 30 h25 rfl (Nat.zero_le _) hms (fun j hj => absurd hj (Nat.not_lt_zero j)) x5 (fun j => ⟨(x6 (m + 19) (by omega) (by omega)).1 j, (x6 (m + 18) (by omega) (by omega)).2 j⟩) x7 hsz (by rw [x2]) K
