/-! THE LAW, from its head -/
theorem iv_00 : IV x00 := ⟨fun f g hg => (by cases hg), Nat.zero_le _, Nat.zero_le _, Nat.zero_le _, fun j f2 h => (by cases h), ⟨Nat.le_refl _, by show 1 ≤ 6; omega, fun z => absurd (show (0 : Int32) = 1 from z) (by decide), fun z => absurd (show (0 : Int32) = 2 from z) (by decide)⟩⟩
theorem CA.fb {h h' : Hp} {x m : Nat} (C : CA h x x00) (hm : x + 41 < m) (F : FB m h h') (hz : sz h ≤ sz h') : CA h' x x00 := by
  obtain ⟨fp, ip, C1, ⟨C2, C3⟩, C4, ⟨C5, C6⟩, C7⟩ := C
  have lo : ∀ a, a < m → tg h' a = tg h a ∧ (∀ f, gi h' f a = gi h f a ∧ gr h' f a = gr h f a) ∧ ai h' a = ai h a ∧ al h' a = al h a ∧ aq h' a = aq h a := fun a ha => by
    obtain ⟨f1, f2, f3, f4, f5⟩ := F a ha
    exact ⟨f1, fun f => ⟨(f2 f).1, (f2 f).2.2⟩, f3, f4, f5⟩
  refine ⟨fp, ip, ?_, ⟨by rw [((lo _ (by omega)).2.1 _).1]; exact C2, by rw [((lo _ (by omega)).2.1 _).1]; exact C3⟩, by rw [(lo _ (by omega)).2.2.2.2]; exact C4, ⟨by rw [((lo _ (by omega)).2.1 _).1]; exact C5, fun j hj => absurd hj (Nat.not_lt_zero j)⟩, ?_⟩
  · exact C1.of (A := fun a => a < m) iv_00.oks (fun a _ _ => by omega) (fun k g hk => (by cases hk)) hz (fun a ha => (lo a ha).1) (fun f a ha _ _ => ((lo a ha).2.1 f).2) (fun f a ha _ _ _ _ => ((lo a ha).2.1 f).1) (lo _ (by omega)).2.2.1 (lo _ (by omega)).2.2.2.1 (lo _ (by omega)).2.2.2.1 (lo _ (by omega)).2.2.2.2 (fun k hk => absurd hk (Nat.not_lt_zero k))
  · show gr h' 580 x = none
    rw [((lo _ (by omega)).2.1 _).2]
    exact C7
theorem law_T (n b L : Nat) (xs : Nat → Int32) (hL : L ≤ 2048) (hb : b < n) : T 165 0 [some (tR (some b)), none, none, none] [] (hp0 n b L xs) (fun r h' => r = some (tI 1) ∧ sz h' ≤ sz (hp0 n b L xs) + 600000 ∧ us h' ≤ us (hp0 n b L xs) + 7302250) := by
  have s0 : sz (hp0 n b L xs) = n := rfl
  have u0 : us (hp0 n b L xs) = 0 := rfl
  have t0 : tg (hp0 n b L xs) b = some (.inr (9, L)) := if_pos rfl
  refine wL_law (some b) (hp0 n b L xs) _ (fun h1 x e1 ex => c_init e1 ex (fun h3 F3 s3 u3 C3 => rV_of (fun h5 m e5 em => ?_)))
  rw [s0] at ex
  rw [s3] at em
  subst ex
  subst em
  have F5 : FB (x + 42) h3 h5 := by rw [e5]; exact FB_nw (by omega) _ _
  have s5 : sz h5 = x + 42 + 1 := by rw [e5, sz_nw, s3]
  have u5 : us h5 = us h3 + 42 := by rw [e5, us_nw]
  refine m_init (by rw [e5, tg_nw, if_pos s3.symm]) s5 (fun f => by rw [e5, gi_nw, if_pos s3.symm]) (fun h7 F7 s7 u7 M7 => rV_of ?_)
  have C7 : CA h7 x x00 := C3.fb (m := x + 42) (by omega) (F5.tr F7) (by omega)
  refine law_18 (x := x) (S0 := sz h7) (U0 := us h7) hL hb (fun h' a1 a2 => ⟨rfl, by omega, by omega⟩) (L / 4) 0 h7 x00 rfl (Nat.zero_le _) iv_00 C7 M7 ?_ (by omega) (by omega) (by omega)
  rw [(F7 b (by omega)).1, (F5 b (by omega)).1, (F3 b (by omega)).1]
  exact t0
