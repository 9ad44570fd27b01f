/-! THE REFERENCE, 7: an instruction that is accepted is written -/
/-- what writing may change -/
def WW (m : Nat) (h h' : Hp) : Prop := tg h' = tg h ∧ gl h' = gl h ∧ gr h' = gr h ∧ al h' = al h ∧ aq h' = aq h ∧ sz h' = sz h ∧ us h' = us h ∧ (∀ f a, ¬ ((f = 640 ∨ f = 641 ∨ f = 642 ∨ (653 ≤ f ∧ f ≤ 656)) ∧ a = m) → gi h' f a = gi h f a) ∧ ∀ a, ¬ (m + 1 ≤ a ∧ a ≤ m + 16) → ai h' a = ai h a
theorem WW.rf (m : Nat) (h : Hp) : WW m h h := ⟨rfl, rfl, rfl, rfl, rfl, rfl, rfl, fun _ _ _ => rfl, fun _ _ => rfl⟩
theorem WW.tr {m : Nat} {h h1 h2 : Hp} (a : WW m h h1) (b : WW m h1 h2) : WW m h h2 := by
  obtain ⟨a1, a2, a3, a4, a5, a6, a7, a8, a9⟩ := a
  obtain ⟨b1, b2, b3, b4, b5, b6, b7, b8, b9⟩ := b
  exact ⟨b1.trans a1, b2.trans a2, b3.trans a3, b4.trans a4, b5.trans a5, b6.trans a6, b7.trans a7, fun f x hx => (b8 f x hx).trans (a8 f x hx), fun x hx => (b9 x hx).trans (a9 x hx)⟩
theorem WW_si {m a : Nat} (h : Hp) (j : Nat) (x : Int32) (ha : m + 1 ≤ a ∧ a ≤ m + 16) : WW m h (si h a j x) := ⟨rfl, rfl, rfl, rfl, rfl, rfl, rfl, fun _ _ _ => rfl, fun b hb => by
  funext i
  rw [ai_si, if_neg (fun q => hb (by rw [q.1]; exact ha))]⟩
theorem WW_pi {m f : Nat} (h : Hp) (x : Int32) (hf : f = 640 ∨ f = 641 ∨ f = 642 ∨ (653 ≤ f ∧ f ≤ 656)) : WW m h (pi h f m x) := ⟨rfl, rfl, rfl, rfl, rfl, rfl, rfl, fun g a hg => by
  rw [gi_pi, if_neg (fun q => hg ⟨by rw [q.1]; exact hf, q.2⟩)], fun _ _ => rfl⟩
theorem VW.ww {m : Nat} {h h' : Hp} (w : VW m F6 h h') : WW m h h' := by
  obtain ⟨a1, a2, a3, a4, a5, a6, a7, a8, a9⟩ := w
  refine ⟨a1, a2, a3, a4, a5, a6, a7, fun f a hf => a8 f a (fun q => hf ⟨?_, q.2⟩), fun a ha => a9 a (fun q => ha (by omega))⟩
  rcases q.1 with e | e | e | e <;> omega
theorem WW.ms {m : Nat} {h h' : Hp} (w : WW m h h') (hm : MS h m) : MS h' m := hm.of w.1 w.2.2.1
section MC
variable {h : Hp} {m : Nat} {Q : Option TV → Hp → Prop} {o a b : Int32}
/-- behind the check: the instruction is written -/
theorem s_108 {tot k0 p0 ms : Nat} {ls : List Lb} (hm : MS h m) (h640 : gi h 640 m = nI (k0 + 1)) (hk : k0 < 40) (h641 : gi h 641 m = nI tot) (ht : tot < 1500) (hp : ai h (m + 1) k0 = nI p0) (hpt : p0 ≤ tot) (hms : ai h (m + 6) k0 = nI ms) (hmb : ms < 1000000) (hl : gi h 653 m = nI ls.length) (hlen : ls.length ≤ 1501) (hA : LA h m ls) (hs : ∀ l ∈ ls, SmL l)
    (k : ∀ h', WW m h h' → LA h' m ls → (∀ f, f = 640 ∨ (653 ≤ f ∧ f ≤ 656) → gi h' f m = gi h f m) → gi h' 641 m = nI (tot + 1) → gi h' 642 m = (if ls = [] then 0 else gi h 642 m) → (∀ x, x = 1 ∨ x = 3 ∨ x = 4 ∨ x = 5 ∨ (10 ≤ x ∧ x ≤ 16) → ai h' (m + x) = ai h (m + x)) → (∀ j, ai h' (m + 2) j = if j = k0 then nI (tot + 1 - p0) else ai h (m + 2) j) → (∀ j, ai h' (m + 6) j = if j = k0 then nI (mstV ls ms) else ai h (m + 6) j) → (∀ j, ai h' (m + 7) j = if j = tot then o else ai h (m + 7) j) → (∀ j, ai h' (m + 8) j = if j = tot then a else ai h (m + 8) j) → (∀ j, ai h' (m + 9) j = if j = tot then b else ai h (m + 9) j) → Q (some (tI (nI (tot + 1)))) h') : tX11_code_108 m o a b 1 h Q := by
  have ht2 : tot < 2147483648 := by omega
  have hk2 : k0 < 2147483648 := by omega
  refine wX11_code_108 m o a b 1 h Q ?_
  rw [if_neg (by decide)]
  refine ⟨hm.1, hm.1, ?_⟩
  rw [h641]
  refine S_op hm hm ht (fun h1 e1 => ?_)
  rw [nck ht2] at e1
  have m1 : MS h1 m := by rw [e1]; exact hm
  have g1 : gi h1 641 m = nI tot := by rw [e1]; exact h641
  refine ⟨m1.1, m1.1, ?_⟩
  rw [g1]
  refine S_one m1 m1 ht (fun h2 e2 => ?_)
  rw [nck ht2] at e2
  have m2 : MS h2 m := by rw [e2]; exact m1
  have g2 : gi h2 641 m = nI tot := by rw [e2]; exact g1
  refine ⟨m2.1, m2.1, ?_⟩
  rw [g2]
  refine S_two m2 m2 ht (fun h3 e3 => ?_)
  rw [nck ht2] at e3
  have m3 : MS h3 m := by rw [e3]; exact m2
  have g3 : gi h3 641 m = nI tot := by rw [e3]; exact g2
  refine ⟨m3.1, m3.1, fun h4 e4 => ?_⟩
  rw [g3, ← nI_succ] at e4
  have m4 : MS h4 m := by rw [e4]; exact m3
  have g41 : gi h4 641 m = nI (tot + 1) := by rw [e4, gi_pi, if_pos ⟨rfl, rfl⟩]
  have g40 : gi h4 640 m = nI (k0 + 1) := by
    rw [e4, gi_pi, if_neg (fun q => absurd q.1 (by decide)), e3]
    rw [e2, e1]; exact h640
  have ga : gi h3 = gi h := by rw [e3, e2, e1]; rfl
  have p4 : ai h4 (m + 1) k0 = nI p0 := by
    rw [e4]
    show ai h3 (m + 1) k0 = _
    rw [e3, ai_oth (by omega), e2, ai_oth (by omega), e1, ai_oth (by omega), hp]
  refine ⟨m4.1, m4.1, m4.1, m4.1, ?_⟩
  rw [g40, nI_sub1]
  refine L_start m4 m4 hk (S_length m4 m4 hk (fun h5 e5 => ?_))
  rw [nck hk2, g41, p4, nJ_sub (by omega)] at e5
  have m5 : MS h5 m := by rw [e5]; exact m4
  have w5 : WW m h h5 := by
    rw [e5, e4, e3, e2, e1]
    exact (WW_si _ _ _ (by omega)).tr ((WW_si _ _ _ (by omega)).tr ((WW_si _ _ _ (by omega)).tr ((WW_pi _ _ (Or.inr (Or.inl rfl))).tr (WW_si _ _ _ (by omega)))))
  have gi5 : ∀ f, f ≠ 641 → gi h5 f m = gi h f m := by
    intro f hf
    rw [e5]
    show gi h4 f m = _
    rw [e4, gi_pi, if_neg (fun q => hf q.1), ga]
  have g51 : gi h5 641 m = nI (tot + 1) := by rw [e5]; exact g41
  have a5 : ∀ x j, ai h5 (m + x) j = if x = 2 ∧ j = k0 then nI (tot + 1 - p0) else if x = 9 ∧ j = tot then b else if x = 8 ∧ j = tot then a else if x = 7 ∧ j = tot then o else ai h (m + x) j := by
    intro x j
    rw [e5, ai_si]
    by_cases c2 : x = 2 ∧ j = k0
    · rw [if_pos c2, if_pos ⟨by omega, c2.2⟩]
    · rw [if_neg c2, if_neg (fun q => c2 ⟨by omega, q.2⟩)]
      rw [e4]
      show ai h3 (m + x) j = _
      rw [e3, ai_si]
      by_cases c9 : x = 9 ∧ j = tot
      · rw [if_pos c9, if_pos ⟨by omega, c9.2⟩]
      · rw [if_neg c9, if_neg (fun q => c9 ⟨by omega, q.2⟩), e2, ai_si]
        by_cases c8 : x = 8 ∧ j = tot
        · rw [if_pos c8, if_pos ⟨by omega, c8.2⟩]
        · rw [if_neg c8, if_neg (fun q => c8 ⟨by omega, q.2⟩), e1, ai_si]
          by_cases c7 : x = 7 ∧ j = tot
          · rw [if_pos c7, if_pos ⟨by omega, c7.2⟩]
          · rw [if_neg c7, if_neg (fun q => c7 ⟨by omega, q.2⟩)]
  have hA5 : LA h5 m ls := LA_oth hA (fun x h1 h2 => by
    obtain ⟨y, rfl⟩ : ∃ y, x = m + y := ⟨x - m, by omega⟩
    funext j
    rw [a5, if_neg (fun q => by omega), if_neg (fun q => by omega), if_neg (fun q => by omega), if_neg (fun q => by omega)])
  have hl5 : gi h5 653 m = nI ls.length := by rw [gi5 653 (by decide), hl]
  have ms5 : ai h5 (m + 6) k0 = nI ms := by
    rw [a5, if_neg (fun q => absurd q.1 (by decide)), if_neg (fun q => absurd q.1 (by decide)), if_neg (fun q => absurd q.1 (by decide)), if_neg (fun q => absurd q.1 (by decide)), hms]
  -- what the caller is told, from the last heap
  have fin : ∀ h', WW m h5 h' → (∀ f, f ≠ 642 → gi h' f m = gi h5 f m) → gi h' 642 m = (if ls = [] then 0 else gi h 642 m) → (∀ x j, ¬ (x = 6 ∧ j = k0) → ai h' (m + x) j = ai h5 (m + x) j) → ai h' (m + 6) k0 = nI (mstV ls ms) → Q (some (tI (nI (tot + 1)))) h' := by
    intro h' w' f1 f2 f3 f4
    refine k h' (w5.tr w') ?_ ?_ (by rw [f1 641 (by decide), g51]) f2 ?_ ?_ ?_ ?_ ?_ ?_
    · exact LA_oth hA5 (fun x h1 h2 => by
        obtain ⟨y, rfl⟩ : ∃ y, x = m + y := ⟨x - m, by omega⟩
        funext j
        exact f3 y j (fun q => by omega))
    · intro f hf
      rw [f1 f (by omega), gi5 f (by omega)]
    · intro x hx
      funext j
      rw [f3 x j (fun q => by omega), a5, if_neg (fun q => by omega), if_neg (fun q => by omega), if_neg (fun q => by omega), if_neg (fun q => by omega)]
    · intro j
      rw [f3 2 j (fun q => absurd q.1 (by decide)), a5]
      by_cases c : j = k0
      · rw [if_pos ⟨rfl, c⟩, if_pos c]
      · rw [if_neg (fun q => c q.2), if_neg c, if_neg (fun q => absurd q.1 (by decide)), if_neg (fun q => absurd q.1 (by decide)), if_neg (fun q => absurd q.1 (by decide))]
    · intro j
      by_cases c : j = k0
      · rw [if_pos c, c, f4]
      · rw [if_neg c, f3 6 j (fun q => c q.2), a5, if_neg (fun q => absurd q.1 (by decide)), if_neg (fun q => absurd q.1 (by decide)), if_neg (fun q => absurd q.1 (by decide)), if_neg (fun q => absurd q.1 (by decide))]
    · intro j
      rw [f3 7 j (fun q => absurd q.1 (by decide)), a5, if_neg (fun q => absurd q.1 (by decide)), if_neg (fun q => absurd q.1 (by decide)), if_neg (fun q => absurd q.1 (by decide))]
      by_cases c : j = tot
      · rw [if_pos ⟨rfl, c⟩, if_pos c]
      · rw [if_neg (fun q => c q.2), if_neg c]
    · intro j
      rw [f3 8 j (fun q => absurd q.1 (by decide)), a5, if_neg (fun q => absurd q.1 (by decide)), if_neg (fun q => absurd q.1 (by decide))]
      by_cases c : j = tot
      · rw [if_pos ⟨rfl, c⟩, if_pos c]
      · rw [if_neg (fun q => c q.2), if_neg c, if_neg (fun q => absurd q.1 (by decide))]
    · intro j
      rw [f3 9 j (fun q => absurd q.1 (by decide)), a5, if_neg (fun q => absurd q.1 (by decide))]
      by_cases c : j = tot
      · rw [if_pos ⟨rfl, c⟩, if_pos c]
      · rw [if_neg (fun q => c q.2), if_neg c, if_neg (fun q => absurd q.1 (by decide)), if_neg (fun q => absurd q.1 (by decide))]
  refine ⟨m5.1, ?_⟩
  rw [hl5]
  cases ls with
  | nil =>
    rw [if_pos (show nI ([] : List Lb).length = 0 from rfl)]
    refine ⟨m5.1, fun h6 e6 => ?_⟩
    have m6 : MS h6 m := by rw [e6]; exact m5
    refine ⟨m6.1, ?_⟩
    have q1 : gi h6 641 m = nI (tot + 1) := by rw [e6, gi_pi, if_neg (fun q => absurd q.1 (by decide)), g51]
    rw [q1]
    refine fin h6 (by rw [e6]; exact WW_pi _ _ (Or.inr (Or.inr (Or.inl rfl)))) ?_ ?_ (fun x j _ => by rw [e6]; rfl) (by rw [e6]; exact ms5)
    · intro f hf
      rw [e6, gi_pi, if_neg (fun q => hf q.1)]
    · rw [e6, gi_pi, if_pos ⟨rfl, rfl⟩, if_pos rfl]
  | cons l r =>
    have hr : r.length < 1501 := by simp at hlen; omega
    have hr2 : r.length < 2147483648 := by omega
    have hl5 : gi h5 653 m = nI (r.length + 1) := hl5
    obtain ⟨b1, b2, b3, b4⟩ := hs l List.mem_cons_self
    rw [if_neg (nI_ne0 (by simp) (by simp at hlen ⊢; omega))]
    refine ⟨m5.1, m5.1, s_inner m5 hl5 (rI_of (L_height m5 m5 hr ⟨m5.1, m5.1, s_inner m5 hl5 (rI_of (L_own m5 m5 hr ⟨m5.1, m5.1, ?_⟩))⟩))⟩
    rw [nck hr2, hA5.1.2.2.2.1, hA5.1.2.2.2.2.1, nJ_add]
    refine L_most m5 m5 hk ?_
    rw [nck hk2, ms5]
    have store : ∀ x : Int32, x = nI (mstV (l :: r) ms) → ∀ h6, h6 = si h5 (m + 6) k0 x → ob h6 m 10 (Q (some (tI (gi h6 641 m))) h6) := by
      intro x hx h6 e6
      have m6 : MS h6 m := by rw [e6]; exact m5
      refine ⟨m6.1, ?_⟩
      have q1 : gi h6 641 m = nI (tot + 1) := by rw [e6]; exact g51
      rw [q1]
      refine fin h6 (by rw [e6]; exact WW_si _ _ _ (by omega)) (fun f _ => by rw [e6]; rfl) ?_ ?_ (by rw [e6, ai_same, hx])
      · rw [if_neg (List.cons_ne_nil _ _), e6]
        exact gi5 642 (by decide)
      · intro x j hx
        rw [e6, ai_si, if_neg (fun q => hx ⟨by omega, q.2⟩)]
    by_cases c : ms < hT l + oW l
    · rw [if_pos (nI_lt c (by omega))]
      refine S_most m5 m5 hk (fun h6 e6 => store _ ?_ h6 e6)
      show _ = nI (if ms < hT l + oW l then hT l + oW l else ms)
      rw [if_pos c]
    · rw [if_neg (fun q => c ((nJ_lt (by omega) (by omega)).mp q))]
      refine ⟨m5.1, L_most m5 m5 hk (S_most m5 m5 hk (fun h6 e6 => store _ ?_ h6 e6))⟩
      rw [ms5]
      show _ = nI (if ms < hT l + oW l then hT l + oW l else ms)
      rw [if_neg c]
end MC
