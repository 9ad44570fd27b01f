/-! THE CLASS, 7: its constructor -/
def CIN (h0 : Hp) (x S n c : Nat) (v : Bool) (TT : List (Nat × Tg)) (RR : List ((Nat × Nat) × Nat)) (h : Hp) : Prop := (sz h = x + n ∧ us h = us h0 + S) ∧ (∀ q ∈ TT, tg h (x + q.1) = some q.2 ∧ q.1 < n) ∧ (∀ q ∈ RR, q.1.2 < n) ∧ (∀ f k, k < n → gr h f (x + k) = (RR.lookup (f, k)).map (fun t => x + t)) ∧ (∀ f k, k < n → gi h f (x + k) = if f = 385 ∧ k = 7 ∧ v = true then 1 else 0) ∧ (∀ k, k < n → (∀ j, ai h (x + k) j = 0) ∧ (∀ j, al h (x + k) j = 0) ∧ ∀ j, aq h (x + k) j = if k = 6 ∧ j < c then some (x + 11 + j) else none) ∧ (∀ i, i < c → tg h (x + 11 + i) = some (.inl 1) ∧ 11 + i < n) ∧ FB x h0 h
theorem lookup_no {RR : List ((Nat × Nat) × Nat)} {n f : Nat} (h : ∀ q ∈ RR, q.1.2 < n) : RR.lookup (f, n) = none := by
  induction RR with
  | nil => rfl
  | cons y r ih =>
    obtain ⟨⟨g, k⟩, t⟩ := y
    have h1 : k < n := h ((g, k), t) List.mem_cons_self
    rw [List.lookup_cons]
    have e : ((f, n) == (g, k)) = false := by
      rw [beq_eq_false_iff_ne]
      intro z
      have := congrArg Prod.snd z
      dsimp only at this
      omega
    rw [e]
    exact ih (fun q hq => h q (List.mem_cons_of_mem _ hq))
section IN
variable {h0 h h' : Hp} {x S n c : Nat} {v : Bool} {TT : List (Nat × Tg)} {RR : List ((Nat × Nat) × Nat)}
theorem CIN.mk1 (H : CIN h0 x S n c v TT RR h) {t : Tg} {m a : Nat} (e : h' = nw h t m) (ea : a = sz h) (hn : n ≠ 6 ∨ c = 0) (h7 : n = 7 → v = false) : CIN h0 x (S + m) (n + 1) c v ((n, t) :: TT) RR h' ∧ a = x + n := by
  obtain ⟨⟨y1, y2⟩, y3, y4, y5, y6, y7, y8, y9⟩ := H
  refine ⟨⟨⟨by rw [e, sz_nw]; omega, by rw [e, us_nw]; omega⟩, fun q hq => ?_, fun q hq => by have := y4 q hq; omega, fun f k hk => ?_, fun f k hk => ?_, fun k hk => ?_, fun i hi => ?_, ?_⟩, by omega⟩
  · rcases List.mem_cons.mp hq with rfl | hq
    · exact ⟨by rw [e, tg_nw, if_pos (by dsimp only; omega)], by dsimp only; omega⟩
    · obtain ⟨z1, z2⟩ := y3 q hq
      exact ⟨by rw [e, tg_nw, if_neg (by omega)]; exact z1, by omega⟩
  · rw [e, gr_nw]
    by_cases ek : k = n
    · rw [if_pos (by omega), ek, lookup_no y4]
      rfl
    · rw [if_neg (by omega)]
      exact y5 f k (by omega)
  · rw [e, gi_nw]
    by_cases ek : k = n
    · rw [if_pos (by omega), if_neg (fun z => by
        rw [h7 (by omega)] at z
        cases z.2.2)]
    · rw [if_neg (by omega)]
      exact y6 f k (by omega)
  · by_cases ek : k = n
    · refine ⟨fun j => by rw [e, ai_nw, if_pos (by omega)], fun j => by rw [e, al_nw, if_pos (by omega)], fun j => ?_⟩
      rw [e, aq_nw, if_pos (by omega), if_neg (by omega)]
    · obtain ⟨z1, z2, z3⟩ := y7 k (by omega)
      exact ⟨fun j => by rw [e, ai_nw, if_neg (by omega)]; exact z1 j, fun j => by rw [e, al_nw, if_neg (by omega)]; exact z2 j, fun j => by rw [e, aq_nw, if_neg (by omega)]; exact z3 j⟩
  · obtain ⟨z1, z2⟩ := y8 i hi
    exact ⟨by rw [e, tg_nw, if_neg (by omega)]; exact z1, by omega⟩
  · rw [e]
    exact y9.tr (FB_nw (by omega) _ _)
theorem CIN.pr (H : CIN h0 x S n c v TT RR h) {f k t : Nat} (e : h' = pr h f (x + k) (some (x + t))) (hk : k < n) : CIN h0 x S n c v TT (((f, k), t) :: RR) h' := by
  obtain ⟨⟨y1, y2⟩, y3, y4, y5, y6, y7, y8, y9⟩ := H
  refine ⟨⟨by rw [e]; exact y1, by rw [e]; exact y2⟩, by rw [e]; exact y3, fun q hq => ?_, fun g k' hk' => ?_, by rw [e]; exact y6, by rw [e]; exact y7, by rw [e]; exact y8, ?_⟩
  · rcases List.mem_cons.mp hq with rfl | hq
    · exact hk
    · exact y4 q hq
  · rw [e, gr_pr, List.lookup_cons]
    by_cases c1 : g = f ∧ k' = k
    · rw [if_pos (by omega)]
      have : ((g, k') == (f, k)) = true := by rw [c1.1, c1.2]; exact beq_self_eq_true _
      rw [this]
      rfl
    · rw [if_neg (by omega)]
      have : ((g, k') == (f, k)) = false := by
        rw [beq_eq_false_iff_ne]
        intro z
        exact c1 ⟨congrArg Prod.fst z, congrArg Prod.snd z⟩
      rw [this]
      exact y5 g k' hk'
  · rw [e]
    exact y9.tr (FB_pr _ _ _ (by omega))
theorem CIN.one (H : CIN h0 x S n c false TT RR h) (e : h' = pi h 385 (x + 7) 1) (hn : 7 < n) : CIN h0 x S n c true TT RR h' := by
  obtain ⟨⟨y1, y2⟩, y3, y4, y5, y6, y7, y8, y9⟩ := H
  refine ⟨⟨by rw [e]; exact y1, by rw [e]; exact y2⟩, by rw [e]; exact y3, y4, by rw [e]; exact y5, fun f k hk => ?_, by rw [e]; exact y7, by rw [e]; exact y8, ?_⟩
  · rw [e, gi_pi]
    by_cases c1 : f = 385 ∧ k = 7
    · rw [if_pos (by omega), if_pos ⟨c1.1, c1.2, rfl⟩]
    · rw [if_neg (by omega), y6 f k hk, if_neg (fun z => c1 ⟨z.1, z.2.1⟩), if_neg (fun z => c1 ⟨z.1, z.2.1⟩)]
  · rw [e]
    exact y9.tr (FB_pi _ _ _ (by omega))
theorem CIN.zero (H : CIN h0 x S n c v TT RR h) (e : h' = pi h 327 (x + 3) 0) : CIN h0 x S n c v TT RR h' := by
  obtain ⟨⟨y1, y2⟩, y3, y4, y5, y6, y7, y8, y9⟩ := H
  refine ⟨⟨by rw [e]; exact y1, by rw [e]; exact y2⟩, by rw [e]; exact y3, y4, by rw [e]; exact y5, fun f k hk => ?_, by rw [e]; exact y7, by rw [e]; exact y8, ?_⟩
  · rw [e, gi_pi]
    by_cases c1 : f = 327 ∧ x + k = x + 3
    · rw [if_pos c1, if_neg (by omega)]
    · rw [if_neg c1]
      exact y6 f k hk
  · rw [e]
    exact y9.tr (FB_pi _ _ _ (by omega))
theorem CIN.tag (H : CIN h0 x S n c v TT RR h) {k : Nat} {t : Tg} (hq : (k, t) ∈ TT) : tg h (x + k) = some t := (H.2.1 _ hq).1
theorem CIN.ref (H : CIN h0 x S n c v TT RR h) {f k t : Nat} (hk : k < n) (hl : RR.lookup (f, k) = some t) : gr h f (x + k) = some (x + t) := by
  rw [H.2.2.2.1 f k hk, hl]
  rfl
theorem CIN.frame (H : CIN h0 x S n c v TT RR h) {h1 : Hp} {m a : Nat} (e : h1 = nw h (.inl 1) m) (e2 : h' = sq h1 (x + 6) c (some (x + n))) (hn : n = 11 + c) (h6 : 6 < n) : CIN h0 x (S + m) (n + 1) (c + 1) v TT RR h' := by
  obtain ⟨H1, -⟩ := H.mk1 e rfl (by omega) (by omega)
  obtain ⟨⟨y1, y2⟩, y3, y4, y5, y6, y7, y8, y9⟩ := H1
  refine ⟨⟨by rw [e2]; exact y1, by rw [e2]; exact y2⟩, fun q hq => by rw [e2]; exact y3 q (List.mem_cons_of_mem _ hq), y4, by rw [e2]; exact y5, by rw [e2]; exact y6, fun k hk => ?_, fun i hi => ?_, ?_⟩
  · obtain ⟨z1, z2, z3⟩ := y7 k hk
    refine ⟨by rw [e2]; exact z1, by rw [e2]; exact z2, fun j => ?_⟩
    rw [e2, aq_sq]
    by_cases c1 : k = 6 ∧ j = c
    · rw [if_pos (by omega), if_pos (by omega)]
      congr 1
      omega
    · rw [if_neg (by omega), z3 j]
      by_cases c2 : k = 6 ∧ j < c
      · rw [if_pos c2, if_pos (by omega)]
      · rw [if_neg c2, if_neg (by omega)]
  · by_cases ei : i = c
    · have := y3 (n, .inl 1) List.mem_cons_self
      dsimp only at this
      refine ⟨?_, by omega⟩
      rw [e2]
      show tg h1 _ = _
      rw [show x + 11 + i = x + n by omega]
      exact this.1
    · obtain ⟨z1, z2⟩ := y8 i (by omega)
      exact ⟨by rw [e2]; exact z1, z2⟩
  · rw [e2]
    exact y9.tr (FB_sq _ _ _ (by omega))
theorem c_init59 {Q : Option TV → Hp → Prop} (hR : RR.lookup (322, 3) = some 6) (h3 : (3, .inl 5) ∈ TT) (h6 : (6, .inr (11, 30)) ∈ TT) (K : ∀ h', CIN h0 x (S + 90) 41 30 v TT RR h' → Q none h') : ∀ (t c : Nat) (h : Hp), t = 30 - c → c ≤ 30 → CIN h0 x (S + 3 * c) (11 + c) c v TT RR h → tX5_init_59 (x + 3) (nI c) h Q := by
  intro t
  induction t with
  | zero =>
    intro c h ht hc H
    have e : c = 30 := by omega
    subst e
    refine wX5_init_59 (x + 3) _ h Q ⟨H.tag h3, dr_of (H.ref (by omega) hR) (al_of (H.tag h6) ?_)⟩
    rw [if_neg (show ¬ nI 30 < Int32.ofNat 30 by decide)]
    exact K h H
  | succ t ih =>
    intro c h ht hc H
    refine wX5_init_59 (x + 3) _ h Q ⟨H.tag h3, dr_of (H.ref (by omega) hR) (al_of (H.tag h6) ?_)⟩
    rw [if_pos (show nI c < Int32.ofNat 30 from nI_lt (b := 30) (by omega) (by decide))]
    refine ⟨H.tag h3, fun h3' a4 e3 e4 => wX1_init _ h3' _ (rV_of (dr_of (H.ref (by omega) hR) ?_))⟩
    have sz1 : sz h = x + (11 + c) := H.1.1
    rw [sz1] at e4
    subst e4
    have t6 : tg h3' (x + 6) = some (.inr (11, 30)) := by rw [e3, tg_nw, if_neg (by omega)]; exact H.tag h6
    have tn : tg h3' (x + (11 + c)) = some (.inl 1) := by rw [e3, tg_nw, if_pos sz1.symm]
    refine ixa_of t6 (by decide) (nI_in (by omega) (by decide)) (fun b hb => by cases hb; exact tn) (fun h8 e8 => ?_)
    rw [nck (by omega)] at e8
    rw [← nI_succ]
    have H8 := H.frame (a := 0) e3 e8 rfl (by omega)
    refine ih (c + 1) h8 (by omega) (by omega) ?_
    rw [show S + 3 * (c + 1) = S + 3 * c + 3 by omega, show 11 + (c + 1) = 11 + c + 1 by omega]
    exact H8
end IN
theorem c_init {h0 h : Hp} {x : Nat} {Q : Option TV → Hp → Prop} (e0 : h = nw h0 (.inl 9) 5) (ex : x = sz h0) (K : ∀ h', FB x h0 h' → sz h' = x + 42 → us h' = us h0 + 832 → CA h' x x00 → Q none h') : tX10_init x h Q := by
  have H0 : CIN h0 x 5 1 0 false [(0, .inl 9)] [] h := by
    have z0 : ∀ k, k < 1 → x + k = sz h0 := fun k hk => by omega
    refine ⟨⟨by rw [e0, sz_nw]; omega, by rw [e0, us_nw]⟩, fun q hq => ?_, fun q hq => (by cases hq), fun f k hk => ?_, fun f k hk => ?_, fun k hk => ⟨fun j => ?_, fun j => ?_, fun j => ?_⟩, fun i hi => absurd hi (Nat.not_lt_zero i), ?_⟩
    · rcases List.mem_cons.mp hq with rfl | hq
      · exact ⟨by rw [e0, tg_nw, if_pos (z0 0 (by omega))], by decide⟩
      · cases hq
    · rw [e0, gr_nw, if_pos (z0 k hk)]; rfl
    · rw [e0, gi_nw, if_pos (z0 k hk), if_neg (fun z => by cases z.2.2)]
    · rw [e0, ai_nw, if_pos (z0 k hk)]
    · rw [e0, al_nw, if_pos (z0 k hk)]
    · rw [e0, aq_nw, if_pos (z0 k hk), if_neg (by omega)]
    · rw [e0]
      exact FB_nw (by omega) _ _
  refine wX10_init x h Q (fun k1 a1 q1 p1 => ?_)
  obtain ⟨H1, rfl⟩ := H0.mk1 q1 p1 (by omega) (by omega)
  refine wX8_init _ k1 _ (fun k2 a2 q2 p2 => ?_)
  obtain ⟨H2, rfl⟩ := H1.mk1 q2 p2 (by omega) (by omega)
  refine ⟨H2.tag (k := 1) (by simp), fun k3 q3 => rV_of ?_⟩
  have H3 := H2.pr (k := 1) q3 (by omega)
  refine ⟨H3.tag (k := 0) (by simp), fun k4 q4 => ?_⟩
  have H4 := H3.pr (k := 0) (f := 576) (t := 1) q4 (by omega)
  intro k5 a5 q5 p5
  obtain ⟨H5, rfl⟩ := H4.mk1 q5 p5 (by omega) (by omega)
  refine wX5_init _ k5 _ (fun k6 a6 q6 p6 => ?_)
  obtain ⟨H6, rfl⟩ := H5.mk1 q6 p6 (by omega) (by omega)
  refine ⟨H6.tag (k := 3) (by simp), fun k7 q7 => ?_⟩
  have H7 := H6.pr (k := 3) q7 (by omega)
  intro k8 a8 q8 p8
  obtain ⟨H8, rfl⟩ := H7.mk1 q8 p8 (by omega) (by omega)
  refine ⟨H8.tag (k := 3) (by simp), fun k9 q9 => ?_⟩
  have H9 := H8.pr (k := 3) q9 (by omega)
  intro k10 a10 q10 p10
  obtain ⟨H10, rfl⟩ := H9.mk1 q10 p10 (by omega) (by omega)
  refine ⟨H10.tag (k := 3) (by simp), fun k11 q11 => ?_⟩
  have H11 := H10.pr (k := 3) q11 (by omega)
  intro k12 a12 q12 p12
  obtain ⟨H12, rfl⟩ := H11.mk1 q12 p12 (by omega) (fun _ => rfl)
  refine wX6_init _ k12 _ (fun k13 a13 q13 p13 => ?_)
  obtain ⟨H13, rfl⟩ := H12.mk1 q13 p13 (by omega) (by omega)
  refine ⟨H13.tag (k := 7) (by simp), fun k14 q14 => ?_⟩
  have H14 := H13.pr (k := 7) q14 (by omega)
  refine ⟨H14.tag (k := 7) (by simp), fun k15 q15 => rV_of ?_⟩
  have H15 := H14.one q15 (by omega)
  refine ⟨H15.tag (k := 3) (by simp), fun k16 q16 => ?_⟩
  have H16 := H15.pr (k := 3) q16 (by omega)
  intro k17 a17 q17 p17
  obtain ⟨H17, rfl⟩ := H16.mk1 q17 p17 (by omega) (by omega)
  refine wX9_init _ k17 _ (fun k18 a18 q18 p18 => ?_)
  obtain ⟨H18, rfl⟩ := H17.mk1 q18 p18 (by omega) (by omega)
  refine ⟨H18.tag (k := 9) (by simp), fun k19 q19 => rV_of ?_⟩
  have H19 := H18.pr (k := 9) q19 (by omega)
  refine ⟨H19.tag (k := 3) (by simp), fun k20 q20 => ?_⟩
  have H20 := H19.pr (k := 3) q20 (by omega)
  refine ⟨H20.tag (k := 3) (by simp), fun k21 q21 => ?_⟩
  have H21 := H20.zero q21
  refine c_init59 (S := 5 + 3 + 40 + 10 + 30 + 8 + 30 + 2 + 384 + 2 + 220) ?_ ?_ ?_ (fun k22 H22 => ?_) 30 0 k21 rfl (Nat.zero_le _) H21
  · rfl
  · simp
  · simp
  refine rV_of ?_
  refine ⟨H22.tag (k := 0) (by simp), fun k23 q23 => ?_⟩
  have H23 := H22.pr (k := 0) (f := 577) (t := 3) q23 (by omega)
  intro k24 a24 q24 p24
  obtain ⟨H24, rfl⟩ := H23.mk1 q24 p24 (by omega) (by omega)
  refine ⟨H24.tag (k := 0) (by simp), fun k25 q25 => ?_⟩
  have H25 := H24.pr (k := 0) (f := 578) (t := 41) q25 (by omega)
  have g0 : ∀ f k, k < 42 → ¬ (f = 385 ∧ k = 7) → gi k25 f (x + k) = 0 := fun f k hk hf => by
    rw [H25.2.2.2.2.1 f k hk, if_neg (fun z => hf ⟨z.1, z.2.1⟩)]
  have c25 : CS k25 x := by
    refine ⟨H25.tag (k := 0) (by simp), H25.ref (k := 0) (by omega) rfl, H25.ref (k := 0) (by omega) rfl, H25.ref (k := 0) (by omega) rfl, H25.tag (k := 1) (by simp), H25.ref (k := 1) (by omega) rfl, H25.tag (k := 2) (by simp), H25.tag (k := 3) (by simp), H25.ref (k := 3) (by omega) rfl, H25.ref (k := 3) (by omega) rfl, H25.ref (k := 3) (by omega) rfl, H25.ref (k := 3) (by omega) rfl, H25.ref (k := 3) (by omega) rfl, H25.tag (k := 4) (by simp), H25.tag (k := 5) (by simp), H25.tag (k := 6) (by simp), H25.tag (k := 7) (by simp), H25.ref (k := 7) (by omega) rfl, H25.tag (k := 8) (by simp), H25.tag (k := 9) (by simp), H25.ref (k := 9) (by omega) rfl, H25.tag (k := 10) (by simp), fun k hk => ⟨(H25.2.2.2.2.2.2.1 k hk).1, ?_⟩, H25.tag (k := 41) (by simp)⟩
    rw [(H25.2.2.2.2.2.1 6 (by omega)).2.2 k, if_pos ⟨rfl, hk⟩]
  have s25 : sz k25 = x + 42 := H25.1.1
  refine K k25 H25.2.2.2.2.2.2.2 s25 H25.1.2 ⟨fun _ => 0, fun _ _ => 0, ⟨⟨c25, by omega⟩, fun k g hk => (by cases hk), fun k g hk => (by cases hk), fun k hk => absurd hk (Nat.not_lt_zero k), g0 329 3 (by omega) (by omega), ?_⟩, ⟨g0 449 1 (by omega) (by omega), g0 450 1 (by omega) (by omega)⟩, fun j hj => ?_, ⟨g0 579 0 (by omega) (by omega), fun j hj => absurd hj (Nat.not_lt_zero j)⟩, ?_⟩
  · refine ⟨g0 327 3 (by omega) (by omega), g0 328 3 (by omega) (by omega), ⟨?_, fun j => ?_, ?_⟩, fun z => absurd (show (0 : Int32) = 1 from z) (by decide), fun z => absurd (show (0 : Int32) = 2 from z) (by decide)⟩
    · rw [H25.2.2.2.2.1 385 7 (by omega), if_pos ⟨rfl, rfl, rfl⟩]; rfl
    · rw [(H25.2.2.2.2.2.1 8 (by omega)).1 j]; rfl
    · funext j
      exact (H25.2.2.2.2.2.1 5 (by omega)).2.1 j
  · rw [(H25.2.2.2.2.2.1 4 (by omega)).2.2 j, if_neg (by omega)]
    rfl
  · show gr k25 580 x = none
    have z : gr k25 580 (x + 0) = none := by
      rw [H25.2.2.2.1 580 0 (by omega)]
      rfl
    exact z
