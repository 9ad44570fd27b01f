/-! THE CLASS, 4: entry, drop, function -/
section CC
variable {h h' : Hp} {x : Nat} {fp : Nat → Nat} {ip : Nat → Nat → Nat} {P : List Fn} {D : Option Fn} {ac : Nat} {ar : VV} {tb : Nat → Option Nat} {s s' : RS} {st st' : Int32} {X : Ab} {Q : Option TV → Hp → Prop}
theorem c_setT (c : CS h x) {k : Int32} {r : Option Nat} (hr : ∀ b, r = some b → tg h b = some (.inl 2)) (K0 : ¬ wi k 29 → Q (some (tI 0)) h) (K1 : wi k 29 → ∀ h', h' = sq h (x + 4) (nt k) r → Q (some (tI 1)) h') : tX5_setTable (x + 3) k r h Q := by
  refine wX5_setTable (x + 3) k r h Q ?_
  by_cases c0 : k < 0
  · rw [if_pos c0]
    exact K0 (fun z => z.1 c0)
  rw [if_neg c0]
  have ek := nI_nt c0
  have hl := nt_lt k
  refine ⟨c.t5, dr_of c.r320 (al_of c.t4a ?_)⟩
  by_cases cl : nt k < 30
  · rw [if_pos (show k < Int32.ofNat 30 from by rw [← ek]; exact nI_lt (b := 30) cl (by decide))]
    have hw : wi k 29 := (wi_nI (d := 29) (by decide)).mpr ⟨c0, by omega⟩
    refine ⟨c.t5, dr_of c.r320 (ixa_of c.t4a (by decide) ?_ (fun b hb => hr b hb) (fun h4 e4 => K1 hw h4 e4))⟩
    rw [← ek]
    exact nI_in cl (by decide)
  · rw [if_neg (show ¬ k < Int32.ofNat 30 from by rw [← ek]; exact nI_nlt (b := 30) (by omega) hl)]
    exact K0 (fun z => cl (by have := ((wi_nI (d := 29) (by decide)).mp z).2; omega))
theorem CW_sq {j : Nat} {r : Option Nat} {b : Nat} (hb : x ≤ b ∧ b ≤ x + 41) : CW x h (sq h b j r) := ⟨⟨Nat.le_refl _, Nat.le_add_right _ _, Nat.le_add_right _ _⟩, fun _ _ => rfl, fun a _ hn => ⟨rfl, rfl, funext fun i => by rw [aq_sq, if_neg (fun z => hn (by rw [z.1]; exact hb))]⟩, fun _ _ _ _ _ => ⟨rfl, rfl⟩⟩
theorem c_entry {k f : Int32} (hI : IV X) (C : CA h x X) (K : ∀ h', CW x h h' → CA h' x (aEntry X k f).2 → Q (some (aEntry X k f).1) h') : tX10_entry x k f h Q := by
  have C0 := C
  obtain ⟨fp, ip, Cg⟩ := C
  have hI0 := hI
  obtain ⟨P, D, ac, ar, tb, s, st⟩ := X
  obtain ⟨h1, h2, h3, h4, h5, h6⟩ := hI
  have Cg0 := Cg
  obtain ⟨CB0, ⟨C2, C3⟩, C4, ⟨C5, C6⟩, C7⟩ := Cg
  obtain ⟨⟨c, cz⟩, cp, cb, cq, c6, cr⟩ := id CB0
  unfold aEntry at K
  dsimp only at K
  -- the table is set
  have set : ∀ (r : Option Nat) (q : Option Nat), r = q.map fp → ∀ h', h' = sq h (x + 4) (nt k) r → CW x h h' ∧ CA h' x (P, D, ac, ar, (fun j => if j = nt k then q else tb j), s, st) := by
    intro r q hr h' e'
    rw [e']
    refine ⟨CW_sq (by omega), fp, ip, ?_, ⟨C2, C3⟩, fun j hj => ?_, ⟨C5, C6⟩, ?_⟩
    · exact CB0.of (A := fun _ => True) h6 (fun _ _ _ => trivial) (fun _ _ _ => ⟨trivial, fun _ _ => trivial⟩) (Nat.le_refl _) (fun _ _ => rfl) (fun _ _ _ _ _ => rfl) (fun _ _ _ _ _ _ _ => rfl) rfl rfl rfl (funext fun i => by rw [aq_sq, if_neg (by omega)]) (fun i _ => by rw [aq_sq, if_neg (by omega)])
    · rw [aq_sq]
      dsimp only
      by_cases e : j = nt k
      · rw [if_pos ⟨rfl, e⟩, if_pos e, hr]
      · rw [if_neg (fun z => e z.2), if_neg e]
        exact C4 j hj
    · exact C7.of (Nat.le_refl _) rfl (by rw [aq_sq, if_neg (by omega)]) (fun _ _ _ => rfl) (fun _ _ _ _ _ => rfl) (fun _ _ _ _ _ => rfl)
  refine wX10_entry x k f h Q ?_
  by_cases cm : f = -1
  · rw [if_pos cm]
    refine ⟨c.t9, dr_of c.r577 ⟨c.t5, c_setT c (fun b hb => by cases hb) (fun hw => rI_of ⟨Or.inl rfl, ?_⟩) (fun hw h' e' => rI_of ⟨Or.inr rfl, ?_⟩)⟩⟩
    · rw [if_neg (show ¬ (wi k 29 ∧ (f = -1 ∨ (¬ f < 0 ∧ nt f < P.length))) from fun z => hw z.1)] at K
      exact K h CW.rf C0
    · rw [if_pos (show wi k 29 ∧ (f = -1 ∨ (¬ f < 0 ∧ nt f < P.length)) from ⟨hw, Or.inl cm⟩)] at K
      obtain ⟨s1, s2⟩ := set none none rfl h' e'
      refine K h' s1 ?_
      rw [if_pos cm]
      exact s2
  rw [if_neg cm]
  refine ⟨c.t9, dr_of c.r576 ⟨c.t7, c_whole hI0 Cg0 (rR_of ?_)⟩⟩
  dsimp only
  by_cases cw : ¬ f < 0 ∧ nt f < P.length
  · rw [if_pos cw, if_neg (Option.some_ne_none _)]
    have hg := List.getElem?_eq_getElem cw.2
    obtain ⟨⟨f1, -⟩, -⟩ := cp (nt f) _ hg
    refine ⟨c.t9, dr_of c.r577 ⟨c.t5, c_setT c (fun b hb => by cases hb; exact f1) (fun hw => rI_of ?_) (fun hw h' e' => rI_of ?_)⟩⟩
    · rw [if_neg (show ¬ (wi k 29 ∧ (f = -1 ∨ (¬ f < 0 ∧ nt f < P.length))) from fun z => hw z.1)] at K
      rw [if_pos rfl]
      exact K h CW.rf C0
    · rw [if_pos (show wi k 29 ∧ (f = -1 ∨ (¬ f < 0 ∧ nt f < P.length)) from ⟨hw, Or.inr cw⟩)] at K
      rw [if_neg (by decide)]
      obtain ⟨s1, s2⟩ := set (some (fp (nt f))) (some (nt f)) rfl h' e'
      refine K h' s1 ?_
      rw [if_neg cm]
      exact s2
  · rw [if_neg cw, if_pos rfl]
    rw [if_neg (show ¬ (wi k 29 ∧ (f = -1 ∨ (¬ f < 0 ∧ nt f < P.length))) from fun z => z.2.elim cm cw)] at K
    exact K h CW.rf C0
theorem c_drop (hI : IV X) (C : CA h x X) (K : ∀ h', CW x h h' → CA h' x (aDrop X).2 → Q (some (aDrop X).1) h') : tX10_drop x h Q := by
  have C0 := C
  obtain ⟨fp, ip, Cg⟩ := C
  obtain ⟨P, D, ac, ar, tb, s, st⟩ := X
  obtain ⟨h1, h2, h3, h4, h5, h6⟩ := hI
  obtain ⟨CB0, ⟨C2, C3⟩, C4, ⟨C5, C6⟩, C7⟩ := Cg
  obtain ⟨⟨c, cz⟩, cp, cb, cq, c6, cr⟩ := id CB0
  unfold aDrop at K
  dsimp only at K
  refine wX10_drop x h Q ⟨c.t9, ?_⟩
  cases D with
  | none =>
    have C7 : gr h 580 x = none := C7
    rw [if_pos C7]
    exact K h CW.rf C0
  | some d =>
    dsimp only at K
    obtain ⟨B, da, I, L, e1, e2, e3, e4, -, e6, e7⟩ := C7
    obtain ⟨p40, -⟩ := h2
    rw [if_neg (by rw [e1]; exact Option.some_ne_none _)]
    have C2 : gi h 449 (x + 1) = nI (P.length + 1) := by
      rw [C2]
      show nI (P ++ [d]).length = _
      rw [List.length_append]
      rfl
    refine ⟨c.t9, dr_of c.r576 ⟨c.t7, wX8_removeLast (x + 1) h _ ⟨c.t7, ?_⟩⟩⟩
    rw [C2, if_pos (show (0 : Int32) < nI (P.length + 1) from nI_lt (a := 0) (by omega) (by omega))]
    refine ⟨c.t7, c.t7, dr_of c.r448 (al_of c.t2 ?_)⟩
    rw [if_neg (show ¬ Int32.ofNat 40 < nI (P.length + 1) from nI_nlt (a := 40) (by omega) (by decide))]
    refine ⟨c.t7, c.t7, fun k3 q3 => ?_⟩
    rw [nI_sub1] at q3
    have c3 : CS k3 x := by rw [q3]; exact c
    have g3 : gi k3 449 (x + 1) = nI P.length := by rw [q3, gi_eq]
    refine ⟨c3.t7, c3.t7, dr_of c3.r448 ?_⟩
    rw [g3]
    refine ixa_of c3.t2 (by decide) (nI_in (by omega) (by decide)) (fun b hb => by cases hb) (fun k5 q5 => rV_of ?_)
    rw [nck (by omega)] at q5
    refine ⟨by rw [q5]; exact c3.t9, fun k6 q6 => K k6 ?_ ⟨fp, ip, ?_, ⟨?_, ?_⟩, ?_, ⟨?_, ?_⟩, ?_⟩⟩
    · rw [q6, q5, q3]
      refine ⟨⟨Nat.le_refl _, Nat.le_add_right _ _, Nat.le_add_right _ _⟩, fun _ _ => rfl, fun a _ hn => ⟨rfl, rfl, ?_⟩, fun f a _ hf _ => ⟨?_, ?_⟩⟩
      · funext i
        rw [aq_pr, aq_sq, if_neg (by omega)]
        rfl
      · rw [gi_pr, gi_sq, gi_ne (by omega)]
      · rw [gr_ne (by omega)]; rfl
    · rw [q6, q5, q3]
      exact CB0.of (A := fun _ => True) h6 (fun _ _ _ => trivial) (fun _ _ _ => ⟨trivial, fun _ _ => trivial⟩) (Nat.le_refl _) (fun _ _ => rfl) (fun f a _ h580 _ => by rw [gr_ne h580]; rfl) (fun g a _ h449 _ _ _ => by rw [gi_pr, gi_sq, gi_ne h449]) rfl rfl rfl (funext fun i => by rw [aq_pr, aq_sq, if_neg (by omega)]; rfl) (fun i hi => by rw [aq_pr, aq_sq, if_neg (by omega)]; rfl)
    · rw [q6, gi_pr, q5, gi_sq]; exact g3
    · rw [q6, gi_pr, q5, gi_sq, q3, gi_ne (by decide)]; exact C3
    · intro j hj
      rw [q6, aq_pr, q5, aq_sq, if_neg (by omega), q3]
      exact C4 j hj
    · rw [q6, gi_pr, q5, gi_sq, q3, gi_ne (by decide)]; exact C5
    · rw [q6, q5, q3]; exact C6
    · show gr k6 580 x = none
      rw [q6, gr_eq]
end CC
