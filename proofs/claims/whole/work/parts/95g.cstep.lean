/-! THE CLASS RUNS, 7: a step, run, begin -/
def RXc (P : List Fn) (fp : Nat → Nat) (ip : Nat → Nat → Nat) (x : Nat) (h : Hp) (s : RS) : Prop := gi h 327 (x + 3) = s.1 ∧ gi h 328 (x + 3) = s.2.1 ∧ PC x h s.2.2.2 ∧ (s.1 = 1 → ∃ f b i r, s.2.2.1 = (f, b, some i) :: r ∧ RCv P fp ip x h h ((f, b, some i) :: r) s.2.2.2) ∧ (s.1 = 2 → gi h 513 (x + 9) = nI s.2.2.2.1 ∧ ∀ j, j < s.2.2.2.1 → al h (x + 10) j = s.2.2.2.2.1 j)
def KNc (P : List Fn) (fp : Nat → Nat) (ip : Nat → Nat → Nat) (x : Nat) (h0 : Hp) (Q : Option TV → Hp → Prop) (s : RS) : Prop := ∀ h', CRW x h0 h' → gi h' 329 (x + 3) = gi h0 329 (x + 3) → RXc P fp ip x h' s → Q none h'
section RR
variable {P : List Fn} {fp : Nat → Nat} {ip : Nat → Nat → Nat} {x a0 : Nat} {h0 h : Hp} {fr r : List Fm} {w : Wd} {n p f b i : Nat} {q : Option Nat} {v : VV} {bb : Nat → Int32} {g : VV} {gf : Fn} {Q : Option TV → Hp → Prop} {tb : Nat → Option Nat} {s : RS}
theorem RCv.rb (H : RCv P fp ip x h0 h fr w) : RCv P fp ip x h h fr w := by
  obtain ⟨h1, h2, h3, h4, h5, h6, h7, h8, h9⟩ := H
  exact ⟨CRW.rf _ _, ⟨rfl, rfl⟩, h3, h4, h5, h6, h7, h8, h9⟩
theorem KNc.kp {tr : Int32} (ht : gi h0 328 (x + 3) = tr) (K : KNc P fp ip x h0 Q (lvS P tr fr w)) : KPc P fp ip x h0 fr w Q := by
  unfold lvS at K
  revert K
  unfold KPc
  generalize lvF P fr w.1 w.2.1 = y
  intro K
  obtain ⟨fr2, n2, v2⟩ := y
  dsimp only at K ⊢
  refine ⟨fun e h' H => ?_, fun f2 b2 i2 r2 e h' H => ?_⟩
  · subst e
    rw [if_pos rfl] at K
    obtain ⟨e1, ⟨e21, e22⟩, e3, e4, e5, e6⟩ := H
    exact K h' e1 e22 ⟨e3, e21.trans ht, e4, fun z => absurd (show (2 : Int32) = 1 from z) (by decide), fun _ => ⟨e5, e6⟩⟩
  · subst e
    rw [if_neg (List.cons_ne_nil _ _)] at K
    exact K h' H.1 H.2.1.2 ⟨H.2.2.1, H.2.1.1.trans ht, H.2.2.2.2.2.2.1, fun _ => ⟨f2, b2, i2, r2, rfl, H.rb⟩, fun z => absurd (show (1 : Int32) = 2 from z) (by decide)⟩
theorem c_lvx (c : CS h x) (h1 : ¬ gi h 327 (x + 3) = 1) (k : Q none h) : tX5_leaveWhatIsOver (x + 3) h Q := by
  refine wX5_leaveWhatIsOver (x + 3) h _ (wX5_leaveWhatIsOver_2 (x + 3) _ h _ ?_)
  rw [if_pos (by decide)]
  refine ⟨c.t5, c_going c (rI_of ?_)⟩
  rw [if_neg h1, if_pos rfl]
  exact k
/-- what follows a step's work: the frames that are over go -/
theorem KNc.kx {tr : Int32} (hc : CS h0 x) (hP : CP h0 x fp ip P) (ht : gi h0 328 (x + 3) = tr) {z : Int32 ⊕ (List Fm × Wd)} (hok : ∀ y, z = .inr y → OKR P y.1 y.2) (K : KNc P fp ip x h0 Q (afS P tr w z)) : KXc P fp ip x h0 w (fun _ h' => tX5_leaveWhatIsOver (x + 3) h' Q) z := by
  cases z with
  | inl c =>
    unfold afS at K
    unfold KXc
    dsimp only at K ⊢
    by_cases hcz : c = 0
    · rw [if_pos hcz] at K ⊢
      intro h' H
      obtain ⟨e1, e2, e3, e4, e5⟩ := H
      exact c_lvx (e1.cs hc) (by rw [e3]; decide) (K h' e1 e2 ⟨e3, e4.trans ht, e5, fun z => absurd (show (4 : Int32) = 1 from z) (by decide), fun z => absurd (show (4 : Int32) = 2 from z) (by decide)⟩)
    · rw [if_neg hcz] at K ⊢
      intro h' H
      obtain ⟨e1, e2, e3, e4, e5⟩ := H
      exact c_lvx (e1.cs hc) (by rw [e3]; decide) (K h' e1 e2 ⟨e3, e4, e5, fun z => absurd (show (3 : Int32) = 1 from z) (by decide), fun z => absurd (show (3 : Int32) = 2 from z) (by decide)⟩)
  | inr y =>
    have ho := hok y rfl
    obtain ⟨o1, o2, o3, o4, o5⟩ := ho
    intro h' H
    obtain ⟨fr2, n2, v2, p2, bb2, g2⟩ := y
    refine wX5_leaveWhatIsOver (x + 3) h' _ ?_
    exact c_leave (i := 0) hc hP fr2 n2 v2 h' (by dsimp only at o3; omega) o2 H o1 o4 (KNc.kp ht K)
theorem stA_smp (hg : P[f]? = some gf) (ho : ¬ oA (fC gf) i < 26) : stA P tb f b i r w = match smp (oA (fC gf) i) (aA (fC gf) i) (bA (fC gf) i) b w with
      | .inl x => .inl x
      | .inr w2 => .inr ((f, b, settle (fC gf) (i + 1)) :: r, w2) := by
  have ne : ∀ k : Int32, k < 26 → ¬ oA (fC gf) i = k := fun k hk e => ho (by rw [e]; exact hk)
  unfold stA
  rw [hg]
  dsimp only
  rw [if_neg (ne 0 (by decide)), if_neg (ne 4 (by decide)), if_neg (ne 12 (by decide)), if_neg (ne 13 (by decide)), if_neg (ne 14 (by decide)), if_neg (ne 15 (by decide)), if_neg (ne 16 (by decide)), if_neg (ne 17 (by decide))]
  cases smp (oA (fC gf) i) (aA (fC gf) i) (bA (fC gf) i) b w <;> rfl
/-- a plain operation -/
theorem c_plain {ia nm kk : Nat} {o a b' : Int32} {t : Nat × Nat} (hc : CS h0 x) (H : RCv P fp ip x h0 h ((f, b, q) :: r) (n, v, p, bb, g)) (h30 : r.length < 30) (hia : x + 41 < ia) (I : Ins h ia o a b') (hn : n = b + nm + kk) (hk : b + nm + kk - t.1 + t.2 ≤ 220) (ht : t.1 ≤ kk) (hn2 : n ≤ 220) (hp : p ≤ 6) (har : arP o a nm = some t)
    (k : KXc P fp ip x h0 (n, v, p, bb, g) Q (match smp o a b' b (n, v, p, bb, g) with
      | .inl x => .inl x
      | .inr w2 => .inr ((f, b, q) :: r, w2))) :
    dr (some ia) (fun a_9 => ob h a_9 3 (if gi h 192 a_9 < 40 then ob h (x + 3) 5 (tX5_move (x + 3) (some (x + 11 + r.length)) (some ia) h Q) else
      dr (some ia) (fun a_10 => ob h a_10 3 (if gi h 192 a_10 < 54 then ob h (x + 3) 5 (tX5_load (x + 3) (some ia) h Q) else
      dr (some ia) (fun a_11 => ob h a_11 3 (if 62 < gi h 192 a_11 then
        dr (some ia) (fun a_12 => ob h a_12 3 (if gi h 192 a_12 < 69 then ob h (x + 3) 5 (tX5_provide (x + 3) (some ia) h Q) else
          dr (some ia) (fun a_13 => ob h a_13 3 (tX7_takenBy (gi h 192 a_13) h (rI (fun x_15 h_14 =>
            if x_15 = 2 then dr (some ia) (fun a_19 => ob h_14 a_19 3 (ob h_14 (x + 3) 5 (tX5_computeOfTwo (x + 3) (gi h_14 192 a_19) h_14 Q)))
            else dr (some ia) (fun a_16 => ob h_14 a_16 3 (ob h_14 (x + 3) 5 (tX5_computeOfOne (x + 3) (gi h_14 192 a_16) h_14 Q))))))))) 
        else ob h (x + 3) 5 (tX5_store (x + 3) (some ia) h Q)))))))  := by
  have c := H.cs hc
  have I' := I
  obtain ⟨i1, i2, i3, i4⟩ := I
  refine dr_of rfl ⟨i1, ?_⟩
  rw [i2]
  have mv : o < 40 → (if o < 40 then ob h (x + 3) 5 (tX5_move (x + 3) (some (x + 11 + r.length)) (some ia) h Q) else
      dr (some ia) (fun a_10 => ob h a_10 3 (if gi h 192 a_10 < 54 then ob h (x + 3) 5 (tX5_load (x + 3) (some ia) h Q) else
      dr (some ia) (fun a_11 => ob h a_11 3 (if 62 < gi h 192 a_11 then
        dr (some ia) (fun a_12 => ob h a_12 3 (if gi h 192 a_12 < 69 then ob h (x + 3) 5 (tX5_provide (x + 3) (some ia) h Q) else
          dr (some ia) (fun a_13 => ob h a_13 3 (tX7_takenBy (gi h 192 a_13) h (rI (fun x_15 h_14 =>
            if x_15 = 2 then dr (some ia) (fun a_19 => ob h_14 a_19 3 (ob h_14 (x + 3) 5 (tX5_computeOfTwo (x + 3) (gi h_14 192 a_19) h_14 Q)))
            else dr (some ia) (fun a_16 => ob h_14 a_16 3 (ob h_14 (x + 3) 5 (tX5_computeOfOne (x + 3) (gi h_14 192 a_16) h_14 Q)))))))))
        else ob h (x + 3) 5 (tX5_store (x + 3) (some ia) h Q)))))) := by
    intro ho
    rw [if_pos ho]
    refine ⟨c.t5, c_move hc H h30 hia I' hn hk ht hn2 har ho ?_⟩
    revert k
    cases smp o a b' b (n, v, p, bb, g) with
    | inl e => intro _; trivial
    | inr w2 => intro k; exact k
  by_cases m40 : o < 40
  · exact mv m40
  clear mv
  rw [if_neg m40]
  refine dr_of rfl ⟨i1, ?_⟩
  rw [i2]
  by_cases m54 : o < 54
  · rw [if_pos m54]
    rcases arP_cases har with ⟨rfl, rfl⟩ | ⟨rfl, rfl⟩ | ⟨rfl, -, -, rfl⟩ | ⟨rfl, -, -, rfl⟩ | ⟨rfl, -, -, rfl⟩ | ⟨rfl, -, rfl⟩ | ⟨rfl, -, rfl⟩ | ⟨hz, rfl⟩ | ⟨hz, rfl⟩ | ⟨hz, rfl⟩ | ⟨⟨h1, h2⟩, rfl⟩ | ⟨⟨h1, h2⟩, rfl⟩
    · exact absurd (by decide) m40
    · exact absurd (by decide) m40
    · exact absurd (by decide) m40
    · exact absurd (by decide) m40
    · exact absurd (by decide) m40
    · exact absurd (by decide) m40
    · exact absurd (by decide) m40
    · rcases hz with rfl | rfl | rfl <;> exact absurd m54 (by decide)
    · rcases hz with rfl | rfl | rfl | rfl | rfl <;> exact absurd m54 (by decide)
    · rcases hz with rfl | rfl | rfl | rfl | rfl | rfl | rfl | rfl | rfl | rfl | rfl | rfl | rfl | rfl | rfl <;> exact absurd m54 (by decide)
    · dsimp only at ht hk
      obtain ⟨n0, rfl⟩ : ∃ n0, n = n0 + 1 := ⟨n - 1, by omega⟩
      rw [smp_ld h1 h2] at k
      refine ⟨c.t5, c_loadI hc H (by omega) hp hia I' h1 h2 ?_⟩
      have e : n0 + 1 - 1 = n0 := rfl
      rw [e] at k
      by_cases cc : 64 * p < ad (v n0) a + sizeN o
      · rw [if_pos cc] at k ⊢
        exact k
      · rw [if_neg cc] at k ⊢
        exact k
    · exact absurd m54 h1
  rw [if_neg m54]
  refine dr_of rfl ⟨i1, ?_⟩
  rw [i2]
  rcases arP_cases har with ⟨rfl, rfl⟩ | ⟨rfl, rfl⟩ | ⟨rfl, -, -, rfl⟩ | ⟨rfl, -, -, rfl⟩ | ⟨rfl, -, -, rfl⟩ | ⟨rfl, -, rfl⟩ | ⟨rfl, -, rfl⟩ | ⟨hz, rfl⟩ | ⟨hz, rfl⟩ | ⟨hz, rfl⟩ | ⟨⟨h1, h2⟩, rfl⟩ | ⟨⟨h1, h2⟩, rfl⟩
  · exact absurd (by decide) m40
  · exact absurd (by decide) m40
  · exact absurd (by decide) m40
  · exact absurd (by decide) m40
  · exact absurd (by decide) m40
  · exact absurd (by decide) m40
  · exact absurd (by decide) m40
  · have h62 : 62 < o ∧ o < 69 ∧ ¬ o = 64 ∧ (o = 63 ∨ o = 64 ∨ o = 65 ∨ o = 66) := by rcases hz with rfl | rfl | rfl <;> decide
    rw [if_pos h62.1]
    refine dr_of rfl ⟨i1, ?_⟩
    rw [i2, if_pos h62.2.1]
    dsimp only at ht hk
    refine ⟨c.t5, c_provide (b := b) hc H hp hia I' h62.2.2.2 (by rw [if_neg h62.2.2.1]; omega) ?_⟩
    revert k
    cases smp o a b' b (n, v, p, bb, g) with
    | inl e => intro _; trivial
    | inr w2 => intro k; exact k
  · by_cases c64 : o = 64
    · subst c64
      rw [if_pos (by decide)]
      refine dr_of rfl ⟨i1, ?_⟩
      rw [i2, if_pos (by decide)]
      dsimp only at ht hk
      refine ⟨c.t5, c_provide (b := b) hc H hp hia I' (by decide) (by rw [if_pos rfl]; omega) ?_⟩
      revert k
      cases smp 64 a b' b (n, v, p, bb, g) with
      | inl e => intro _; trivial
      | inr w2 => intro k; exact k
    · have hz : o = 69 ∨ o = 80 ∨ o = 167 ∨ o = 173 := hz.resolve_left c64
      dsimp only at ht hk
      obtain ⟨n0, rfl⟩ : ∃ n0, n = n0 + 1 := ⟨n - 1, by omega⟩
      have es : smp o a b' b (n0 + 1, v, p, bb, g) = .inr (n0 + 1, upv v n0 (if o = 69 then (if low (v n0) = 0 then 1 else 0) else if o = 80 then (if v n0 = 0 then 1 else 0) else low (v n0)), p, bb, g) := by
        rcases hz with rfl | rfl | rfl | rfl <;> rfl
      have h62 : 62 < o ∧ ¬ o < 69 ∧ tkO o = some (1, 1) := by rcases hz with rfl | rfl | rfl | rfl <;> decide
      rw [es] at k
      rw [if_pos h62.1]
      refine dr_of rfl ⟨i1, ?_⟩
      rw [i2, if_neg h62.2.1]
      refine dr_of rfl ⟨i1, ?_⟩
      rw [i2]
      refine c_taken ?_
      rw [h62.2.2]
      refine rI_of ?_
      rw [if_neg (by decide)]
      refine dr_of rfl ⟨i1, c.t5, ?_⟩
      rw [i2]
      exact c_one hc H (by omega) hz k
  · dsimp only at ht hk
    obtain ⟨n0, rfl⟩ : ∃ n0, n = n0 + 2 := ⟨n - 2, by omega⟩
    have es : smp o a b' b (n0 + 2, v, p, bb, g) = match wk2 o (v n0) (v (n0 + 1)) with
        | none => .inl 11
        | some z => .inr (n0 + 1, upv v n0 z, p, bb, g) := by
      rcases hz with rfl | rfl | rfl | rfl | rfl | rfl | rfl | rfl | rfl | rfl | rfl | rfl | rfl | rfl | rfl <;> rfl
    have h62 : 62 < o ∧ ¬ o < 69 ∧ tkO o = some (2, 1) := by rcases hz with rfl | rfl | rfl | rfl | rfl | rfl | rfl | rfl | rfl | rfl | rfl | rfl | rfl | rfl | rfl <;> decide
    rw [es] at k
    rw [if_pos h62.1]
    refine dr_of rfl ⟨i1, ?_⟩
    rw [i2, if_neg h62.2.1]
    refine dr_of rfl ⟨i1, ?_⟩
    rw [i2]
    refine c_taken ?_
    rw [h62.2.2]
    refine rI_of ?_
    dsimp only
    rw [if_pos (show nI 2 = 2 from rfl)]
    refine dr_of rfl ⟨i1, c.t5, ?_⟩
    rw [i2]
    refine c_two hc H (by omega) hz ?_
    revert k
    cases wk2 o (v n0) (v (n0 + 1)) with
    | none => intro k; exact k
    | some z => intro k; exact k
  · exact absurd h2 m54
  · dsimp only at ht hk
    obtain ⟨n0, rfl⟩ : ∃ n0, n = n0 + 2 := ⟨n - 2, by omega⟩
    rw [smp_st h1 h2] at k
    rw [if_neg (show ¬ (62 : Int32) < o from fun z => by
      rw [Int32.lt_iff_toInt_lt] at z h2
      have e1 : (62 : Int32).toInt = 62 := rfl
      have e2 : (63 : Int32).toInt = 63 := rfl
      omega)]
    refine ⟨c.t5, c_storeI hc H (by omega) hp hia I' h1 h2 ?_⟩
    have e : n0 + 2 - 2 = n0 := rfl
    have e1 : n0 + 2 - 1 = n0 + 1 := rfl
    rw [e, e1] at k
    by_cases cc : 64 * p < ad (v n0) a + sizeN o
    · rw [if_pos cc] at k ⊢
      exact k
    · rw [if_neg cc] at k ⊢
      exact k
theorem c_step (hc : CS h x) (hP : CP h x fp ip P) (hW : WhP P) (hT : ∀ j f2, tb j = some f2 → f2 < P.length) (hTB : ∀ j, j < 30 → aq h (x + 4) j = (tb j).map fp) (hM : ∀ f, askN P f < 1000000) (hO : OKS P s) (h1 : s.1 = 1) (H : RXc P fp ip x h s) (K : ∀ h', CRW x h h' → gi h' 329 (x + 3) = gi h 329 (x + 3) → RXc P fp ip x h' (stS P tb s) → Q none h') : tX5_step (x + 3) h Q := by
  obtain ⟨st, tr, fr, w⟩ := s
  obtain ⟨x1, x2, x3, x4, x5⟩ := H
  obtain ⟨f, b, i, r, e, HL⟩ := x4 h1
  have e : fr = (f, b, some i) :: r := e
  subst e
  obtain ⟨o1, -⟩ := hO.2.2.1 h1
  obtain ⟨n, v, p, bb, g⟩ := w
  have HL : RCv P fp ip x h h ((f, b, some i) :: r) (n, v, p, bb, g) := HL
  have o1 : OKR P ((f, b, some i) :: r) (n, v, p, bb, g) := o1
  obtain ⟨gf, k, hg, hn, hk, hA, hs, hr0, hr, h4, h5, h30⟩ := o1.top
  have hn : n = b + (fP gf + fL gf) + k := hn
  have hw := (hW f gf hg).1
  have hi := hA.lt hw
  have hask := askN_some hg
  have hn220 : n ≤ 220 := by omega
  have hp6 : p ≤ 6 := o1.2.2.2.2.2
  have K1 : KXc P fp ip x h (n, v, p, bb, g) (fun _ h' => tX5_leaveWhatIsOver (x + 3) h' (rV (fun h_1 => Q none h_1))) (stA P tb f b i r (n, v, p, bb, g)) := KNc.kx (tr := tr) hc hP x2 (fun y hy => stA_ok hW hT o1 hy) (fun h' a1 a2 a3 => rV_of (K h' a1 a2 a3))
  have K2 : KXc P fp ip x h (n, v, p, bb, g) (rV (fun h' => tX5_step_147 (x + 3) h' Q)) (stA P tb f b i r (n, v, p, bb, g)) := by
    revert K1
    cases stA P tb f b i r (n, v, p, bb, g) with
    | inl c =>
      unfold KXc
      dsimp only
      intro K1
      by_cases hcz : c = 0
      · rw [if_pos hcz] at K1 ⊢
        exact fun h' H' => rV_of (wX5_step_147 (x + 3) h' Q ⟨(H'.1.cs hc).t5, K1 h' H'⟩)
      · rw [if_neg hcz] at K1 ⊢
        exact fun h' H' => rV_of (wX5_step_147 (x + 3) h' Q ⟨(H'.1.cs hc).t5, K1 h' H'⟩)
    | inr y =>
      intro K1
      exact fun h' H' => rV_of (wX5_step_147 (x + 3) h' Q ⟨(H'.cs hc).t5, K1 h' H'⟩)
  clear K1 K
  have y4 : gi h 326 (x + 3) = nI (r.length + 1) := HL.2.2.2.1
  have y66 : gr h 66 (x + 11 + r.length) = some (ip f i) := HL.2.2.2.2.2.2.2.2.2.2.1
  obtain ⟨cf1, cf2⟩ := hc.fr r.length (by omega)
  obtain ⟨⟨-, -, -, -, -, -, -, -, c9⟩, -, c11⟩ := hP f gf hg
  have hia := c11 i hi
  obtain ⟨d1, d2, d3, d4, d5, -⟩ := c9 i hi
  refine wX5_step (x + 3) h Q ⟨hc.t5, c_inner hc y4 (by omega) (rR_of ?_)⟩
  rw [if_neg (Option.some_ne_none _)]
  refine dr_of rfl ⟨cf1, ?_⟩
  rw [if_neg (show ¬ gr h 66 (x + 11 + r.length) = none by rw [y66]; exact Option.some_ne_none _)]
  refine dr_of rfl ⟨cf1, ?_⟩
  rw [y66]
  refine dr_of rfl ⟨d1, dr_of rfl ⟨cf1, fun h6 e6 => dr_of rfl ?_⟩⟩
  rw [d5] at e6
  have H6 : RCv P fp ip x h h6 ((f, b, settle (fC gf) (i + 1)) :: r) (n, v, p, bb, g) := by rw [e6]; exact HL.setp (by omega) _
  obtain ⟨m1, m2, m3⟩ := H6.1.ii hia
  have I6 : Ins h6 (ip f i) (oA (fC gf) i) (aA (fC gf) i) (bA (fC gf) i) := ⟨by rw [m1]; exact d1, by rw [m2]; exact d2, by rw [m2]; exact d3, by rw [m2]; exact d4⟩
  refine ⟨I6.1, ?_⟩
  rw [I6.2.1]
  have c6 := H6.cs hc
  by_cases c26 : oA (fC gf) i < 26
  · rw [if_pos c26]
    exact ⟨c6.t5, c_control hc hP hW hT hTB hM o1 hg H6 c26 K2⟩
  rw [if_neg c26]
  rw [stA_smp hg c26] at K2
  have ne : ∀ k : Int32, k < 26 → ¬ oA (fC gf) i = k := fun k hk e => c26 (by rw [e]; exact hk)
  have hb : isBg (oA (fC gf) i) = false := by
    unfold isBg
    rw [decide_eq_false hs.1, decide_eq_false hs.2.1, decide_eq_false (ne 4 (by decide))]
    rfl
  obtain ⟨t, q, ha, ht, hA2⟩ := hA.arp hw (ne 0 (by decide)) (ne 1 (by decide)) hb hs.2.2.1 (ne 6 (by decide)) hs.2.2.2 (ne 12 (by decide)) (ne 13 (by decide)) (ne 14 (by decide)) (ne 15 (by decide)) (ne 16 (by decide)) (ne 17 (by decide))
  have hst := hA2.stp hW hg
  exact c_plain (nm := fP gf + fL gf) (kk := k) (t := (t, q)) hc H6 (by omega) hia I6 hn (by dsimp only; omega) ht hn220 hp6 ha K2
theorem c_advance4 (hW : WhP P) (hT : ∀ j f2, tb j = some f2 → f2 < P.length) (hM : ∀ f, askN P f < 1000000) {c : Nat} (hc20 : c ≤ 2000) : ∀ (t d : Nat) (s : RS) (h : Hp), t = c - d → d ≤ c → CS h x → CP h x fp ip P → (∀ j, j < 30 → aq h (x + 4) j = (tb j).map fp) → OKS P s → RXc P fp ip x h s → (∀ h', CRW x h h' → gi h' 329 (x + 3) = gi h 329 (x + 3) + nI (rnS P tb t d s).1 → RXc P fp ip x h' (rnS P tb t d s).2 → Q (some (tI (nI (rnS P tb t d s).1))) h') → tX5_advance_4 (x + 3) (nI c) (nI d) (nI d) h Q := by
  intro t
  have fin : ∀ (d : Nat) (s : RS) (h : Hp), CS h x → RXc P fp ip x h s → (∀ h', CRW x h h' → gi h' 329 (x + 3) = gi h 329 (x + 3) + nI d → RXc P fp ip x h' s → Q (some (tI (nI d))) h') → ob h (x + 3) 5 (ob h (x + 3) 5 (∀ h_1, h_1 = pi h 329 (x + 3) ((gi h 329 (x + 3)) + nI d) → Q (some (tI (nI d))) h_1)) := by
    intro d s h hc H K
    refine ⟨hc.t5, hc.t5, fun h1 e1 => K h1 (by rw [e1]; exact CRW_pi _ _ (by omega)) (by rw [e1, gi_eq]) ?_⟩
    obtain ⟨x1, x2, ⟨x31, x32, x33⟩, x4, x5⟩ := H
    refine ⟨by rw [e1, gi_ne (by decide)]; exact x1, by rw [e1, gi_ne (by decide)]; exact x2, ⟨by rw [e1, gi_ne (by decide)]; exact x31, by rw [e1]; exact x32, by rw [e1]; exact x33⟩, fun z => ?_, fun z => ?_⟩
    · obtain ⟨f, b, i, r, y1, y2⟩ := x4 z
      refine ⟨f, b, i, r, y1, ?_⟩
      obtain ⟨-, -, z3, z4, z5, z6, ⟨z71, z72, z73⟩, z8, z9⟩ := y2
      exact ⟨CRW.rf _ _, ⟨rfl, rfl⟩, by rw [e1, gi_ne (by decide)]; exact z3, by rw [e1, gi_ne (by decide)]; exact z4, by rw [e1, gi_ne (by decide)]; exact z5, by rw [e1, gi_ne (by decide)]; exact z6, ⟨by rw [e1, gi_ne (by decide)]; exact z71, by rw [e1]; exact z72, by rw [e1]; exact z73⟩, by rw [e1]; exact z8, by rw [e1]; exact z9.of (fun _ _ => ⟨rfl, by rw [gi_ne (by decide)], rfl⟩)⟩
    · obtain ⟨y1, y2⟩ := x5 z
      exact ⟨by rw [e1, gi_ne (by decide)]; exact y1, by rw [e1]; exact y2⟩
  induction t with
  | zero =>
    intro d s h ht hd hc hP hTB hO H K
    have e : d = c := by omega
    subst e
    refine wX5_advance_4 (x + 3) _ _ _ h Q ?_
    rw [if_neg (nI_nlt (Nat.le_refl _) (by omega))]
    exact fin d s h hc H K
  | succ t ih =>
    intro d s h ht hd hc hP hTB hO H K
    refine wX5_advance_4 (x + 3) _ _ _ h Q ?_
    rw [if_pos (nI_lt (by omega) (by omega))]
    refine ⟨hc.t5, c_going hc (rI_of ?_)⟩
    have hst : gi h 327 (x + 3) = s.1 := H.1
    rw [hst]
    by_cases h1 : s.1 = 1
    · have er : rnS P tb (t + 1) d s = rnS P tb t (d + 1) (stS P tb s) := by
        show (if s.1 = 1 then _ else _) = _
        rw [if_pos h1]
      rw [er] at K
      rw [if_pos h1, if_neg (by decide)]
      refine ⟨hc.t5, c_step hc hP hW hT hTB hM hO h1 H (fun h' w1 w2 X => rV_of ?_)⟩
      rw [← nI_succ]
      refine ih (d + 1) (stS P tb s) h' (by omega) (by omega) (w1.cs hc) (w1.cp hP) (fun j hj => by rw [w1.2.2.1]; exact hTB j hj) (stS_ok hW hT hO h1) X ?_
      intro h2 u1 u2 u3
      exact K h2 (w1.tr u1) (by rw [u2, w2]) u3
    · have er : rnS P tb (t + 1) d s = (d, s) := by
        show (if s.1 = 1 then _ else _) = _
        rw [if_neg h1]
      rw [er] at K
      rw [if_neg h1, if_pos rfl]
      exact fin d s h hc H K
end RR
