/-! THE REFERENCE RUNS, 5: pass -/
section FF
variable {P : List Fn} {m : Nat} {h0 h : Hp} {fr r : List Fm} {w : Wd} {A n p f b : Nat} {q : Option Nat} {v : VV} {bb : Nat → Int32} {g : VV} {gf : Fn} {Q : Option TV → Hp → Prop}
/-- what is there when the frames at their ends have gone -/
def KP (P : List Fn) (m : Nat) (h0 : Hp) (fr : List Fm) (w : Wd) (Q : Option TV → Hp → Prop) : Prop := ((lvF P fr w.1 w.2.1).1 = [] → ∀ h', REn m h0 h' ((lvF P fr w.1 w.2.1).2.1, (lvF P fr w.1 w.2.1).2.2, w.2.2) → Q none h') ∧ ∀ f2 b2 i2 r2, (lvF P fr w.1 w.2.1).1 = (f2, b2, some i2) :: r2 → ∀ h', RLv P m h0 h' ((f2, b2, some i2) :: r2) ((lvF P fr w.1 w.2.1).2.1, (lvF P fr w.1 w.2.1).2.2, w.2.2) (pos0 P f2 + i2) → Q none h'
theorem lvF_none (hg : P[f]? = some gf) : lvF P ((f, b, none) :: r) n v = lvF P r (b + fR gf) (kp v (n - fR gf) b (fR gf)) := by
  show (match P[f]? with
    | none => _
    | some g => _) = _
  rw [hg]
theorem s_p61 (hm : MS h0 m) (hP : MP h0 m P) {B : Nat} (H : RLv P m h0 h ((f, b, q) :: r) w (pos0 P f + B)) (h30 : r.length < 30) (hg : P[f]? = some gf) (hB : B < (fC gf).length) (h5 : ¬ oA (fC gf) B = 5) (h11 : oA (fC gf) B = 11 → B + 1 < (fC gf).length) (k : ∀ h', RLv P m h0 h' ((f, b, q) :: r) w (pos0 P f + (B + 1)) → tX11_pass_157 m h' Q) : tX11_pass_61 m h Q := by
  have hm1 := H.ms hm
  have hP1 := H.1.mp hP
  have hf : f < 40 := by have := (List.getElem?_eq_some_iff.mp hg).1; have := hP.1; omega
  have x5 : gi h 671 m = nI (r.length + 1) := H.2.2.2.2.1
  have x8 : gi h 674 m = nI (pos0 P f + B) := H.2.2.2.2.2.2.2.1
  obtain ⟨f1, -, -, -⟩ := H.2.2.2.2.2.2.2.2.2.2
  obtain ⟨a1, -, -, a4, a5⟩ := hP1.at hg hB
  obtain ⟨-, r1, r2, -⟩ := hP1.2.2 f gf hg
  have go : tX11_pass_147 m h Q := by
    refine wX11_pass_147 m h Q ⟨hm1.1, hm1.1, fun h1 e1 => ?_⟩
    rw [x8, ← nI_succ] at e1
    refine k h1 ?_
    rw [e1]
    exact H.at' _
  refine wX11_pass_61 m h Q ⟨hm1.1, hm1.1, ?_⟩
  rw [x5, nI_sub1]
  refine L_function hm1 hm1 (by omega) ⟨hm1.1, hm1.1, ?_⟩
  rw [x8]
  refine L_op hm1 hm1 a4 ?_
  rw [nck (k := pos0 P f + B) (by omega), a1, if_neg h5]
  refine ⟨hm1.1, hm1.1, L_op hm1 hm1 a4 ?_⟩
  rw [a1]
  by_cases c : oA (fC gf) B = 11
  · rw [if_pos c, nck (by omega), f1]
    refine ⟨hm1.1, hm1.1, L_start hm1 hm1 hf ⟨hm1.1, L_length hm1 hm1 hf ?_⟩⟩
    have := h11 c
    rw [nck (by omega), r1, r2, nJ_add, n1, nJ_sub (by omega), if_neg (fun z => by
      have := (nJ_inj (by omega) (by omega)).mp z
      omega)]
    exact go
  · rw [if_neg c]
    exact go
/-- the head of the loop -/
theorem s_p157 (hm : MS h0 m) (hP : MP h0 m P) {B : Nat} (H : RLv P m h0 h ((f, b, q) :: r) w (pos0 P f + B)) (hg : P[f]? = some gf) (hB : B < (fC gf).length) (k1 : isStep (oA (fC gf) B) → Q none h) (k2 : ¬ isStep (oA (fC gf) B) → tX11_pass_61 m h Q) : tX11_pass_157 m h Q ∧ tX11_pass m h Q := by
  have hm1 := H.ms hm
  have hP1 := H.1.mp hP
  have x4 : gi h 668 m = 1 := H.2.2.2.1
  have x8 : gi h 674 m = nI (pos0 P f + B) := H.2.2.2.2.2.2.2.1
  obtain ⟨a1, -, -, a4, a5⟩ := hP1.at hg hB
  constructor
  · refine wX11_pass_157 m h Q ⟨hm1.1, ?_⟩
    rw [if_pos x4]
    refine ⟨hm1.1, hm1.1, ?_⟩
    rw [x8]
    refine L_op hm1 hm1 a4 ?_
    rw [nck (by omega), a1]
    by_cases c2 : oA (fC gf) B = 2
    · rw [if_pos c2]; exact k2 (fun z => z.1 c2)
    rw [if_neg c2]
    refine ⟨hm1.1, hm1.1, L_op hm1 hm1 a4 ?_⟩
    rw [a1]
    by_cases c3 : oA (fC gf) B = 3
    · rw [if_pos c3]; exact k2 (fun z => z.2.1 c3)
    rw [if_neg c3]
    refine ⟨hm1.1, hm1.1, L_op hm1 hm1 a4 ?_⟩
    rw [a1]
    by_cases c5 : oA (fC gf) B = 5
    · rw [if_pos c5]; exact k2 (fun z => z.2.2.1 c5)
    rw [if_neg c5]
    refine ⟨hm1.1, hm1.1, L_op hm1 hm1 a4 ?_⟩
    rw [a1]
    by_cases c11 : oA (fC gf) B = 11
    · rw [if_pos c11]; exact k2 (fun z => z.2.2.2 c11)
    rw [if_neg c11]
    exact k1 ⟨c2, c3, c5, c11⟩
  · refine wX11_pass m h Q ⟨hm1.1, ?_⟩
    rw [if_pos x4]
    refine ⟨hm1.1, hm1.1, ?_⟩
    rw [x8]
    refine L_op hm1 hm1 a4 ?_
    rw [nck (by omega), a1]
    by_cases c2 : oA (fC gf) B = 2
    · rw [if_pos c2]; exact k2 (fun z => z.1 c2)
    rw [if_neg c2]
    refine ⟨hm1.1, hm1.1, L_op hm1 hm1 a4 ?_⟩
    rw [a1]
    by_cases c3 : oA (fC gf) B = 3
    · rw [if_pos c3]; exact k2 (fun z => z.2.1 c3)
    rw [if_neg c3]
    refine ⟨hm1.1, hm1.1, L_op hm1 hm1 a4 ?_⟩
    rw [a1]
    by_cases c5 : oA (fC gf) B = 5
    · rw [if_pos c5]; exact k2 (fun z => z.2.2.1 c5)
    rw [if_neg c5]
    refine ⟨hm1.1, hm1.1, L_op hm1 hm1 a4 ?_⟩
    rw [a1]
    by_cases c11 : oA (fC gf) B = 11
    · rw [if_pos c11]; exact k2 (fun z => z.2.2.2 c11)
    rw [if_neg c11]
    exact k1 ⟨c2, c3, c5, c11⟩
/-- pass, when it doesn't run any more -/
theorem s_passX (hm : MS h m) (h1 : ¬ gi h 668 m = 1) (k : Q none h) : tX11_pass_157 m h Q ∧ tX11_pass m h Q := by
  constructor
  · refine wX11_pass_157 m h Q ⟨hm.1, ?_⟩
    rw [if_neg h1]
    exact k
  · refine wX11_pass m h Q ⟨hm.1, ?_⟩
    rw [if_neg h1]
    exact k
theorem s_pass (hm : MS h0 m) (hP : MP h0 m P) (hW : WhP P) : ∀ (r : List Fm) (f b : Nat) (q : Option Nat) (t B k n : Nat) (v : VV) (h : Hp) (gf : Fn), (fC gf).length - B ≤ t → RLv P m h0 h ((f, b, q) :: r) (n, v, p, bb, g) (pos0 P f + B) → P[f]? = some gf → At (sgs (P.take (f + 1))) (fP gf + fL gf) (fR gf) (fC gf) B k → n = b + (fP gf + fL gf) + k → settle (fC gf) B = q → FrOK P n ((f, b, q) :: r) → r.length < 30 → askF P ((f, b, q) :: r) ≤ 220 → KP P m h0 ((f, b, q) :: r) (n, v, p, bb, g) Q → tX11_pass_157 m h Q ∧ tX11_pass m h Q := by
  intro r
  induction r with
  | nil =>
    intro f b q t
    induction t with
    | zero =>
      intro B k n v h gf ht H hg hA hn hq hF h30 h220 K
      have := hA.lt (hW f gf hg).1
      omega
    | succ t ih =>
      intro B k n v h gf ht H hg hA hn hq hF h30 h220 K
      have hw := (hW f gf hg).1
      have hB := hA.lt hw
      have hnb : n ≤ 220 := Nat.le_trans (hF.bound (List.cons_ne_nil _ _)) h220
      refine s_p157 hm hP H hg hB (fun hs => ?_) (fun hs => ?_)
      · have e : q = some B := by rw [← hq, settle_step hB hs]
        subst e
        exact K.2 f b B [] rfl h H
      · by_cases c5 : oA (fC gf) B = 5
        · obtain ⟨e, he, h1, h2, h3, h4⟩ := hA.elsP hw c5
          have hm1 := H.ms hm
          have hP1 := H.1.mp hP
          have x5 : gi h 671 m = nI 1 := H.2.2.2.2.1
          have x8 : gi h 674 m = nI (pos0 P f + B) := H.2.2.2.2.2.2.2.1
          obtain ⟨a1, -, -, a4, a5⟩ := hP1.at hg hB
          refine wX11_pass_61 m h Q ⟨hm1.1, hm1.1, ?_⟩
          rw [x5, show nI 1 - 1 = nI 0 from rfl]
          refine L_function hm1 hm1 (by omega) ⟨hm1.1, hm1.1, ?_⟩
          rw [x8]
          refine L_op hm1 hm1 a4 ?_
          rw [nck (k := pos0 P f + B) (by omega), a1, if_pos c5, ← nI_succ]
          have hpe : ps (fC gf) (B + 1) = ps (fC gf) B := ps_oth (by rw [c5]; rfl) (by rw [c5]; decide)
          refine ⟨hm1.1, hm1.1, s_endOf (fl := false) hm1 hP1 hg (j := B + 1) (e := e) (t := (fC gf).length) (by rw [hpe]; exact he) (by omega) (rI_of ⟨hm1.1, fun h2 e2 => ?_⟩)⟩
          have H2 : RLv P m h0 h2 [(f, b, q)] (n, v, p, bb, g) (pos0 P f + e) := by rw [e2]; exact H.at' _
          refine (s_p157 hm hP H2 hg (by omega) (fun hs => absurd h3 hs.2.2.2) (fun _ => s_p61 hm hP H2 h30 hg (by omega) (by rw [h3]; decide) (fun _ => by omega) (fun h3' H3 => ?_))).1
          exact (ih (e + 1) k n v h3' gf (by omega) H3 hg h4 hn (by rw [← hq, settle_else hB c5 he]) hF h30 h220 K).1
        · by_cases c11 : oA (fC gf) B = 11
          · rcases hA.fin hw c11 with ⟨e1, e2⟩ | ⟨e1, e2⟩
            · have hq2 : q = none := by rw [← hq, settle_go hB (Or.inr (Or.inr c11)), settle_out (by omega)]
              subst hq2
              subst e2
              have hm1 := H.ms hm
              have hP1 := H.1.mp hP
              have hf : f < 40 := by have := (List.getElem?_eq_some_iff.mp hg).1; have := hP.1; omega
              have x5 : gi h 671 m = nI 1 := H.2.2.2.2.1
              have x8 : gi h 674 m = nI (pos0 P f + B) := H.2.2.2.2.2.2.2.1
              obtain ⟨f1, -, -, -⟩ := H.2.2.2.2.2.2.2.2.2.2
              have f1 : ai h (m + 22) 0 = nI f := f1
              obtain ⟨a1, -, -, a4, a5⟩ := hP1.at hg hB
              obtain ⟨-, r1, r2, -⟩ := hP1.2.2 f gf hg
              obtain ⟨g1, hg1, -, hb0, -⟩ := hF
              rw [hg] at hg1
              cases hg1
              refine wX11_pass_61 m h Q ⟨hm1.1, hm1.1, ?_⟩
              rw [x5, show nI 1 - 1 = nI 0 from rfl]
              refine L_function hm1 hm1 (by omega) ⟨hm1.1, hm1.1, ?_⟩
              rw [x8]
              refine L_op hm1 hm1 a4 ?_
              rw [nck (k := pos0 P f + B) (by omega), a1, if_neg c5]
              refine ⟨hm1.1, hm1.1, L_op hm1 hm1 a4 ?_⟩
              rw [a1, if_pos c11, nck (by decide), f1]
              refine ⟨hm1.1, hm1.1, L_start hm1 hm1 hf ⟨hm1.1, L_length hm1 hm1 hf ?_⟩⟩
              rw [nck (by omega), r1, r2, nJ_add, n1, nJ_sub (by omega), if_pos (by congr 1; omega)]
              refine ⟨hm1.1, s_back hm hP H h30 hg (by omega) (by omega) h220 hb0 ?_⟩
              intro h' HE
              refine rV_of (s_passX (HE.1.ms hm) (by rw [HE.2.2.2.1]; decide) ?_).1
              have K1 := K.1
              dsimp only at K1
              rw [lvF_none hg] at K1
              exact K1 rfl h' HE
            · refine s_p61 hm hP H h30 hg hB c5 (fun _ => e1) (fun h' H' => ?_)
              exact (ih (B + 1) k n v h' gf (by omega) H' hg e2 hn (by rw [← hq, settle_go hB (Or.inr (Or.inr c11))]) hF h30 h220 K).1
          · have c23 : oA (fC gf) B = 2 ∨ oA (fC gf) B = 3 := by
              by_cases c2 : oA (fC gf) B = 2
              · exact Or.inl c2
              · by_cases c3 : oA (fC gf) B = 3
                · exact Or.inr c3
                · exact absurd ⟨c2, c3, c5, c11⟩ hs
            refine s_p61 hm hP H h30 hg hB c5 (fun z => absurd z c11) (fun h' H' => ?_)
            exact (ih (B + 1) k n v h' gf (by omega) H' hg (hA.go hw c23) hn (by rw [← hq, settle_go hB (c23.elim Or.inl (fun z => Or.inr (Or.inl z)))]) hF h30 h220 K).1
  | cons y r2 ihr =>
    obtain ⟨f3, b3, p3⟩ := y
    intro f b q t
    induction t with
    | zero =>
      intro B k n v h gf ht H hg hA hn hq hF h30 h220 K
      have := hA.lt (hW f gf hg).1
      omega
    | succ t ih =>
      intro B k n v h gf ht H hg hA hn hq hF h30 h220 K
      have hw := (hW f gf hg).1
      have hB := hA.lt hw
      have hnb : n ≤ 220 := Nat.le_trans (hF.bound (List.cons_ne_nil _ _)) h220
      refine s_p157 hm hP H hg hB (fun hs => ?_) (fun hs => ?_)
      · have e : q = some B := by rw [← hq, settle_step hB hs]
        subst e
        exact K.2 f b B _ rfl h H
      · by_cases c5 : oA (fC gf) B = 5
        · obtain ⟨e, he, h1, h2, h3, h4⟩ := hA.elsP hw c5
          have hm1 := H.ms hm
          have hP1 := H.1.mp hP
          have x5 : gi h 671 m = nI (((f3, b3, p3) :: r2).length + 1) := H.2.2.2.2.1
          have x8 : gi h 674 m = nI (pos0 P f + B) := H.2.2.2.2.2.2.2.1
          obtain ⟨a1, -, -, a4, a5⟩ := hP1.at hg hB
          refine wX11_pass_61 m h Q ⟨hm1.1, hm1.1, ?_⟩
          rw [x5, nI_sub1]
          refine L_function hm1 hm1 (by omega) ⟨hm1.1, hm1.1, ?_⟩
          rw [x8]
          refine L_op hm1 hm1 a4 ?_
          rw [nck (k := pos0 P f + B) (by omega), a1, if_pos c5, ← nI_succ]
          have hpe : ps (fC gf) (B + 1) = ps (fC gf) B := ps_oth (by rw [c5]; rfl) (by rw [c5]; decide)
          refine ⟨hm1.1, hm1.1, s_endOf (fl := false) hm1 hP1 hg (j := B + 1) (e := e) (t := (fC gf).length) (by rw [hpe]; exact he) (by omega) (rI_of ⟨hm1.1, fun h2 e2 => ?_⟩)⟩
          have H2 : RLv P m h0 h2 ((f, b, q) :: (f3, b3, p3) :: r2) (n, v, p, bb, g) (pos0 P f + e) := by rw [e2]; exact H.at' _
          refine (s_p157 hm hP H2 hg (by omega) (fun hs => absurd h3 hs.2.2.2) (fun _ => s_p61 hm hP H2 h30 hg (by omega) (by rw [h3]; decide) (fun _ => by omega) (fun h3' H3 => ?_))).1
          exact (ih (e + 1) k n v h3' gf (by omega) H3 hg h4 hn (by rw [← hq, settle_else hB c5 he]) hF h30 h220 K).1
        · by_cases c11 : oA (fC gf) B = 11
          · rcases hA.fin hw c11 with ⟨e1, e2⟩ | ⟨e1, e2⟩
            · have hq2 : q = none := by rw [← hq, settle_go hB (Or.inr (Or.inr c11)), settle_out (by omega)]
              subst hq2
              subst e2
              have hm1 := H.ms hm
              have hP1 := H.1.mp hP
              have hf : f < 40 := by have := (List.getElem?_eq_some_iff.mp hg).1; have := hP.1; omega
              have x5 : gi h 671 m = nI (((f3, b3, p3) :: r2).length + 1) := H.2.2.2.2.1
              have x8 : gi h 674 m = nI (pos0 P f + B) := H.2.2.2.2.2.2.2.1
              obtain ⟨f1, -, -, -⟩ := H.2.2.2.2.2.2.2.2.2.2
              obtain ⟨a1, -, -, a4, a5⟩ := hP1.at hg hB
              obtain ⟨-, r1, rr2, -⟩ := hP1.2.2 f gf hg
              obtain ⟨g1, hg1, -, hb0, hFr⟩ := hF
              rw [hg] at hg1
              cases hg1
              have h220b : askN P f + askF P ((f3, b3, p3) :: r2) ≤ 220 := h220
              refine wX11_pass_61 m h Q ⟨hm1.1, hm1.1, ?_⟩
              rw [x5, nI_sub1]
              refine L_function hm1 hm1 (by omega) ⟨hm1.1, hm1.1, ?_⟩
              rw [x8]
              refine L_op hm1 hm1 a4 ?_
              rw [nck (k := pos0 P f + B) (by omega), a1, if_neg c5]
              refine ⟨hm1.1, hm1.1, L_op hm1 hm1 a4 ?_⟩
              rw [a1, if_pos c11, nck (by omega), f1]
              refine ⟨hm1.1, hm1.1, L_start hm1 hm1 hf ⟨hm1.1, L_length hm1 hm1 hf ?_⟩⟩
              rw [nck (by omega), r1, rr2, nJ_add, n1, nJ_sub (by omega), if_pos (by congr 1; omega)]
              refine ⟨hm1.1, s_back hm hP H h30 hg (by omega) (by omega) h220 hb0 ?_⟩
              intro h' B2 g2 k2 y1 y2 y3 y4 H'
              refine rV_of (ihr f3 b3 p3 _ B2 k2 _ _ h' g2 (Nat.le_refl _) H' y1 y4 y3 y2 hFr (by simp at h30; omega) (by omega) ?_).1
              unfold KP at K ⊢
              dsimp only at K ⊢
              rw [lvF_none hg] at K
              exact K
            · refine s_p61 hm hP H h30 hg hB c5 (fun _ => e1) (fun h' H' => ?_)
              exact (ih (B + 1) k n v h' gf (by omega) H' hg e2 hn (by rw [← hq, settle_go hB (Or.inr (Or.inr c11))]) hF h30 h220 K).1
          · have c23 : oA (fC gf) B = 2 ∨ oA (fC gf) B = 3 := by
              by_cases c2 : oA (fC gf) B = 2
              · exact Or.inl c2
              · by_cases c3 : oA (fC gf) B = 3
                · exact Or.inr c3
                · exact absurd ⟨c2, c3, c5, c11⟩ hs
            refine s_p61 hm hP H h30 hg hB c5 (fun z => absurd z c11) (fun h' H' => ?_)
            exact (ih (B + 1) k n v h' gf (by omega) H' hg (hA.go hw c23) hn (by rw [← hq, settle_go hB (c23.elim Or.inl (fun z => Or.inr (Or.inl z)))]) hF h30 h220 K).1
end FF
