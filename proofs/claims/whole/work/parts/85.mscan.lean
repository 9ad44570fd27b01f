/-! THE REFERENCE RUNS, 2: looking for beginnings and ends -/
theorem isBg_iff {o : Int32} : isBg o = true ↔ (1 < o ∧ o < 5) := by
  unfold isBg
  constructor
  · intro q
    simp only [Bool.or_eq_true, decide_eq_true_eq] at q
    rcases q with q | q | q <;> subst q <;> decide
  · intro ⟨h1, h2⟩
    have h0 : ¬ o < 0 := fun z => by
      have := Int32.lt_trans h1 z
      exact absurd this (by decide)
    obtain ⟨a1, a2⟩ := o_small (n := 5) h0 h2 (by decide)
    have a3 : 1 < nt o := by
      rw [a2] at h1
      exact (nJ_lt (by decide) (by omega)).mp h1
    have : nt o = 2 ∨ nt o = 3 ∨ nt o = 4 := by omega
    rcases this with e | e | e <;> (rw [a2, e]; decide)
section SC
variable {P : List Fn} {m : Nat} {h0 h : Hp} {fr : List Fm} {w : Wd} {A : Nat} {Q : Option TV → Hp → Prop}
theorem s_begins {o : Int32} (k : Q (some (tI (if isBg o = true then 1 else 0))) h) : tX11_begins o h Q := by
  refine wX11_begins o h Q ?_
  by_cases c1 : 1 < o
  · rw [if_pos c1]
    by_cases c2 : o < 5
    · rw [if_pos c2]
      rw [if_pos (isBg_iff.mpr ⟨c1, c2⟩)] at k
      exact k
    · rw [if_neg c2]
      rw [if_neg (fun q => c2 (isBg_iff.mp q).2)] at k
      exact k
  · rw [if_neg c1]
    rw [if_neg (fun q => c1 (isBg_iff.mp q).1)] at k
    exact k
/-- what the reference's arrays hold at a place of a function -/
theorem MP.at (hP : MP h m P) {f i : Nat} {gf : Fn} (hg : P[f]? = some gf) (hi : i < (fC gf).length) : ai h (m + 7) (pos0 P f + i) = oA (fC gf) i ∧ ai h (m + 8) (pos0 P f + i) = aA (fC gf) i ∧ ai h (m + 9) (pos0 P f + i) = bA (fC gf) i ∧ pos0 P f + i < 1500 ∧ pos0 P f + (fC gf).length ≤ 1500 := by
  obtain ⟨-, -, -, -, -, -, -, h8⟩ := hP.2.2 f gf hg
  have hx := List.getElem?_eq_getElem hi
  obtain ⟨a1, a2, a3, -⟩ := h8 i _ hx
  have hb : pos0 P f + (fC gf).length ≤ totL P := by
    rw [← pos0_succ hg]
    exact pos0_mono (by have := (List.getElem?_eq_some_iff.mp hg).1; omega)
  have := hP.2.1
  exact ⟨by rw [oA_of hx]; exact a1, by rw [aA_of hx]; exact a2, by rw [bA_of hx]; exact a3, by omega, by omega⟩
theorem s_endOf5 (hm : MS h m) (hP : MP h m P) {f : Nat} {gf : Fn} (hg : P[f]? = some gf) {D : Nat} {fl : Bool} : ∀ (t j e d : Nat), enF (fC gf) D fl t j = some e → (ps (fC gf) j).length = D + d → e < (fC gf).length → Q (some (tI (nI (pos0 P f + e)))) h → tX11_endOf_5 m (if fl = true then 1 else 0) (nI d) (nI (pos0 P f + j)) h Q := by
  intro t
  induction t with
  | zero => intro j e d he; cases he
  | succ t ih =>
    intro j e d he hd hlt k
    have hje : j ≤ e := (enF_spec he).1
    obtain ⟨a1, -, -, a4, -⟩ := hP.at hg (show j < (fC gf).length by omega)
    have hdl := ps_len_le (fC gf) j
    have go : stopB (fC gf) D fl j = false → tX11_endOf_36 m (if fl = true then 1 else 0) (nI d) (nI (pos0 P f + j)) h Q := by
      intro hs
      have he2 : enF (fC gf) D fl t (j + 1) = some e := by
        unfold enF at he
        rw [if_neg (by rw [hs]; decide)] at he
        exact he
      refine wX11_endOf_36 m _ _ _ h Q ⟨hm.1, L_op hm hm a4 ?_⟩
      rw [nck (by omega), a1]
      refine s_begins (rI_of ?_)
      have nx : ∀ (s0 : Int32) (d2 : Nat), nI d + s0 = nI d2 → (ps (fC gf) (j + 1)).length = D + d2 → tX11_endOf_71 m (if fl = true then 1 else 0) (nI (pos0 P f + j)) s0 (nI d) h Q := by
        intro s0 d2 e1 e2
        refine wX11_endOf_71 m _ _ _ _ h Q ?_
        rw [e1, ← nI_succ, Nat.add_assoc]
        exact ih (j + 1) e d2 he2 e2 hlt k
      by_cases hb : isBg (oA (fC gf) j) = true
      · rw [if_pos hb, if_neg (by decide)]
        refine nx 1 (d + 1) (nI_succ d).symm ?_
        rw [ps_bg hb, List.length_cons]
        omega
      · rw [if_neg hb, if_pos rfl]
        refine ⟨hm.1, L_op hm hm a4 ?_⟩
        rw [a1]
        by_cases h11 : oA (fC gf) j = 11
        · rw [if_pos h11]
          have hd0 : 0 < d := by
            refine Nat.pos_of_ne_zero (fun z => ?_)
            exact stopB_no hs ⟨by omega, Or.inl h11⟩
          refine nx (-1) (d - 1) ?_ ?_
          · have := nJ_sub (a := d) (b := 1) (by omega)
            rw [← this, Int32.sub_eq_add_neg]
            rfl
          · rw [ps_end h11, List.length_tail]
            omega
        · rw [if_neg h11]
          refine nx 0 d (by simp) ?_
          rw [ps_oth (by simpa using hb) h11]
          exact hd
    refine wX11_endOf_5 m _ _ _ h Q ?_
    by_cases hd0 : 0 < d
    · rw [if_pos (show (0 : Int32) < nI d from nI_lt (a := 0) hd0 (by omega))]
      refine go ?_
      unfold stopB
      rw [decide_eq_false (by omega), Bool.false_and]
    · have hd1 : d = 0 := by omega
      subst hd1
      rw [if_neg (by decide)]
      refine ⟨hm.1, L_op hm hm a4 ?_⟩
      rw [nck (by omega), a1]
      have stop : stopB (fC gf) D fl j = true → Q (some (tI (nI (pos0 P f + j)))) h := by
        intro hs
        unfold enF at he
        rw [if_pos hs] at he
        cases he
        exact k
      by_cases h11 : oA (fC gf) j = 11
      · rw [if_pos h11]
        exact stop (stopB_iff.mpr ⟨hd, Or.inl h11⟩)
      · rw [if_neg h11]
        cases fl with
        | false =>
          rw [if_pos (show (if false = true then (1 : Int32) else 0) = 0 from rfl)]
          refine go ?_
          unfold stopB
          rw [decide_eq_false h11, Bool.false_and, Bool.false_or, Bool.and_false]
        | true =>
          rw [if_neg (by decide)]
          refine ⟨hm.1, L_op hm hm a4 ?_⟩
          rw [a1]
          by_cases h5 : oA (fC gf) j = 5
          · rw [if_pos h5]
            exact stop (stopB_iff.mpr ⟨hd, Or.inr ⟨rfl, h5⟩⟩)
          · rw [if_neg h5]
            refine go ?_
            unfold stopB
            rw [decide_eq_false h11, decide_eq_false h5, Bool.and_false, Bool.false_or, Bool.and_false]
theorem s_endOf (hm : MS h m) (hP : MP h m P) {f : Nat} {gf : Fn} (hg : P[f]? = some gf) {fl : Bool} {t j e : Nat} (he : enF (fC gf) (ps (fC gf) j).length fl t j = some e) (hlt : e < (fC gf).length) (k : Q (some (tI (nI (pos0 P f + e)))) h) : tX11_endOf m (nI (pos0 P f + j)) (if fl = true then 1 else 0) h Q := wX11_endOf m _ _ h Q (s_endOf5 hm hP hg t j e 0 he (by omega) hlt k)
theorem nI_m1 {a : Nat} (h : a < 2147483648) : nI a - 1 < nI a := by
  cases a with
  | zero => decide
  | succ a => rw [nI_sub1]; exact nI_lt (by omega) h
theorem s_beginOf10 {f b : Nat} {q : Option Nat} {r : List Fm} {gf : Fn} (hm : MS h0 m) (hP : MP h0 m P) (H : RLv P m h0 h ((f, b, q) :: r) w A) (h30 : r.length < 30) (hg : P[f]? = some gf) : ∀ (j ins left : Nat), j ≤ (fC gf).length → ins + j < 2147483648 → left < 2147483648 → (match bgS (fC gf) j ins left with
      | some p => Q (some (tI (nI (pos0 P f + p)))) h
      | none => Q (some (tI (-1))) h) → tX11_beginOf_10 m (nI ins) (nI left) (nI (pos0 P f + j) - 1) h Q := by
  have hm1 := H.ms hm
  have hP1 := H.1.mp hP
  have h5 : gi h 671 m = nI (r.length + 1) := H.2.2.2.2.1
  obtain ⟨f1, -, -, -⟩ := H.2.2.2.2.2.2.2.2.2.2
  have hf : f < 40 := by have := (List.getElem?_eq_some_iff.mp hg).1; have := hP.1; omega
  have hst : ai h (m + 1) f = nI (pos0 P f) := (hP1.2.2 f gf hg).2.1
  have hpos : pos0 P f ≤ 1500 := by
    have h1 := pos0_mono (fns := P) (j := f) (k := P.length) (by have := (List.getElem?_eq_some_iff.mp hg).1; omega)
    have h2 := hP.2.1
    unfold totL at h2
    omega
  intro j
  induction j with
  | zero =>
    intro ins left _ hi hl k
    refine wX11_beginOf_10 m _ _ _ h Q ⟨hm1.1, hm1.1, hm1.1, ?_⟩
    rw [h5, nI_sub1]
    refine L_function hm1 hm1 (by omega) ?_
    rw [nck (by omega), f1]
    refine L_start hm1 hm1 hf ?_
    rw [nck (by omega), hst, if_pos (by rw [Nat.add_zero]; exact nI_m1 (by omega))]
    exact k
  | succ j ih =>
    intro ins left hj hi hl k
    obtain ⟨a1, -, -, a4, -⟩ := hP1.at hg (show j < (fC gf).length by omega)
    rw [show pos0 P f + (j + 1) = (pos0 P f + j) + 1 by omega, nI_sub1]
    refine wX11_beginOf_10 m _ _ _ h Q ⟨hm1.1, hm1.1, hm1.1, ?_⟩
    rw [h5, nI_sub1]
    refine L_function hm1 hm1 (by omega) ?_
    rw [nck (by omega), f1]
    refine L_start hm1 hm1 hf ?_
    rw [nck (by omega), hst, if_neg (nI_nlt (by omega) (by omega))]
    refine ⟨hm1.1, L_op hm1 hm1 a4 ?_⟩
    rw [nck (by omega), a1]
    have nx : ∀ ins2 left2, ins2 + j < 2147483648 → left2 < 2147483648 → (match bgS (fC gf) j ins2 left2 with
      | some p => Q (some (tI (nI (pos0 P f + p)))) h
      | none => Q (some (tI (-1))) h) → tX11_beginOf_97 m (nI ins2) (nI left2) (nI (pos0 P f + j)) h Q := by
      intro ins2 left2 g1 g2 g3
      refine wX11_beginOf_97 m _ _ _ h Q ?_
      have : nI (pos0 P f + j) + (-1) = nI (pos0 P f + j) - 1 := by rw [Int32.sub_eq_add_neg]
      rw [this]
      exact ih ins2 left2 (by omega) g1 g2 g3
    unfold bgS at k
    by_cases h11 : oA (fC gf) j = 11
    · rw [if_pos h11] at k ⊢
      rw [← nI_succ]
      refine wX11_beginOf_46 m _ _ _ h Q ⟨hm1.1, L_op hm1 hm1 a4 ?_⟩
      rw [nck (by omega), a1]
      refine s_begins (rI_of ?_)
      rw [if_neg (show ¬ isBg (oA (fC gf) j) = true by rw [h11]; decide), if_pos rfl]
      exact nx (ins + 1) left (by omega) hl k
    · rw [if_neg h11] at k ⊢
      refine wX11_beginOf_46 m _ _ _ h Q ⟨hm1.1, L_op hm1 hm1 a4 ?_⟩
      rw [nck (by omega), a1]
      refine s_begins (rI_of ?_)
      by_cases hb : isBg (oA (fC gf) j) = true
      · rw [if_pos hb] at k ⊢
        rw [if_neg (by decide)]
        by_cases hi0 : ins = 0
        · subst hi0
          rw [if_pos (show nI 0 = 0 from rfl)]
          by_cases hl0 : left = 0
          · subst hl0
            rw [if_pos (show nI 0 = 0 from rfl)]
            rw [if_pos ⟨rfl, rfl⟩] at k
            exact k
          · rw [if_neg (nI_ne0 (by omega) hl)]
            rw [if_neg (fun z => hl0 z.2), if_pos rfl] at k
            refine wX11_beginOf_71 m _ _ _ h Q ?_
            rw [if_pos (show nI 0 = 0 from rfl)]
            refine wX11_beginOf_82 m _ _ _ _ h Q ?_
            rw [if_neg (by decide)]
            refine wX11_beginOf_95 m _ _ _ _ h Q ?_
            have e1 : nI left - 1 = nI (left - 1) := by rw [n1, nJ_sub (by omega)]
            have e2 : nI 0 - 0 = nI 0 := by simp
            rw [e1, e2]
            exact nx 0 (left - 1) (by omega) (by omega) k
        · rw [if_neg (nI_ne0 (by omega) (by omega))]
          rw [if_neg (fun z => hi0 z.1), if_neg hi0] at k
          refine wX11_beginOf_71 m _ _ _ h Q ?_
          rw [if_neg (nI_ne0 (by omega) (by omega))]
          refine wX11_beginOf_82 m _ _ _ _ h Q ?_
          rw [if_pos (show (0 : Int32) < nI ins from nI_lt (a := 0) (by omega) (by omega))]
          refine wX11_beginOf_95 m _ _ _ _ h Q ?_
          have e1 : nI ins - 1 = nI (ins - 1) := by rw [n1, nJ_sub (by omega)]
          have e2 : nI left - 0 = nI left := by simp
          rw [e1, e2]
          exact nx (ins - 1) left (by omega) hl k
      · rw [if_neg hb] at k ⊢
        rw [if_pos rfl]
        exact nx ins left (by omega) hl k
/-- the label's beginning, or -1 -/
theorem s_beginOf {f b : Nat} {q : Option Nat} {r : List Fm} {gf : Fn} (hm : MS h0 m) (hP : MP h0 m P) (H : RLv P m h0 h ((f, b, q) :: r) w A) (h30 : r.length < 30) (hg : P[f]? = some gf) {i left : Nat} (hi : i ≤ (fC gf).length) (hl : left < 2147483648) (k : match (ps (fC gf) i)[left]? with
      | some p => Q (some (tI (nI (pos0 P f + p)))) h
      | none => Q (some (tI (-1))) h) : tX11_beginOf m (nI (pos0 P f + i)) (nI left) h Q := by
  refine wX11_beginOf m _ _ h Q ?_
  have hlen : (fC gf).length ≤ 1500 := by
    have h1 := pos0_succ hg
    have h2 := pos0_mono (fns := P) (j := f + 1) (k := P.length) (by have := (List.getElem?_eq_some_iff.mp hg).1; omega)
    have h3 := hP.2.1
    unfold totL at h3
    omega
  refine s_beginOf10 hm hP H h30 hg i 0 left hi (by omega) hl ?_
  rw [bgS_eq, Nat.zero_add]
  exact k
end SC
