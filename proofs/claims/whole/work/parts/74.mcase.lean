/-! THE REFERENCE, 5: control and plain operations, case by case -/
/-- the signatures -/
def SG (h : Hp) (m : Nat) (sg : List (Nat × Nat)) (nm : Nat) : Prop := gi h 640 m = nI sg.length ∧ 0 < sg.length ∧ sg.length ≤ 40 ∧ (∀ f s, sg[f]? = some s → ai h (m + 3) f = nI s.1 ∧ ai h (m + 4) f = nI s.2 ∧ s.1 ≤ 8 ∧ s.2 ≤ 8) ∧ (∃ l, ai h (m + 5) (sg.length - 1) = nI l ∧ l ≤ 8 ∧ ∀ s, sg[sg.length - 1]? = some s → nm = s.1 + l)
section ML
variable {h : Hp} {m : Nat} {ls : List Lb} {Q : Option TV → Hp → Prop} {tot : Nat} {sg : List (Nat × Nat)} {nm : Nat} {a b : Int32}
theorem labAt_of {ls : List Lb} {a : Int32} {n : Nat} (hn : ls.length = n + 1) : (∃ l r, labAt ls a = some l ∧ ls.drop (nt a) = l :: r ∧ (¬ a < 0 ∧ nt a ≤ n)) ∨ (labAt ls a = none ∧ ¬ (¬ a < 0 ∧ nt a ≤ n)) := by
  unfold labAt
  by_cases h : a < 0
  · rw [if_pos h]
    exact Or.inr ⟨rfl, fun q => q.1 h⟩
  · rw [if_neg h]
    by_cases h2 : nt a < ls.length
    · refine Or.inl ⟨ls[nt a], ls.drop (nt a + 1), List.getElem?_eq_getElem h2, (List.drop_eq_getElem_cons h2), h, by omega⟩
    · exact Or.inr ⟨List.getElem?_eq_none (by omega), fun q => h2 (by omega)⟩
theorem wantL_lt {l : Lb} (h : SmL l) : wantL l < 100 := by
  unfold wantL
  split
  · exact h.2.1
  · exact h.2.2.1
theorem LG.last {h : Hp} {m : Nat} {ls : List Lb} (G : LG h m ls) : ai h (m + 13) 0 = nI (lastG ls) ∧ lastG ls < 100 := by
  obtain ⟨-, -, -, hA, hs, hne⟩ := G
  have key : ∀ ls : List Lb, LA h m ls → (∀ l ∈ ls, SmL l) → ls ≠ [] → ai h (m + 13) 0 = nI (lastG ls) ∧ lastG ls < 100 := by
    intro ls
    induction ls with
    | nil => intro _ _ q; exact absurd rfl q
    | cons l r ih =>
      intro hA hs _
      cases r with
      | nil => exact ⟨hA.1.2.2.1, (hs l List.mem_cons_self).2.2.1⟩
      | cons y q =>
        have := ih hA.2 (fun l hl => hs l (List.mem_cons_of_mem _ hl)) (List.cons_ne_nil _ _)
        have e : lastG (l :: y :: q) = lastG (y :: q) := by
          unfold lastG
          rw [List.getLast?_cons_cons]
        rw [e]
        exact this
  exact key ls hA hs hne
theorem s_c0 (G : LG h m ls) (k : VP m tot 0 h (vctl sg nm ls 0 a b) Q) : tX11_control m 0 a b h Q := by
  obtain ⟨hm, hl, hlen, hA, hs, hne⟩ := G
  unfold vctl at k
  rw [if_pos rfl] at k
  refine wX11_control m 0 a b h Q ?_
  rw [if_pos rfl]
  exact ⟨hm.1, VP_ends (t := 0) (by decide) hm hl (by omega) hA hs hne (by decide) (VP_on k)⟩
theorem s_c1 (G : LG h m ls) (k : VP m tot 1 h (vctl sg nm ls 1 a b) Q) : tX11_control m 1 a b h Q := by
  obtain ⟨hm, hl, hlen, hA, hs, hne⟩ := G
  unfold vctl at k
  rw [if_neg (by decide), if_pos rfl] at k
  refine wX11_control m 1 a b h Q ?_
  rw [if_neg (by decide), if_pos rfl]
  cases ls with
  | nil => exact absurd rfl hne
  | cons l r =>
    unfold turnV at k
    dsimp only at k
    rw [if_pos (by unfold hasB; rw [decide_eq_true (Nat.zero_le _), Bool.true_or])] at k
    exact k h (VW.rf _ _ _) hA hl (fun _ _ => rfl) (fun q => absurd q (by decide))
theorem s_c2 (G : LG h m ls) (htot : gi h 641 m = nI tot) (ht : tot < 1500) (k : VP m tot 2 h (vctl sg nm ls 2 a b) Q) : tX11_control m 2 a b h Q := by
  obtain ⟨hm, hl, hlen, hA, hs, hne⟩ := G
  unfold vctl at k
  rw [if_neg (by decide), if_neg (by decide), if_pos (by decide)] at k
  refine wX11_control m 2 a b h Q ?_
  rw [if_neg (by decide), if_neg (by decide), if_pos rfl]
  exact ⟨hm.1, s_block (by decide) ⟨hm, hl, hlen, hA, hs, hne⟩ htot ht (VP_on k)⟩
theorem s_c3 (G : LG h m ls) (htot : gi h 641 m = nI tot) (ht : tot < 1500) (k : VP m tot 3 h (vctl sg nm ls 3 a b) Q) : tX11_control m 3 a b h Q := by
  obtain ⟨hm, hl, hlen, hA, hs, hne⟩ := G
  unfold vctl at k
  rw [if_neg (by decide), if_neg (by decide), if_pos (by decide)] at k
  refine wX11_control m 3 a b h Q ?_
  rw [if_neg (by decide), if_neg (by decide), if_neg (by decide), if_pos rfl]
  exact ⟨hm.1, s_block (by decide) ⟨hm, hl, hlen, hA, hs, hne⟩ htot ht (VP_on k)⟩
theorem s_c4 (G : LG h m ls) (htot : gi h 641 m = nI tot) (ht : tot < 1500) (k : VP m tot 4 h (vctl sg nm ls 4 a b) Q) : tX11_control m 4 a b h Q := by
  obtain ⟨hm, hl, hlen, hA, hs, hne⟩ := G
  unfold vctl at k
  rw [if_neg (by decide), if_neg (by decide), if_pos (by decide)] at k
  refine wX11_control m 4 a b h Q ?_
  rw [if_neg (by decide), if_neg (by decide), if_neg (by decide), if_neg (by decide), if_pos rfl]
  exact ⟨hm.1, s_block (by decide) ⟨hm, hl, hlen, hA, hs, hne⟩ htot ht (VP_on k)⟩
theorem s_c5 (G : LG h m ls) (k : VP m tot 5 h (vctl sg nm ls 5 a b) Q) : tX11_control m 5 a b h Q := by
  obtain ⟨hm, hl, hlen, hA, hs, hne⟩ := G
  unfold vctl at k
  rw [if_neg (by decide), if_neg (by decide), if_neg (by decide), if_pos rfl] at k
  refine wX11_control m 5 a b h Q ?_
  rw [if_neg (by decide), if_neg (by decide), if_neg (by decide), if_neg (by decide), if_neg (by decide), if_pos rfl]
  exact ⟨hm.1, s_otherwise (by decide) ⟨hm, hl, hlen, hA, hs, hne⟩ (VP_on k)⟩
theorem s_c11 (G : LG h m ls) (k : VP m tot 11 h (vctl sg nm ls 11 a b) Q) : tX11_control m 11 a b h Q := by
  obtain ⟨hm, hl, hlen, hA, hs, hne⟩ := G
  unfold vctl at k
  rw [if_neg (by decide), if_neg (by decide), if_neg (by decide), if_neg (by decide), if_pos rfl] at k
  refine wX11_control m 11 a b h Q ?_
  rw [if_neg (by decide), if_neg (by decide), if_neg (by decide), if_neg (by decide), if_neg (by decide), if_neg (by decide), if_pos rfl]
  exact ⟨hm.1, s_end (by decide) ⟨hm, hl, hlen, hA, hs, hne⟩ (VP_on k)⟩
theorem s_c12 (G : LG h m ls) (k : VP m tot 12 h (vctl sg nm ls 12 a b) Q) : tX11_control m 12 a b h Q := by
  obtain ⟨hm, hl, hlen, hA, hs, hne⟩ := G
  unfold vctl at k
  rw [if_neg (by decide), if_neg (by decide), if_neg (by decide), if_neg (by decide), if_neg (by decide), if_pos rfl] at k
  refine wX11_control m 12 a b h Q ?_
  rw [if_neg (by decide), if_neg (by decide), if_neg (by decide), if_neg (by decide), if_neg (by decide), if_neg (by decide), if_neg (by decide), if_pos rfl]
  obtain ⟨n, hn⟩ : ∃ n, ls.length = n + 1 := ⟨ls.length - 1, by have := List.length_pos_iff.mpr hne; omega⟩
  have hl2 : gi h 653 m = nI (n + 1) := by rw [hl, hn]
  refine ⟨hm.1, s_isLabel hm hl2 (by omega) (rI_of ?_)⟩
  rcases labAt_of (a := a) hn with ⟨l, r, h1, h2, h3⟩ | ⟨h1, h3⟩
  · rw [h1] at k
    rw [if_pos h3, if_neg (by decide)]
    have hsl : SmL l := hs l (List.mem_of_mem_drop (by rw [h2]; exact List.mem_cons_self))
    have hw := wantL_lt hsl
    have ha : nI (nt a) = a := nI_nt h3.1
    have hwants : ∀ Q' : Option TV → Hp → Prop, Q' (some (tI (nI (wantL l)))) h → tX11_wants m a h Q' := by
      intro Q' kk
      have := s_wants (Q := Q') hm hl (by omega) hA h2 hsl kk
      rw [ha] at this
      exact this
    exact ⟨hm.1, hwants _ (rI_of ⟨hm.1, VP_ends (by decide) hm hl (by omega) hA hs hne (by omega) (VP_on2 k)⟩)⟩
  · rw [h1] at k
    rw [if_neg h3, if_pos rfl]
    exact k
theorem s_c13 (G : LG h m ls) (k : VP m tot 13 h (vctl sg nm ls 13 a b) Q) : tX11_control m 13 a b h Q := by
  obtain ⟨hm, hl, hlen, hA, hs, hne⟩ := G
  unfold vctl at k
  rw [if_neg (by decide), if_neg (by decide), if_neg (by decide), if_neg (by decide), if_neg (by decide), if_neg (by decide), if_pos rfl] at k
  refine wX11_control m 13 a b h Q ?_
  rw [if_neg (by decide), if_neg (by decide), if_neg (by decide), if_neg (by decide), if_neg (by decide), if_neg (by decide), if_neg (by decide), if_neg (by decide), if_pos rfl]
  obtain ⟨n, hn⟩ : ∃ n, ls.length = n + 1 := ⟨ls.length - 1, by have := List.length_pos_iff.mpr hne; omega⟩
  have hl2 : gi h 653 m = nI (n + 1) := by rw [hl, hn]
  refine ⟨hm.1, s_isLabel hm hl2 (by omega) (rI_of ?_)⟩
  rcases labAt_of (a := a) hn with ⟨l, r, h1, h2, h3⟩ | ⟨h1, h3⟩
  · rw [h1] at k
    rw [if_pos h3, if_neg (by decide)]
    have hsl : SmL l := hs l (List.mem_of_mem_drop (by rw [h2]; exact List.mem_cons_self))
    have hw := wantL_lt hsl
    have ha : nI (nt a) = a := nI_nt h3.1
    have hwants : ∀ Q' : Option TV → Hp → Prop, Q' (some (tI (nI (wantL l)))) h → tX11_wants m a h Q' := by
      intro Q' kk
      have := s_wants (Q := Q') hm hl (by omega) hA h2 hsl kk
      rw [ha] at this
      exact this
    refine ⟨hm.1, hwants _ (rI_of ⟨hm.1, hwants _ (rI_of ⟨hm.1, ?_⟩)⟩)⟩
    have := VP_turn (t := 1 + wantL l) (p := wantL l) (by decide) hm hl (by omega) hA hs hne (by omega) (VP_on2 k)
    rw [← nJ_add] at this
    exact this
  · rw [h1] at k
    rw [if_neg h3, if_pos rfl]
    exact k
theorem s_c15 (G : LG h m ls) (k : VP m tot 15 h (vctl sg nm ls 15 a b) Q) : tX11_control m 15 a b h Q := by
  obtain ⟨hm, hl, hlen, hA, hs, hne⟩ := G
  unfold vctl at k
  rw [if_neg (by decide), if_neg (by decide), if_neg (by decide), if_neg (by decide), if_neg (by decide), if_neg (by decide), if_neg (by decide), if_pos rfl] at k
  refine wX11_control m 15 a b h Q ?_
  rw [if_neg (by decide), if_neg (by decide), if_neg (by decide), if_neg (by decide), if_neg (by decide), if_neg (by decide), if_neg (by decide), if_neg (by decide), if_neg (by decide), if_neg (by decide), if_pos rfl]
  obtain ⟨hg, hg2⟩ := LG.last ⟨hm, hl, hlen, hA, hs, hne⟩
  refine ⟨hm.1, L_gives (k := 0) hm hm (by decide) ⟨hm.1, ?_⟩⟩
  rw [show (0 : Int32).toNatClampNeg = 0 from rfl, hg]
  exact VP_ends (by decide) hm hl (by omega) hA hs hne (by omega) (VP_on k)
theorem s_c16 (G : LG h m ls) (hsg : SG h m sg nm) (k : VP m tot 16 h (vctl sg nm ls 16 a b) Q) : tX11_control m 16 a b h Q := by
  obtain ⟨hm, hl, hlen, hA, hs, hne⟩ := G
  unfold vctl at k
  rw [if_neg (by decide), if_neg (by decide), if_neg (by decide), if_neg (by decide), if_neg (by decide), if_neg (by decide), if_neg (by decide), if_neg (by decide), if_pos rfl] at k
  refine wX11_control m 16 a b h Q ?_
  rw [if_neg (by decide), if_neg (by decide), if_neg (by decide), if_neg (by decide), if_neg (by decide), if_neg (by decide), if_neg (by decide), if_neg (by decide), if_neg (by decide), if_neg (by decide), if_neg (by decide), if_pos rfl]
  obtain ⟨s1, s2, s3, s4, -⟩ := hsg
  refine ⟨hm.1, ?_⟩
  obtain ⟨n, hn⟩ : ∃ n, sg.length = n + 1 := ⟨sg.length - 1, by omega⟩
  rw [s1, hn, nI_sub1]
  refine s_within (rI_of ?_)
  by_cases c : wi a (nI n)
  · rw [if_pos c, if_neg (by decide)]
    obtain ⟨c1, c2⟩ := (wi_nI (by omega)).mp c
    rw [if_neg c1] at k
    have hlt : nt a < sg.length := by omega
    have hg : sg[nt a]? = some sg[nt a] := List.getElem?_eq_getElem hlt
    rw [hg] at k
    obtain ⟨q1, q2, q3, q4⟩ := s4 _ _ hg
    have ha : nI (nt a) = a := nI_nt c1
    have hr : nt a < 40 := by omega
    have e1 := L_params (k := nt a) (P := fun a_34 => ob h m 10 (dr (gr h 646 m) (fun a_35 => ix h kI a_35 a (ob h m 10 (tX11_turn m (ai h a_34 a.toNatClampNeg) (ai h a_35 a.toNatClampNeg) h (rI (fun x_37 h_36 => (if x_37 = 0 then Q (some (tI 0)) h_36 else Q (some (tI 1)) h_36)))))))) hm hm hr ?_
    · rw [ha] at e1
      exact ⟨hm.1, e1⟩
    · have e2 := L_results (k := nt a) (P := fun a_35 => ob h m 10 (tX11_turn m (ai h (m + 3) a.toNatClampNeg) (ai h a_35 a.toNatClampNeg) h (rI (fun x_37 h_36 => (if x_37 = 0 then Q (some (tI 0)) h_36 else Q (some (tI 1)) h_36))))) hm hm hr ?_
      · rw [ha] at e2
        exact ⟨hm.1, e2⟩
      · refine ⟨hm.1, ?_⟩
        have hc : a.toNatClampNeg = nt a := rfl
        rw [hc, q1, q2]
        exact VP_turn (by decide) hm hl (by omega) hA hs hne (by omega) (VP_on2 k)
  · rw [if_neg c, if_pos rfl]
    by_cases ha : a < 0
    · rw [if_pos ha] at k
      exact k
    · rw [if_neg ha] at k
      have : sg[nt a]? = none := List.getElem?_eq_none (by
        have : ¬ nt a ≤ n := fun q => c ((wi_nI (by omega)).mpr ⟨ha, q⟩)
        omega)
      rw [this] at k
      exact k
theorem s_c17 (G : LG h m ls) (k : VP m tot 17 h (vctl sg nm ls 17 a b) Q) : tX11_control m 17 a b h Q := by
  obtain ⟨hm, hl, hlen, hA, hs, hne⟩ := G
  unfold vctl at k
  rw [if_neg (by decide), if_neg (by decide), if_neg (by decide), if_neg (by decide), if_neg (by decide), if_neg (by decide), if_neg (by decide), if_neg (by decide), if_neg (by decide), if_pos rfl] at k
  refine wX11_control m 17 a b h Q ?_
  rw [if_neg (by decide), if_neg (by decide), if_neg (by decide), if_neg (by decide), if_neg (by decide), if_neg (by decide), if_neg (by decide), if_neg (by decide), if_neg (by decide), if_neg (by decide), if_neg (by decide), if_neg (by decide)]
  refine s_within (rI_of ?_)
  by_cases c1 : wi a 8
  · rw [if_pos c1, if_neg (by decide)]
    refine s_within (rI_of ?_)
    by_cases c2 : wi b 8
    · rw [if_pos c2, if_neg (by decide)]
      rw [if_pos ⟨c1, c2⟩] at k
      have := VP_turn (t := 1 + nt a) (p := nt b) (by decide) hm hl (by omega) hA hs hne (by have := ((wi_nI (d := 8) (by decide)).mp c1).2; omega) (VP_on2 k)
      rw [← nJ_add, nI_nt c1.1, nI_nt c2.1] at this
      exact ⟨hm.1, this⟩
    · rw [if_neg (fun q => c2 q.2)] at k
      rw [if_neg c2, if_pos rfl]
      exact k
  · rw [if_neg (fun q => c1 q.1)] at k
    rw [if_neg c1, if_pos rfl]
    exact k
theorem arP_def {o a : Int32} {nm : Nat} (c26 : ¬ o = 26) (c27 : ¬ o = 27) (c32 : ¬ o = 32) (c33 : ¬ o = 33) (c34 : ¬ o = 34) (c35 : ¬ o = 35) (c36 : ¬ o = 36) (c63 : ¬ o = 63) (c64 : ¬ o = 64) (c65 : ¬ o = 65) (c66 : ¬ o = 66) (c69 : ¬ o = 69) (c70 : ¬ o = 70) (c71 : ¬ o = 71) (c72 : ¬ o = 72) (c73 : ¬ o = 73) (c80 : ¬ o = 80) (c81 : ¬ o = 81) (c83 : ¬ o = 83) (c106 : ¬ o = 106) (c107 : ¬ o = 107) (c108 : ¬ o = 108) (c110 : ¬ o = 110) (c113 : ¬ o = 113) (c116 : ¬ o = 116) (c124 : ¬ o = 124) (c125 : ¬ o = 125) (c126 : ¬ o = 126) (c167 : ¬ o = 167) (c173 : ¬ o = 173) : arP o a nm = if ¬ o < 40 ∧ o < 54 then some (1, 1) else if ¬ o < 54 ∧ o < 63 then some (2, 0) else none := by
  unfold arP
  rw [if_neg c26, if_neg c27, if_neg c32, if_neg c33, if_neg c34, if_neg c35, if_neg c36, if_neg (fun q => by rcases q with q | q | q; exact c63 q; exact c65 q; exact c66 q), if_neg (fun q => by rcases q with q | q | q | q | q; exact c64 q; exact c69 q; exact c80 q; exact c167 q; exact c173 q), if_neg (fun q => by rcases q with q | q | q | q | q | q | q | q | q | q | q | q | q | q | q; exact c70 q; exact c71 q; exact c72 q; exact c73 q; exact c81 q; exact c83 q; exact c106 q; exact c107 q; exact c108 q; exact c110 q; exact c113 q; exact c116 q; exact c124 q; exact c125 q; exact c126 q)]
theorem wi_sub {o x y z : Int32} (ho : ¬ o < 7) (hx : 0 ≤ x.toInt ∧ x.toInt ≤ 100) (hy : 0 ≤ y.toInt ∧ y.toInt ≤ 100) (hz : z.toInt = x.toInt + y.toInt + 1) : wi (o - x) y ↔ ¬ o < x ∧ o < z := by
  have h1 : 7 ≤ o.toInt := by
    have := Int32.not_lt.mp ho
    rw [Int32.le_iff_toInt_le] at this
    exact this
  have h2 : o.toInt < 2 ^ 31 := Int32.toInt_lt o
  have h3 : (o - x).toInt = o.toInt - x.toInt := by
    rw [Int32.toInt_sub]
    exact Int.bmod_eq_of_le (by omega) (by omega)
  unfold wi
  rw [Int32.lt_iff_toInt_lt, Int32.lt_iff_toInt_lt, Int32.lt_iff_toInt_lt, Int32.lt_iff_toInt_lt, h3, Int32.toInt_zero, hz]
  omega
theorem s_plain {o : Int32} (ho : ¬ o < 7) (hb : isBg o = false) (G : LG h m ls) (hsg : SG h m sg nm) (k : VP m tot o h (match arP o a nm with
    | some q => turnV ls q.1 q.2
    | none => none) Q) : tX11_plain m o a h Q := by
  obtain ⟨hm, hl, hlen, hA, hs, hne⟩ := G
  obtain ⟨s1, s2, s3, s4, l, s5, s6, s7⟩ := hsg
  have hlt : sg.length - 1 < sg.length := by omega
  have hg : sg[sg.length - 1]? = some sg[sg.length - 1] := List.getElem?_eq_getElem hlt
  obtain ⟨q1, -, q3, -⟩ := s4 _ _ hg
  have hnm := s7 _ hg
  have h640 : gi h 640 m - 1 = nI (sg.length - 1) := by rw [s1, show sg.length = (sg.length - 1) + 1 by omega, nI_sub1]; congr 1
  have hr : sg.length - 1 < 40 := by omega
  refine wX11_plain m o a h Q ⟨hm.1, hm.1, ?_⟩
  rw [h640]
  refine L_params hm hm hr ⟨hm.1, hm.1, L_locals hm hm hr ?_⟩
  rw [nck (by omega), q1, s5, nJ_add, ← hnm]
  have tn : ∀ (t p : Nat), t < 2147483648 → ∀ Q' : Option TV → Hp → Prop, VP m tot o h (turnV ls t p) Q' → ob h m 10 (tX11_turn m (nI t) (nI p) h Q') := fun t p ht Q' kk => ⟨hm.1, VP_turn hb hm hl (by omega) hA hs hne ht kk⟩
  by_cases c26 : o = 26
  · rw [if_pos c26]
    have e : arP o a nm = some (1, 0) := by rw [c26]; rfl
    rw [e] at k
    exact tn 1 0 (by decide) _ (VP_on k)
  rw [if_neg c26]
  by_cases c27 : o = 27
  · rw [if_pos c27]
    have e : arP o a nm = some (3, 1) := by rw [c27]; rfl
    rw [e] at k
    exact tn 3 1 (by decide) _ (VP_on k)
  rw [if_neg c27]
  by_cases c32 : o = 32
  · rw [if_pos c32]
    have e : arP o a nm = if a < 0 ∨ nm ≤ nt a then none else some (0, 1) := by rw [c32]; rfl
    rw [e] at k
    have hwi : wi a (nI nm - 1) ↔ ¬ (a < 0 ∨ nm ≤ nt a) := by
      cases hz : nm with
      | zero =>
        constructor
        · intro q
          exfalso
          have h1 := q.2
          rw [show nI 0 - 1 = (-1 : Int32) from rfl] at h1
          have h2 := q.1
          rw [Int32.lt_iff_toInt_lt] at h1 h2
          rw [Int32.toInt_zero] at h2
          rw [show (-1 : Int32).toInt = -1 from rfl] at h1
          omega
        · intro q
          exact absurd (Or.inr (Nat.zero_le _)) q
      | succ z =>
        rw [nI_sub1, wi_nI (by omega)]
        constructor
        · intro q w
          rcases w with w | w
          · exact q.1 w
          · omega
        · intro q
          exact ⟨fun w => q (Or.inl w), Nat.le_of_not_lt fun w => q (Or.inr (by omega))⟩
    refine s_within (rI_of ?_)
    by_cases cw : wi a (nI nm - 1)
    · rw [if_pos cw, if_neg (by decide)]
      rw [if_neg (hwi.mp cw)] at k
      exact tn 0 1 (by decide) _ (VP_on2 k)
    · rw [if_neg cw, if_pos rfl]
      rw [if_pos (Classical.byContradiction fun q => cw (hwi.mpr q))] at k
      exact k
  rw [if_neg c32]
  by_cases c33 : o = 33
  · rw [if_pos c33]
    have e : arP o a nm = if a < 0 ∨ nm ≤ nt a then none else some (1, 0) := by rw [c33]; rfl
    rw [e] at k
    have hwi : wi a (nI nm - 1) ↔ ¬ (a < 0 ∨ nm ≤ nt a) := by
      cases hz : nm with
      | zero =>
        constructor
        · intro q
          exfalso
          have h1 := q.2
          rw [show nI 0 - 1 = (-1 : Int32) from rfl] at h1
          have h2 := q.1
          rw [Int32.lt_iff_toInt_lt] at h1 h2
          rw [Int32.toInt_zero] at h2
          rw [show (-1 : Int32).toInt = -1 from rfl] at h1
          omega
        · intro q
          exact absurd (Or.inr (Nat.zero_le _)) q
      | succ z =>
        rw [nI_sub1, wi_nI (by omega)]
        constructor
        · intro q w
          rcases w with w | w
          · exact q.1 w
          · omega
        · intro q
          exact ⟨fun w => q (Or.inl w), Nat.le_of_not_lt fun w => q (Or.inr (by omega))⟩
    refine s_within (rI_of ?_)
    by_cases cw : wi a (nI nm - 1)
    · rw [if_pos cw, if_neg (by decide)]
      rw [if_neg (hwi.mp cw)] at k
      exact tn 1 0 (by decide) _ (VP_on2 k)
    · rw [if_neg cw, if_pos rfl]
      rw [if_pos (Classical.byContradiction fun q => cw (hwi.mpr q))] at k
      exact k
  rw [if_neg c33]
  by_cases c34 : o = 34
  · rw [if_pos c34]
    have e : arP o a nm = if a < 0 ∨ nm ≤ nt a then none else some (1, 1) := by rw [c34]; rfl
    rw [e] at k
    have hwi : wi a (nI nm - 1) ↔ ¬ (a < 0 ∨ nm ≤ nt a) := by
      cases hz : nm with
      | zero =>
        constructor
        · intro q
          exfalso
          have h1 := q.2
          rw [show nI 0 - 1 = (-1 : Int32) from rfl] at h1
          have h2 := q.1
          rw [Int32.lt_iff_toInt_lt] at h1 h2
          rw [Int32.toInt_zero] at h2
          rw [show (-1 : Int32).toInt = -1 from rfl] at h1
          omega
        · intro q
          exact absurd (Or.inr (Nat.zero_le _)) q
      | succ z =>
        rw [nI_sub1, wi_nI (by omega)]
        constructor
        · intro q w
          rcases w with w | w
          · exact q.1 w
          · omega
        · intro q
          exact ⟨fun w => q (Or.inl w), Nat.le_of_not_lt fun w => q (Or.inr (by omega))⟩
    refine s_within (rI_of ?_)
    by_cases cw : wi a (nI nm - 1)
    · rw [if_pos cw, if_neg (by decide)]
      rw [if_neg (hwi.mp cw)] at k
      exact tn 1 1 (by decide) _ (VP_on2 k)
    · rw [if_neg cw, if_pos rfl]
      rw [if_pos (Classical.byContradiction fun q => cw (hwi.mpr q))] at k
      exact k
  rw [if_neg c34]
  by_cases c35 : o = 35
  · rw [if_pos c35]
    have e : arP o a nm = if wi a 7 then some (0, 1) else none := by rw [c35]; rfl
    rw [e] at k
    refine s_within (rI_of ?_)
    by_cases cw : wi a 7
    · rw [if_pos cw, if_neg (by decide)]
      rw [if_pos cw] at k
      exact tn 0 1 (by decide) _ (VP_on2 k)
    · rw [if_neg cw, if_pos rfl]
      rw [if_neg cw] at k
      exact k
  rw [if_neg c35]
  by_cases c36 : o = 36
  · rw [if_pos c36]
    have e : arP o a nm = if wi a 7 then some (1, 0) else none := by rw [c36]; rfl
    rw [e] at k
    refine s_within (rI_of ?_)
    by_cases cw : wi a 7
    · rw [if_pos cw, if_neg (by decide)]
      rw [if_pos cw] at k
      exact tn 1 0 (by decide) _ (VP_on2 k)
    · rw [if_neg cw, if_pos rfl]
      rw [if_neg cw] at k
      exact k
  rw [if_neg c36]
  by_cases c63 : o = 63
  · rw [if_pos c63]
    have e : arP o a nm = some (0, 1) := by rw [c63]; rfl
    rw [e] at k
    exact tn 0 1 (by decide) _ (VP_on k)
  rw [if_neg c63]
  by_cases c64 : o = 64
  · rw [if_pos c64]
    have e : arP o a nm = some (1, 1) := by rw [c64]; rfl
    rw [e] at k
    exact tn 1 1 (by decide) _ (VP_on k)
  rw [if_neg c64]
  by_cases c65 : o = 65
  · rw [if_pos c65]
    have e : arP o a nm = some (0, 1) := by rw [c65]; rfl
    rw [e] at k
    exact tn 0 1 (by decide) _ (VP_on k)
  rw [if_neg c65]
  by_cases c66 : o = 66
  · rw [if_pos c66]
    have e : arP o a nm = some (0, 1) := by rw [c66]; rfl
    rw [e] at k
    exact tn 0 1 (by decide) _ (VP_on k)
  rw [if_neg c66]
  by_cases c69 : o = 69
  · rw [if_pos c69]
    have e : arP o a nm = some (1, 1) := by rw [c69]; rfl
    rw [e] at k
    exact tn 1 1 (by decide) _ (VP_on k)
  rw [if_neg c69]
  by_cases c70 : o = 70
  · rw [if_pos c70]
    have e : arP o a nm = some (2, 1) := by rw [c70]; rfl
    rw [e] at k
    exact tn 2 1 (by decide) _ (VP_on k)
  rw [if_neg c70]
  by_cases c71 : o = 71
  · rw [if_pos c71]
    have e : arP o a nm = some (2, 1) := by rw [c71]; rfl
    rw [e] at k
    exact tn 2 1 (by decide) _ (VP_on k)
  rw [if_neg c71]
  by_cases c72 : o = 72
  · rw [if_pos c72]
    have e : arP o a nm = some (2, 1) := by rw [c72]; rfl
    rw [e] at k
    exact tn 2 1 (by decide) _ (VP_on k)
  rw [if_neg c72]
  by_cases c73 : o = 73
  · rw [if_pos c73]
    have e : arP o a nm = some (2, 1) := by rw [c73]; rfl
    rw [e] at k
    exact tn 2 1 (by decide) _ (VP_on k)
  rw [if_neg c73]
  by_cases c80 : o = 80
  · rw [if_pos c80]
    have e : arP o a nm = some (1, 1) := by rw [c80]; rfl
    rw [e] at k
    exact tn 1 1 (by decide) _ (VP_on k)
  rw [if_neg c80]
  by_cases c81 : o = 81
  · rw [if_pos c81]
    have e : arP o a nm = some (2, 1) := by rw [c81]; rfl
    rw [e] at k
    exact tn 2 1 (by decide) _ (VP_on k)
  rw [if_neg c81]
  by_cases c83 : o = 83
  · rw [if_pos c83]
    have e : arP o a nm = some (2, 1) := by rw [c83]; rfl
    rw [e] at k
    exact tn 2 1 (by decide) _ (VP_on k)
  rw [if_neg c83]
  by_cases c106 : o = 106
  · rw [if_pos c106]
    have e : arP o a nm = some (2, 1) := by rw [c106]; rfl
    rw [e] at k
    exact tn 2 1 (by decide) _ (VP_on k)
  rw [if_neg c106]
  by_cases c107 : o = 107
  · rw [if_pos c107]
    have e : arP o a nm = some (2, 1) := by rw [c107]; rfl
    rw [e] at k
    exact tn 2 1 (by decide) _ (VP_on k)
  rw [if_neg c107]
  by_cases c108 : o = 108
  · rw [if_pos c108]
    have e : arP o a nm = some (2, 1) := by rw [c108]; rfl
    rw [e] at k
    exact tn 2 1 (by decide) _ (VP_on k)
  rw [if_neg c108]
  by_cases c110 : o = 110
  · rw [if_pos c110]
    have e : arP o a nm = some (2, 1) := by rw [c110]; rfl
    rw [e] at k
    exact tn 2 1 (by decide) _ (VP_on k)
  rw [if_neg c110]
  by_cases c113 : o = 113
  · rw [if_pos c113]
    have e : arP o a nm = some (2, 1) := by rw [c113]; rfl
    rw [e] at k
    exact tn 2 1 (by decide) _ (VP_on k)
  rw [if_neg c113]
  by_cases c116 : o = 116
  · rw [if_pos c116]
    have e : arP o a nm = some (2, 1) := by rw [c116]; rfl
    rw [e] at k
    exact tn 2 1 (by decide) _ (VP_on k)
  rw [if_neg c116]
  by_cases c124 : o = 124
  · rw [if_pos c124]
    have e : arP o a nm = some (2, 1) := by rw [c124]; rfl
    rw [e] at k
    exact tn 2 1 (by decide) _ (VP_on k)
  rw [if_neg c124]
  by_cases c125 : o = 125
  · rw [if_pos c125]
    have e : arP o a nm = some (2, 1) := by rw [c125]; rfl
    rw [e] at k
    exact tn 2 1 (by decide) _ (VP_on k)
  rw [if_neg c125]
  by_cases c126 : o = 126
  · rw [if_pos c126]
    have e : arP o a nm = some (2, 1) := by rw [c126]; rfl
    rw [e] at k
    exact tn 2 1 (by decide) _ (VP_on k)
  rw [if_neg c126]
  by_cases c167 : o = 167
  · rw [if_pos c167]
    have e : arP o a nm = some (1, 1) := by rw [c167]; rfl
    rw [e] at k
    exact tn 1 1 (by decide) _ (VP_on k)
  rw [if_neg c167]
  by_cases c173 : o = 173
  · rw [if_pos c173]
    have e : arP o a nm = some (1, 1) := by rw [c173]; rfl
    rw [e] at k
    exact tn 1 1 (by decide) _ (VP_on k)
  rw [if_neg c173]
  rw [arP_def c26 c27 c32 c33 c34 c35 c36 c63 c64 c65 c66 c69 c70 c71 c72 c73 c80 c81 c83 c106 c107 c108 c110 c113 c116 c124 c125 c126 c167 c173] at k
  have w40 : wi (o - 40) 13 ↔ ¬ o < 40 ∧ o < 54 := wi_sub ho (by decide) (by decide) (by decide)
  have w54 : wi (o - 54) 8 ↔ ¬ o < 54 ∧ o < 63 := wi_sub ho (by decide) (by decide) (by decide)
  refine s_within (rI_of ?_)
  by_cases d1 : wi (o - 40) 13
  · rw [if_pos d1, if_neg (by decide)]
    rw [if_pos (w40.mp d1)] at k
    exact tn 1 1 (by decide) _ (VP_on k)
  · rw [if_neg d1, if_pos rfl]
    rw [if_neg (fun q => d1 (w40.mpr q))] at k
    refine s_within (rI_of ?_)
    by_cases d2 : wi (o - 54) 8
    · rw [if_pos d2, if_neg (by decide)]
      rw [if_pos (w54.mp d2)] at k
      exact tn 2 0 (by decide) _ (VP_on2 k)
    · rw [if_neg d2, if_pos rfl]
      rw [if_neg (fun q => d2 (w54.mpr q))] at k
      exact k
end ML
