/-! THE CLASS RUNS, 6: control -/
theorem CRW.ii {x ia : Nat} {h h' : Hp} (w : CRW x h h') (hi : x + 41 < ia) : tg h' ia = tg h ia ∧ (∀ f, gi h' f ia = gi h f ia) ∧ ∀ f, gr h' f ia = gr h f ia := ⟨by rw [w.1], fun f => w.2.2.2.2.2.1 f ia (by omega), fun f => w.2.2.2.2.2.2.1 f ia (by omega)⟩
theorem lbP {P : List Fn} {f : Nat} {gf : Fn} (hw : Wh (sgs (P.take (f + 1))) (fP gf + fL gf) (fR gf) (fC gf)) {i k : Nat} (hA : At (sgs (P.take (f + 1))) (fP gf + fL gf) (fR gf) (fC gf) i k) {vv : VS} (hv : vat (sgs (P.take (f + 1))) (fP gf + fL gf) (fR gf) (fC gf) i = some vv) {j : Nat} {lb : Lb} (hj : vv.1[j]? = some lb) : hT lb = hgtP P f gf (ps (fC gf) i)[j]? ∧ wantL lb = wntP gf (ps (fC gf) i)[j]? := by
  have hvl : vv.1 ≠ [] := fun z => by rw [z] at hj; cases hj
  cases hpl : (ps (fC gf) i)[j]? with
  | none =>
    have hjn : (ps (fC gf) i).length ≤ j := by simpa using hpl
    have hvlen := vat_len hv hvl
    have hjl : j < vv.1.length := (List.getElem?_eq_some_iff.mp hj).1
    have hje : j = (ps (fC gf) i).length := by omega
    obtain ⟨lb2, hj2, hz, hwt⟩ := lastLb hv hvl
    rw [← hje, hj] at hj2
    cases hj2
    exact ⟨hz, hwt⟩
  | some pl =>
    obtain ⟨T, t1, t2, t3, t4, t5, t6, ⟨vp, l0, q0, t7, t8, t9⟩, t10, t11⟩ := hA.brT hw hv hj hpl
    constructor
    · unfold hgtP
      dsimp only
      have t7' : vk P f gf (pl + 1) = some vp := t7
      rw [t7']
      dsimp only
      rw [t8]
      exact t9.symm
    · unfold wntP
      dsimp only
      by_cases c3 : oA (fC gf) pl = 3
      · rw [if_pos c3]; exact (t5 c3).2
      · rw [if_neg c3]; exact (t6 c3).1
def KXc (P : List Fn) (fp : Nat → Nat) (ip : Nat → Nat → Nat) (x : Nat) (h0 : Hp) (w : Wd) (Q : Option TV → Hp → Prop) (z : Int32 ⊕ (List Fm × Wd)) : Prop := match z with
  | .inl c => if c = 0 then (∀ h', CSt x h0 h' 4 (gi h0 328 (x + 3)) w → Q none h') else ∀ h', CSt x h0 h' 3 c w → Q none h'
  | .inr y => ∀ h', RCv P fp ip x h0 h' y.1 y.2 → Q none h'
theorem arP_26 {o a : Int32} {nm : Nat} {q : Nat × Nat} (h : arP o a nm = some q) : ¬ o < 26 := by
  intro ho
  rcases arP_cases h with ⟨rfl, -⟩ | ⟨rfl, -⟩ | ⟨rfl, -⟩ | ⟨rfl, -⟩ | ⟨rfl, -⟩ | ⟨rfl, -⟩ | ⟨rfl, -⟩ | ⟨hc, -⟩ | ⟨hc, -⟩ | ⟨hc, -⟩ | ⟨⟨hc, -⟩, -⟩ | ⟨⟨hc, -⟩, -⟩
  · exact absurd ho (by decide)
  · exact absurd ho (by decide)
  · exact absurd ho (by decide)
  · exact absurd ho (by decide)
  · exact absurd ho (by decide)
  · exact absurd ho (by decide)
  · exact absurd ho (by decide)
  · rcases hc with rfl | rfl | rfl <;> exact absurd ho (by decide)
  · rcases hc with rfl | rfl | rfl | rfl | rfl <;> exact absurd ho (by decide)
  · rcases hc with rfl | rfl | rfl | rfl | rfl | rfl | rfl | rfl | rfl | rfl | rfl | rfl | rfl | rfl | rfl <;> exact absurd ho (by decide)
  · exact hc (Int32.lt_trans ho (by decide))
  · exact hc (Int32.lt_trans ho (by decide))
theorem KXc.rv {P : List Fn} {fp : Nat → Nat} {ip : Nat → Nat → Nat} {x : Nat} {h0 : Hp} {w : Wd} {Q : Option TV → Hp → Prop} {z : Int32 ⊕ (List Fm × Wd)} (K : KXc P fp ip x h0 w Q z) : KXc P fp ip x h0 w (rV (fun h1 => Q none h1)) z := by
  cases z with
  | inl c =>
    unfold KXc at K ⊢
    dsimp only at K ⊢
    by_cases e : c = 0
    · rw [if_pos e] at K ⊢
      exact fun h' H' => rV_of (K h' H')
    · rw [if_neg e] at K ⊢
      exact fun h' H' => rV_of (K h' H')
  | inr y => exact fun h' H' => rV_of (K h' H')
section RR
variable {P : List Fn} {fp : Nat → Nat} {ip : Nat → Nat → Nat} {x a0 : Nat} {h0 h : Hp} {fr r : List Fm} {w : Wd} {n p f b i : Nat} {q : Option Nat} {v : VV} {bb : Nat → Int32} {g : VV} {gf : Fn} {Q : Option TV → Hp → Prop} {tb : Nat → Option Nat}
theorem c_branch (hc : CS h0 x) (hP : CP h0 x fp ip P) (H : RCv P fp ip x h0 h ((f, b, q) :: r) (n, v, p, bb, g)) (h30 : r.length < 30) (hg : P[f]? = some gf) {ia H1 W1 : Nat} {T : Option Nat} (hia : x + 41 < ia) (i1 : tg h0 ia = some (.inl 3)) (i2 : gr h0 199 ia = T.map (ip f)) (i3 : gi h0 200 ia = nI W1) (i4 : gi h0 201 ia = nI H1) (hn : n ≤ 220) (hle : b + (fP gf + fL gf) + H1 + W1 ≤ n) (k : ∀ h', RCv P fp ip x h0 h' ((f, b, T) :: r) (b + (fP gf + fL gf) + H1 + W1, kp v (n - W1) (b + (fP gf + fL gf) + H1) W1, p, bb, g) → Q none h') : tX5_branch (x + 3) (some (x + 11 + r.length)) (some ia) h Q := by
  have c := H.cs hc
  have cp := H.1.cp hP
  obtain ⟨⟨f1, f2, f3, f4, f5, -⟩, -⟩ := cp f gf hg
  obtain ⟨cf1, -⟩ := c.fr r.length h30
  obtain ⟨j1, j2, j3⟩ := H.1.ii hia
  have fq : gr h 64 (x + 11 + r.length) = some (fp f) := H.2.2.2.2.2.2.2.2.1
  have fb : gi h 65 (x + 11 + r.length) = nI b := H.2.2.2.2.2.2.2.2.2.1
  refine wX5_branch (x + 3) _ _ h Q ⟨c.t5, dr_of rfl ⟨j1.trans i1, dr_of rfl ⟨cf1, wX1_operandsFrom _ h _ ⟨cf1, ?_⟩⟩⟩⟩
  rw [if_neg (by rw [fq]; exact Option.some_ne_none _)]
  refine ⟨cf1, cf1, dr_of fq ⟨f1, rI_of ?_⟩⟩
  rw [fb, f5, nJ_add]
  refine dr_of rfl ⟨j1.trans i1, dr_of c.r324 ⟨c.t8, ?_⟩⟩
  rw [j2, j2, i3, i4, nJ_add]
  refine c_keep hc H hn (by omega) (by omega) (fun h6 H6 => rV_of ?_)
  have c6 := H6.cs hc
  obtain ⟨m1, m2, m3⟩ := H6.1.ii hia
  obtain ⟨cf6, -⟩ := c6.fr r.length h30
  refine dr_of rfl ⟨m1.trans i1, dr_of rfl ⟨cf6, fun h10 e10 => k h10 ?_⟩⟩
  rw [e10, m3, i2]
  exact H6.setp h30 T
theorem c_br (hc : CS h0 x) (hP : CP h0 x fp ip P) (hw : Wh (sgs (P.take (f + 1))) (fP gf + fL gf) (fR gf) (fC gf)) {kk : Nat} (hA : At (sgs (P.take (f + 1))) (fP gf + fL gf) (fR gf) (fC gf) i kk) (H : RCv P fp ip x h0 h ((f, b, q) :: r) (n, v, p, bb, g)) (h30 : r.length < 30) (hg : P[f]? = some gf) {i' j : Nat} {vv : VS} {lb : Lb} (hi' : i' < (fC gf).length) (ho : oA (fC gf) i' = 12 ∨ oA (fC gf) i' = 13 ∨ oA (fC gf) i' = 15 ∨ oA (fC gf) i' = 6) (hps : ps (fC gf) i' = ps (fC gf) i) (hjo : jOf gf i' = j) (hv : vat (sgs (P.take (f + 1))) (fP gf + fL gf) (fR gf) (fC gf) i = some vv) (hj : vv.1[j]? = some lb) (hn : n ≤ 220) (hle : b + (fP gf + fL gf) + hT lb + wantL lb ≤ n) (k : ∀ h', RCv P fp ip x h0 h' ((f, b, tgt (fC gf) (ps (fC gf) i)[j]?) :: r) (b + (fP gf + fL gf) + hT lb + wantL lb, kp v (n - wantL lb) (b + (fP gf + fL gf) + hT lb) (wantL lb), p, bb, g) → Q none h') : tX5_branch (x + 3) (some (x + 11 + r.length)) (some (ip f i')) h Q := by
  obtain ⟨⟨-, -, -, -, -, -, -, -, c9⟩, -, c11⟩ := hP f gf hg
  obtain ⟨d1, -, -, -, -, -, d7, -⟩ := c9 i' hi'
  obtain ⟨e1, e2, e3⟩ := d7 ho
  rw [hps, hjo] at e1 e2 e3
  obtain ⟨l1, l2⟩ := lbP hw hA hv hj
  rw [← l2] at e2
  rw [← l1] at e3
  exact c_branch hc hP H h30 hg (c11 i' hi') d1 e1 e2 e3 hn hle k
theorem c_chosen32 (hg : P[f]? = some gf) (hP : CP h x fp ip P) {A L : Nat} (hA : aA (fC gf) i = nI A) (hA20 : A ≤ 20) (hL : L < 4294967296) (hi : i < (fC gf).length) (hall : ∀ j, j ≤ A → i + 1 + j < (fC gf).length ∧ oA (fC gf) (i + 1 + j) = 6) (k : Q (some (tR (some (ip f (i + 1 + min L A))))) h) : ∀ (t j : Nat), t = min L A - j → j ≤ min L A → tX5_chosenEntry_32 a0 (some (ip f i)) (jN L) (some (ip f (i + 1 + j))) (nI j) h Q := by
  obtain ⟨⟨-, -, -, -, -, -, -, -, c9⟩, -⟩ := hP f gf hg
  obtain ⟨d1, -, d3, -⟩ := c9 i hi
  intro t
  induction t with
  | zero =>
    intro j ht hj
    have e : j = min L A := by omega
    have k' : Q (some (tR (some (ip f (i + 1 + j))))) h := by rw [e]; exact k
    refine wX5_chosenEntry_32 a0 _ _ _ _ h Q (dr_of rfl ⟨d1, ?_⟩)
    rw [d3, hA]
    by_cases c1 : j < A
    · rw [if_pos (nI_lt c1 (by omega)), nI_to64 (by omega), if_neg (fun z => by
        have := (jN_lt (by omega) (by omega)).mp z
        omega)]
      exact k'
    · rw [if_neg (nI_nlt (by omega) (by omega))]
      exact k'
  | succ t ih =>
    intro j ht hj
    refine wX5_chosenEntry_32 a0 _ _ _ _ h Q (dr_of rfl ⟨d1, ?_⟩)
    rw [d3, hA, if_pos (nI_lt (by omega) (by omega)), nI_to64 (by omega), if_pos ((jN_lt (by omega) (by omega)).mpr (by omega))]
    obtain ⟨a1, -⟩ := hall j (by omega)
    obtain ⟨b1, b2⟩ := hall (j + 1) (by omega)
    obtain ⟨e1, -, -, -, e5, -⟩ := c9 (i + 1 + j) a1
    have es : gr h 198 (ip f (i + 1 + j)) = some (ip f (i + 1 + (j + 1))) := by
      rw [e5, show i + 1 + j + 1 = i + 1 + (j + 1) by omega, settle_step b1 (by rw [b2]; unfold isStep; decide)]
      rfl
    refine dr_of rfl ⟨e1, ?_⟩
    rw [if_neg (by rw [es]; exact Option.some_ne_none _)]
    refine dr_of rfl ⟨e1, ?_⟩
    rw [es, ← nI_succ]
    exact ih (j + 1) (by omega) (by omega)
theorem c_enX (hc : CS h0 x) (hP : CP h0 x fp ip P) (hW : WhP P) (hM : ∀ f, askN P f < 1000000) (H : RCv P fp ip x h0 h ((f, b, q) :: r) (n, v, p, bb, g)) (h30 : r.length + 1 ≤ 30) (h220 : askN P f + askF P r ≤ 220) (hn : n ≤ askN P f + askF P r) {f2 : Nat} {g2 : Fn} (hg2 : P[f2]? = some g2) (hp2 : fP g2 ≤ n) {w9 : Wd} (h9 : w9.2.2 = (p, bb, g)) (K : KXc P fp ip x h0 w9 Q (enA P f2 ((f, b, q) :: r) (n, v, p, bb, g))) : tX5_enter (x + 3) (some (fp f2)) h Q := by
  have ha2 := askN_some hg2
  refine c_enter hc hP H (by simpa using h30) h220 hg2 (hM f2) hp2 (fun hno => ?_) ?_
  · have h1 : ¬ 220 < askN P f + askF P r + askN P f2 := fun z => hno (Or.inr z)
    omega
  · cases he : enA P f2 ((f, b, q) :: r) (n, v, p, bb, g) with
    | inl c =>
      rw [he] at K
      have hcz : c = 0 := by
        unfold enA at he
        rw [hg2] at he
        dsimp only at he
        split at he
        · cases he; rfl
        · cases he
      subst hcz
      have K : ∀ h', CSt x h0 h' 4 (gi h0 328 (x + 3)) w9 → Q none h' := K
      intro h' H'
      refine K h' ?_
      obtain ⟨y1, y2, y3, y4, y5⟩ := H'
      refine ⟨y1, y2, y3, y4, ?_⟩
      unfold PC at y5 ⊢
      rw [h9]
      exact y5
    | inr y =>
      rw [he] at K
      exact K
theorem c_control (hc : CS h0 x) (hP : CP h0 x fp ip P) (hW : WhP P) (hT : ∀ j f2, tb j = some f2 → f2 < P.length) (hTB : ∀ j, j < 30 → aq h0 (x + 4) j = (tb j).map fp) (hM : ∀ f, askN P f < 1000000) (hO : OKR P ((f, b, some i) :: r) (n, v, p, bb, g)) (hg : P[f]? = some gf) (H : RCv P fp ip x h0 h ((f, b, settle (fC gf) (i + 1)) :: r) (n, v, p, bb, g)) (ho : oA (fC gf) i < 26) (K : KXc P fp ip x h0 (n, v, p, bb, g) Q (stA P tb f b i r (n, v, p, bb, g))) : tX5_control (x + 3) (some (x + 11 + r.length)) (some (ip f i)) h Q := by
  obtain ⟨gf', k, hg', hn, hk, hA, hs, hr0, hr, h4, h5, h30⟩ := hO.top
  rw [hg] at hg'
  cases hg'
  have hn : n = b + (fP gf + fL gf) + k := hn
  have hnb : n ≤ askN P f + askF P r := hO.1.bound (List.cons_ne_nil _ _)
  have hw := (hW f gf hg).1
  have hi := hA.lt hw
  have hask := askN_some hg
  have hn220 : n ≤ 220 := by omega
  have c := H.cs hc
  have cp := H.1.cp hP
  obtain ⟨⟨-, -, -, -, -, -, -, -, c9⟩, -, c11⟩ := cp f gf hg
  have hia := c11 i hi
  obtain ⟨d1, d2, d3, d4, d5, d6, d7, d8⟩ := c9 i hi
  obtain ⟨cf1, -⟩ := c.fr r.length (by omega)
  unfold stA at K
  rw [hg] at K
  dsimp only at K
  refine wX5_control (x + 3) _ _ h Q (dr_of rfl ⟨d1, ?_⟩)
  rw [d2]
  by_cases c0 : oA (fC gf) i = 0
  · rw [if_pos c0] at K ⊢
    have K : ∀ h', CSt x h0 h' 3 1 (n, v, p, bb, g) → Q none h' := K
    exact ⟨c.t5, c_trap hc H (fun h' H' => rV_of (K h' H'))⟩
  rw [if_neg c0] at K ⊢
  by_cases c4 : oA (fC gf) i = 4
  · rw [if_pos c4] at K ⊢
    obtain ⟨k1, -⟩ := hA.iff hw c4
    obtain ⟨n0, rfl⟩ : ∃ n0, n = n0 + 1 := ⟨n - 1, by omega⟩
    have K : ∀ h', RCv P fp ip x h0 h' ((f, b, if low (v n0) = 0 then elG (fC gf) i else settle (fC gf) (i + 1)) :: r) (n0, v, p, bb, g) → Q none h' := K
    refine ⟨c.t5, c_popd hc H (by omega) (fun h1 H1 => c_isTrue (rI_of ?_))⟩
    by_cases cz : low (v n0) = 0
    · rw [if_pos cz] at K
      rw [if_pos (by rw [if_pos cz])]
      obtain ⟨m1, m2, m3⟩ := H1.1.ii hia
      obtain ⟨o1, o2, o3⟩ := H.1.ii hia
      obtain ⟨cf6, -⟩ := (H1.cs hc).fr r.length (by omega)
      refine dr_of rfl ⟨by rw [m1, ← o1]; exact d1, dr_of rfl ⟨cf6, fun h10 q10 => K h10 ?_⟩⟩
      rw [q10, m3, ← o3, d6 c4]
      exact H1.setp (by omega) _
    · rw [if_neg cz] at K
      rw [if_neg (by rw [if_neg cz]; decide)]
      exact K h1 H1
  rw [if_neg c4] at K ⊢
  by_cases c12 : oA (fC gf) i = 12
  · rw [if_pos c12] at K ⊢
    obtain ⟨vv, lb, hv, ha, hj, hle⟩ := hA.b12 hw c12
    obtain ⟨y2, ey1, -, ey2⟩ := brA_ok hW hO hg hA hv hj hle (n, v, p, bb, g) rfl
    rw [ey1, ey2] at K
    exact ⟨c.t5, c_br hc hP hw hA H (by omega) hg hi (Or.inl c12) rfl (by unfold jOf; rw [c12, if_neg (by decide)]) hv hj hn220 (by omega) (fun h' H' => rV_of (K h' H'))⟩
  rw [if_neg c12] at K ⊢
  by_cases c13 : oA (fC gf) i = 13
  · rw [if_pos c13] at K ⊢
    obtain ⟨vv, lb, hv, ha, hj, hle, hA2⟩ := hA.b13 hw c13
    obtain ⟨n0, rfl⟩ : ∃ n0, n = n0 + 1 := ⟨n - 1, by omega⟩
    have K : KXc P fp ip x h0 (n0 + 1, v, p, bb, g) Q (if low (v n0) = 0 then .inr ((f, b, settle (fC gf) (i + 1)) :: r, (n0, v, p, bb, g)) else brA P f b gf i (nt (aA (fC gf) i)) r (n0, v, p, bb, g)) := K
    refine ⟨c.t5, c_popd hc H (by omega) (fun h1 H1 => c_isTrue (rI_of ?_))⟩
    by_cases cz : low (v n0) = 0
    · rw [if_pos cz] at K
      rw [if_pos (by rw [if_pos cz])]
      exact K h1 H1
    · rw [if_neg cz] at K
      rw [if_neg (by rw [if_neg cz]; decide)]
      obtain ⟨y2, ey1, -, ey2⟩ := brA_ok hW hO hg hA hv hj (by omega) (n0, v, p, bb, g) rfl
      rw [ey1, ey2] at K
      exact ⟨(H1.cs hc).t5, c_br hc hP hw hA H1 (by omega) hg hi (Or.inr (Or.inl c13)) rfl (by unfold jOf; rw [c13, if_neg (by decide)]) hv hj (by omega) (by omega) (fun h' H' => rV_of (K h' H'))⟩
  rw [if_neg c13] at K ⊢
  by_cases c14 : oA (fC gf) i = 14
  · rw [if_pos c14] at K ⊢
    obtain ⟨ha, hk1, vv, hv, hall⟩ := hA.tab hw c14
    obtain ⟨n0, rfl⟩ : ∃ n0, n = n0 + 1 := ⟨n - 1, by omega⟩
    have K : KXc P fp ip x h0 (n0 + 1, v, p, bb, g) Q (brA P f b gf i (nt (aA (fC gf) (i + 1 + min (lwN (v n0)) (nt (aA (fC gf) i))))) r (n0, v, p, bb, g)) := K
    have ha20 := ((wi_nI (d := 20) (by decide)).mp ha).2
    obtain ⟨t1, t2, t3, t4, lb, t5, t6⟩ := hall (min (lwN (v n0)) (nt (aA (fC gf) i))) (Nat.min_le_right _ _)
    obtain ⟨y2, ey1, -, ey2⟩ := brA_ok hW hO hg hA hv t5 (by omega) (n0, v, p, bb, g) rfl
    rw [ey1, ey2] at K
    have el : (v n0 &&& 4294967295) = jN (lwN (v n0)) := low_jN (v n0)
    have hlw := lwN_lt (v n0)
    refine ⟨c.t5, wX5_chosenEntry (x + 3) _ h _ ⟨c.t5, c_popd hc H (by omega) (fun h1 H1 => ?_)⟩⟩
    have cp1 := H1.1.cp hP
    obtain ⟨⟨-, -, -, -, -, -, -, -, e9⟩, -⟩ := cp1 f gf hg
    obtain ⟨u1, -, -, -, u5, -⟩ := e9 i hi
    obtain ⟨b1, b2, -⟩ := hall 0 (Nat.zero_le _)
    have es : gr h1 198 (ip f i) = some (ip f (i + 1 + 0)) := by
      rw [u5, show i + 1 = i + 1 + 0 from rfl, settle_step b1 (by rw [b2]; unfold isStep; decide)]
      rfl
    refine dr_of rfl ⟨u1, ?_⟩
    rw [if_neg (by rw [es]; exact Option.some_ne_none _)]
    refine dr_of rfl ⟨u1, wX5_chosenEntry_27 (x + 3) _ _ _ h1 _ ?_⟩
    rw [es, el]
    refine c_chosen32 (A := nt (aA (fC gf) i)) hg cp1 (nI_nt ha.1).symm ha20 hlw hi (fun j hj => ⟨(hall j hj).1, (hall j hj).2.1⟩) (rR_of ?_) _ 0 rfl (Nat.zero_le _)
    exact ⟨(H1.cs hc).t5, c_br hc hP hw hA H1 (by omega) hg t1 (Or.inr (Or.inr (Or.inr t2))) t3 (by unfold jOf; rw [t2, if_neg (by decide)]) hv t5 (by omega) (by omega) (fun h' H' => rV_of (K h' H'))⟩
  rw [if_neg c14] at K ⊢
  by_cases c15 : oA (fC gf) i = 15
  · rw [if_pos c15] at K ⊢
    have hle := hA.b15 hw c15
    have hA' := hA
    obtain ⟨vv, hv, hl, hne, -⟩ := hA'
    obtain ⟨lb, hj, hz, hwt⟩ := lastLb hv hne
    obtain ⟨y2, ey1, -, ey2⟩ := brA_ok hW hO hg hA hv hj (by omega) (n, v, p, bb, g) rfl
    rw [ey1, ey2] at K
    exact ⟨c.t5, c_br hc hP hw hA H (by omega) hg hi (Or.inr (Or.inr (Or.inl c15))) rfl (by unfold jOf; rw [if_pos c15]) hv hj hn220 (by omega) (fun h' H' => rV_of (K h' H'))⟩
  rw [if_neg c15] at K ⊢
  by_cases c16 : oA (fC gf) i = 16
  · rw [if_pos c16] at K ⊢
    obtain ⟨ha, s, hs1, hs2, hs3⟩ := hA.call hw c16
    unfold sgs at hs1
    rw [List.getElem?_map] at hs1
    cases hg2 : (P.take (f + 1))[nt (aA (fC gf) i)]? with
    | none => rw [hg2] at hs1; cases hs1
    | some g2 =>
      rw [hg2] at hs1
      cases hs1
      have hg3 : P[nt (aA (fC gf) i)]? = some g2 := by
        rw [List.getElem?_take] at hg2
        split at hg2
        · exact hg2
        · cases hg2
      have hs2 : fP g2 ≤ k := hs2
      refine dr_of rfl ⟨d1, c.t5, ?_⟩
      rw [d8 c16]
      exact c_enX hc hP hW hM H h30 h4 hnb hg3 (by omega) (w9 := (n, v, p, bb, g)) rfl K.rv
  rw [if_neg c16] at K ⊢
  by_cases c17 : oA (fC gf) i = 17
  · rw [if_pos c17] at K ⊢
    obtain ⟨ha, hb, hle, hA2⟩ := hA.callt hw c17
    obtain ⟨n0, rfl⟩ : ∃ n0, n = n0 + 1 := ⟨n - 1, by omega⟩
    have el : (v n0 &&& 4294967295) = jN (lwN (v n0)) := low_jN (v n0)
    have hlw := lwN_lt (v n0)
    have K : KXc P fp ip x h0 (n0 + 1, v, p, bb, g) Q (if 30 ≤ lwN (v n0) then .inl 6 else match tb (lwN (v n0)) with
      | none => .inl 7
      | some f2 => match P[f2]? with
        | none => .inl 7
        | some g2 => if nI (fP g2) = aA (fC gf) i ∧ nI (fR g2) = bA (fC gf) i then enA P f2 ((f, b, settle (fC gf) (i + 1)) :: r) (n0, v, p, bb, g) else .inl 8) := K
    refine ⟨c.t5, wX5_enterByTable (x + 3) _ h _ ⟨c.t5, c_popd hc H (by omega) (fun h1 H1 => ?_)⟩⟩
    have c1 := H1.cs hc
    have cp1 := H1.1.cp hP
    obtain ⟨⟨-, -, -, -, -, -, -, -, e9⟩, -⟩ := cp1 f gf hg
    obtain ⟨u1, -, u3, u4, -⟩ := e9 i hi
    rw [el]
    have trp : ∀ t : Int32, ¬ t = 0 → KXc P fp ip x h0 (n0 + 1, v, p, bb, g) Q (.inl t) → tX5_trap (x + 3) t h1 (rV (fun h_1 => rV (fun h9 => Q none h9) none h_1)) := by
      intro t ht K
      unfold KXc at K
      dsimp only at K
      rw [if_neg ht] at K
      exact c_trap hc H1 (fun h' H' => rV_of (rV_of (K h' H')))
    refine ⟨c1.t5, dr_of c1.r320 (al_of c1.t4a ?_)⟩
    by_cases c30 : 30 ≤ lwN (v n0)
    · rw [if_pos c30] at K
      have hno : ¬ jN (lwN (v n0)) < (Int32.ofNat 30).toInt64 := fun z => by
        have := (jN_lt (b := 30) (by omega) (by decide)).mp z
        omega
      rw [if_neg hno]
      exact ⟨c1.t5, trp 6 (by decide) K⟩
    · rw [if_neg c30] at K
      have hyes : jN (lwN (v n0)) < (Int32.ofNat 30).toInt64 := (jN_lt (b := 30) (by omega) (by decide)).mpr (by omega)
      rw [if_pos hyes, jN_to32]
      refine ⟨c1.t5, dr_of c1.r320 (ix_of c1.t4a (by decide) (nI_in (by omega) (by decide)) ?_)⟩
      have htb : aq h1 (x + 4) (lwN (v n0)) = (tb (lwN (v n0))).map fp := by rw [H1.1.2.2.1]; exact hTB _ (by omega)
      rw [nck (by omega), htb]
      cases ht : tb (lwN (v n0)) with
      | none =>
        rw [ht] at K
        rw [if_pos (show Option.map fp none = none from rfl)]
        exact ⟨c1.t5, trp 7 (by decide) K⟩
      | some f2 =>
        rw [ht] at K
        dsimp only at K ⊢
        have hf2 := hT _ _ ht
        have hg2 := List.getElem?_eq_getElem hf2
        rw [hg2] at K
        dsimp only at K
        obtain ⟨⟨s1, s2, s3, -⟩, -⟩ := cp1 f2 _ hg2
        rw [if_neg (by simp)]
        refine dr_of rfl ⟨u1, dr_of rfl ⟨u1, dr_of rfl ⟨s1, wX2_hasSignature _ _ _ h1 _ ⟨s1, ?_⟩⟩⟩⟩
        rw [s2, u3]
        have t8 : ¬ (nI (fP P[f2]) = aA (fC gf) i ∧ nI (fR P[f2]) = bA (fC gf) i) → tX5_trap (x + 3) 8 h1 (rV (fun h_1 => rV (fun h9 => Q none h9) none h_1)) := by
          intro hcc
          rw [if_neg hcc] at K
          exact trp 8 (by decide) K
        by_cases ca : nI (fP P[f2]) = aA (fC gf) i
        · rw [if_pos ca]
          refine ⟨s1, ?_⟩
          rw [s3, u4]
          by_cases cb : nI (fR P[f2]) = bA (fC gf) i
          · rw [if_pos cb]
            rw [if_pos ⟨ca, cb⟩] at K
            have hW2 := hW f2 _ hg2
            have e1 : nt (aA (fC gf) i) = fP P[f2] := by
              rw [← ca]
              exact nck (by omega)
            refine rI_of ?_
            rw [if_neg (by decide)]
            exact ⟨c1.t5, c_enX hc hP hW hM H1 h30 h4 (by omega) hg2 (by omega) (w9 := (n0 + 1, v, p, bb, g)) rfl K.rv.rv⟩
          · rw [if_neg cb]
            refine rI_of ?_
            rw [if_pos rfl]
            exact ⟨c1.t5, t8 (fun z => cb z.2)⟩
        · rw [if_neg ca]
          refine rI_of ?_
          rw [if_pos rfl]
          exact ⟨c1.t5, t8 (fun z => ca z.1)⟩
  rw [if_neg c17] at K ⊢
  by_cases c1 : oA (fC gf) i = 1
  · rw [c1, smp_1] at K
    exact K h H
  exfalso
  have hb : isBg (oA (fC gf) i) = false := by
    unfold isBg
    rw [decide_eq_false hs.1, decide_eq_false hs.2.1, decide_eq_false c4]
    rfl
  have h6 : ¬ oA (fC gf) i = 6 := by
    intro e
    obtain ⟨v1, v2, y, hv, -, hx, hst, -, -, -, h0⟩ := hA.v hw
    rw [oA_of hx] at e
    unfold vstep at hst
    rw [if_neg (by omega), if_pos e] at hst
    cases hst
  obtain ⟨t, q, ha, ht, hA2⟩ := hA.arp hw c0 c1 hb hs.2.2.1 h6 hs.2.2.2 c12 c13 c14 c15 c16 c17
  exact arP_26 ha ho
end RR
