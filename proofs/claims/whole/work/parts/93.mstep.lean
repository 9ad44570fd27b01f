/-! THE REFERENCE RUNS, 9: a step -/
/-- the table of functions -/
def TBm (m : Nat) (h : Hp) (tb : Nat → Option Nat) : Prop := ∀ j, j < 30 → ai h (m + 17) j = (match tb j with
  | none => -1
  | some f => nI f)
section FF
variable {P : List Fn} {m : Nat} {h0 h : Hp} {fr r : List Fm} {w w0 : Wd} {A n p f b i : Nat} {q : Option Nat} {v : VV} {bb : Nat → Int32} {g : VV} {gf : Fn} {Q : Option TV → Hp → Prop} {tb : Nat → Option Nat}
/-- pass from an END that isn't the function's -/
theorem s_262e (hm : MS h0 m) (hP : MP h0 m P) (hW : WhP P) {B k : Nat} (H : RLv P m h0 h ((f, b, q) :: r) (n, v, p, bb, g) (pos0 P f + B)) (hg : P[f]? = some gf) (h11 : oA (fC gf) B = 11) (hB : B + 1 < (fC gf).length) (hA : At (sgs (P.take (f + 1))) (fP gf + fL gf) (fR gf) (fC gf) (B + 1) k) (hn : n = b + (fP gf + fL gf) + k) (hq : settle (fC gf) (B + 1) = q) (hF : OKR P ((f, b, q) :: r) (n, v, p, bb, g)) (K : KP P m h0 ((f, b, q) :: r) (n, v, p, bb, g) Q) : tX11_step_262 m h Q := by
  have hm1 := H.ms hm
  have h30 : r.length < 30 := by have := hF.2.2.1; simp at this; omega
  refine wX11_step_262 m h Q ⟨hm1.1, ?_⟩
  refine (s_p157 hm hP H hg (by omega) (fun hs => absurd h11 hs.2.2.2) (fun _ => s_p61 hm hP H h30 hg (by omega) (by rw [h11]; decide) (fun _ => hB) (fun h' H' => ?_))).2
  exact (s_pass hm hP hW r f b q _ (B + 1) k n v h' gf (Nat.le_refl _) H' hg hA hn hq hF.1 h30 hF.2.2.2.1 K.rv).1
theorem s_outer (hm : MS h0 m) (hP : MP h0 m P) (H : RLv P m h0 h ((f, b, q) :: r) w (pos0 P f + i)) (h30 : r.length < 30) (hg : P[f]? = some gf) (hi : i ≤ (fC gf).length) (hl : (ps (fC gf) i).length < 100000) : ∀ (t j : Nat), t = (ps (fC gf) i).length - j → j ≤ (ps (fC gf) i).length → Q (some (tI (nI (ps (fC gf) i).length))) h → tX11_outermost_2 m (nI j) h Q := by
  have hm1 := H.ms hm
  have x8 : gi h 674 m = nI (pos0 P f + i) := H.2.2.2.2.2.2.2.1
  intro t
  induction t with
  | zero =>
    intro j ht hj k
    have e : j = (ps (fC gf) i).length := by omega
    refine wX11_outermost_2 m _ h Q ⟨hm1.1, hm1.1, ?_⟩
    rw [x8]
    refine s_beginOf hm hP H h30 hg hi (by omega) ?_
    rw [List.getElem?_eq_none (by omega)]
    refine rI_of ?_
    rw [if_pos (by decide), e]
    exact k
  | succ t ih =>
    intro j ht hj k
    refine wX11_outermost_2 m _ h Q ⟨hm1.1, hm1.1, ?_⟩
    rw [x8]
    refine s_beginOf hm hP H h30 hg hi (by omega) ?_
    have hx := List.getElem?_eq_getElem (show j < (ps (fC gf) i).length by omega)
    rw [hx]
    have hp := ps_lt hx
    refine rI_of ?_
    have hpos : pos0 P f + (ps (fC gf) i)[j] < 2147483648 := by
      have h1 := pos0_succ hg
      have h2 := pos0_mono (fns := P) (j := f + 1) (k := P.length) (by have := (List.getElem?_eq_some_iff.mp hg).1; omega)
      have h3 := hP.2.1
      unfold totL at h3
      omega
    rw [if_neg (nI_n0 hpos), ← nI_succ]
    exact ih (j + 1) (by omega) (by omega) k
/-- what a step leads to -/
def KX (P : List Fn) (m : Nat) (h0 : Hp) (w : Wd) (Q : Option TV → Hp → Prop) (x : Int32 ⊕ (List Fm × Wd)) : Prop := match x with
  | .inl c => if c = 0 then (∀ h', RSt m h0 h' 4 (gi h0 669 m) w → Q none h') else ∀ h', RSt m h0 h' 3 c w → Q none h'
  | .inr y => KP P m h0 y.1 y.2 Q
theorem s_en262 (hm : MS h0 m) (hP : MP h0 m P) (hW : WhP P) (hO : OKR P ((f, b, some i) :: r) w0) (hpg : w0.2.2 = (p, bb, g)) (H : RLv P m h0 h ((f, b, some i) :: r) (n, v, p, bb, g) (pos0 P f + i)) (hg : P[f]? = some gf) {f2 : Nat} {g2 : Fn} (hg2 : P[f2]? = some g2) {k : Nat} (hn : n = b + (fP gf + fL gf) + k) (hn0 : n ≤ 220) (hk : fP g2 ≤ k) (hA : At (sgs (P.take (f + 1))) (fP gf + fL gf) (fR gf) (fC gf) (i + 1) (k - fP g2 + fR g2)) (K : KX P m h0 (n, v, p, bb, g) Q (enA P f2 ((f, b, settle (fC gf) (i + 1)) :: r) (n, v, p, bb, g))) : tX11_enter m (nI f2) h (rV (fun h9 => tX11_step_262 m h9 Q)) := by
  obtain ⟨g1, k1, hg1, -, -, hA1, -, -, -, h4, -, h30⟩ := hO.top
  rw [hg] at hg1
  cases hg1
  have hi := hA1.lt (hW f gf hg).1
  have hb := (hP.at hg hi).2.2.2.1
  have hst := hA.stp hW hg
  have hL8 := (hW f2 g2 hg2).2.2.2
  refine s_enter (fr := (f, b, settle (fC gf) (i + 1)) :: r) hm hP H (by simpa using h30) h4 hg2 (by omega) (fun _ => by omega) (by omega) ⟨i + 1, gf, k - fP g2 + fR g2, hg, rfl, rfl, by omega, hA⟩ ?_
  cases he : enA P f2 ((f, b, settle (fC gf) (i + 1)) :: r) (n, v, p, bb, g) with
  | inl c =>
    rw [he] at K
    have hc : c = 0 := by
      unfold enA at he
      rw [hg2] at he
      dsimp only at he
      split at he
      · cases he; rfl
      · cases he
    subst hc
    have K : ∀ h', RSt m h0 h' 4 (gi h0 669 m) (n, v, p, bb, g) → Q none h' := K
    exact fun h' H' => rV_of (s_262x (H'.1.ms hm) (by rw [H'.2.2.1]; decide) (K h' H'))
  | inr y =>
    rw [he] at K
    have hO2 := enA_ok hW hO hg hg2 (w1 := (n, v, p, bb, g)) hn hk hst.1 hst.2 hpg.symm he
    unfold enA at he
    rw [hg2] at he
    dsimp only at he
    split at he
    · cases he
    · cases he
      exact fun h' H' => rV_of (s_262 hm hP hW H' hg2 At.zero (by omega) rfl hO2 K)
theorem s_stA (hm : MS h m) (hP : MP h m P) (hW : WhP P) (hT : ∀ j f2, tb j = some f2 → f2 < P.length) (hTB : TBm m h tb) (hO : OKR P ((f, b, some i) :: r) (n, v, p, bb, g)) (H : RLv P m h h ((f, b, some i) :: r) (n, v, p, bb, g) (pos0 P f + i))
    (K : ∀ h1, h1 = pi h 670 m (gi h 670 m + 1) → KX P m h1 (n, v, p, bb, g) Q (stA P tb f b i r (n, v, p, bb, g))) : tX11_step m h Q := by
  obtain ⟨gf, k, hg, hn, hk, hA, hs, hr0, hr, h4, h5, h30⟩ := hO.top
  have hn : n = b + (fP gf + fL gf) + k := hn
  have hw := (hW f gf hg).1
  have hi := hA.lt hw
  have hask := askN_some hg
  have hn220 : n ≤ 220 := by omega
  have hp6 : p ≤ 6 := hO.2.2.2.2.2
  refine wX11_step m h Q ⟨hm.1, hm.1, fun h1 e1 => ?_⟩
  have K := K h1 e1
  have w1 : RW m h h1 := by rw [e1]; exact RW_pi _ _ (by omega)
  have hm1 := w1.ms hm
  have hP1 := w1.mp hP
  have H1 : RLv P m h1 h1 ((f, b, some i) :: r) (n, v, p, bb, g) (pos0 P f + i) := by
    obtain ⟨x1, ⟨x21, x22, x23, x24⟩, x3, x4, x5, x6, x7, x8, ⟨x91, x92, x93⟩, x10, x11⟩ := H
    exact ⟨RW.rf _ _, ⟨rfl, rfl, rfl, rfl⟩, rfl, by rw [e1, gi_ne (by decide)]; exact x4, by rw [e1, gi_ne (by decide)]; exact x5, by rw [e1, gi_ne (by decide)]; exact x6, by rw [e1, gi_ne (by decide)]; exact x7, by rw [e1, gi_ne (by decide)]; exact x8, ⟨by rw [e1, gi_ne (by decide)]; exact x91, by rw [e1]; exact x92, by rw [e1]; exact x93⟩, by rw [e1]; exact x10, by rw [e1]; exact x11.of (fun _ _ => ⟨rfl, rfl, rfl⟩)⟩
  have hTB1 : TBm m h1 tb := by rw [e1]; exact hTB
  clear e1 H hTB
  have x8 : gi h1 674 m = nI (pos0 P f + i) := H1.2.2.2.2.2.2.2.1
  obtain ⟨a1, a2, a3, a4, a5⟩ := hP1.at hg hi
  refine ⟨hm1.1, hm1.1, ?_⟩
  rw [x8]
  refine L_op hm1 hm1 a4 ⟨hm1.1, hm1.1, L_one hm1 hm1 a4 ⟨hm1.1, hm1.1, L_two hm1 hm1 a4 ?_⟩⟩
  rw [nck (by omega), a1, a2, a3]
  unfold stA at K
  rw [hg] at K
  dsimp only at K
  have hlen : (ps (fC gf) i).length < 100000 := by have := ps_len_le (fC gf) i; omega
  by_cases c0 : oA (fC gf) i = 0
  · rw [if_pos c0] at K ⊢
    have K : ∀ h', RSt m h1 h' 3 1 (n, v, p, bb, g) → Q none h' := K
    exact ⟨hm1.1, s_traps hm1 H1 (fun h' H' => rV_of (s_262x (H'.1.ms hm1) (by rw [H'.2.2.1]; decide) (K h' H')))⟩
  rw [if_neg c0] at K ⊢
  by_cases c4 : oA (fC gf) i = 4
  · rw [if_pos c4] at K ⊢
    obtain ⟨k1, hA1, q2, hq2, hq3, hq4, hq5, hA2⟩ := hA.iff hw c4
    obtain ⟨n0, rfl⟩ : ∃ n0, n = n0 + 1 := ⟨n - 1, by omega⟩
    refine ⟨hm1.1, wX11_condition m _ h1 _ ⟨hm1.1, s_pop1 hm1 H1 (by omega) (fun h2 H2 => rL_of (s_isTrue (rI_of ?_)))⟩⟩
    have hm2 := H2.ms hm1
    have hP2 := H2.1.mp hP1
    have x82 : gi h2 674 m = nI (pos0 P f + i) := H2.2.2.2.2.2.2.2.1
    obtain ⟨b1, -⟩ := hP2.at hg (show q2 < (fC gf).length by omega)
    refine ⟨hm2.1, hm2.1, ?_⟩
    rw [x82, ← nI_succ, Nat.add_assoc]
    have hen : enF (fC gf) (ps (fC gf) (i + 1)).length true (fC gf).length (i + 1) = some q2 := by
      rw [ps_bg (by rw [c4]; rfl), List.length_cons]
      exact hq2
    refine s_endOf (fl := true) hm2 hP2 hg hen (by omega) (rI_of ?_)
    have hst1 := hA1.stp hW hg
    have hst2 := hA2.stp hW hg
    by_cases cz : low (v n0) = 0
    · have K : KP P m h1 ((f, b, elG (fC gf) i) :: r) (n0, v, p, bb, g) Q := by
        have K : KP P m h1 ((f, b, if low (v n0) = 0 then elG (fC gf) i else settle (fC gf) (i + 1)) :: r) (n0, v, p, bb, g) Q := K
        rw [if_pos cz] at K
        exact K
      have eG : elG (fC gf) i = settle (fC gf) (q2 + 1) := by unfold elG; rw [hq2]
      rw [eG] at K
      have hO2 : OKR P ((f, b, settle (fC gf) (q2 + 1)) :: r) (n0, v, p, bb, g) := hO.mk hg (k := k - 1) (by dsimp only; omega) hst2.1 hst2.2 hO.2.2.2.2
      rw [if_pos (by rw [if_pos cz])]
      refine ⟨hm2.1, L_op hm2 hm2 (by omega) ?_⟩
      rw [nck (by omega), b1]
      by_cases cq : oA (fC gf) q2 = 5
      · rw [if_pos cq]
        refine ⟨hm2.1, fun h3 e3 => rV_of ?_⟩
        rw [← nI_succ, Nat.add_assoc] at e3
        have H3 : RLv P m h1 h3 ((f, b, settle (fC gf) (q2 + 1)) :: r) (n0, v, p, bb, g) (pos0 P f + (q2 + 1)) := by rw [e3]; exact H2.at' _
        exact s_262 hm1 hP1 hW H3 hg hA2 (by omega) rfl hO2 K
      · rw [if_neg cq]
        refine ⟨hm2.1, fun h3 e3 => rV_of ?_⟩
        have H3 : RLv P m h1 h3 ((f, b, settle (fC gf) (q2 + 1)) :: r) (n0, v, p, bb, g) (pos0 P f + q2) := by rw [e3]; exact H2.at' _
        exact s_262e hm1 hP1 hW H3 hg (hq5.resolve_right cq) hq4 hA2 (by omega) rfl hO2 K
    · have K : KP P m h1 ((f, b, settle (fC gf) (i + 1)) :: r) (n0, v, p, bb, g) Q := by
        have K : KP P m h1 ((f, b, if low (v n0) = 0 then elG (fC gf) i else settle (fC gf) (i + 1)) :: r) (n0, v, p, bb, g) Q := K
        rw [if_neg cz] at K
        exact K
      have hO2 : OKR P ((f, b, settle (fC gf) (i + 1)) :: r) (n0, v, p, bb, g) := hO.mk hg (k := k - 1) (by dsimp only; omega) hst1.1 hst1.2 hO.2.2.2.2
      rw [if_neg (by rw [if_neg cz]; decide)]
      refine ⟨hm2.1, hm2.1, fun h3 e3 => rV_of ?_⟩
      rw [x82, ← nI_succ, Nat.add_assoc] at e3
      have H3 : RLv P m h1 h3 ((f, b, settle (fC gf) (i + 1)) :: r) (n0, v, p, bb, g) (pos0 P f + (i + 1)) := by rw [e3]; exact H2.at' _
      exact s_262 hm1 hP1 hW H3 hg hA1 (by omega) rfl hO2 K
  rw [if_neg c4] at K ⊢
  by_cases c12 : oA (fC gf) i = 12
  · rw [if_pos c12] at K ⊢
    obtain ⟨vv, lb, hv, ha, hj, hle⟩ := hA.b12 hw c12
    obtain ⟨y2, ey1, -, ey2⟩ := brA_ok hW hO hg hA hv hj hle (n, v, p, bb, g) rfl
    rw [ey1, ey2] at K
    refine ⟨hm1.1, ?_⟩
    rw [← nI_nt ha]
    exact s_br hm1 hP1 hW hO H1 hg hA (Nat.le_refl _) hn rfl hv hj hle K
  rw [if_neg c12] at K ⊢
  by_cases c13 : oA (fC gf) i = 13
  · rw [if_pos c13] at K ⊢
    obtain ⟨vv, lb, hv, ha, hj, hle, hA2⟩ := hA.b13 hw c13
    obtain ⟨n0, rfl⟩ : ∃ n0, n = n0 + 1 := ⟨n - 1, by omega⟩
    refine ⟨hm1.1, s_pop1 hm1 H1 (by omega) (fun h2 H2 => rL_of (s_isTrue (rI_of ?_)))⟩
    have hm2 := H2.ms hm1
    have x82 : gi h2 674 m = nI (pos0 P f + i) := H2.2.2.2.2.2.2.2.1
    have K : KX P m h1 (n0 + 1, v, p, bb, g) Q (if low (v n0) = 0 then .inr ((f, b, settle (fC gf) (i + 1)) :: r, (n0, v, p, bb, g)) else brA P f b gf i (nt (aA (fC gf) i)) r (n0, v, p, bb, g)) := K
    by_cases cz : low (v n0) = 0
    · rw [if_pos cz] at K
      rw [if_pos (by rw [if_pos cz])]
      have hst := hA2.stp hW hg
      have hO2 : OKR P ((f, b, settle (fC gf) (i + 1)) :: r) (n0, v, p, bb, g) := hO.mk hg (k := k - 1) (by dsimp only; omega) hst.1 hst.2 hO.2.2.2.2
      refine ⟨hm2.1, hm2.1, fun h3 e3 => ?_⟩
      rw [x82, ← nI_succ, Nat.add_assoc] at e3
      have H3 : RLv P m h1 h3 ((f, b, settle (fC gf) (i + 1)) :: r) (n0, v, p, bb, g) (pos0 P f + (i + 1)) := by rw [e3]; exact H2.at' _
      exact s_262 hm1 hP1 hW H3 hg hA2 (by omega) rfl hO2 K
    · rw [if_neg cz] at K
      rw [if_neg (by rw [if_neg cz]; decide)]
      obtain ⟨y2, ey1, -, ey2⟩ := brA_ok hW hO hg hA hv hj (by omega) (n0, v, p, bb, g) rfl
      rw [ey1, ey2] at K
      refine ⟨hm2.1, ?_⟩
      rw [← nI_nt ha]
      exact s_br hm1 hP1 hW hO H2 hg hA (k' := k - 1) (by omega) (by omega) rfl hv hj (by omega) K
  rw [if_neg c13] at K ⊢
  by_cases c14 : oA (fC gf) i = 14
  · rw [if_pos c14] at K ⊢
    obtain ⟨ha, hk1, vv, hv, hall⟩ := hA.tab hw c14
    obtain ⟨n0, rfl⟩ : ∃ n0, n = n0 + 1 := ⟨n - 1, by omega⟩
    refine ⟨hm1.1, s_pop1 hm1 H1 (by omega) (fun h2 H2 => rL_of ?_)⟩
    have hm2 := H2.ms hm1
    have hP2 := H2.1.mp hP1
    have x82 : gi h2 674 m = nI (pos0 P f + i) := H2.2.2.2.2.2.2.2.1
    have K : KX P m h1 (n0 + 1, v, p, bb, g) Q (brA P f b gf i (nt (aA (fC gf) (i + 1 + min (lwN (v n0)) (nt (aA (fC gf) i))))) r (n0, v, p, bb, g)) := K
    have ha20 := ((wi_nI (d := 20) (by decide)).mp ha).2
    obtain ⟨t1, t2, t3, t4, lb, t5, t6⟩ := hall (min (lwN (v n0)) (nt (aA (fC gf) i))) (Nat.min_le_right _ _)
    obtain ⟨y2, ey1, -, ey2⟩ := brA_ok hW hO hg hA hv t5 (by omega) (n0, v, p, bb, g) rfl
    rw [ey1, ey2] at K
    have el : (v n0 &&& 4294967295) = jN (lwN (v n0)) := low_jN (v n0)
    have ea : (aA (fC gf) i).toInt64 = jN (nt (aA (fC gf) i)) := by
      have := nI_to64 (nt_lt (aA (fC gf) i))
      rw [nI_nt ha.1] at this
      exact this
    have hlw := lwN_lt (v n0)
    have fol : ∀ s0 : Int32, s0 = nI (min (lwN (v n0)) (nt (aA (fC gf) i))) → tX11_step_219 m s0 (gi h2 674 m + 1) (gr h2 650 m) (some m) h2 Q := by
      intro s0 es
      subst es
      rw [x82, ← nI_succ]
      refine wX11_step_219 m _ _ _ _ h2 Q ?_
      rw [nJ_add, show pos0 P f + i + 1 + min (lwN (v n0)) (nt (aA (fC gf) i)) = pos0 P f + (i + 1 + min (lwN (v n0)) (nt (aA (fC gf) i))) by omega]
      obtain ⟨-, b2, -, b4, -⟩ := hP2.at hg t1
      refine L_one hm2 hm2 b4 (dr_of rfl ⟨hm2.1, ?_⟩)
      rw [nck (by omega), b2, ← nI_nt t4]
      exact s_br hm1 hP1 hW hO H2 hg hA (k' := k - 1) (by omega) (by omega) rfl hv t5 (by omega) K
    refine ⟨hm2.1, hm2.1, ?_⟩
    rw [el, ea]
    by_cases cl : lwN (v n0) < nt (aA (fC gf) i)
    · rw [if_pos ((jN_lt (by omega) (by omega)).mpr cl), jN_to32]
      exact fol _ (by rw [Nat.min_eq_left (by omega)])
    · rw [if_neg (fun z => cl ((jN_lt (by omega) (by omega)).mp z))]
      exact fol _ (by rw [Nat.min_eq_right (by omega), nI_nt ha.1])
  rw [if_neg c14] at K ⊢
  by_cases c15 : oA (fC gf) i = 15
  · rw [if_pos c15] at K ⊢
    have hle := hA.b15 hw c15
    have hA0 := hA
    obtain ⟨vv, hv, -, hne, -, -⟩ := hA0
    obtain ⟨lb, hj, hz, hwt⟩ := lastLb hv hne
    obtain ⟨y2, ey1, -, ey2⟩ := brA_ok hW hO hg hA hv hj (by omega) (n, v, p, bb, g) rfl
    rw [ey1, ey2] at K
    refine ⟨hm1.1, wX11_outermost m h1 _ (s_outer (j := 0) hm1 hP1 H1 (by omega) hg (by omega) hlen _ rfl (Nat.zero_le _) (rI_of ⟨hm1.1, ?_⟩))⟩
    exact s_br hm1 hP1 hW hO H1 hg hA (Nat.le_refl _) hn rfl hv hj (by omega) K
  rw [if_neg c15] at K ⊢
  by_cases c16 : oA (fC gf) i = 16
  · rw [if_pos c16] at K ⊢
    obtain ⟨ha, s, hs1, hs2, hs3⟩ := hA.call hw c16
    unfold sgs at hs1
    rw [List.getElem?_map] at hs1
    cases hg2 : (P.take (f + 1))[nt (aA (fC gf) i)]? with
    | none => rw [hg2] at hs1; cases hs1
    | some g2 =>
      rw [hg2] at hs1
      cases hs1
      have hg3 : P[nt (aA (fC gf) i)]? = some g2 := by
        rw [List.getElem?_take] at hg2
        split at hg2
        · exact hg2
        · cases hg2
      refine ⟨hm1.1, ?_⟩
      rw [← nI_nt ha]
      exact s_en262 hm1 hP1 hW hO rfl H1 hg hg3 hn hn220 hs2 hs3 K
  rw [if_neg c16] at K ⊢
  by_cases c17 : oA (fC gf) i = 17
  · rw [if_pos c17] at K ⊢
    obtain ⟨ha, hb, hle, hA2⟩ := hA.callt hw c17
    obtain ⟨n0, rfl⟩ : ∃ n0, n = n0 + 1 := ⟨n - 1, by omega⟩
    have el : (v n0 &&& 4294967295) = jN (lwN (v n0)) := low_jN (v n0)
    have hlw := lwN_lt (v n0)
    have K : KX P m h1 (n0 + 1, v, p, bb, g) Q (if 30 ≤ lwN (v n0) then .inl 6 else match tb (lwN (v n0)) with
      | none => .inl 7
      | some f2 => match P[f2]? with
        | none => .inl 7
        | some g2 => if nI (fP g2) = aA (fC gf) i ∧ nI (fR g2) = bA (fC gf) i then enA P f2 ((f, b, settle (fC gf) (i + 1)) :: r) (n0, v, p, bb, g) else .inl 8) := K
    refine ⟨hm1.1, wX11_callTable m _ _ h1 _ ⟨hm1.1, s_pop1 hm1 H1 (by omega) (fun h2 H2 => rL_of ?_)⟩⟩
    have hm2 := H2.ms hm1
    have hP2 := H2.1.mp hP1
    rw [el]
    have trp : ∀ c : Int32, ¬ c = 0 → KX P m h1 (n0 + 1, v, p, bb, g) Q (.inl c) → tX11_traps m c h2 (rV (fun h_1 => rV (fun h9 => tX11_step_262 m h9 Q) none h_1)) := by
      intro c hc K
      unfold KX at K
      dsimp only at K
      rw [if_neg hc] at K
      exact s_traps hm1 H2 (fun h' H' => rV_of (rV_of (s_262x (H'.1.ms hm1) (by rw [H'.2.2.1]; decide) (K h' H'))))
    by_cases c30 : 30 ≤ lwN (v n0)
    · rw [if_pos c30] at K
      have hno : ¬ jN (lwN (v n0)) < 30 := fun z => by
        have := (jN_lt (b := 30) (by omega) (by decide)).mp z
        omega
      rw [if_neg hno]
      refine wX11_callTable_28 m _ _ _ _ h2 _ ?_
      rw [if_neg hno]
      exact ⟨hm2.1, trp 6 (by decide) K⟩
    · rw [if_neg c30] at K
      have hyes : jN (lwN (v n0)) < 30 := (jN_lt (b := 30) (by omega) (by decide)).mpr (by omega)
      rw [if_pos hyes, jN_to32]
      refine ⟨hm2.1, L_table hm2 hm2 (by omega) ?_⟩
      have htb : ai h2 (m + 17) (lwN (v n0)) = (match tb (lwN (v n0)) with
          | none => -1
          | some f => nI f) := by rw [H2.2.1.1]; exact hTB1 _ (by omega)
      rw [nck (by omega), htb]
      refine wX11_callTable_28 m _ _ _ _ h2 _ ?_
      rw [if_pos hyes]
      cases ht : tb (lwN (v n0)) with
      | none =>
        rw [ht] at K
        rw [if_pos (by decide)]
        exact ⟨hm2.1, trp 7 (by decide) K⟩
      | some f2 =>
        rw [ht] at K
        dsimp only at K ⊢
        have hf2 := hT _ _ ht
        have hg2 := List.getElem?_eq_getElem hf2
        have h40 := hP.1
        rw [hg2] at K
        dsimp only at K
        obtain ⟨-, -, -, r3, r4, -⟩ := hP2.2.2 f2 _ hg2
        rw [if_neg (nI_n0 (by omega))]
        refine ⟨hm2.1, L_params hm2 hm2 (by omega) ?_⟩
        rw [nck (by omega), r3]
        have t8 : ¬ (nI (fP P[f2]) = aA (fC gf) i ∧ nI (fR P[f2]) = bA (fC gf) i) → tX11_callTable_83 m h2 (rV (fun h9 => tX11_step_262 m h9 Q)) := by
          intro hc
          rw [if_neg hc] at K
          exact wX11_callTable_83 m h2 _ ⟨hm2.1, trp 8 (by decide) K⟩
        by_cases ca : nI (fP P[f2]) = aA (fC gf) i
        · rw [if_pos ca]
          refine ⟨hm2.1, L_results hm2 hm2 (by omega) ?_⟩
          rw [r4]
          by_cases cb : nI (fR P[f2]) = bA (fC gf) i
          · rw [if_pos cb]
            rw [if_pos ⟨ca, cb⟩] at K
            have hW2 := hW f2 _ hg2
            have e1 : nt (aA (fC gf) i) = fP P[f2] := by
              rw [← ca]
              exact nck (by omega)
            have e2 : nt (bA (fC gf) i) = fR P[f2] := by
              rw [← cb]
              exact nck (by omega)
            rw [e1, e2] at hA2
            rw [e1] at hle
            have e3 : k - (1 + fP P[f2]) + fR P[f2] = k - 1 - fP P[f2] + fR P[f2] := by omega
            rw [e3] at hA2
            have K : KX P m h1 (n0, v, p, bb, g) Q (enA P f2 ((f, b, settle (fC gf) (i + 1)) :: r) (n0, v, p, bb, g)) := K
            refine ⟨hm2.1, T.mono (s_en262 hm1 hP1 hW hO rfl H2 hg hg2 (k := k - 1) (by omega) (by omega) (by omega) hA2 K) (fun r' h' hq => ?_)⟩
            obtain ⟨e, hq⟩ := hq
            subst e
            exact rV_of (rV_of hq)
          · rw [if_neg cb]
            exact t8 (fun z => cb z.2)
        · rw [if_neg ca]
          exact t8 (fun z => ca z.1)
  rw [if_neg c17] at K ⊢
  have hb : isBg (oA (fC gf) i) = false := by
    unfold isBg
    rw [decide_eq_false hs.1, decide_eq_false hs.2.1, decide_eq_false c4]
    rfl
  have h6 : ¬ oA (fC gf) i = 6 := by
    intro e
    obtain ⟨v1, v2, x, hv, -, hx, hst, -, -, -, h0⟩ := hA.v hw
    rw [oA_of hx] at e
    unfold vstep at hst
    rw [if_neg (by omega), if_pos e] at hst
    cases hst
  have har : ∃ t : Nat × Nat, (arP (oA (fC gf) i) (aA (fC gf) i) (fP gf + fL gf) = some t ∨ (oA (fC gf) i = 1 ∧ t = (0, 0))) ∧ t.1 ≤ k ∧ At (sgs (P.take (f + 1))) (fP gf + fL gf) (fR gf) (fC gf) (i + 1) (k - t.1 + t.2) := by
    by_cases c1 : oA (fC gf) i = 1
    · exact ⟨(0, 0), Or.inr ⟨c1, rfl⟩, Nat.zero_le _, hA.nop hw c1⟩
    · obtain ⟨t, q, ha, ht, hA2⟩ := hA.arp hw c0 c1 hb hs.2.2.1 h6 hs.2.2.2 c12 c13 c14 c15 c16 c17
      exact ⟨(t, q), Or.inl ha, ht, hA2⟩
  obtain ⟨t, har, ht, hA2⟩ := har
  have hst := hA2.stp hW hg
  refine ⟨hm1.1, s_simple hm1 H1 (by omega) hn (by omega) ht hn220 hp6 har ?_⟩
  cases hz : smp (oA (fC gf) i) (aA (fC gf) i) (bA (fC gf) i) b (n, v, p, bb, g) with
  | inl c =>
    rw [hz] at K
    have hc : ¬ c = 0 := by
      intro e
      subst e
      rcases har with har | ⟨e1, -⟩
      · have key : ∀ o a' b' : Int32, ∀ t', arP o a' (fP gf + fL gf) = some t' → ¬ smp o a' b' b (n, v, p, bb, g) = .inl 0 := by
          intro o a' b' t' h1 h2
          rcases arP_cases h1 with ⟨rfl, rfl⟩ | ⟨rfl, rfl⟩ | ⟨rfl, ha, hb, rfl⟩ | ⟨rfl, ha, hb, rfl⟩ | ⟨rfl, ha, hb, rfl⟩ | ⟨rfl, ha, rfl⟩ | ⟨rfl, ha, rfl⟩ | ⟨hc, rfl⟩ | ⟨hc, rfl⟩ | ⟨hc, rfl⟩ | ⟨⟨g1, g2⟩, rfl⟩ | ⟨⟨g1, g2⟩, rfl⟩
          · cases h2
          · cases h2
          · cases h2
          · cases h2
          · cases h2
          · cases h2
          · cases h2
          · rcases hc with rfl | rfl | rfl <;> cases h2
          · rcases hc with rfl | rfl | rfl | rfl | rfl
            · rw [smp_64] at h2
              split at h2 <;> cases h2
            · cases h2
            · cases h2
            · cases h2
            · cases h2
          · have e : smp o a' b' b (n, v, p, bb, g) = match wk2 o (v (n - 2)) (v (n - 1)) with
                | none => .inl 11
                | some z => .inr (n - 1, upv v (n - 2) z, p, bb, g) := by
              rcases hc with rfl | rfl | rfl | rfl | rfl | rfl | rfl | rfl | rfl | rfl | rfl | rfl | rfl | rfl | rfl <;> rfl
            rw [e] at h2
            split at h2
            · exact absurd (Sum.inl.inj h2) (by decide)
            · cases h2
          · rw [smp_ld g1 g2] at h2
            split at h2
            · exact absurd (Sum.inl.inj h2) (by decide)
            · cases h2
          · rw [smp_st g1 g2] at h2
            split at h2
            · exact absurd (Sum.inl.inj h2) (by decide)
            · cases h2
        exact key _ _ _ _ har hz
      · rw [e1, smp_1] at hz
        cases hz
    unfold KX at K
    dsimp only at K
    rw [if_neg hc] at K
    exact fun h' H' => rV_of (s_262x (H'.1.ms hm1) (by rw [H'.2.2.1]; decide) (K h' H'))
  | inr w2 =>
    rw [hz] at K
    have K : KP P m h1 ((f, b, settle (fC gf) (i + 1)) :: r) w2 Q := K
    intro h' H'
    obtain ⟨n2, v2, p2, bb2, g2⟩ := w2
    have e2 : n2 = n - t.1 + t.2 ∧ 1 ≤ p2 ∧ p2 ≤ 6 := by
      rcases har with har | ⟨e1, e2⟩
      · exact smp_n har (by omega) hO.2.2.2.2 hz
      · rw [e1, smp_1] at hz
        cases hz
        rw [e2]
        exact ⟨rfl, hO.2.2.2.2⟩
    have hO2 : OKR P ((f, b, settle (fC gf) (i + 1)) :: r) (n2, v2, p2, bb2, g2) := hO.mk hg (k := k - t.1 + t.2) (by dsimp only; omega) hst.1 hst.2 e2.2
    rw [Nat.add_assoc] at H'
    exact rV_of (s_262 (q := settle (fC gf) (i + 1)) hm1 hP1 hW H' hg hA2 (by omega) rfl hO2 K)
end FF
