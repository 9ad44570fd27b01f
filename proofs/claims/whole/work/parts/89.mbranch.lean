/-! THE REFERENCE RUNS, 6: branches -/
theorem At.brT {sg : List (Nat × Nat)} {nm r : Nat} {c : List Ic} (hw : Wh sg nm r c) {i k : Nat} (h : At sg nm r c i k) {v : VS} (hv : vat sg nm r c i = some v) {j : Nat} {lb : Lb} (hj : v.1[j]? = some lb) {p : Nat} (hp : (ps c i)[j]? = some p) : ∃ T, tgt c (some p) = settle c T ∧ At sg nm r c T (hT lb + wantL lb) ∧ p < i ∧ isBg (oA c p) = true ∧ (oA c p = 3 → T = p + 1 ∧ wantL lb = nt (aA c p)) ∧ (¬ oA c p = 3 → wantL lb = nt (bA c p) ∧ ∃ e, clo c p = some e ∧ e + 1 < c.length ∧ T = e + 1) ∧ (∃ vp l0 q0, vat sg nm r c (p + 1) = some vp ∧ vp.1 = l0 :: q0 ∧ hT l0 = hT lb) ∧ ¬ aA c p < 0 ∧ ¬ bA c p < 0 := by
  have hi := h.lt hw
  obtain ⟨v2, hv2, hl, hne, hk, h0⟩ := h
  rw [hv] at hv2
  cases hv2
  obtain ⟨vp, l0, l, g1, g2, g3, g4, g5, g6, g7, g8, g9⟩ := snap hv hp
  rw [hj] at g3
  cases g3
  obtain ⟨hpi, hpb⟩ := ps_lt hp
  have hld : live (v.1.drop (j + 1)) := live_drop hl _
  obtain ⟨vq, vq', x, hq0, hq', hx, hs, -⟩ := hw.at (i := p) (by omega)
  rw [g1] at hq'
  cases hq'
  have hox := oA_of hx
  have hwi : wi x.2.1 4 ∧ wi x.2.2 4 := by
    rcases vstep_shape hs with ⟨-, l, q, -, z1, z2, -⟩ | ⟨z, -⟩ | ⟨z, -⟩
    · exact ⟨z1, z2⟩
    · rw [← hox, hpb] at z; cases z
    · rw [← hox, hpb] at z; cases z
  have hab : ¬ aA c p < 0 ∧ ¬ bA c p < 0 := by
    rw [aA_of hx, bA_of hx]
    exact ⟨hwi.1.1, hwi.2.1⟩
  by_cases h3 : oA c p = 3
  · have e : tgt c (some p) = settle c (p + 1) := by
      show (if oA c p = 3 then _ else _) = _
      rw [if_pos h3]
    have hby : bY lb = 3 := by
      have hb0 : bY l0 = 3 := by rw [g5, h3]; rfl
      rcases g4.2.2.2 with q | ⟨q, -⟩
      · rw [q, hb0]
      · rw [hb0] at q; cases q
    have hwant : wantL lb = nt (aA c p) := by
      unfold wantL
      rw [if_pos hby, g4.1, g6]
    refine ⟨p + 1, e, ?_, hpi, hpb, fun _ => ⟨rfl, hwant⟩, fun z => absurd h3 z, ⟨vp, l0, _, g1, g2, g4.2.2.1.symm⟩, hab⟩
    rw [hwant, g4.2.2.1]
    refine ⟨vp, g1, ?_, by rw [g2]; exact List.cons_ne_nil _ _, by rw [g2]; show hT l0 + oW l0 = _; rw [g8], ?_⟩
    · rw [g2]
      intro y hy
      rcases List.mem_cons.mp hy with e | hy
      · rw [e]; exact g9
      · exact hld y hy
    · exact (vstep_ctl hs (by rw [← hox, h3]; decide) (by rw [← hox, h3]; decide)).2.2
  · obtain ⟨e, c1, -, c3, -⟩ := hw.cl (p := p) (by omega) hpb
    have et : tgt c (some p) = settle c (e + 1) := by
      show (if oA c p = 3 then _ else match clo c p with
        | some e => settle c (e + 1)
        | none => none) = _
      rw [if_neg h3, c1]
    have hby : ¬ bY lb = 3 := by
      have hb0 : ¬ bY l0 = 3 := by
        rw [g5]
        intro q
        unfold isBg at hpb
        simp at hpb
        rcases hpb with q2 | q2 | q2
        · rw [q2] at q; exact absurd q (by decide)
        · exact h3 q2
        · rw [q2] at q; exact absurd q (by decide)
      rcases g4.2.2.2 with q | ⟨-, q⟩
      · rw [q]; exact hb0
      · rw [q]; decide
    have hwant : wantL lb = nt (bA c p) := by
      unfold wantL
      rw [if_neg hby, g4.2.1, g7]
    refine ⟨e + 1, et, ?_, hpi, hpb, fun z => absurd z h3, fun _ => ⟨hwant, e, c1, c3, rfl⟩, ⟨vp, l0, _, g1, g2, g4.2.2.1.symm⟩, hab⟩
    rw [hwant, g4.2.2.1]
    exact At.endP hw (by omega) hpb c1 g1 g2 hld
theorem nI_n0 {a : Nat} (h : a < 2147483648) : ¬ nI a < 0 := fun z => nI_nlt (b := 0) (Nat.zero_le _) h z
section FF
variable {P : List Fn} {m : Nat} {h0 h : Hp} {fr r : List Fm} {w w0 : Wd} {A n p f b i : Nat} {q : Option Nat} {v : VV} {bb : Nat → Int32} {g : VV} {gf : Fn} {Q : Option TV → Hp → Prop}
theorem KP.rv (K : KP P m h0 fr w Q) : KP P m h0 fr w (rV (fun h1 => Q none h1)) := ⟨fun e h' H => rV_of (K.1 e h' H), fun f2 b2 i2 r2 e h' H => rV_of (K.2 f2 b2 i2 r2 e h' H)⟩
/-- pass behind a step -/
theorem s_262 (hm : MS h0 m) (hP : MP h0 m P) (hW : WhP P) {B k : Nat} (H : RLv P m h0 h ((f, b, q) :: r) (n, v, p, bb, g) (pos0 P f + B)) (hg : P[f]? = some gf) (hA : At (sgs (P.take (f + 1))) (fP gf + fL gf) (fR gf) (fC gf) B k) (hn : n = b + (fP gf + fL gf) + k) (hq : settle (fC gf) B = q) (hF : OKR P ((f, b, q) :: r) (n, v, p, bb, g)) (K : KP P m h0 ((f, b, q) :: r) (n, v, p, bb, g) Q) : tX11_step_262 m h Q := by
  have hm1 := H.ms hm
  refine wX11_step_262 m h Q ⟨hm1.1, ?_⟩
  exact (s_pass hm hP hW r f b q _ B k n v h gf (Nat.le_refl _) H hg hA hn hq hF.1 (by have := hF.2.2.1; simp at this; omega) hF.2.2.2.1 K.rv).2
theorem s_262x (hm : MS h m) (h1 : ¬ gi h 668 m = 1) (k : Q none h) : tX11_step_262 m h Q := wX11_step_262 m h Q ⟨hm.1, (s_passX hm h1 (rV_of k)).2⟩
/-- a branch, and pass behind it -/
theorem s_br (hm : MS h0 m) (hP : MP h0 m P) (hW : WhP P) (hO : OKR P ((f, b, some i) :: r) w0) (H : RLv P m h0 h ((f, b, some i) :: r) (n, v, p, bb, g) (pos0 P f + i)) (hg : P[f]? = some gf) {k k' : Nat} (hA : At (sgs (P.take (f + 1))) (fP gf + fL gf) (fR gf) (fC gf) i k) (hk : k' ≤ k) (hn : n = b + (fP gf + fL gf) + k') (hpg : w0.2.2 = (p, bb, g)) {vv : VS} (hv : vat (sgs (P.take (f + 1))) (fP gf + fL gf) (fR gf) (fC gf) i = some vv) {j : Nat} {lb : Lb} (hj : vv.1[j]? = some lb) (hle : hT lb + wantL lb ≤ k')
    (K : KP P m h0 ((f, b, tgt (fC gf) (ps (fC gf) i)[j]?) :: r) (b + (fP gf + fL gf) + hT lb + wantL lb, kp v (n - wantL lb) (b + (fP gf + fL gf) + hT lb) (wantL lb), p, bb, g) Q) : tX11_branch m (nI j) h (rV (fun h9 => tX11_step_262 m h9 Q)) := by
  have hm1 := H.ms hm
  have hP1 := H.1.mp hP
  have hw := (hW f gf hg).1
  have hi := hA.lt hw
  obtain ⟨g1, k1, hg1, hn0, hk1, hA1, hs, hr0, hr, h4, h5, h30⟩ := hO.top
  rw [hg] at hg1
  cases hg1
  have hkm := hA.most hW hg
  have hask := askN_some hg
  have hlen : (fC gf).length ≤ 1500 := by have := (hP1.at hg hi).2.2.2.2; omega
  have hj31 : j < 2147483648 := by
    have h1 : j < vv.1.length := (List.getElem?_eq_some_iff.mp hj).1
    have h2 := vat_len hv (fun z => by rw [z] at h1; exact absurd h1 (by simp))
    have h3 := ps_len_le (fC gf) i
    omega
  have x8 : gi h 674 m = nI (pos0 P f + i) := H.2.2.2.2.2.2.2.1
  refine wX11_branch m _ h _ ⟨hm1.1, hm1.1, ?_⟩
  rw [x8]
  refine s_beginOf hm hP H (by omega) hg (by omega) hj31 ?_
  have hvl : vv.1 ≠ [] := fun z => by rw [z] at hj; cases hj
  obtain ⟨y2, -, hO2, ey⟩ := brA_ok hW hO hg hA hv hj (by omega) (n, v, p, bb, g) hpg.symm
  rw [ey] at hO2
  cases hpl : (ps (fC gf) i)[j]? with
  | none =>
    rw [hpl] at K hO2
    have hjn : (ps (fC gf) i).length ≤ j := by simpa using hpl
    have hvlen := vat_len hv hvl
    have hjl : j < vv.1.length := (List.getElem?_eq_some_iff.mp hj).1
    have hje : j = (ps (fC gf) i).length := by omega
    obtain ⟨lb2, hj2, hz, hwt⟩ := lastLb hv hvl
    rw [← hje, hj] at hj2
    cases hj2
    rw [hz, hwt] at K hle
    refine rI_of ?_
    rw [if_pos (by decide)]
    refine ⟨hm1.1, s_back hm hP H (by omega) hg (by omega) (by omega) h4 hr0 ?_⟩
    have ek : ∀ j, j < b + fR gf → kp v (n - fR gf) b (fR gf) j = kp (kp v (n - fR gf) (b + (fP gf + fL gf) + 0) (fR gf)) (b + (fP gf + fL gf) + 0 + fR gf - fR gf) b (fR gf) j := by
      intro j hj
      rw [Nat.add_sub_cancel]
      exact (kp_kp v (by omega) (by omega) hj).symm
    unfold KP at K
    dsimp only at K
    rw [show tgt (fC gf) none = none from rfl, lvF_none hg] at K
    cases r with
    | nil =>
      intro h' HE
      refine rV_of (rV_of (s_262x (HE.1.ms hm) (by rw [HE.2.2.2.1]; decide) (K.1 rfl h' ?_)))
      obtain ⟨e1, e2, e3, e4, e5, e6, e7⟩ := HE
      exact ⟨e1, e2, e3, e4, e5, e6, fun j hj => (e7 j hj).trans (ek j hj)⟩
    | cons y r2 =>
      obtain ⟨f3, b3, p3⟩ := y
      intro h' B2 g2 k2 y1 y2 y3 y4 H'
      refine rV_of (rV_of (s_262 hm hP hW (H'.cong ek) y1 y4 y3 y2 ⟨hr, List.cons_ne_nil _ _, by simp at h30 ⊢; omega, by omega, ?_⟩ K))
      have := hO.2.2.2.2
      rw [hpg] at this
      exact this
  | some pl =>
    rw [hpl] at K hO2
    obtain ⟨T, t1, t2, t3, t4, t5, t6, ⟨vp, l0, q0, t7, t8, t9⟩, t10, t11⟩ := hA.brT hw hv hj hpl
    refine rI_of ?_
    obtain ⟨a1, a2, a3, a4, -⟩ := hP1.at hg (show pl < (fC gf).length by omega)
    have hx := List.getElem?_eq_getElem (show pl < (fC gf).length by omega)
    have abel : ai h (m + 10) (pos0 P f + pl) = nI (hT lb) := by
      obtain ⟨-, -, -, bel⟩ := (hP1.2.2 f gf hg).2.2.2.2.2.2.2 pl _ hx
      obtain ⟨v3, l3, q3, z1, z2, z3⟩ := bel (by rw [← oA_of hx]; exact t4)
      have z1 : vat (sgs (P.take (f + 1))) (fP gf + fL gf) (fR gf) (fC gf) (pl + 1) = some v3 := z1
      rw [t7] at z1
      cases z1
      rw [t8] at z2
      cases z2
      rw [z3, t9]
    rw [if_neg (nI_n0 (show pos0 P f + pl < 2147483648 by omega))]
    refine ⟨hm1.1, L_op hm1 hm1 a4 ?_⟩
    rw [nck (by omega), a1]
    -- what follows in both cases
    have fol : ∀ (s0 : Int32), s0 = nI (wantL lb) → tX11_branch_45 m (nI (pos0 P f + pl)) s0 (some m) h (rV (fun h9 => tX11_step_262 m h9 Q)) := by
      intro s0 es
      subst es
      refine wX11_branch_45 m _ _ _ h _ ⟨hm1.1, s_base hm hP H (by omega) hg (rI_of ⟨hm1.1, L_below hm1 hm1 a4 (dr_of rfl ⟨hm1.1, ?_⟩)⟩)⟩
      rw [nck (by omega), abel, nJ_add]
      refine s_keep0 hm H (by omega) (by omega) (by omega) (fun h4 H4 => rV_of ?_)
      have hm4 := H4.ms hm
      have hP4 := H4.1.mp hP
      obtain ⟨a41, -⟩ := hP4.at hg (show pl < (fC gf).length by omega)
      refine ⟨hm4.1, L_op hm4 hm4 a4 ?_⟩
      rw [a41]
      have cont : ∀ h5, h5 = pi h4 674 m (nI (pos0 P f + T)) → rV (fun h9 => tX11_step_262 m h9 Q) none h5 := by
        intro h5 e5
        have H5 : RLv P m h0 h5 ((f, b, tgt (fC gf) (some pl)) :: r) (b + (fP gf + fL gf) + hT lb + wantL lb, kp v (n - wantL lb) (b + (fP gf + fL gf) + hT lb) (wantL lb), p, bb, g) (pos0 P f + T) := by
          rw [e5]
          exact H4.at' _
        exact rV_of (s_262 hm hP hW H5 hg t2 (by omega) t1.symm hO2 K)
      by_cases c3 : oA (fC gf) pl = 3
      · rw [if_pos c3]
        refine ⟨hm4.1, fun h5 e5 => cont h5 ?_⟩
        rw [← nI_succ, Nat.add_assoc, ← (t5 c3).1] at e5
        exact e5
      · rw [if_neg c3]
        obtain ⟨-, e, e1, e2, e3⟩ := t6 c3
        have e1' : enF (fC gf) (ps (fC gf) (pl + 1)).length false (fC gf).length (pl + 1) = some e := by
          rw [ps_bg t4, List.length_cons]
          exact e1
        rw [← nI_succ, Nat.add_assoc]
        refine ⟨hm4.1, s_endOf (fl := false) hm4 hP4 hg e1' (by omega) (rI_of ⟨hm4.1, fun h5 e5 => cont h5 ?_⟩)⟩
        rw [← nI_succ, Nat.add_assoc, ← e3] at e5
        exact e5
    by_cases c3 : oA (fC gf) pl = 3
    · rw [if_pos c3]
      refine ⟨hm1.1, L_one hm1 hm1 a4 ?_⟩
      rw [a2]
      exact fol _ (by rw [(t5 c3).2, nI_nt t10])
    · rw [if_neg c3]
      refine ⟨hm1.1, L_two hm1 hm1 a4 ?_⟩
      rw [a3]
      exact fol _ (by rw [(t6 c3).1, nI_nt t11])
end FF
