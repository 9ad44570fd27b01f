/-! THE REFERENCE, 10: code, function, drop, whole -/
section MC
variable {h : Hp} {m : Nat} {Q : Option TV → Hp → Prop} {o a b : Int32} {pre : List Fn} {s : Nat × Nat × Nat} {c : List Ic} {v : VS}
theorem s_mcode (hm : MS h m) (hF : MF h m (pre ++ [(s, c)])) (hw : gi h 642 m = 1) (hv : vk (pre ++ [(s, c)]) pre.length (s, c) c.length = some v) (hne : v.1 ≠ []) (hV : MV h m v)
    (k : if totL (pre ++ [(s, c)]) = 1500 then Q (some (tI (-1))) h else match vstep (sgs (pre ++ [(s, c)])) (s.1 + s.2.2) v (o, a, b) with
      | none => Q (some (tI (-1))) h
      | some v' => ∀ h', WW m h h' → MS h' m → MF h' m (pre ++ [(s, c ++ [(o, a, b)])]) → gi h' 642 m = (if v'.1 = [] then 0 else 1) → (v'.1 ≠ [] → MV h' m v') → Q (some (tI (nI (totL (pre ++ [(s, c)]) + 1)))) h') : tX11_code m o a b h Q := by
  obtain ⟨hSG, hsg8, hr8⟩ := sg_of hF
  have f3 := hF.2.2.1
  have f4 := hF.2.2.2.1
  obtain ⟨A0, g3, gE⟩ := hV
  have hv2 := hv
  rw [vk_last] at hv2
  have hv2 : vat (sgs (pre ++ [(s, c)])) (s.1 + s.2.2) s.2.1 c c.length = some v := hv2
  have htot : totL (pre ++ [(s, c)]) = totL pre + c.length := totL_snoc pre (s, c)
  have hSm : ∀ l ∈ v.1, SmL l := SmL_of (vat_chain hv2) (vat_sB hr8 hsg8 hv2) (by omega)
  have no : tX11_code_108 m o a b 0 h Q ∨ True := Or.inr trivial
  have fail : Q (some (tI (-1))) h → tX11_code_108 m o a b 0 h Q := by
    intro q
    refine wX11_code_108 m o a b 0 h Q ?_
    rw [if_pos rfl]
    exact q
  refine wX11_code m o a b h Q ⟨hm.1, ?_⟩
  rw [if_neg (by rw [hw]; decide)]
  refine ⟨hm.1, ?_⟩
  rw [f3]
  by_cases ht : totL (pre ++ [(s, c)]) = 1500
  · rw [if_pos ht] at k
    rw [if_pos (by rw [ht]; rfl)]
    exact k
  rw [if_neg ht] at k
  rw [if_neg (fun q => ht ((nJ_inj (by omega) (by decide)).mp (q.trans (show (1500 : Int32) = nI 1500 from rfl))))]
  have ht1 : totL (pre ++ [(s, c)]) < 1500 := by omega
  have hlen : v.1.length ≤ 1500 := by
    have h1 := vat_len hv2 hne
    have h2 := ps_len_le c c.length
    omega
  have G : LG h m v.1 := ⟨hm, g3, hlen, A0, hSm, hne⟩
  refine ⟨hm.1, ?_⟩
  rw [gE.1]
  by_cases hlf : 0 < v.2.1
  · rw [if_pos (show (0 : Int32) < nI v.2.1 from nI_lt (a := 0) hlf (by have := gE.2.1; omega))]
    by_cases h6 : o = 6
    · rw [if_pos h6]
      refine wX11_code_43 m o a b h Q ?_
      rw [if_pos h6]
      cases hls : v.1 with
      | nil => exact absurd hls hne
      | cons l r =>
        rw [hls] at G g3
        refine ⟨hm.1, s_entryTo G gE hlf ?_⟩
        have hvs : vstep (sgs (pre ++ [(s, c)])) (s.1 + s.2.2) v (o, a, b) = entV v a := by
          unfold vstep
          rw [if_pos hlf, if_pos h6]
        rw [hvs] at k
        unfold entV at k
        rw [hls] at k
        cases hla : labAt (l :: r) a with
        | none =>
          rw [hla] at k
          exact ⟨0, rfl, fail k⟩
        | some t =>
          rw [hla] at k
          dsimp only at k ⊢
          by_cases hok : okE v.2.2.1 l t = true
          · rw [if_pos hok] at k ⊢
            have hst : SmL t := G.2.2.2.2.1 t (List.mem_of_getElem? (labAt_inv hla).2)
            have hwt := wantL_lt hst
            intro h1 w1 A1 q3 q4 q6 q5 q10
            refine ⟨1, rfl, ?_⟩
            by_cases c1 : v.2.1 = 1
            · rw [if_pos c1] at k A1
              refine s_take108 (v' := (sDie l :: r, 0, some (wantL t), mstV (sDie l :: r) v.2.2.2)) hm hF hw hv ht1 ?_ w1 A1 q3 (fun _ => ⟨by rw [q4, c1], Nat.zero_le _, fun z => absurd z (Nat.lt_irrefl 0)⟩) (fun j _ => by rw [q10]) (fun hb => by rw [h6] at hb; cases hb) k
              rw [hvs]
              unfold entV
              rw [hls, hla]
              dsimp only
              rw [if_pos hok, if_pos c1]
            · rw [if_neg c1] at k A1
              refine s_take108 (v' := (l :: r, v.2.1 - 1, some (wantL t), mstV (l :: r) v.2.2.2)) hm hF hw hv ht1 ?_ w1 A1 q3 (fun _ => ⟨q4, by have := gE.2.1; show v.2.1 - 1 ≤ 21; omega, fun _ => ⟨q6, q5, hwt⟩⟩) (fun j _ => by rw [q10]) (fun hb => by rw [h6] at hb; cases hb) k
              rw [hvs]
              unfold entV
              rw [hls, hla]
              dsimp only
              rw [if_pos hok, if_neg c1]
          · rw [if_neg hok] at k ⊢
            exact ⟨0, rfl, fail k⟩
    · rw [if_neg h6]
      have hvs : vstep (sgs (pre ++ [(s, c)])) (s.1 + s.2.2) v (o, a, b) = none := by
        unfold vstep
        rw [if_pos hlf, if_neg h6]
      rw [hvs] at k
      exact k
  · have hlf0 : v.2.1 = 0 := by omega
    rw [if_neg (by rw [hlf0]; decide)]
    by_cases h6 : o = 6
    · rw [if_pos h6]
      have hvs : vstep (sgs (pre ++ [(s, c)])) (s.1 + s.2.2) v (o, a, b) = none := by
        unfold vstep
        rw [if_neg hlf, if_pos h6]
      rw [hvs] at k
      exact k
    rw [if_neg h6]
    -- what the checker's own parts come to
    have VPk : ¬ o = 14 → ∀ f, f = vctl (sgs (pre ++ [(s, c)])) (s.1 + s.2.2) v.1 o a b → VP m (totL (pre ++ [(s, c)])) o h f (fun r h1 => (r = some (tI 0) ∧ tX11_code_108 m o a b 0 h1 Q) ∨ (r = some (tI 1) ∧ tX11_code_108 m o a b 1 h1 Q)) := by
      intro h14 f hf
      have hvs : vstep (sgs (pre ++ [(s, c)])) (s.1 + s.2.2) v (o, a, b) = match vctl (sgs (pre ++ [(s, c)])) (s.1 + s.2.2) v.1 o a b with
          | some ls => some (ls, 0, v.2.2.1, mstV ls v.2.2.2)
          | none => none := by
        unfold vstep
        dsimp only
        rw [if_neg hlf, if_neg h6, if_neg h14]
        rfl
      rw [← hf] at hvs
      clear hf
      cases f with
      | none =>
        rw [hvs] at k
        exact Or.inl ⟨rfl, fail k⟩
      | some ls' =>
        rw [hvs] at k
        dsimp only at k hvs
        intro h1 w1 A1 q3 q10 q11
        refine Or.inr ⟨rfl, s_take108 hm hF hw hv ht1 hvs (w1.mono (fun f e => Or.inl e)) A1 q3 (fun _ => ⟨?_, Nat.zero_le _, fun z => absurd z (Nat.lt_irrefl 0)⟩) q10 (fun hb => ?_) k⟩
        · rw [w1.2.2.2.2.2.2.2.1 654 m (fun q => absurd q.1 (by decide)), gE.1, hlf0]
        · have := q11 hb
          have hv3 : isBg (o, a, b).1 = true := hb
          rcases vstep_shape hvs with ⟨-, l, q, -, -, -, -, e2⟩ | ⟨hf, -⟩ | ⟨hf, -⟩
          · have e2 : ls' = _ := e2
            rw [e2] at this
            exact ⟨_, _, e2, this⟩
          · rw [hv3] at hf; cases hf
          · rw [hv3] at hf; cases hf
    -- handing on the answer
    have on80 : ∀ r h1, (r = some (tI 0) ∧ tX11_code_108 m o a b 0 h1 Q) ∨ (r = some (tI 1) ∧ tX11_code_108 m o a b 1 h1 Q) → rI (fun x_2 h_1 => (if x_2 = 0 then tX11_code_98 m o a b h_1 Q else tX11_code_108 m o a b 1 h_1 Q)) r h1 := by
      intro r h1 hr
      rcases hr with ⟨rfl, q⟩ | ⟨rfl, q⟩
      · refine ⟨0, rfl, ?_⟩
        dsimp only
        rw [if_pos rfl]
        exact wX11_code_98 m o a b h1 Q q
      · refine ⟨1, rfl, ?_⟩
        dsimp only
        rw [if_neg (by decide)]
        exact q
    have c80 : ¬ o < 0 → (tX11_control m o a b h (fun r h1 => (r = some (tI 0) ∧ tX11_code_108 m o a b 0 h1 Q) ∨ (r = some (tI 1) ∧ tX11_code_108 m o a b 1 h1 Q))) → tX11_code_80 m o a b h Q := by
      intro hn hc
      refine wX11_code_80 m o a b h Q ?_
      rw [if_neg hn]
      exact ⟨hm.1, T.mono hc on80⟩
    refine wX11_code_43 m o a b h Q ?_
    rw [if_neg h6]
    by_cases hlt : o < 6
    · rw [if_pos hlt]
      by_cases hn : o < 0
      · refine wX11_code_80 m o a b h Q ?_
        rw [if_pos hn]
        refine wX11_code_98 m o a b h Q (fail ?_)
        have hvs : vstep (sgs (pre ++ [(s, c)])) (s.1 + s.2.2) v (o, a, b) = none := by
          unfold vstep
          dsimp only
          rw [if_neg hlf, if_neg h6, if_neg (fun e => by rw [e] at hn; exact absurd hn (by decide)), vctl_neg hn]
        rw [hvs] at k
        exact k
      · obtain ⟨hs1, hs2⟩ := o_small (n := 6) hn hlt (by decide)
        have h14 : ¬ o = 14 := fun e => by rw [e] at hlt; exact absurd hlt (by decide)
        refine c80 hn ?_
        have kk := VPk h14 _ rfl
        have hcase : nt o = 0 ∨ nt o = 1 ∨ nt o = 2 ∨ nt o = 3 ∨ nt o = 4 ∨ nt o = 5 := by omega
        rcases hcase with e | e | e | e | e | e
        · have e : o = 0 := by rw [hs2, e]; rfl
          subst e
          exact s_c0 G kk
        · have e : o = 1 := by rw [hs2, e]; rfl
          subst e
          exact s_c1 G kk
        · have e : o = 2 := by rw [hs2, e]; rfl
          subst e
          exact s_c2 G f3 ht1 kk
        · have e : o = 3 := by rw [hs2, e]; rfl
          subst e
          exact s_c3 G f3 ht1 kk
        · have e : o = 4 := by rw [hs2, e]; rfl
          subst e
          exact s_c4 G f3 ht1 kk
        · have e : o = 5 := by rw [hs2, e]; rfl
          subst e
          exact s_c5 G kk
    rw [if_neg hlt]
    have hn : ¬ o < 0 := fun q => hlt (Int32.lt_trans q (by decide))
    have hn7 : ¬ o < 7 := by
      intro q
      obtain ⟨q1, q2⟩ := o_small (n := 7) hn q (by decide)
      have : ¬ nt o < 6 := fun z => hlt (by rw [q2]; exact nI_lt z (by decide))
      exact h6 (by rw [q2, show nt o = 6 by omega]; rfl)
    by_cases h11 : o = 11
    · rw [if_pos h11]
      refine c80 hn ?_
      have kk := VPk (by rw [h11]; decide) _ rfl
      subst h11
      exact s_c11 G kk
    rw [if_neg h11]
    have w12 : wi (o - 12) 5 ↔ ¬ o < 12 ∧ o < 18 := wi_sub hn7 (by decide) (by decide) (by decide)
    refine s_within (rI_of ?_)
    by_cases hw12 : wi (o - 12) 5
    · rw [if_pos hw12, if_neg (by decide)]
      obtain ⟨q1, q2⟩ := w12.mp hw12
      obtain ⟨hs1, hs2⟩ := o_small (n := 18) hn q2 (by decide)
      have hs3 : ¬ nt o < 12 := fun z => q1 (by rw [hs2]; exact nI_lt z (by decide))
      refine c80 hn ?_
      by_cases h14 : o = 14
      · subst h14
        refine s_c14 G ?_
        have hvs : vstep (sgs (pre ++ [(s, c)])) (s.1 + s.2.2) v (14, a, b) = if wi a 20 then (match turnV v.1 1 0 with
            | some ls => some (ls, nt a + 1, none, mstV ls v.2.2.2)
            | none => none) else none := by
          unfold vstep
          dsimp only
          rw [if_neg hlf, if_neg (by decide), if_pos rfl]
          rfl
        rw [hvs] at k
        by_cases hwi : wi a 20
        · rw [if_pos hwi] at k hvs ⊢
          cases htn : turnV v.1 1 0 with
          | none =>
            rw [htn] at k
            exact Or.inl ⟨rfl, fail k⟩
          | some ls' =>
            rw [htn] at k hvs
            dsimp only at k hvs ⊢
            intro h1 w1 A1 q3 q4 q6 q5 q10
            exact Or.inr ⟨rfl, s_take108 hm hF hw hv ht1 hvs w1 A1 q3 (fun _ => ⟨q4, by have := ((wi_nI (d := 20) (by decide)).mp hwi).2; show nt a + 1 ≤ 21; omega, fun _ => q6⟩) (fun j _ => by rw [q10]) (fun hb => by cases hb) k⟩
        · rw [if_neg hwi] at k ⊢
          exact Or.inl ⟨rfl, fail k⟩
      · have kk := VPk h14 _ rfl
        have hcase : nt o = 12 ∨ nt o = 13 ∨ nt o = 14 ∨ nt o = 15 ∨ nt o = 16 ∨ nt o = 17 := by omega
        rcases hcase with e | e | e | e | e | e
        · have e : o = 12 := by rw [hs2, e]; rfl
          subst e
          exact s_c12 G kk
        · have e : o = 13 := by rw [hs2, e]; rfl
          subst e
          exact s_c13 G kk
        · exact absurd (by rw [hs2, e]; rfl) h14
        · have e : o = 15 := by rw [hs2, e]; rfl
          subst e
          exact s_c15 G kk
        · have e : o = 16 := by rw [hs2, e]; rfl
          subst e
          exact s_c16 G hSG kk
        · have e : o = 17 := by rw [hs2, e]; rfl
          subst e
          exact s_c17 G kk
    · rw [if_neg hw12, if_pos rfl]
      have ne : ∀ n : Nat, n < 2147483648 → (n ≤ 6 ∨ (12 ≤ n ∧ n ≤ 17)) → ¬ o = nI n := by
        intro n hn2 hr e
        rcases hr with hr | hr
        · exact hn7 (by rw [e]; exact nI_lt (b := 7) (by omega) (by decide))
        · exact hw12 (w12.mpr ⟨fun q => by rw [e] at q; exact nI_nlt (a := n) (b := 12) (by omega) hn2 q, by rw [e]; exact nI_lt (b := 18) (by omega) (by decide)⟩)
      have h14 : ¬ o = 14 := ne 14 (by decide) (by omega)
      have hb : isBg o = false := by
        unfold isBg
        rw [decide_eq_false (show ¬ o = 2 from ne 2 (by decide) (by omega)), decide_eq_false (show ¬ o = 3 from ne 3 (by decide) (by omega)), decide_eq_false (show ¬ o = 4 from ne 4 (by decide) (by omega))]
        rfl
      have hvc : vctl (sgs (pre ++ [(s, c)])) (s.1 + s.2.2) v.1 o a b = match arP o a (s.1 + s.2.2) with
          | some q => turnV v.1 q.1 q.2
          | none => none := by
        unfold vctl
        rw [if_neg (show ¬ o = 0 from ne 0 (by decide) (by omega)), if_neg (show ¬ o = 1 from ne 1 (by decide) (by omega)), if_neg (by rw [hb]; decide), if_neg (show ¬ o = 5 from ne 5 (by decide) (by omega)), if_neg h11, if_neg (show ¬ o = 12 from ne 12 (by decide) (by omega)), if_neg (show ¬ o = 13 from ne 13 (by decide) (by omega)), if_neg (show ¬ o = 15 from ne 15 (by decide) (by omega)), if_neg (show ¬ o = 16 from ne 16 (by decide) (by omega)), if_neg (show ¬ o = 17 from ne 17 (by decide) (by omega))]
        rfl
      have kk := VPk h14 _ hvc.symm
      refine ⟨hm.1, T.mono (s_plain hn7 hb G hSG kk) (fun r h1 hr => ?_)⟩
      rcases hr with ⟨rfl, q⟩ | ⟨rfl, q⟩
      · exact ⟨0, rfl, q⟩
      · exact ⟨1, rfl, q⟩
end MC
