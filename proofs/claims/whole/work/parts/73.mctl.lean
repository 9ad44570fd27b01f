/-! THE REFERENCE, 4: control and plain operations, checked -/
section ML
variable {h : Hp} {m : Nat} {ls : List Lb} {Q : Option TV → Hp → Prop} {tot : Nat}
/-- what the parts need -/
def LG (h : Hp) (m : Nat) (ls : List Lb) : Prop := MS h m ∧ gi h 653 m = nI ls.length ∧ ls.length ≤ 1500 ∧ LA h m ls ∧ (∀ l ∈ ls, SmL l) ∧ ls ≠ []
theorem if01 {c : Prop} [Decidable c] : ((if c then (1 : Int32) else 0) = 0 ∨ (if c then (1 : Int32) else 0) = 1) := by
  by_cases h : c
  · rw [if_pos h]; exact Or.inr rfl
  · rw [if_neg h]; exact Or.inl rfl
theorem LA_oth {h h' : Hp} {m : Nat} {ls : List Lb} (hA : LA h m ls) (e : ∀ a, m + 11 ≤ a → a ≤ m + 16 → ai h' a = ai h a) : LA h' m ls := by
  induction ls with
  | nil => trivial
  | cons l r ih =>
    refine ⟨?_, ih hA.2⟩
    rw [e _ (by omega) (by omega), e _ (by omega) (by omega), e _ (by omega) (by omega), e _ (by omega) (by omega), e _ (by omega) (by omega), e _ (by omega) (by omega)]
    exact hA.1
/-- an answer that is handed on -/
theorem VP_on {o : Int32} {f : Option (List Lb)} (k : VP m tot o h f Q) : VP m tot o h f (rI (fun x h1 => ((x = 0 ∨ x = 1) ∧ Q (some (tI x)) h1))) := by
  cases f with
  | none => exact ⟨0, rfl, Or.inl rfl, k⟩
  | some ls' => exact fun h' a b c d e => ⟨1, rfl, Or.inr rfl, k h' a b c d e⟩
theorem VP_on2 {o : Int32} {f : Option (List Lb)} (k : VP m tot o h f Q) : VP m tot o h f (rI (fun x h1 => (if x = 0 then Q (some (tI 0)) h1 else Q (some (tI 1)) h1))) := by
  cases f with
  | none => exact ⟨0, rfl, by dsimp only; rw [if_pos rfl]; exact k⟩
  | some ls' => exact fun h' a b c d e => ⟨1, rfl, by dsimp only; rw [if_neg (by decide)]; exact k h' a b c d e⟩
theorem s_block {o a b : Int32} (hb : isBg o = true) (G : LG h m ls) (htot : gi h 641 m = nI tot) (ht : tot < 1500) (k : VP m tot o h (if wi a 4 ∧ wi b 4 then blockV ls o (nt a) (nt b) else none) Q) : tX11_block m o a b h Q := by
  obtain ⟨hm, hl, hlen, hA, hs, hne⟩ := G
  have main : tX11_block_12 m o a b (if o = 4 then 1 + a else a) h Q := by
    refine wX11_block_12 m o a b _ h Q (s_within (rI_of ?_))
    by_cases c1 : wi a 4
    · rw [if_pos c1, if_neg (by decide)]
      refine s_within (rI_of ?_)
      by_cases c2 : wi b 4
      · rw [if_pos c2, if_neg (by decide)]
        rw [if_pos ⟨c1, c2⟩] at k
        have ha : nI (nt a) = a := nI_nt c1.1
        have hbb : nI (nt b) = b := nI_nt c2.1
        have h4a : nt a ≤ 4 := ((wi_nI (d := 4) (by decide)).mp c1).2
        have h4b : nt b ≤ 4 := ((wi_nI (d := 4) (by decide)).mp c2).2
        have hn : (if o = 4 then 1 + a else a) = nI (blkN o (nt a)) := by
          unfold blkN
          split
          · rw [← nJ_add, ha]; rfl
          · exact ha.symm
        have ho : nI (nt o) = o := by
          unfold isBg at hb
          simp at hb
          rcases hb with q | q | q <;> (rw [q]; rfl)
        have hbl : blkN o (nt a) < 100 := by
          unfold blkN
          split <;> omega
        rw [hn]
        cases ls with
        | nil => exact absurd rfl hne
        | cons l r =>
          have hr : r.length < 1501 := by simp at hlen; omega
          have hsl := hs l List.mem_cons_self
          refine ⟨hm.1, s_has hm hl hr hA hsl (by omega) (rI_of ?_)⟩
          unfold blockV at k
          dsimp only at k
          by_cases c3 : hasB l (blkN o (nt a)) = true
          · rw [if_pos c3] at k
            rw [if_pos c3, if_neg (by decide)]
            refine ⟨hm.1, s_take hm hl hr hA hsl (by omega) (rV_of ?_)⟩
            have w1 : VW m F3 h (si h (m + 15) r.length (nI (oW l - blkN o (nt a)))) := VW_si _ _ _ (by omega)
            have hm1 := w1.ms hm
            have hA1 := LA_own (n := oW l - blkN o (nt a)) hA
            have b1 : ai (si h (m + 15) r.length (nI (oW l - blkN o (nt a)))) (m + 10) = ai h (m + 10) := by
              funext j
              exact ai_oth (by omega) j
            have hl1 : gi (si h (m + 15) r.length (nI (oW l - blkN o (nt a)))) 653 m = nI (sOw l (oW l - blkN o (nt a)) :: r).length := hl
            have ht1 : gi (si h (m + 15) r.length (nI (oW l - blkN o (nt a)))) 641 m = nI tot := htot
            generalize si h (m + 15) r.length (nI (oW l - blkN o (nt a))) = h1 at w1 hm1 hA1 b1 hl1 ht1 ⊢
            refine ⟨hm1.1, ?_⟩
            have hbeg : ∀ Q' : Option TV → Hp → Prop, (∀ h', VW m F3 h1 h' → LA h' m ((nt o, nt a, nt b, und (sOw l (oW l - blkN o (nt a)) :: r), nt a, false) :: sOw l (oW l - blkN o (nt a)) :: r) → gi h' 653 m = nI ((sOw l (oW l - blkN o (nt a)) :: r).length + 1) → ai h' (m + 10) = ai h1 (m + 10) → Q' none h') → tX11_begin m o a b h1 Q' := by
              intro Q' kk
              have := s_begin (w := nt o) (p := nt a) (q := nt b) (Q := Q') hm1 hl1 (by simp at hlen ⊢; omega) hA1 kk
              rw [ho, ha, hbb] at this
              exact this
            refine hbeg _ (fun h9 w9 A9 g9 b9 => rV_of ?_)
            · have hm9 := w9.ms hm1
              have h649 : gi h9 641 m = nI tot := (w9.2.2.2.2.2.2.2.1 641 m (fun q => absurd q.1 (by decide))).trans ht1
              have hlr : (sOw l (oW l - blkN o (nt a)) :: r).length < 1501 := by simp at hlen ⊢; omega
              refine ⟨hm9.1, hm9.1, hm9.1, hm9.1, s_inner hm9 g9 (rI_of (L_height hm9 hm9 hlr ?_))⟩
              rw [h649]
              refine S_below hm9 hm9 ht (fun h15 e15 => ?_)
              rw [nck (by omega), nck (by omega), A9.1.2.2.2.1] at e15
              refine k h15 (w1.tr (w9.tr (by rw [e15]; exact VW_si _ _ _ (by omega)))) ?_ ?_ ?_ ?_
              · refine LA_oth A9 (fun x h1 h2 => ?_)
                rw [e15]
                funext j
                exact ai_oth (by omega) j
              · rw [e15]; exact g9
              · intro j hj
                rw [e15, ai_si, if_neg (fun q => hj q.2), b9, b1]
              · intro _
                rw [e15, ai_same]
                rfl
          · rw [if_neg c3] at k
            rw [if_neg c3, if_pos rfl]
            exact k
      · rw [if_neg c2, if_pos rfl]
        rw [if_neg (fun q => c2 q.2)] at k
        exact k
    · rw [if_neg c1, if_pos rfl]
      rw [if_neg (fun q => c1 q.1)] at k
      exact k
  refine wX11_block m o a b h Q ?_
  by_cases c : o = 4
  · rw [if_pos c] at main ⊢
    exact main
  · rw [if_neg c] at main ⊢
    exact main
theorem s_otherwise {o : Int32} (hb : isBg o = false) (G : LG h m ls) (k : VP m tot o h (elseV ls) Q) : tX11_otherwise m h Q := by
  obtain ⟨hm, hl, hlen, hA, hs, hne⟩ := G
  cases ls with
  | nil => exact absurd rfl hne
  | cons l r =>
    have hr : r.length < 1501 := by simp at hlen; omega
    have hr2 : r.length < 2147483648 := by omega
    have hsl := hs l List.mem_cons_self
    have hl : gi h 653 m = nI (r.length + 1) := hl
    unfold elseV at k
    dsimp only at k
    refine wX11_otherwise m h Q ⟨hm.1, hm.1, s_inner hm hl (rI_of (L_by hm hm hr ?_))⟩
    rw [nck hr2, hA.1.1]
    by_cases c1 : bY l = 4
    · rw [if_pos (by rw [c1]; rfl)]
      refine ⟨hm.1, s_isDone hm hl hr hA hsl (rI_of ?_)⟩
      by_cases c2 : doneB l = true
      · rw [if_pos ⟨c1, c2⟩] at k
        rw [if_pos c2, if_neg (by decide)]
        refine ⟨hm.1, hm.1, s_inner hm hl (rI_of (S_by hm hm hr (fun h1 e1 => ?_)))⟩
        try rw [nck hr2] at e1
        have m1 : MS h1 m := by rw [e1]; exact hm
        have g1 : gi h1 653 m = nI (r.length + 1) := by rw [e1]; exact hl
        refine ⟨m1.1, m1.1, s_inner m1 g1 (rI_of ⟨m1.1, m1.1, s_inner m1 g1 (rI_of (L_takes m1 m1 hr (S_own m1 m1 hr (fun h2 e2 => ?_))))⟩)⟩
        have t1 : ai h1 (m + 12) r.length = nI (tK l) := by rw [e1, ai_oth (by omega)]; exact hA.1.2.1
        rw [nck hr2, t1] at e2
        have m2 : MS h2 m := by rw [e2]; exact m1
        have g2 : gi h2 653 m = nI (r.length + 1) := by rw [e2]; exact g1
        refine ⟨m2.1, m2.1, s_inner m2 g2 (rI_of (S_dead m2 m2 hr (fun h3 e3 => ?_)))⟩
        try rw [nck hr2] at e3
        have wv : VW m F3 h h3 := by
          rw [e3, e2, e1]
          exact (VW_si _ _ _ (by omega)).tr ((VW_si _ _ _ (by omega)).tr (VW_si _ _ _ (by omega)))
        refine k h3 wv ?_ (by rw [e3]; exact g2) ?_ (fun q => by rw [hb] at q; cases q)
        · refine ⟨⟨?_, ?_, ?_, ?_, ?_, ?_⟩, ?_⟩
          · rw [e3, ai_oth (by omega), e2, ai_oth (by omega), e1, ai_same]; rfl
          · rw [e3, ai_oth (by omega), e2, ai_oth (by omega), e1, ai_oth (by omega)]; exact hA.1.2.1
          · rw [e3, ai_oth (by omega), e2, ai_oth (by omega), e1, ai_oth (by omega)]; exact hA.1.2.2.1
          · rw [e3, ai_oth (by omega), e2, ai_oth (by omega), e1, ai_oth (by omega)]; exact hA.1.2.2.2.1
          · rw [e3, ai_oth (by omega), e2, ai_same]; rfl
          · rw [e3, ai_same]; rfl
          · rw [e3, e2, e1]
            exact LA_si (Nat.le_refl _) (LA_si (Nat.le_refl _) (LA_si (Nat.le_refl _) hA.2))
        · intro j _
          rw [e3, ai_oth (by omega), e2, ai_oth (by omega), e1, ai_oth (by omega)]
      · rw [if_neg (fun q => c2 q.2)] at k
        rw [if_neg c2, if_pos rfl]
        exact k
    · rw [if_neg (fun q => c1 q.1)] at k
      rw [if_neg (fun q => c1 ((nJ_inj (by have := hsl.1; omega) (by decide)).mp (q.trans (show (4 : Int32) = nI 4 from rfl))))]
      exact k
theorem s_end {o : Int32} (hb : isBg o = false) (G : LG h m ls) (k : VP m tot o h (endV ls) Q) : tX11_end m h Q := by
  obtain ⟨hm, hl, hlen, hA, hs, hne⟩ := G
  cases ls with
  | nil => exact absurd rfl hne
  | cons l r =>
    have hr : r.length < 1501 := by simp at hlen; omega
    have hr2 : r.length < 2147483648 := by omega
    have hsl := hs l List.mem_cons_self
    have hl : gi h 653 m = nI (r.length + 1) := hl
    obtain ⟨b1, b2, b3, b4⟩ := hsl
    unfold endV at k
    dsimp only at k
    have main : doneB l = true ∧ ¬ (bY l = 4 ∧ ¬ tK l = gV l) → tX11_end_43 m h Q := by
      intro c
      rw [if_pos c] at k
      refine wX11_end_43 m h Q ⟨hm.1, hm.1, s_inner hm hl (rI_of (L_gives hm hm hr ⟨hm.1, hm.1, fun h1 e1 => ?_⟩))⟩
      rw [hl, nI_sub1] at e1
      have m1 : MS h1 m := by rw [e1]; exact hm
      have g1 : gi h1 653 m = nI r.length := by rw [e1, gi_pi, if_pos ⟨rfl, rfl⟩]
      have w1 : VW m F3 h h1 := by rw [e1]; exact VW_pi _ _ rfl
      have a1 : ai h1 = ai h := by rw [e1]; rfl
      refine ⟨m1.1, ?_⟩
      rw [g1]
      cases r with
      | nil =>
        rw [if_neg (by decide)]
        exact k h1 w1 trivial g1 (fun j _ => by rw [a1]) (fun q => by rw [hb] at q; cases q)
      | cons y q =>
        have hq : q.length < 1501 := by simp at hr; omega
        have hq2 : q.length < 2147483648 := by omega
        have hA1 : LA h1 m (y :: q) := LA_oth hA.2 (fun a _ _ => by rw [a1])
        have hpos : (0 : Int32) < nI (y :: q).length := nI_lt (a := 0) (b := (y :: q).length) (Nat.succ_pos _) hr2
        rw [if_pos hpos]
        refine ⟨m1.1, m1.1, s_inner m1 g1 (rI_of (L_own m1 m1 hq (S_own m1 m1 hq (fun h2 e2 => ?_))))⟩
        rw [nck hq2, nck hr2, hA1.1.2.2.2.2.1, hA.1.2.2.1, nJ_add] at e2
        refine k h2 (by rw [e2]; exact w1.tr (VW_si _ _ _ (by omega))) ?_ (by rw [e2]; exact g1) ?_ (fun q => by rw [hb] at q; cases q)
        · rw [e2]; exact LA_own hA1
        · intro j _
          rw [e2, ai_oth (by omega), a1]
    refine wX11_end m h Q ⟨hm.1, s_isDone hm hl hr hA ⟨b1, b2, b3, b4⟩ (rI_of ?_)⟩
    by_cases c2 : doneB l = true
    · rw [if_pos c2, if_neg (by decide)]
      refine ⟨hm.1, hm.1, s_inner hm hl (rI_of (L_by hm hm hr ?_))⟩
      rw [nck hr2, hA.1.1]
      by_cases c1 : bY l = 4
      · rw [if_pos (by rw [c1]; rfl)]
        refine ⟨hm.1, hm.1, s_inner hm hl (rI_of (L_takes hm hm hr ⟨hm.1, hm.1, s_inner hm hl (rI_of (L_gives hm hm hr ?_))⟩))⟩
        rw [nck hr2, hA.1.2.1, hA.1.2.2.1]
        by_cases c3 : tK l = gV l
        · rw [if_pos (by rw [c3])]
          exact main ⟨c2, fun q => q.2 c3⟩
        · rw [if_neg (fun q => c3 ((nJ_inj (by omega) (by omega)).mp q))]
          rw [if_neg (fun q => q.2 ⟨c1, c3⟩)] at k
          exact k
      · rw [if_neg (fun q => c1 ((nJ_inj (by omega) (by decide)).mp (q.trans (show (4 : Int32) = nI 4 from rfl))))]
        exact main ⟨c2, fun q => c1 q.1⟩
    · rw [if_neg (fun q => c2 q.1)] at k
      rw [if_neg c2, if_pos rfl]
      exact k
end ML
