/-! THE CLASS, 6: code -/
theorem vat_due {sg : List (Nat × Nat)} {nm r : Nat} {c : List Ic} (hr : r ≤ 8) (hsg : ∀ s ∈ sg, s.2 ≤ 8) : ∀ {i : Nat} {v : VS}, vat sg nm r c i = some v → v.2.1 ≤ 21 ∧ ∀ n, v.2.2.1 = some n → n ≤ 8 := by
  intro i
  induction i with
  | zero => intro v h; cases h; exact ⟨by show 0 ≤ 21; omega, fun n hn => by cases hn⟩
  | succ i ih =>
    intro v h
    obtain ⟨u, y, hu, -, hs⟩ := vat_succ h
    obtain ⟨i1, i2⟩ := ih hu
    have hB := (vat_sB hr hsg hu).1
    unfold vstep at hs
    by_cases cd : 0 < u.2.1
    · rw [if_pos cd] at hs
      by_cases c6 : y.1 = 6
      · rw [if_pos c6] at hs
        unfold entV at hs
        cases hl : labAt u.1 y.2.1 with
        | none => rw [hl] at hs; cases hs
        | some t =>
          rw [hl] at hs
          dsimp only at hs
          have ht := want_le (hB t (List.mem_of_getElem? (labAt_inv hl).2))
          cases hu1 : u.1 with
          | nil => rw [hu1] at hs; cases hs
          | cons l0 r0 =>
            rw [hu1] at hs
            dsimp only at hs
            split at hs
            · split at hs
              · cases hs
                exact ⟨by show 0 ≤ 21; omega, fun n hn => by cases hn; exact ht⟩
              · cases hs
                exact ⟨by show u.2.1 - 1 ≤ 21; omega, fun n hn => by cases hn; exact ht⟩
            · cases hs
      · rw [if_neg c6] at hs; cases hs
    · rw [if_neg cd] at hs
      by_cases c6 : y.1 = 6
      · rw [if_pos c6] at hs; cases hs
      rw [if_neg c6] at hs
      by_cases c14 : y.1 = 14
      · rw [if_pos c14] at hs
        by_cases hw : wi y.2.1 20
        · rw [if_pos hw] at hs
          have := ((wi_nI (d := 20) (by decide)).mp hw).2
          split at hs
          · cases hs
            exact ⟨by show nt y.2.1 + 1 ≤ 21; omega, fun n hn => by cases hn⟩
          · cases hs
        · rw [if_neg hw] at hs; cases hs
      · rw [if_neg c14] at hs
        split at hs
        · cases hs
          exact ⟨by show 0 ≤ 21; omega, i2⟩
        · cases hs
section CC
variable {h h' h2 : Hp} {x B da : Nat} {fp I : Nat → Nat} {ip : Nat → Nat → Nat} {L L' : Option Nat → Nat} {P : List Fn} {d : Fn} {ac : Nat} {ar : VV} {tb : Nat → Option Nat} {s s' : RS} {st st' : Int32} {X : Ab} {Q : Option TV → Hp → Prop} {o a b : Int32} {v v' : VS} {A : Nat}
/-- what lies below a draft stays -/
theorem CAg.low (C : CAg h x fp ip (P, some d, ac, ar, tb, s, st)) (hO : OKS P s) (hB : x + 41 ≤ B) (hBz : B < sz h) (hc : ∀ (k : Nat) (g : Fn), P[k]? = some g → fp k ≤ B ∧ ∀ i, i < (fC g).length → ip k i ≤ B) (hz : sz h ≤ sz h2) (ht : ∀ a, a ≤ B → tg h2 a = tg h a ∧ ai h2 a = ai h a ∧ al h2 a = al h a ∧ aq h2 a = aq h a) (hg : ∀ f a, a ≤ B → gi h2 f a = gi h f a ∧ gr h2 f a = gr h f a) : CB h2 x fp ip P s st ∧ (gi h2 449 (x + 1) = nI (P.length + 1) ∧ gi h2 450 (x + 1) = nI (totL P)) ∧ (∀ j, j < 30 → aq h2 (x + 4) j = (tb j).map fp) ∧ (gi h2 579 x = nI ac ∧ ∀ j, j < ac → al h2 (x + 41) j = ar j) := by
  obtain ⟨C1, ⟨C2, C3⟩, C4, ⟨C5, C6⟩, -⟩ := C
  refine ⟨?_, ⟨?_, by rw [(hg _ _ (by omega)).1]; exact C3⟩, by rw [(ht _ (by omega)).2.2.2]; exact C4, ⟨by rw [(hg _ _ (by omega)).1]; exact C5, by rw [(ht _ (by omega)).2.2.1]; exact C6⟩⟩
  · exact C1.of (A := fun a => a ≤ B) hO (fun a _ h2 => by omega) hc hz (fun a ha => (ht a ha).1) (fun f a ha _ _ => (hg f a ha).2) (fun f a ha _ _ _ _ => (hg f a ha).1) (ht _ (by omega)).2.1 (ht _ (by omega)).2.2.1 (ht _ (by omega)).2.2.1 (ht _ (by omega)).2.2.2 (fun k _ => by rw [(ht _ (by omega)).2.2.2])
  · rw [(hg _ _ (by omega)).1, C2]
    show nI (P ++ [d]).length = _
    rw [List.length_append]
    rfl
theorem FW.cw {n1 n2 : Nat} (F : FW B (sz h) h h2) (h1 : sz h2 ≤ sz h + 3) (h3 : us h2 ≤ us h + 25) : CW x h h2 := ⟨⟨F.1, h1, h3⟩, fun a ha => (F.2.1 a ha).1, fun a ha _ => ⟨(F.2.1 a ha).2.1, (F.2.1 a ha).2.2.1, (F.2.1 a ha).2.2.2.1⟩, fun f a ha hf _ => F.2.2 f a ha (Or.inr (Or.inl hf))⟩
theorem c_code (hI : IV X) (C : CA h x X) (K : ∀ h', CW x h h' → CA h' x (aCode X o a b).2 → Q (some (aCode X o a b).1) h') : tX10_code x o a b h Q := by
  have C0 := C
  have hI0 := hI
  obtain ⟨fp, ip, Cg⟩ := C
  obtain ⟨P, D, ac, ar, tb, s, st⟩ := X
  obtain ⟨h1, h2, h3, h4, h5, h6⟩ := hI
  have Cg0 := Cg
  obtain ⟨CB0, ⟨C2, C3⟩, C4, ⟨C5, C6⟩, C7⟩ := Cg
  obtain ⟨⟨c, cz⟩, cp, cb, cq, c6, cr⟩ := id CB0
  unfold aCode at K
  dsimp only at K
  refine wX10_code x o a b h Q ⟨c.t9, ?_⟩
  cases D with
  | none =>
    have C7 : gr h 580 x = none := C7
    rw [if_pos C7]
    exact K h CW.rf C0
  | some d =>
    obtain ⟨B, da, I, L, e1, e2, e3, e4, ⟨s1, s2, s3, s4, s5⟩, e6, e7⟩ := C7
    dsimp only at K
    obtain ⟨p40, d8, v, hv, hne⟩ := h2
    have h3 : totL (P ++ [d]) ≤ 1500 := h3
    rw [if_neg (by rw [e1]; exact Option.some_ne_none _)]
    refine ⟨c.t9, c_all C0 (rI_of ?_)⟩
    show (if nI (totL (P ++ [d])) < 1500 then _ else _)
    by_cases ht : totL (P ++ [d]) = 1500
    · rw [if_pos ht] at K
      rw [if_neg (show ¬ nI (totL (P ++ [d])) < 1500 from nI_nlt (b := 1500) (by omega) (by omega))]
      exact K h CW.rf C0
    rw [if_neg ht] at K
    rw [if_pos (show nI (totL (P ++ [d])) < 1500 from nI_lt (b := 1500) (by omega) (by decide))]
    rw [hv] at K
    dsimp only at K
    have hv' : vat (sgs (P ++ [d])) (fP d + fL d) (fR d) (fC d) (fC d).length = some v := by
      rw [vk_last] at hv
      exact hv
    have hN : (fC d).length < 1500 := by
      rw [totL_snoc] at h3 ht
      omega
    -- the functions' signatures
    have hsg : ∀ t ∈ sgs (P ++ [d]), t.1 ≤ 8 ∧ t.2 ≤ 8 := by
      intro t ht
      unfold sgs at ht
      obtain ⟨g, hg, rfl⟩ := List.mem_map.mp ht
      rcases List.mem_append.mp hg with hg | hg
      · obtain ⟨i, hi⟩ := List.getElem?_of_mem hg
        exact ⟨(h1 i g hi).2.1, (h1 i g hi).2.2.1⟩
      · have e : g = d := by simpa using hg
        rw [e]
        exact ⟨d8.1, d8.2.1⟩
    have hsB := vat_sB d8.2.1 (fun t ht => (hsg t ht).2) hv'
    have hmB := vat_mostB d8.2.1 (fun t ht => (hsg t ht).2) hv'
    obtain ⟨hdu, hwu⟩ := vat_due d8.2.1 (fun t ht => (hsg t ht).2) hv'
    obtain ⟨bd9, bd10, bd11, bd12⟩ := e6.2.2.2.2.2.1
    have hBz : B < sz h := by omega
    cases hl : v.1 with
    | nil => exact absurd hl hne
    | cons l q =>
    have hBND : BND v l := by
      have h2 := hsB.2
      rw [hl] at h2
      have h2 : hT l + oW l ≤ 8 * (fC d).length := h2
      have h4 := vat_len hv' hne
      have h5 := ps_len_le (fC d) (fC d).length
      exact ⟨by omega, by omega, by omega, fun l' hl' => (hsB.1 l' hl').2⟩
    have slen : (sgs (P ++ [d])).length = P.length + 1 := by unfold sgs; simp
    have G : CGp h x fp (fp P.length) (sgs (P ++ [d])) (fP d + fL d) := by
      refine ⟨c.t7, c.r448, c.t2, ?_, by omega, fun k t hk => ?_, s4, by omega⟩
      · rw [C2, slen]
        show nI (P ++ [d]).length = _
        rw [List.length_append]
        rfl
      · have hm := hsg t (List.mem_of_getElem? hk)
        unfold sgs at hk
        rw [List.getElem?_map] at hk
        cases hg : (P ++ [d])[k]? with
        | none => rw [hg] at hk; cases hk
        | some g =>
          rw [hg] at hk
          cases hk
          rcases snoc_cases hg with ⟨hk', hg⟩ | ⟨rfl, rfl⟩
          · obtain ⟨⟨f1, f2, f3, -⟩, -⟩ := cp k g hg
            exact ⟨cq k hk', f1, f2, f3, hm.1, hm.2, (cb k g hg).1⟩
          · exact ⟨e4, e6.1.2.2.2.1, s1, s2, hm.1, hm.2, bd12⟩
    have sgE : sgs (P ++ [(d.1, fC d ++ [(o, a, b)])]) = sgs (P ++ [d]) := sgs_snoc P d.1 (fC d ++ [(o, a, b)]) (fC d)
    have totE : totL (P ++ [(d.1, fC d ++ [(o, a, b)])]) = totL (P ++ [d]) + 1 := by
      rw [totL_snoc, totL_snoc]
      show totL P + (fC d ++ [(o, a, b)]).length = _
      rw [len_sn]
      omega
    refine ⟨c.t9, dr_of e1 ⟨e6.1.1, c_write e6 (e7 v hv) G hv' hl hBND (by omega) (fun n hn => by have := hwu n hn; omega) (fun z => rI_of ?_) (fun k2 v' A L' z1 z2 O => rI_of ?_) (fun v' z1 z2 k2 F => ?_)⟩⟩
    · rw [z] at K
      rw [if_pos rfl]
      exact K h CW.rf C0
    · rw [z1] at K
      dsimp only at K
      rw [if_neg z2] at K
      obtain ⟨F1, ⟨F2, F3⟩, DS, DN⟩ := O
      have lo := Cg0.low h6 e2 hBz e3 F1.1 (fun a ha => by
        obtain ⟨y1, y2, y3, y4, -⟩ := F1.2.1 a (by omega)
        exact ⟨y1, y2, y3, y4⟩) (fun f a ha => F1.2.2 f a (by omega) (Or.inl ha))
      obtain ⟨L1, ⟨L2, L3⟩, L4, L5⟩ := lo
      have g580 : gr k2 580 x = some da := by rw [(F1.2.2 _ _ (by omega) (Or.inl (by omega))).2]; exact e1
      have CN : CA k2 x (P, some (d.1, fC d ++ [(o, a, b)]), ac, ar, tb, s, st) := by
        refine ⟨fp, ip, L1, ⟨?_, L3⟩, L4, L5, B, da, (fun j => if j = (fC d).length then A else I j), L', g580, e2, e3, ?_, ⟨?_, ?_, ?_, ?_, ?_⟩, ?_, fun u hu => ?_⟩
        · rw [L2]
          show _ = nI (P ++ [(d.1, fC d ++ [(o, a, b)])]).length
          rw [List.length_append]
          rfl
        · rw [(F1.2.1 _ (by omega)).2.2.2.1]; exact e4
        · rw [(F1.2.2 _ _ bd12 (Or.inr (Or.inr (by omega)))).1]; exact s1
        · rw [(F1.2.2 _ _ bd12 (Or.inr (Or.inr (by omega)))).1]; exact s2
        · rw [(F1.2.2 _ _ bd12 (Or.inr (Or.inr (by omega)))).1]; exact s3
        · rw [(F1.2.2 _ _ bd12 (Or.inr (Or.inr (by omega)))).1]; exact s4
        · rw [(F1.2.2 _ _ bd12 (Or.inr (Or.inr (by omega)))).1]; exact s5
        · rw [sgE]
          exact DS
        · have hu2 := vk_snoc P d.1 (fC d) (o, a, b) hv z1
          have hu2 : vk (P ++ [(d.1, fC d ++ [(o, a, b)])]) P.length (d.1, fC d ++ [(o, a, b)]) (fC d ++ [(o, a, b)]).length = some v' := hu2
          have hu : vk (P ++ [(d.1, fC d ++ [(o, a, b)])]) P.length (d.1, fC d ++ [(o, a, b)]) (fC d ++ [(o, a, b)]).length = some u := hu
          rw [hu2] at hu
          cases hu
          exact DN
      rw [if_neg (by decide)]
      have c2 : CS k2 x := L1.1.1
      refine ⟨c2.t9, dr_of g580 ⟨DS.1.1, wX0_isFinished da k2 _ ⟨DS.1.1, ?_⟩⟩⟩
      rw [if_neg (by rw [DN.1]; exact Option.some_ne_none _)]
      refine rI_of ?_
      rw [if_pos rfl]
      refine wX10_code_48 x k2 Q ⟨c2.t9, c_all CN (rI_of ?_)⟩
      have := K k2 (FW.cw (n1 := 0) (n2 := 0) F1 (by omega) (by omega)) CN
      rw [← totE] at this
      exact this
    · rw [z1] at K
      dsimp only at K
      rw [if_pos z2] at K
      obtain ⟨F1, ⟨F2, F3⟩, DS, g3, g133⟩ := F
      have hv2 := vat_sn hv' z1
      have hdue : v'.2.1 = 0 := by
        have hW2 : vat (sgs (P ++ [d])) (fP d + fL d) (fR d) (fC d ++ [(o, a, b)]) ((fC d).length + 1) = some v' := hv2
        unfold vstep at z1
        split at z1
        · split at z1
          · unfold entV at z1
            split at z1
            · cases z1
            · rw [hl] at z1
              dsimp only at z1
              split at z1
              · split at z1
                · cases z1; rfl
                · cases z1; cases z2
              · cases z1
          · cases z1
        · split at z1
          · cases z1
          · split at z1
            · split at z1
              · rw [hl] at z1
                unfold turnV at z1
                dsimp only at z1
                split at z1
                · rename_i ls hls
                  split at hls
                  · cases hls; cases z1; cases z2
                  · cases hls
                · cases z1
              · cases z1
            · split at z1
              · cases z1; rfl
              · cases z1
      have hw : Wh (sgs (P ++ [d])) (fP d + fL d) (fR d) (fC d ++ [(o, a, b)]) := ⟨v', by rw [len_sn]; exact hv2, z2, hdue⟩
      -- made flat
      refine c_flatten hw DS (fun k3 FL NA g134 g132 => rV_of (rI_of ?_))
      obtain ⟨fl1, fl2, fl3, fl4, fl5, fl6, fl7, fl8, fl9⟩ := FL
      generalize hI' : (fun j => if j = (fC d).length then sz h else I j) = I' at DS NA g134
      obtain ⟨⟨ds1, ds2, ds3, ds4, ds5, ds6⟩, dsI, -, -, -, ⟨-, dsz1, -, dsz2⟩, dsb, -, -, -⟩ := DS
      rw [if_neg (by decide)]
      have lo3T : ∀ a, a ≤ B → tg k3 a = tg h a ∧ ai k3 a = ai h a ∧ al k3 a = al h a ∧ aq k3 a = aq h a := fun a ha => by
        obtain ⟨y1, y2, y3, y4, -⟩ := F1.2.1 a (by omega)
        rw [fl1, fl3, fl4, fl5]
        exact ⟨y1, y2, y3, y4⟩
      have lo3G : ∀ f a, a ≤ B → gi k3 f a = gi h f a ∧ gr k3 f a = gr h f a := fun f a ha => by
        obtain ⟨y1, y2⟩ := F1.2.2 f a (by omega) (Or.inl ha)
        exact ⟨by rw [fl8 f a (by omega)]; exact y1, by rw [fl9 f a (by omega)]; exact y2⟩
      obtain ⟨L1, ⟨L2, L3⟩, L4, ⟨L51, L52⟩⟩ := Cg0.low (h2 := k3) h6 e2 hBz e3 (by rw [fl6]; exact F1.1) lo3T lo3G
      have c3 : CS k3 x := L1.1.1
      have g580 : gr k3 580 x = some da := by rw [(lo3G _ _ (by omega)).2]; exact e1
      have tda : tg k3 da = some (.inl 0) := by rw [fl1]; exact ds1
      have g7 : gi k3 7 da = nI ((fC d).length + 1) := by rw [fl8 _ _ (by omega), ds6, len_sn]
      refine ⟨c3.t9, dr_of g580 ⟨tda, wX0_isFinished da k3 _ ⟨tda, ?_⟩⟩⟩
      rw [if_pos (show gr k3 3 da = none by rw [fl9 _ _ (by omega)]; exact g3)]
      refine rI_of ?_
      rw [if_neg (by decide)]
      refine ⟨c3.t9, wX10_keepDraft x k3 _ ⟨c3.t9, dr_of c3.r576 ⟨c3.t7, c3.t9, dr_of g580 ⟨tda, dr_of c3.r576 ⟨c3.t7, fun k4 q4 => ?_⟩⟩⟩⟩⟩
      rw [L3, g7, nJ_add] at q4
      refine ⟨by rw [q4]; exact c3.t9, fun k5 q5 => rV_of ?_⟩
      have eT : totL P + ((fC d).length + 1) = totL (P ++ [(d.1, fC d ++ [(o, a, b)])]) := by
        rw [totL_snoc]
        show _ = totL P + (fC d ++ [(o, a, b)]).length
        rw [len_sn]
      -- the new function
      have oth : ∀ f a, gi k5 f a = (if f = 450 ∧ a = x + 1 then nI (totL P + ((fC d).length + 1)) else gi k3 f a) := fun f a => by rw [q5, gi_pr, q4, gi_pi]
      have othR : ∀ f a, ¬ f = 580 → gr k5 f a = gr k3 f a := fun f a hf => by rw [q5, gr_ne hf, q4, gr_pi]
      have gI5 : ∀ f a, ¬ f = 450 → gi k5 f a = gi k3 f a := fun f a hf => by rw [oth, if_neg (fun z => hf z.1)]
      have T5 : tg k5 = tg k3 := by rw [q5, q4]; rfl
      have CB5 : CB k5 x fp ip P s st := by
        refine L1.of (A := fun _ => True) h6 (fun _ _ _ => trivial) (fun _ _ _ => ⟨trivial, fun _ _ => trivial⟩) ?_ (fun a _ => by rw [T5]) (fun f a _ h580 _ => othR f a h580) (fun f a _ _ h450 _ _ => gI5 f a h450) ?_ ?_ ?_ ?_ (fun _ _ => ?_)
        · rw [q5, q4]; exact Nat.le_refl _
        · rw [q5, q4]; rfl
        · rw [q5, q4]; rfl
        · rw [q5, q4]; rfl
        · rw [q5, q4]; rfl
        · rw [q5, q4]; rfl
      have CB6 : CB k5 x fp (fun k => if k = P.length then I' else ip k) P s st := CB5.ext h1 h6 (fun k hk => ⟨rfl, if_neg (by omega)⟩)
      have ipN : (if P.length = P.length then I' else ip P.length) = I' := if_pos rfl
      have fd5 : ∀ f, f = 128 ∨ f = 129 ∨ f = 130 ∨ f = 131 → gi k5 f (fp P.length) = gi h f (fp P.length) := fun f hf => by
        rw [gI5 _ _ (by omega), fl8 _ _ (by omega), (F1.2.2 _ _ bd12 (Or.inr (Or.inr (by omega)))).1]
      have mo : moF (P ++ [(d.1, fC d ++ [(o, a, b)])]) P.length = v'.2.2.2 := moF_some get_snoc (vk_snoc P d.1 (fC d) (o, a, b) hv z1)
      have NF : CFn k5 fp (fun k => if k = P.length then I' else ip k) (P ++ [(d.1, fC d ++ [(o, a, b)])]) P.length (d.1, fC d ++ [(o, a, b)]) := by
        unfold CFn
        dsimp only
        rw [ipN]
        refine ⟨by rw [T5, fl1]; exact ds4, by rw [fd5 128 (by omega)]; exact s1, by rw [fd5 129 (by omega)]; exact s2, by rw [fd5 130 (by omega)]; exact s3, by rw [fd5 131 (by omega)]; exact s4, by rw [gI5 _ _ (by decide)]; exact g132, ?_, ?_, fun i hi => ?_⟩
        · rw [mo, gI5 _ _ (by decide), fl8 _ _ (by omega)]
          exact g133
        · rw [othR _ _ (by decide)]
          exact g134
        · have hi : i < (fC d ++ [(o, a, b)]).length := hi
          obtain ⟨i1, i2, i3, i4, i5, i6, i7⟩ := dsI i hi
          obtain ⟨n1, n2⟩ := NA i hi
          unfold CIn
          dsimp only
          rw [ipN]
          refine ⟨by rw [T5, fl1]; exact i1, by rw [gI5 _ _ (by decide), fl8 _ _ (by omega)]; exact i2, by rw [gI5 _ _ (by decide), fl8 _ _ (by omega)]; exact i3, by rw [gI5 _ _ (by decide), fl8 _ _ (by omega)]; exact i4, by rw [othR _ _ (by decide)]; exact n1, fun z4 => ?_, fun zb => ?_, fun z16 => by rw [othR _ _ (by decide), fl9 _ _ (by omega)]; exact i7 z16⟩
          · have z4 : oA (fC d ++ [(o, a, b)]) i = 4 := z4
            obtain ⟨a1, -⟩ := n2 (some i) (by unfold lbO; rw [z4]; rfl)
            rw [if_pos z4] at a1
            rw [othR _ _ (by decide)]
            exact a1
          · have zb : oA (fC d ++ [(o, a, b)]) i = 12 ∨ oA (fC d ++ [(o, a, b)]) i = 13 ∨ oA (fC d ++ [(o, a, b)]) i = 15 ∨ oA (fC d ++ [(o, a, b)]) i = 6 := zb
            have zl : lbO (fC d ++ [(o, a, b)]) i = some (ps (fC d ++ [(o, a, b)]) i)[jOc (fC d ++ [(o, a, b)]) i]? := by
              unfold lbO
              rcases zb with z | z | z | z <;> rw [z] <;> rfl
            obtain ⟨a1, a2, a3⟩ := n2 _ zl
            rw [if_neg (by rcases zb with z | z | z | z <;> rw [z] <;> decide)] at a1
            refine ⟨by rw [othR _ _ (by decide)]; exact a1, ?_, ?_⟩
            · rw [gI5 _ _ (by decide), a2]
              show nI (wQ (fR d) (fC d ++ [(o, a, b)]) (ps (fC d ++ [(o, a, b)]) i)[jOc (fC d ++ [(o, a, b)]) i]?) = nI (wntP (d.1, fC d ++ [(o, a, b)]) (ps (fC d ++ [(o, a, b)]) i)[jOc (fC d ++ [(o, a, b)]) i]?)
              cases (ps (fC d ++ [(o, a, b)]) i)[jOc (fC d ++ [(o, a, b)]) i]? with
              | none => rfl
              | some p => rfl
            · rw [gI5 _ _ (by decide), a3, hgtP_C, List.take_of_length_le (by simp), sgE]
              rfl
      have sz5 : sz k5 = sz k2 := by rw [q5, q4]; exact fl6
      have us5 : us k5 = us k2 := by rw [q5, q4]; exact fl7
      have CN : CA k5 x (P ++ [(d.1, fC d ++ [(o, a, b)])], none, ac, ar, tb, s, st) := by
        refine ⟨fp, (fun k => if k = P.length then I' else ip k), ?_, ⟨?_, ?_⟩, ?_, ⟨?_, ?_⟩, ?_⟩
        · refine CB6.app h6 NF ⟨by omega, by omega, fun i hi => ?_⟩ ?_
          · have := dsb i hi
            rw [ipN]
            omega
          · rw [q5, q4]
            show aq k3 (x + 2) P.length = _
            rw [(lo3T _ (by omega)).2.2.2]
            exact e4
        · rw [gI5 _ _ (by decide), L2]
          show _ = nI (P ++ [(d.1, fC d ++ [(o, a, b)])]).length
          rw [List.length_append]
          rfl
        · rw [oth, if_pos ⟨rfl, rfl⟩, eT]
        · intro j hj
          rw [q5, q4]
          exact L4 j hj
        · rw [gI5 _ _ (by decide)]; exact L51
        · rw [q5, q4]; exact L52
        · show gr k5 580 x = none
          rw [q5, gr_eq]
      have c5 : CS k5 x := CB5.1.1
      refine wX10_code_48 x k5 Q ⟨c5.t9, c_all CN (rI_of ?_)⟩
      have KK := K k5 ?_ CN
      · rw [← totE] at KK
        exact KK
      · refine ⟨⟨by have := F1.1; omega, by omega, by omega⟩, fun a ha => ?_, fun a ha _ => ?_, fun f a ha hf _ => ?_⟩
        · rw [T5, fl1]
          exact (F1.2.1 a ha).1
        · obtain ⟨y1, y2, y3, y4, -⟩ := F1.2.1 a ha
          have w1 : ai k5 = ai k2 := by rw [q5, q4]; exact fl3
          have w2 : al k5 = al k2 := by rw [q5, q4]; exact fl4
          have w3 : aq k5 = aq k2 := by rw [q5, q4]; exact fl5
          rw [w1, w2, w3]
          exact ⟨y2, y3, y4⟩
        · obtain ⟨y1, y2⟩ := F1.2.2 f a ha (Or.inr (Or.inl hf))
          exact ⟨by rw [gI5 _ _ (by omega), fl8 _ _ (by omega)]; exact y1, by rw [othR _ _ (by omega), fl9 _ _ (by omega)]; exact y2⟩
end CC
