theorem kn_start {s : State} {args : Array Value} (hts0 : ∀ w ∈ lw_tbl, w.before args s = true) (hts : ∀ w ∈ wsA, w.before args s = true) : ∃ D : Dt, Kn D s := by
  have h1 : ∀ ci : Nat, ∃ x : ClassId × (Nat → Nat), ∀ q : vw_C, vwCl[ci]? = some q → u_Kn s q.1 q.2.1 q.2.2 x.1 x.2 := by
    intro ci
    cases hc : vwCl[ci]? with
    | none => exact ⟨(0, fun _ => 0), fun q h => by cases h⟩
    | some q =>
      obtain ⟨cC, iS, hk⟩ := u_known hts (cls_ok ci q hc).2.1 (hts _ (lib_ok.2.2.2.2.2.2 ci q hc).1)
      exact ⟨(cC, iS), fun q' h => by cases h; exact hk⟩
  have prim : ∀ ty : FieldType, (Cond.arrayClass ty).before args s = true → (∀ C, ty ≠ .object C) → ∃ cA : ClassId, ArrOfT s cA ty ∧ va_RA s cA ty := by
    intro ty h hne
    obtain ⟨c, k, comp, g1, g2, g3⟩ := Cond.arrayClass_spec h
    refine ⟨c, fun n z => ⟨fun k h => (by cases h), k, g2, comp, g3⟩, ?_⟩
    cases ty with
    | object C => exact absurd rfl (hne C)
    | _ => exact g1
  have obj : ∀ C : String, va_AO C s → ∃ cA : ClassId, ArrOfT s cA (.object C) ∧ va_RA s cA (.object C) := by
    intro C h
    obtain ⟨comp, c, k, g1, g2, g3, g4, g5⟩ := Cond.arrayOver_spec h
    exact ⟨c, fun n z => ⟨fun k h => (by cases h), k, g3, comp, g4⟩, k, comp, g3, g4, g1, g5⟩
  have ao : ∀ C ∈ aoL, va_AO C s := by
    intro C hC
    have : Cond.arrayOver (.object C) ∈ lw_tbl := by
      rcases List.mem_cons.mp hC with e | hC
      · rw [e]; exact (by decide +kernel)
      · rcases List.mem_cons.mp hC with e | hC
        · rw [e]; exact (by decide +kernel)
        · cases hC
    exact va_AO.of (hts0 _ this)
  have nw : ∀ w ∈ nwL, isNest w = true ∧ va_Nw w s := by
    intro w hw
    have hin : ∀ w ∈ nwL, w ∈ lw_tbl ∧ isNest w = true ∧ w.onTables = true := by decide +kernel
    obtain ⟨g1, g2, g3⟩ := hin w hw
    exact ⟨g2, va_Nw.of g3 (hts0 _ g1)⟩
  have h2 : ∀ t : Nat, ∃ cA : ClassId, ∀ ty, akT t = some ty → ArrOfT s cA ty ∧ va_RA s cA ty := by
    intro t
    cases ht : akT t with
    | none => exact ⟨0, fun ty h => by cases h⟩
    | some ty =>
      have : ∃ cA : ClassId, ArrOfT s cA ty ∧ va_RA s cA ty := by
        unfold akT at ht
        split at ht
        · cases ht; exact prim _ (hts _ (wl_in 2 17 _ rfl)) (fun C h => by cases h)
        · cases ht; exact prim _ (hts _ (wl_in 0 21 _ rfl)) (fun C h => by cases h)
        · cases ht; exact prim _ (hts _ (wl_in 2 3 _ rfl)) (fun C h => by cases h)
        · cases ht; exact prim _ (hts _ (wl_in 3 9 _ rfl)) (fun C h => by cases h)
        · cases ht; exact obj _ (ao _ List.mem_cons_self)
        · cases ht; exact obj _ (ao _ (List.mem_cons_of_mem _ List.mem_cons_self))
        · cases ht
      obtain ⟨cA, hA⟩ := this
      exact ⟨cA, fun ty' h => by cases h; exact hA⟩
  refine ⟨((fun ci => (Classical.choose (h1 ci)).1, fun ci => (Classical.choose (h1 ci)).2), fun t => Classical.choose (h2 t)), fun c q hq => Classical.choose_spec (h1 c) q hq, fun t ty h => Classical.choose_spec (h2 t) ty h, nw, ao⟩
set_option maxHeartbeats 4000000 in
theorem whole_start {p : Program} {e : Env} {s : State} {m : MethodId} {below : List Frame} {meth : Method} {c : Code} (l : Launch) {b L : Nat} {xs : Nat → Int32} (hL : L ≤ 2048) (C0 : lw_At p s m meth c b L xs) : W p l e room_1 s m #[Value.ref b] below meth c s.heap [] 0 0 (lw_Z below #[Value.ref b] s) (entryFrame m ([Value.ref b] : List Value).toArray 4) := by
  obtain ⟨hx, hb, hr, hml, hown, hts0, hX, hbl, hlocks, hgv⟩ := C0
  have hts : ∀ w ∈ wsA, w.before #[Value.ref b] s = true := fun w hw => hts0 w (wsL_good w hw).1
  obtain ⟨D, hK⟩ := kn_start hts0 hts
  obtain ⟨n, r, h', hex, hr1, hc, hs⟩ := law_T s.heap.size b L xs hL hbl
  have X : Cx D p s m #[Value.ref b] meth c (mB qL_law) (mY qL_law).cls (mIn qL_law) := ⟨hx, hb, hown, hts, hK, fun h => nomatch (show false = true from h)⟩
  have hR : Rep s.heap.size D s s.heap (hp0 s.heap.size b L xs) := by
    refine ⟨rfl, fun a x hx => ?_⟩
    have hx : (if a = b then some (Sum.inr (9, L)) else none) = some x := hx
    by_cases ha : a = b
    · rw [if_pos ha] at hx
      cases hx
      subst ha
      refine ⟨hbl, Or.inr ⟨L, rfl⟩, ?_⟩
      rw [cellOk_9]
      obtain ⟨scr, g1, g2, g3, g4, g5⟩ := hX
      refine ⟨scr, g1, g2, g3, g4, fun j hj => ?_⟩
      rw [g5 j hj]
      show _ = some (Value.int (if a = a then xs j else 0))
      rw [if_pos rfl]
    · rw [if_neg ha] at hx
      cases hx
  have hA : ([Value.ref b] : List Value) = [tR (some b)].map tv := rfl
  rw [hA, lg_entry_eq]
  have hl := LR.entry [tR (some b)] (n := 4) (Nat.le_of_ble_eq_true rfl)
  refine body (P := mT) (j := 165) (q := qL_law) (base := s.heap.size) (D := D) (R := room_1) cls_ok ak_ok wl_in lib_ok (fun j' q' hj' hq' => mo_all j' q' hj' hq') gL_law boL_law (fun j' hj' => ctr_all 165 cls_ok ak_ok wl_in lib_ok mo_all bo_all l s.heap.size D j' hj') X hml (by decide) (by decide) r h' (sz h' - sz (hp0 s.heap.size b L xs)) (us h' - us (hp0 s.heap.size b L xs)) (Nat.le_trans (Nat.sub_le_iff_le_add.mpr (by rw [Nat.add_comm]; exact hc)) (Nat.le_refl 600000)) (Nat.le_trans (Nat.sub_le_iff_le_add.mpr (by rw [Nat.add_comm]; exact hs)) (Nat.le_refl 7302250)) ?_ n 0 _ [] _ hex (Nat.le_refl _) rfl _ _ [] 0 0 hl hR va_S.rf (Nat.zero_add _) (Nat.zero_add _)
  intro pc i ls H locs st hopr hd hRep hS
  subst hr1
  cases i with
  | ireturn =>
    have hst : st = [tI 1] := by
      unfold opR at hopr
      dsimp only at hopr
      split at hopr
      · split at hopr
        · cases hopr; rfl
        · split at hopr
          · cases hopr; rfl
          · cases hopr
        · cases hopr
      · cases hopr
    subst hst
    exact va_forget hS.2.2 (W.widen (Nat.sub_le_iff_le_add.mpr (by rw [Nat.add_comm]; exact hc)) (Nat.sub_le_iff_le_add.mpr (by rw [Nat.add_comm]; exact hs)) (lw_ret hx hb hr hlocks hd))
  | lreturn =>
    unfold opR at hopr
    dsimp only at hopr
    split at hopr
    · split at hopr
      · cases hopr
      · cases hopr
    · cases hopr
  | areturn =>
    unfold opR at hopr
    dsimp only at hopr
    split at hopr
    · split at hopr
      · cases hopr
      · cases hopr
      · cases hopr
    · cases hopr
  | return_ =>
    unfold opR at hopr
    dsimp only at hopr
    split at hopr
    · split at hopr
      · cases hopr
      · cases hopr
    · cases hopr
  | _ => exact nomatch (show (none : Option (Option TV)) = some _ from hopr)
