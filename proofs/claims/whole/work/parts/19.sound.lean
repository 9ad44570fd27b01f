/-! AN INTERPRETER OF THE BYTECODE, 6: the machine does what the interpreter does -/
theorem putV_mono {kd f a : Nat} {h h' : Hp} {v : TV} (hp : putV kd h f a v = some h') : sz h' = sz h ∧ us h' = us h := by
  unfold putV at hp
  split at hp
  · split at hp
    · cases hp; exact ⟨rfl, rfl⟩
    · split at hp
      · cases hp; exact ⟨rfl, rfl⟩
      · cases hp
  · split at hp
    · cases hp; exact ⟨rfl, rfl⟩
    · cases hp
  · split at hp
    · cases hp; exact ⟨rfl, rfl⟩
    · cases hp
theorem astV_mono {t a j : Nat} {h h' : Hp} {v : TV} (hp : astV t h a j v = some h') : sz h' = sz h ∧ us h' = us h := by
  unfold astV at hp
  split at hp
  · split at hp
    · cases hp; exact ⟨rfl, rfl⟩
    · split at hp
      · cases hp; exact ⟨rfl, rfl⟩
      · split at hp
        · cases hp; exact ⟨rfl, rfl⟩
        · cases hp
  · split at hp
    · cases hp; exact ⟨rfl, rfl⟩
    · cases hp
  · split at hp
    · cases hp; exact ⟨rfl, rfl⟩
    · cases hp
  · split at hp
    · cases hp; exact ⟨rfl, rfl⟩
    · cases hp
theorem aSt_mono {ok : Nat → Bool} {st : List TV} {h : Hp} {z : List TV × Hp} (hz : aSt ok st h = some z) : sz h ≤ sz z.2 ∧ us h ≤ us z.2 := by
  obtain ⟨v, j, a, t, n, r, h', -, -, -, -, hv, rfl⟩ := aSt_inv hz
  obtain ⟨e1, e2⟩ := astV_mono hv
  exact ⟨Nat.le_of_eq e1.symm, Nat.le_of_eq e2.symm⟩
theorem aLd_mono {ok : Nat → Bool} {st : List TV} {h : Hp} {z : List TV × Hp} (hz : aLd ok st h = some z) : sz h ≤ sz z.2 ∧ us h ≤ us z.2 := by
  obtain ⟨j, a, t, n, r, -, -, -, -, rfl⟩ := aLd_inv hz
  exact ⟨Nat.le_refl _, Nat.le_refl _⟩
theorem nA_mono {t : Nat} {st : List TV} {h : Hp} {z : List TV × Hp} (hz : nA t st h = some z) : sz h ≤ sz z.2 ∧ us h ≤ us z.2 := by
  obtain ⟨n, r, -, -, -, rfl⟩ := nA_inv hz
  exact ⟨by rw [sz_nw]; omega, by rw [us_nw]; omega⟩
theorem opH_mono {i : Instr} {rs : Rs} {st : List TV} {h : Hp} {z : List TV × Hp} (hz : opH i rs st h = some z) : sz h ≤ sz z.2 ∧ us h ≤ us z.2 := by
  cases i with
  | getfield idx =>
    have hz : gF rs st h = some z := hz
    unfold gF at hz
    split at hz
    · split at hz
      · cases hz
        exact ⟨Nat.le_refl _, Nat.le_refl _⟩
      · cases hz
    · cases hz
  | putfield idx =>
    have hz : pF rs st h = some z := hz
    unfold pF at hz
    split at hz
    · split at hz
      · split at hz
        · rename_i hv
          cases hz
          obtain ⟨e1, e2⟩ := putV_mono hv
          exact ⟨Nat.le_of_eq e1.symm, Nat.le_of_eq e2.symm⟩
        · cases hz
      · cases hz
    · cases hz
  | new idx =>
    cases hz
    exact ⟨by rw [sz_nw]; omega, by rw [us_nw]; omega⟩
  | newarray ty => exact nA_mono hz
  | anewarray idx => exact nA_mono hz
  | arraylength =>
    obtain ⟨a, t, n, r, -, -, rfl⟩ := aLen_inv hz
    exact ⟨Nat.le_refl _, Nat.le_refl _⟩
  | iaload => exact aLd_mono hz
  | laload => exact aLd_mono hz
  | baload => exact aLd_mono hz
  | aaload => exact aLd_mono hz
  | iastore => exact aSt_mono hz
  | lastore => exact aSt_mono hz
  | bastore => exact aSt_mono hz
  | aastore => exact aSt_mono hz
  | ldc idx => cases hz; exact ⟨Nat.le_refl _, Nat.le_refl _⟩
  | ldc2_w idx => cases hz; exact ⟨Nat.le_refl _, Nat.le_refl _⟩
  | _ => exact nomatch (show (none : Option (List TV × Hp)) = some z from hz)
theorem nxt_mono {i : Instr} {len : Nat} {rs : Rs} {s s' : St} (h : nxt i len rs s = some s') : sz s.2.2.2 ≤ sz s'.2.2.2 ∧ us s.2.2.2 ≤ us s'.2.2.2 := by
  unfold nxt at h
  split at h
  · cases h; exact ⟨Nat.le_refl _, Nat.le_refl _⟩
  · split at h
    · cases h; exact ⟨Nat.le_refl _, Nat.le_refl _⟩
    · split at h
      · cases h; exact ⟨Nat.le_refl _, Nat.le_refl _⟩
      · split at h
        · rename_i hz
          cases h
          exact opH_mono hz
        · split at h
          · cases h; exact ⟨Nat.le_refl _, Nat.le_refl _⟩
          · cases h
theorem ex_mono (P : List MD) : ∀ (n j : Nat) (s : St) (r : Option TV) (h' : Hp), ex P n j s = some (r, h') → sz s.2.2.2 ≤ sz h' ∧ us s.2.2.2 ≤ us h' := by
  intro n
  induction n with
  | zero =>
    intro j s r h' h
    cases h
  | succ n ih =>
    intro j s r h' h
    unfold ex at h
    split at h
    · cases h
    · split at h
      · cases h
      · split at h
        · rename_i s' hs
          have h1 := nxt_mono hs
          have h2 := ih _ _ _ _ h
          exact ⟨Nat.le_trans h1.1 h2.1, Nat.le_trans h1.2 h2.2⟩
        · split at h
          · split at h
            · cases h
            · split at h
              · split at h
                · cases h
                · rename_i z hz
                  have h1 := ih _ _ _ _ hz
                  have h2 := ih _ _ _ _ h
                  exact ⟨Nat.le_trans h1.1 h2.1, Nat.le_trans h1.2 h2.2⟩
              · cases h
          · split at h
            · cases h
              exact ⟨Nat.le_refl _, Nat.le_refl _⟩
            · cases h
section SND
variable {p : Program} {l : Launch} {e : Env} {R : Room} {s : State} {m : MethodId} {args : Array Value} {below : List Frame} {meth : Method} {c : Code} {H : Heap} {locs : List Loc} {cells slots : Nat} {Q : State → Prop} {pc : Nat} {ls : Array Slot}
variable {base : Nat} {D : Dt} {h : Hp} {P : List MD} {j : Nat} {q : MD}
set_option maxHeartbeats 4000000 in
theorem opH_ok (hC : clsOk) (hA : akOk) (hwl : wlOk) (hlib : libOk) (X : Cx D p s m args meth c (mB q) (mY q).cls (mIn q)) {i : Instr} {rs : Rs} (hi : iOk P j q i rs) {st : List TV} {z : List TV × Hp} (hz : opH i rs st h = some z) (hd : decode (mB q) pc = .ok (i, ilen i)) (hR : Rep base D s H h) (hbz : base ≤ sz h) (hS : va_S (fun q => base ≤ q) s.heap H locs) (hc : cells + (sz z.2 - sz h) ≤ R.cells) (hs : slots + (us z.2 - us h) ≤ R.slots)
    (k : ∀ (H' : Heap) (locs' : List Loc), Rep base D s H' z.2 → va_S (fun q => base ≤ q) s.heap H' locs' → W p l e R s m args below meth c H' locs' (cells + (sz z.2 - sz h)) (slots + (us z.2 - us h)) Q (F0 m (pc + ilen i) ls (z.1.map tv))) : W p l e R s m args below meth c H locs cells slots Q (F0 m pc ls (st.map tv)) := by
  have same : ∀ e1 : z.2 = h, W p l e R s m args below meth c H locs cells slots Q (F0 m (pc + ilen i) ls (z.1.map tv)) := by
    intro e1
    have := k H locs (by rw [e1]; exact hR) hS
    rw [e1, Nat.sub_self, Nat.sub_self] at this
    exact this
  have wr : sz z.2 = sz h → us z.2 = us h → ∀ (H' : Heap) (locs' : List Loc), Rep base D s H' z.2 → va_S (fun q => base ≤ q) s.heap H' locs' → W p l e R s m args below meth c H' locs' cells slots Q (F0 m (pc + ilen i) ls (z.1.map tv)) := by
    intro e1 e2 H' locs' a b
    have := k H' locs' a b
    rw [e1, e2, Nat.sub_self, Nat.sub_self] at this
    exact this
  cases i with
  | getfield idx =>
    obtain ⟨t, ht, hk, hkd, hw⟩ := hi
    exact gF_ok hC X ⟨t, ht, hk, hkd, Or.inl (hwl _ _ _ hw)⟩ hz hd hR same
  | putfield idx =>
    obtain ⟨t, ht, hk, hkd, hw, hf⟩ := hi
    refine pF_ok hC X ⟨t, ht, hk, hkd, ?_⟩ hz hd hR hS wr
    rcases hf with hf | ⟨f1, f2, f3⟩
    · exact Or.inl ⟨hf, Or.inl (hwl _ _ _ hw)⟩
    · exact Or.inr ⟨f1, f2, f3, hwl _ _ _ hw⟩
  | new idx =>
    obtain ⟨t, ht, hn, hw⟩ := hi
    cases hz
    have e1 : sz (nw h (.inl rs.1) rs.2.1) - sz h = 1 := by rw [sz_nw]; omega
    have e2 : us (nw h (.inl rs.1) rs.2.1) - us h = rs.2.1 := by rw [us_nw]; omega
    dsimp only at hc hs k
    rw [e1] at hc k
    rw [e2] at hs k
    exact nO_ok hC X ht hn (hwl _ _ _ hw) (hlib.2.2.2.2.2.2 _ _ ht).1 (hlib.2.2.2.2.2.2 _ _ ht).2 hd hR hbz hS hc hs (fun H' a b => k H' _ a b)
  | newarray ty =>
    obtain ⟨hk4, hw⟩ := hi
    have hak : akT (kOf ty) = some (newarray.typeOf ty) := by
      cases ty <;> first | rfl | exact absurd hk4 (by decide)
    exact nP_ok X (hwl _ _ _ hw) hak hk4 hz hd hR hbz hS hc hs (fun H' a b => k H' _ a b)
  | anewarray idx =>
    obtain ⟨C, h1, h2, h3, hw⟩ := hi
    exact nR_ok X (hwl _ _ _ hw) (List.mem_of_getElem? h1) h2 h3 hz hd hR hbz hS hc hs (fun H' a b => k H' _ a b)
  | arraylength => exact aLen_ok X hz hd hR same
  | iaload => exact iald_ok hA X hz hd hR same
  | laload => exact lald_ok hA X hz hd hR same
  | baload => exact bald_ok hA X hz hd hR same
  | aaload => exact aald_ok hA X hz hd hR same
  | iastore => exact iast_ok hA X hz hd hR hS wr
  | lastore => exact last_ok hA X hz hd hR hS wr
  | bastore => exact bast_ok hA X hz hd hR hS wr
  | aastore => exact aast_ok hA X hz hd hR hS wr
  | ldc idx =>
    cases hz
    obtain ⟨hx, hb, hown, hts, hK, hI⟩ := X
    exact lv_ldc hx hb hown (hts _ (hwl _ _ _ hi)) hd (same rfl)
  | ldc2_w idx =>
    cases hz
    obtain ⟨hx, hb, hown, hts, hK, hI⟩ := X
    exact lv_ldc2 hx hb hown (hts _ (hwl _ _ _ hi)) hd (same rfl)
  | _ => exact nomatch (show (none : Option (List TV × Hp)) = some z from hz)
set_option maxHeartbeats 4000000 in
theorem opM_ok (hwl : wlOk) (hlib : libOk) (X : Cx D p s m args meth c (mB q) (mY q).cls (mIn q)) (hml : c.maxLocals = ls.size) (hfr : mFr q ≤ R.frames) (hlr : mLr q ≤ R.locals) (hc : cells ≤ R.cells) (hs : slots ≤ R.slots) {i : Instr} {rs : Rs} (hi : iOk P j q i rs) {st st' : List TV} (hz : opM i rs st = some st') (hd : decode (mB q) pc = .ok (i, ilen i))
    (k : W p l e R s m args below meth c H locs cells slots Q (F0 m (pc + ilen i) ls (st'.map tv))) : W p l e R s m args below meth c H locs cells slots Q (F0 m pc ls (st.map tv)) := by
  obtain ⟨hx, hb, hown, hts, hK, hI⟩ := X
  cases i with
  | invokespecial idx =>
    unfold opM at hz
    dsimp only at hz
    split at hz
    · rename_i h0
      split at hz
      · split at hz
        · rename_i hr
          cases hz
          unfold iOk at hi
          dsimp only at hi
          rw [h0] at hi
          obtain ⟨h1, h2, hw⟩ := hi
          refine W.objInit hx hb hown (hts _ (hwl _ _ _ hw)) (hts _ hlib.2.2.2.2.1) (hts _ hlib.2.2.2.2.2.1) rfl hml.symm rfl hd (Nat.le_trans h1 hfr) ?_ k
          show 2 * 0 + ((st'.map tv).map fun v => v.category).sum + 12 ≤ R.locals
          rw [cats_eq]
          omega
        · cases hz
      · cases hz
    · cases hz
  | invokestatic idx =>
    unfold opM at hz
    dsimp only at hz
    split at hz
    · rename_i h0
      split at hz
      · split at hz
        · rename_i r hr
          cases hz
          unfold iOk at hi
          dsimp only at hi
          rw [h0] at hi
          obtain ⟨h1, h2, hw⟩ := hi
          exact va_mmax hx hb hml hown (hts _ (hwl _ _ _ hw)) (hts _ hlib.1.1) (hts _ hlib.2.2.2.1) (hts _ hlib.1.2) (Nat.le_trans h1 hfr) (by rw [cats_eq]; omega) hc hs hd k
        · cases hz
      · cases hz
    · rename_i h0
      split at hz
      · split at hz
        · rename_i r hr
          cases hz
          unfold iOk at hi
          dsimp only at hi
          rw [h0] at hi
          obtain ⟨h1, h2, hw⟩ := hi
          exact va_mmin hx hb hml hown (hts _ (hwl _ _ _ hw)) (hts _ hlib.2.1.1) (hts _ hlib.2.2.2.1) (hts _ hlib.2.1.2) (Nat.le_trans h1 hfr) (by rw [cats_eq]; omega) hc hs hd k
        · cases hz
      · cases hz
    · rename_i h0
      split at hz
      · split at hz
        · rename_i r hr
          cases hz
          unfold iOk at hi
          dsimp only at hi
          rw [h0] at hi
          obtain ⟨h1, h2, hw⟩ := hi
          exact va_mmin_long hx hb hml hown (hts _ (hwl _ _ _ hw)) (hts _ hlib.2.2.1.1) (hts _ hlib.2.2.2.1) (hts _ hlib.2.2.1.2) (Nat.le_trans h1 hfr) (by rw [cats_eq]; omega) hc hs hd k
        · cases hz
      · cases hz
    · cases hz
  | _ => exact nomatch (show (none : Option (List TV)) = some st' from hz)
end SND
