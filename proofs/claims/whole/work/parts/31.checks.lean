/-! the checks of the data -/
def swB (i : Instr) : Bool := match i with
  | .tableswitch _ _ _ _ => true
  | .lookupswitch _ _ => true
  | _ => false
theorem swB_of {i : Instr} (h : swB i = true) : isSw i := by
  cases i with
  | tableswitch a b c d => exact Or.inl ⟨a, b, c, d, rfl⟩
  | lookupswitch a b => exact Or.inr ⟨a, b, rfl⟩
  | _ => cases h
def lkB (own : String) (idx : Nat) (y : MethodName) (rs : Rs) : Bool := if rs.2.2.2.2 = 1 then decide (nwL[rs.2.2.2.1.2]? = some (Cond.methodLinkNest own idx y "StackMachine")) else decide (wlk rs.2.2.2.1.1 rs.2.2.2.1.2 = some (Cond.methodLink own idx y))
theorem lkB_of {own : String} {idx : Nat} {y : MethodName} {rs : Rs} (h : lkB own idx y rs = true) : lkM own idx y rs := by
  unfold lkB at h
  unfold lkM
  split at h
  · rename_i h1
    rw [if_pos h1]
    exact of_decide_eq_true h
  · rename_i h1
    rw [if_neg h1]
    exact of_decide_eq_true h
def fitB (q q' : MD) : Bool := decide (mFr q' + 1 ≤ mFr q) && decide (8 + (mL q' + 11) + mLr q' ≤ mLr q)
theorem fitB_of {q q' : MD} (h : fitB q q' = true) : fitsR q q' := by
  unfold fitB at h
  rw [Bool.and_eq_true] at h
  exact ⟨of_decide_eq_true h.1, of_decide_eq_true h.2⟩
def iOkB (P : List MD) (j : Nat) (q : MD) (i : Instr) (rs : Rs) : Bool := match i with
  | .getfield idx => (match vwCl[rs.1]? with
    | some t => decide (rs.2.1 < t.2.2) && (decide (rs.2.2.1 = kdT (tyOf t.2.1 rs.2.1)) && decide (wlk rs.2.2.2.1.1 rs.2.2.2.1.2 = some (Cond.fieldLink (mY q).cls idx (t.2.1 rs.2.1).1 (t.2.1 rs.2.1).2.1 (t.2.1 rs.2.1).2.2.1)))
    | none => false)
  | .putfield idx => (match vwCl[rs.1]? with
    | some t => decide (rs.2.1 < t.2.2) && (decide (rs.2.2.1 = kdT (tyOf t.2.1 rs.2.1)) && (decide (wlk rs.2.2.2.1.1 rs.2.2.2.1.2 = some (Cond.fieldLink (mY q).cls idx (t.2.1 rs.2.1).1 (t.2.1 rs.2.1).2.1 (t.2.1 rs.2.1).2.2.1)) && decide ((t.2.1 rs.2.1).2.2.2 = false ∨ ((t.2.1 rs.2.1).2.2.2 = true ∧ mIn q = true ∧ (t.2.1 rs.2.1).1 = (mY q).cls))))
    | none => false)
  | .new idx => (match vwCl[rs.1]? with
    | some t => decide (rs.2.1 = t.2.2) && decide (wlk rs.2.2.2.1.1 rs.2.2.2.1.2 = some (Cond.classLink (mY q).cls idx t.1))
    | none => false)
  | .newarray ty => decide (kOf ty < 4) && decide (wlk rs.2.2.2.1.1 rs.2.2.2.1.2 = some (Cond.arrayClass (newarray.typeOf ty)))
  | .anewarray idx => (match aoL[rs.2.1]? with
    | some C => decide (akT rs.1 = some (.object C)) && (decide (10 ≤ rs.1) && decide (wlk rs.2.2.2.1.1 rs.2.2.2.1.2 = some (Cond.classLink (mY q).cls idx C)))
    | none => false)
  | .ldc idx => decide (wlk rs.2.2.2.1.1 rs.2.2.2.1.2 = some (Cond.constant (mY q).cls idx (Int32.ofInt rs.2.2.2.2)))
  | .ldc2_w idx => decide (wlk rs.2.2.2.1.1 rs.2.2.2.1.2 = some (Cond.constantLong (mY q).cls idx (Int64.ofInt rs.2.2.2.2)))
  | .invokevirtual idx => (match P[rs.1]? with
    | some q' => (match vwCl[rs.2.2.1]? with
      | some t => decide (rs.1 < j) && (decide (mNp q' = rs.2.1) && (fitB q q' && (decide (mSt q' = false) && (decide (mIn q' = false) && (decide (t.1 = (mY q').cls) && lkB (mY q).cls idx (mY q') rs)))))
      | none => false)
    | none => false)
  | .invokestatic idx => (match rs.2.2.1 with
    | 0 => (match P[rs.1]? with
      | some q' => decide (rs.1 < j) && (decide (mNp q' = rs.2.1) && (fitB q q' && (decide (mSt q' = true) && lkB (mY q).cls idx (mY q') rs)))
      | none => false)
    | 1 => decide (1 ≤ mFr q) && (decide (23 ≤ mLr q) && decide (wlk rs.2.2.2.1.1 rs.2.2.2.1.2 = some (Cond.methodLink (mY q).cls idx Lib.Math.max.name)))
    | 2 => decide (1 ≤ mFr q) && (decide (23 ≤ mLr q) && decide (wlk rs.2.2.2.1.1 rs.2.2.2.1.2 = some (Cond.methodLink (mY q).cls idx Lib.Math.min.name)))
    | _ => decide (1 ≤ mFr q) && (decide (23 ≤ mLr q) && decide (wlk rs.2.2.2.1.1 rs.2.2.2.1.2 = some (Cond.methodLink (mY q).cls idx Lib.MathLoose.min_long.x))))
  | .invokespecial idx => (match rs.2.2.1 with
    | 0 => decide (1 ≤ mFr q) && (decide (20 ≤ mLr q) && decide (wlk rs.2.2.2.1.1 rs.2.2.2.1.2 = some (Cond.methodLink (mY q).cls idx objectInit)))
    | _ => (match P[rs.1]? with
      | some q' => decide (rs.1 < j) && (decide (mNp q' = rs.2.1) && (fitB q q' && (decide (mSt q' = false) && (decide (mIn q' = true) && (decide (mR q' = none) && lkB (mY q).cls idx (mY q') rs)))))
      | none => false))
  | _ => true
set_option maxHeartbeats 4000000 in
theorem iOk_of {P : List MD} {j : Nat} {q : MD} {i : Instr} {rs : Rs} (h : iOkB P j q i rs = true) : iOk P j q i rs := by
  unfold iOkB at h
  unfold iOk
  split at h
  · split at h
    · rename_i t ht
      simp only [Bool.and_eq_true, decide_eq_true_eq] at h
      exact ⟨t, ht, h.1, h.2.1, h.2.2⟩
    · cases h
  · split at h
    · rename_i t ht
      simp only [Bool.and_eq_true, decide_eq_true_eq] at h
      exact ⟨t, ht, h.1, h.2.1, h.2.2.1, h.2.2.2⟩
    · cases h
  · split at h
    · rename_i t ht
      simp only [Bool.and_eq_true, decide_eq_true_eq] at h
      exact ⟨t, ht, h.1, h.2⟩
    · cases h
  · simp only [Bool.and_eq_true, decide_eq_true_eq] at h
    exact ⟨h.1, h.2⟩
  · split at h
    · rename_i C hC
      simp only [Bool.and_eq_true, decide_eq_true_eq] at h
      exact ⟨C, hC, h.1, h.2.1, h.2.2⟩
    · cases h
  · exact of_decide_eq_true h
  · exact of_decide_eq_true h
  · split at h
    · rename_i q' hq'
      split at h
      · rename_i t ht
        simp only [Bool.and_eq_true, decide_eq_true_eq] at h
        exact ⟨q', t, hq', h.1, h.2.1, fitB_of h.2.2.1, h.2.2.2.1, h.2.2.2.2.1, ht, h.2.2.2.2.2.1, lkB_of h.2.2.2.2.2.2⟩
      · cases h
    · cases h
  · dsimp only
    split at h
    · rename_i h0
      rw [h0]
      split at h
      · rename_i q' hq'
        simp only [Bool.and_eq_true, decide_eq_true_eq] at h
        exact ⟨q', hq', h.1, h.2.1, fitB_of h.2.2.1, h.2.2.2.1, lkB_of h.2.2.2.2⟩
      · cases h
    · rename_i h0
      rw [h0]
      simp only [Bool.and_eq_true, decide_eq_true_eq] at h
      exact ⟨h.1, h.2.1, h.2.2⟩
    · rename_i h0
      rw [h0]
      simp only [Bool.and_eq_true, decide_eq_true_eq] at h
      exact ⟨h.1, h.2.1, h.2.2⟩
    · rename_i h0 h1 h2
      split
      · rename_i g; exact absurd g h0
      · rename_i g; exact absurd g h1
      · rename_i g; exact absurd g h2
      · simp only [Bool.and_eq_true, decide_eq_true_eq] at h
        exact ⟨h.1, h.2.1, h.2.2⟩
  · dsimp only
    split at h
    · rename_i h0
      rw [h0]
      simp only [Bool.and_eq_true, decide_eq_true_eq] at h
      exact ⟨h.1, h.2.1, h.2.2⟩
    · rename_i h0
      split
      · rename_i g; exact absurd g h0
      · split at h
        · rename_i q' hq'
          simp only [Bool.and_eq_true, decide_eq_true_eq] at h
          exact ⟨q', hq', h.1, h.2.1, fitB_of h.2.2.1, h.2.2.2.1, h.2.2.2.2.1, h.2.2.2.2.2.1, lkB_of h.2.2.2.2.2.2⟩
        · cases h
  · split
    all_goals first | trivial | (rename_i g1 g2 g3 g4 g5 g6 g7 g8 g9 g10; exact absurd rfl (g1 _)) | (exfalso; simp_all)
def rB (P : List MD) (j : Nat) (q : MD) (x : RI) : Bool := decide (decode (mB q) x.1 = .ok (x.2.1, x.2.2.1)) && ((decide (x.2.2.1 = ilen x.2.1) || swB x.2.1) && iOkB P j q x.2.1 x.2.2.2)
theorem lookup_mem {β : Type} : ∀ {l : List (Nat × β)} {k : Nat} {x : β}, l.lookup k = some x → (k, x) ∈ l
  | (a, b) :: l, k, x, h => by
    rw [List.lookup_cons] at h
    split at h
    · rename_i e
      cases h
      rw [eq_of_beq e]
      exact List.mem_cons_self
    · exact List.mem_cons_of_mem _ (lookup_mem h)
  | [], _, _, h => by cases h
theorem bOk_of {P : List MD} {j : Nat} {q : MD} (h : (mCo q).all (rB P j q) = true) : bOk P j q := by
  intro pc x hx
  have h1 := List.all_eq_true.mp h _ (lookup_mem hx)
  unfold rB at h1
  simp only [Bool.and_eq_true, decide_eq_true_eq, Bool.or_eq_true] at h1
  exact ⟨h1.1, h1.2.1.imp id swB_of, iOk_of h1.2.2⟩
theorem wl_in : wlOk := by
  intro c i w h
  unfold wlk at h
  split at h
  · rename_i l hl
    have h1 := List.mem_of_getElem? hl
    have h2 := List.mem_of_getElem? h
    have h3 : w ∈ wlC.flatten := List.mem_flatten.mpr ⟨l, h1, h2⟩
    have h4 : wlC.flatten = wsL_law_r1 ++ (wsL_law_r2 ++ (wsL_law_r3 ++ (wsL_law_r4 ++ (wsL_law_r5 ++ (wsL_law_r6 ++ (wsL_law_r7 ++ (wsL_law_r8 ++ (wsL_law_r9 ++ (wsL_law_r10 ++ (wsL_law_r11 ++ (wsL_law_r12 ++ (wsL_law_r13 ++ (wsL_law_r14 ++ (wsL_law_r15 ++ (wsL_law_r16 ++ (wsL_law_r17 ++ (wsL_law_r18 ++ (wsL_law_r19 ++ (wsL_law_r20 ++ (wsL_law_r21 ++ (wsL_law_r22 ++ (wsL_law_r23 ++ (wsL_law_r24 ++ (wsL_law_r25 ++ (wsL_law_r26 ++ (wsL_law_r27 ++ (wsL_law_r28 ++ (wsL_law_r29 ++ (wsL_law_r30 ++ (wsL_law_r31 ++ (wsL_law_r32 ++ (wsL_law_r33 ++ (wsL_law_r34 ++ (wsL_law_r35 ++ (wsL_law_r36 ++ (wsL_law_r37 ++ [])))))))))))))))))))))))))))))))))))) := rfl
    rw [h4] at h3
    show w ∈ wsL_law
    unfold wsL_law
    have h5 : w ∈ wsL_law_r1 ++ (wsL_law_r2 ++ (wsL_law_r3 ++ (wsL_law_r4 ++ (wsL_law_r5 ++ (wsL_law_r6 ++ (wsL_law_r7 ++ (wsL_law_r8 ++ (wsL_law_r9 ++ (wsL_law_r10 ++ (wsL_law_r11 ++ (wsL_law_r12 ++ (wsL_law_r13 ++ (wsL_law_r14 ++ (wsL_law_r15 ++ (wsL_law_r16 ++ (wsL_law_r17 ++ (wsL_law_r18 ++ (wsL_law_r19 ++ (wsL_law_r20 ++ (wsL_law_r21 ++ (wsL_law_r22 ++ (wsL_law_r23 ++ (wsL_law_r24 ++ (wsL_law_r25 ++ (wsL_law_r26 ++ (wsL_law_r27 ++ (wsL_law_r28 ++ (wsL_law_r29 ++ (wsL_law_r30 ++ (wsL_law_r31 ++ (wsL_law_r32 ++ (wsL_law_r33 ++ (wsL_law_r34 ++ (wsL_law_r35 ++ (wsL_law_r36 ++ (wsL_law_r37)))))))))))))))))))))))))))))))))))) := by
      simpa only [List.append_nil] using h3
    exact List.mem_append_left _ (List.mem_append_left _ (List.mem_append_left _ (List.mem_append_left _ (List.mem_append_left _ (List.mem_append_left _ (List.mem_append_left _ (List.mem_append_left _ (List.mem_append_left _ (List.mem_append_left _ (List.mem_append_left _ (List.mem_append_left _ h5)))))))))))
  · cases h

theorem moX8_init : mOk qX8_init := ⟨by decide, (wl_in 1 0 _ rfl), (wl_in 0 15 _ rfl), by decide, by decide, by decide +kernel, (fun _ => rfl), (fun h => nomatch (show false = true from h)), (fun _ => (wl_in 0 23 _ rfl)), (fun _ h => nomatch (show true = false from h))⟩
theorem moX6_init : mOk qX6_init := ⟨by decide, (wl_in 2 1 _ rfl), (wl_in 1 15 _ rfl), by decide, by decide, by decide +kernel, (fun _ => rfl), (fun h => nomatch (show false = true from h)), (fun _ => (wl_in 2 0 _ rfl)), (fun _ h => nomatch (show true = false from h))⟩
theorem moX9_init : mOk qX9_init := ⟨by decide, (wl_in 2 7 _ rfl), (wl_in 1 19 _ rfl), by decide, by decide, by decide +kernel, (fun _ => rfl), (fun h => nomatch (show false = true from h)), (fun _ => (wl_in 2 6 _ rfl)), (fun _ h => nomatch (show true = false from h))⟩
theorem moX1_init : mOk qX1_init := ⟨by decide, (wl_in 2 11 _ rfl), (wl_in 1 23 _ rfl), by decide, by decide, by decide +kernel, (fun _ => rfl), (fun h => nomatch (show false = true from h)), (fun _ => (wl_in 2 10 _ rfl)), (fun _ h => nomatch (show true = false from h))⟩
theorem moX5_init : mOk qX5_init := ⟨by decide, (wl_in 1 6 _ rfl), (wl_in 0 19 _ rfl), by decide, by decide, by decide +kernel, (fun _ => rfl), (fun h => nomatch (show false = true from h)), (fun _ => (wl_in 1 5 _ rfl)), (fun _ h => nomatch (show true = false from h))⟩
theorem moX10_init : mOk qX10_init := ⟨by decide, (wl_in 0 9 _ rfl), (wl_in 0 2 _ rfl), by decide, by decide, by decide +kernel, (fun _ => rfl), (fun h => nomatch (show false = true from h)), (fun _ => (wl_in 0 8 _ rfl)), (fun _ h => nomatch (show true = false from h))⟩
theorem moX11_init : mOk qX11_init := ⟨by decide, (wl_in 2 15 _ rfl), (wl_in 0 5 _ rfl), by decide, by decide, by decide +kernel, (fun _ => rfl), (fun h => nomatch (show false = true from h)), (fun _ => (wl_in 2 14 _ rfl)), (fun _ h => nomatch (show true = false from h))⟩
theorem moX10_isWithin : mOk qX10_isWithin := ⟨by decide, (wl_in 4 11 _ rfl), (wl_in 0 2 _ rfl), by decide, by decide, by decide +kernel, (fun h => nomatch (show false = true from h)), (fun _ => (wl_in 4 10 _ rfl)), (fun h => nomatch (show true = false from h)), (fun h => nomatch (show true = false from h))⟩
theorem moX2_init : mOk qX2_init := ⟨by decide, (wl_in 4 14 _ rfl), (wl_in 4 4 _ rfl), by decide, by decide, by decide +kernel, (fun _ => rfl), (fun h => nomatch (show false = true from h)), (fun _ => (wl_in 4 13 _ rfl)), (fun _ h => nomatch (show true = false from h))⟩
theorem moX8_append : mOk qX8_append := ⟨by decide, (wl_in 4 23 _ rfl), (wl_in 0 15 _ rfl), by decide, by decide, by decide +kernel, (fun h => nomatch (show false = true from h)), (fun h => nomatch (show false = true from h)), (fun _ => (wl_in 4 21 _ rfl)), (fun _ _ => (wl_in 4 22 _ rfl))⟩
theorem moX4_init : mOk qX4_init := ⟨by decide, (wl_in 5 15 _ rfl), (wl_in 5 9 _ rfl), by decide, by decide, by decide +kernel, (fun _ => rfl), (fun h => nomatch (show false = true from h)), (fun _ => (wl_in 5 14 _ rfl)), (fun _ h => nomatch (show true = false from h))⟩
theorem moX0_init : mOk qX0_init := ⟨by decide, (wl_in 5 3 _ rfl), (wl_in 4 7 _ rfl), by decide, by decide, by decide +kernel, (fun _ => rfl), (fun h => nomatch (show false = true from h)), (fun _ => (wl_in 5 2 _ rfl)), (fun _ h => nomatch (show true = false from h))⟩
theorem moX10_function : mOk qX10_function := ⟨by decide, (wl_in 4 0 _ rfl), (wl_in 0 2 _ rfl), by decide, by decide, by decide +kernel, (fun h => nomatch (show false = true from h)), (fun h => nomatch (show false = true from h)), (fun _ => (wl_in 3 22 _ rfl)), (fun _ _ => (wl_in 3 23 _ rfl))⟩
theorem moX11_within : mOk qX11_within := ⟨by decide, (wl_in 6 9 _ rfl), (wl_in 0 5 _ rfl), by decide, by decide, by decide +kernel, (fun h => nomatch (show false = true from h)), (fun _ => (wl_in 6 8 _ rfl)), (fun h => nomatch (show true = false from h)), (fun h => nomatch (show true = false from h))⟩
theorem moX11_begin : mOk qX11_begin := ⟨by decide, (wl_in 6 13 _ rfl), (wl_in 0 5 _ rfl), by decide, by decide, by decide +kernel, (fun h => nomatch (show false = true from h)), (fun h => nomatch (show false = true from h)), (fun _ => (wl_in 6 11 _ rfl)), (fun _ _ => (wl_in 6 12 _ rfl))⟩
theorem moX11_function : mOk qX11_function := ⟨by decide, (wl_in 6 1 _ rfl), (wl_in 0 5 _ rfl), by decide, by decide, by decide +kernel, (fun h => nomatch (show false = true from h)), (fun h => nomatch (show false = true from h)), (fun _ => (wl_in 5 23 _ rfl)), (fun _ _ => (wl_in 6 0 _ rfl))⟩
theorem moX10_instructionsInAll : mOk qX10_instructionsInAll := ⟨by decide, (wl_in 6 21 _ rfl), (wl_in 0 2 _ rfl), by decide, by decide, by decide +kernel, (fun h => nomatch (show false = true from h)), (fun h => nomatch (show false = true from h)), (fun _ => (wl_in 6 19 _ rfl)), (fun _ _ => (wl_in 6 20 _ rfl))⟩
theorem moX3_init : mOk qX3_init := ⟨by decide, (wl_in 7 20 _ rfl), (wl_in 7 15 _ rfl), by decide, by decide, by decide +kernel, (fun _ => rfl), (fun h => nomatch (show false = true from h)), (fun _ => (wl_in 7 19 _ rfl)), (fun _ h => nomatch (show true = false from h))⟩
theorem moX0_append : mOk qX0_append := ⟨by decide, (wl_in 7 12 _ rfl), (wl_in 4 7 _ rfl), by decide, by decide, by decide +kernel, (fun h => nomatch (show false = true from h)), (fun h => nomatch (show false = true from h)), (fun _ => (wl_in 7 10 _ rfl)), (fun _ _ => (wl_in 7 11 _ rfl))⟩
theorem moX0_die : mOk qX0_die := ⟨by decide, (wl_in 8 5 _ rfl), (wl_in 4 7 _ rfl), by decide, by decide, by decide +kernel, (fun h => nomatch (show false = true from h)), (fun h => nomatch (show false = true from h)), (fun _ => (wl_in 8 3 _ rfl)), (fun _ _ => (wl_in 8 4 _ rfl))⟩
theorem moX0_writeTrap : mOk qX0_writeTrap := ⟨by decide, (wl_in 7 8 _ rfl), (wl_in 4 7 _ rfl), by decide, by decide, by decide +kernel, (fun h => nomatch (show false = true from h)), (fun h => nomatch (show false = true from h)), (fun _ => (wl_in 7 6 _ rfl)), (fun _ _ => (wl_in 7 7 _ rfl))⟩
theorem moX0_ownOperands : mOk qX0_ownOperands := ⟨by decide, (wl_in 8 22 _ rfl), (wl_in 4 7 _ rfl), by decide, by decide, by decide +kernel, (fun h => nomatch (show false = true from h)), (fun h => nomatch (show false = true from h)), (fun _ => (wl_in 8 20 _ rfl)), (fun _ _ => (wl_in 8 21 _ rfl))⟩
theorem moX0_has : mOk qX0_has := ⟨by decide, (wl_in 8 18 _ rfl), (wl_in 4 7 _ rfl), by decide, by decide, by decide +kernel, (fun h => nomatch (show false = true from h)), (fun h => nomatch (show false = true from h)), (fun _ => (wl_in 8 16 _ rfl)), (fun _ _ => (wl_in 8 17 _ rfl))⟩
theorem moX0_take : mOk qX0_take := ⟨by decide, (wl_in 9 2 _ rfl), (wl_in 4 7 _ rfl), by decide, by decide, by decide +kernel, (fun h => nomatch (show false = true from h)), (fun h => nomatch (show false = true from h)), (fun _ => (wl_in 9 0 _ rfl)), (fun _ _ => (wl_in 9 1 _ rfl))⟩
theorem moX0_put : mOk qX0_put := ⟨by decide, (wl_in 9 10 _ rfl), (wl_in 4 7 _ rfl), by decide, by decide, by decide +kernel, (fun h => nomatch (show false = true from h)), (fun h => nomatch (show false = true from h)), (fun _ => (wl_in 9 8 _ rfl)), (fun _ _ => (wl_in 9 9 _ rfl))⟩
theorem moX0_writeStart : mOk qX0_writeStart := ⟨by decide, (wl_in 8 12 _ rfl), (wl_in 4 7 _ rfl), by decide, by decide, by decide +kernel, (fun h => nomatch (show false = true from h)), (fun h => nomatch (show false = true from h)), (fun _ => (wl_in 8 10 _ rfl)), (fun _ _ => (wl_in 8 11 _ rfl))⟩
theorem moX4_mayTurn : mOk qX4_mayTurn := ⟨by decide, (wl_in 9 21 _ rfl), (wl_in 5 9 _ rfl), by decide, by decide, by decide +kernel, (fun h => nomatch (show false = true from h)), (fun h => nomatch (show false = true from h)), (fun _ => (wl_in 9 19 _ rfl)), (fun _ _ => (wl_in 9 20 _ rfl))⟩
theorem moX0_hasJustResults : mOk qX0_hasJustResults := ⟨by decide, (wl_in 10 2 _ rfl), (wl_in 4 7 _ rfl), by decide, by decide, by decide +kernel, (fun h => nomatch (show false = true from h)), (fun h => nomatch (show false = true from h)), (fun _ => (wl_in 10 0 _ rfl)), (fun _ _ => (wl_in 10 1 _ rfl))⟩
theorem moX0_writeElse : mOk qX0_writeElse := ⟨by decide, (wl_in 9 15 _ rfl), (wl_in 4 7 _ rfl), by decide, by decide, by decide +kernel, (fun h => nomatch (show false = true from h)), (fun h => nomatch (show false = true from h)), (fun _ => (wl_in 9 13 _ rfl)), (fun _ _ => (wl_in 9 14 _ rfl))⟩
theorem moX0_labelAt : mOk qX0_labelAt := ⟨by decide, (wl_in 10 12 _ rfl), (wl_in 4 7 _ rfl), by decide, by decide, by decide +kernel, (fun h => nomatch (show false = true from h)), (fun h => nomatch (show false = true from h)), (fun _ => (wl_in 10 10 _ rfl)), (fun _ _ => (wl_in 10 11 _ rfl))⟩
theorem moX4_wanted : mOk qX4_wanted := ⟨by decide, (wl_in 10 17 _ rfl), (wl_in 5 9 _ rfl), by decide, by decide, by decide +kernel, (fun h => nomatch (show false = true from h)), (fun h => nomatch (show false = true from h)), (fun _ => (wl_in 10 15 _ rfl)), (fun _ _ => (wl_in 10 16 _ rfl))⟩
theorem moX0_writeEntry : mOk qX0_writeEntry := ⟨by decide, (wl_in 10 7 _ rfl), (wl_in 4 7 _ rfl), by decide, by decide, by decide +kernel, (fun h => nomatch (show false = true from h)), (fun h => nomatch (show false = true from h)), (fun _ => (wl_in 10 5 _ rfl)), (fun _ _ => (wl_in 10 6 _ rfl))⟩
theorem moX4_stepBehind : mOk qX4_stepBehind := ⟨by decide, (wl_in 11 16 _ rfl), (wl_in 5 9 _ rfl), by decide, by decide, by decide +kernel, (fun h => nomatch (show false = true from h)), (fun h => nomatch (show false = true from h)), (fun _ => (wl_in 11 14 _ rfl)), (fun _ _ => (wl_in 11 15 _ rfl))⟩
theorem moX3_settled : mOk qX3_settled := ⟨by decide, (wl_in 11 10 _ rfl), (wl_in 7 15 _ rfl), by decide, by decide, by decide +kernel, (fun h => nomatch (show false = true from h)), (fun h => nomatch (show false = true from h)), (fun _ => (wl_in 11 8 _ rfl)), (fun _ _ => (wl_in 11 9 _ rfl))⟩
theorem moX4_stepOtherwise : mOk qX4_stepOtherwise := ⟨by decide, (wl_in 12 6 _ rfl), (wl_in 5 9 _ rfl), by decide, by decide, by decide +kernel, (fun h => nomatch (show false = true from h)), (fun h => nomatch (show false = true from h)), (fun _ => (wl_in 12 4 _ rfl)), (fun _ _ => (wl_in 12 5 _ rfl))⟩
theorem moX4_stepOfBranch : mOk qX4_stepOfBranch := ⟨by decide, (wl_in 12 11 _ rfl), (wl_in 5 9 _ rfl), by decide, by decide, by decide +kernel, (fun h => nomatch (show false = true from h)), (fun h => nomatch (show false = true from h)), (fun _ => (wl_in 12 9 _ rfl)), (fun _ _ => (wl_in 12 10 _ rfl))⟩
theorem moX3_aim : mOk qX3_aim := ⟨by decide, (wl_in 11 22 _ rfl), (wl_in 7 15 _ rfl), by decide, by decide, by decide +kernel, (fun h => nomatch (show false = true from h)), (fun h => nomatch (show false = true from h)), (fun _ => (wl_in 11 20 _ rfl)), (fun _ _ => (wl_in 11 21 _ rfl))⟩
theorem moX0_flatten : mOk qX0_flatten := ⟨by decide, (wl_in 11 2 _ rfl), (wl_in 4 7 _ rfl), by decide, by decide, by decide +kernel, (fun h => nomatch (show false = true from h)), (fun h => nomatch (show false = true from h)), (fun _ => (wl_in 11 0 _ rfl)), (fun _ _ => (wl_in 11 1 _ rfl))⟩
theorem moX0_writeEnd : mOk qX0_writeEnd := ⟨by decide, (wl_in 10 21 _ rfl), (wl_in 4 7 _ rfl), by decide, by decide, by decide +kernel, (fun h => nomatch (show false = true from h)), (fun h => nomatch (show false = true from h)), (fun _ => (wl_in 10 19 _ rfl)), (fun _ _ => (wl_in 10 20 _ rfl))⟩
theorem moX0_writeBranch : mOk qX0_writeBranch := ⟨by decide, (wl_in 12 17 _ rfl), (wl_in 4 7 _ rfl), by decide, by decide, by decide +kernel, (fun h => nomatch (show false = true from h)), (fun h => nomatch (show false = true from h)), (fun _ => (wl_in 12 15 _ rfl)), (fun _ _ => (wl_in 12 16 _ rfl))⟩
theorem moX0_writeBranchIf : mOk qX0_writeBranchIf := ⟨by decide, (wl_in 12 21 _ rfl), (wl_in 4 7 _ rfl), by decide, by decide, by decide +kernel, (fun h => nomatch (show false = true from h)), (fun h => nomatch (show false = true from h)), (fun _ => (wl_in 12 19 _ rfl)), (fun _ _ => (wl_in 12 20 _ rfl))⟩
theorem moX0_writeTable : mOk qX0_writeTable := ⟨by decide, (wl_in 13 1 _ rfl), (wl_in 4 7 _ rfl), by decide, by decide, by decide +kernel, (fun h => nomatch (show false = true from h)), (fun h => nomatch (show false = true from h)), (fun _ => (wl_in 12 23 _ rfl)), (fun _ _ => (wl_in 13 0 _ rfl))⟩
theorem moX8_find : mOk qX8_find := ⟨by decide, (wl_in 13 11 _ rfl), (wl_in 0 15 _ rfl), by decide, by decide, by decide +kernel, (fun h => nomatch (show false = true from h)), (fun h => nomatch (show false = true from h)), (fun _ => (wl_in 13 9 _ rfl)), (fun _ _ => (wl_in 13 10 _ rfl))⟩
theorem moX0_writeCall : mOk qX0_writeCall := ⟨by decide, (wl_in 13 5 _ rfl), (wl_in 4 7 _ rfl), by decide, by decide, by decide +kernel, (fun h => nomatch (show false = true from h)), (fun h => nomatch (show false = true from h)), (fun _ => (wl_in 13 3 _ rfl)), (fun _ _ => (wl_in 13 4 _ rfl))⟩
theorem moX0_writeCallByTable : mOk qX0_writeCallByTable := ⟨by decide, (wl_in 13 15 _ rfl), (wl_in 4 7 _ rfl), by decide, by decide, by decide +kernel, (fun h => nomatch (show false = true from h)), (fun h => nomatch (show false = true from h)), (fun _ => (wl_in 13 13 _ rfl)), (fun _ _ => (wl_in 13 14 _ rfl))⟩
theorem moX7_takenBy : mOk qX7_takenBy := ⟨by decide, (wl_in 13 23 _ rfl), (wl_in 13 22 _ rfl), by decide, by decide, by decide +kernel, (fun h => nomatch (show false = true from h)), (fun _ => (wl_in 13 21 _ rfl)), (fun h => nomatch (show true = false from h)), (fun h => nomatch (show true = false from h))⟩
theorem moX0_isInPlace : mOk qX0_isInPlace := ⟨by decide, (wl_in 14 3 _ rfl), (wl_in 4 7 _ rfl), by decide, by decide, by decide +kernel, (fun h => nomatch (show false = true from h)), (fun h => nomatch (show false = true from h)), (fun _ => (wl_in 14 1 _ rfl)), (fun _ _ => (wl_in 14 2 _ rfl))⟩
theorem moX7_putBy : mOk qX7_putBy := ⟨by decide, (wl_in 14 7 _ rfl), (wl_in 13 22 _ rfl), by decide, by decide, by decide +kernel, (fun h => nomatch (show false = true from h)), (fun _ => (wl_in 14 6 _ rfl)), (fun h => nomatch (show true = false from h)), (fun h => nomatch (show true = false from h))⟩
theorem moX0_writePlain : mOk qX0_writePlain := ⟨by decide, (wl_in 13 19 _ rfl), (wl_in 4 7 _ rfl), by decide, by decide, by decide +kernel, (fun h => nomatch (show false = true from h)), (fun h => nomatch (show false = true from h)), (fun _ => (wl_in 13 17 _ rfl)), (fun _ _ => (wl_in 13 18 _ rfl))⟩
theorem moX0_write : mOk qX0_write := ⟨by decide, (wl_in 7 3 _ rfl), (wl_in 4 7 _ rfl), by decide, by decide, by decide +kernel, (fun h => nomatch (show false = true from h)), (fun h => nomatch (show false = true from h)), (fun _ => (wl_in 7 1 _ rfl)), (fun _ _ => (wl_in 7 2 _ rfl))⟩
theorem moX0_isFinished : mOk qX0_isFinished := ⟨by decide, (wl_in 14 11 _ rfl), (wl_in 4 7 _ rfl), by decide, by decide, by decide +kernel, (fun h => nomatch (show false = true from h)), (fun h => nomatch (show false = true from h)), (fun _ => (wl_in 14 9 _ rfl)), (fun _ _ => (wl_in 14 10 _ rfl))⟩
theorem moX10_keepDraft : mOk qX10_keepDraft := ⟨by decide, (wl_in 14 15 _ rfl), (wl_in 0 2 _ rfl), by decide, by decide, by decide +kernel, (fun h => nomatch (show false = true from h)), (fun h => nomatch (show false = true from h)), (fun _ => (wl_in 14 13 _ rfl)), (fun _ _ => (wl_in 14 14 _ rfl))⟩
theorem moX10_code : mOk qX10_code := ⟨by decide, (wl_in 6 17 _ rfl), (wl_in 0 2 _ rfl), by decide, by decide, by decide +kernel, (fun h => nomatch (show false = true from h)), (fun h => nomatch (show false = true from h)), (fun _ => (wl_in 6 15 _ rfl)), (fun _ _ => (wl_in 6 16 _ rfl))⟩
theorem moX11_isLabel : mOk qX11_isLabel := ⟨by decide, (wl_in 15 5 _ rfl), (wl_in 0 5 _ rfl), by decide, by decide, by decide +kernel, (fun h => nomatch (show false = true from h)), (fun h => nomatch (show false = true from h)), (fun _ => (wl_in 15 3 _ rfl)), (fun _ _ => (wl_in 15 4 _ rfl))⟩
theorem moX11_inner : mOk qX11_inner := ⟨by decide, (wl_in 15 13 _ rfl), (wl_in 0 5 _ rfl), by decide, by decide, by decide +kernel, (fun h => nomatch (show false = true from h)), (fun h => nomatch (show false = true from h)), (fun _ => (wl_in 15 11 _ rfl)), (fun _ _ => (wl_in 15 12 _ rfl))⟩
theorem moX11_wants : mOk qX11_wants := ⟨by decide, (wl_in 15 9 _ rfl), (wl_in 0 5 _ rfl), by decide, by decide, by decide +kernel, (fun h => nomatch (show false = true from h)), (fun h => nomatch (show false = true from h)), (fun _ => (wl_in 15 7 _ rfl)), (fun _ _ => (wl_in 15 8 _ rfl))⟩
theorem moX11_has : mOk qX11_has := ⟨by decide, (wl_in 15 17 _ rfl), (wl_in 0 5 _ rfl), by decide, by decide, by decide +kernel, (fun h => nomatch (show false = true from h)), (fun h => nomatch (show false = true from h)), (fun _ => (wl_in 15 15 _ rfl)), (fun _ _ => (wl_in 15 16 _ rfl))⟩
theorem moX11_die : mOk qX11_die := ⟨by decide, (wl_in 15 21 _ rfl), (wl_in 0 5 _ rfl), by decide, by decide, by decide +kernel, (fun h => nomatch (show false = true from h)), (fun h => nomatch (show false = true from h)), (fun _ => (wl_in 15 19 _ rfl)), (fun _ _ => (wl_in 15 20 _ rfl))⟩
theorem moX11_entryTo : mOk qX11_entryTo := ⟨by decide, (wl_in 14 23 _ rfl), (wl_in 0 5 _ rfl), by decide, by decide, by decide +kernel, (fun h => nomatch (show false = true from h)), (fun h => nomatch (show false = true from h)), (fun _ => (wl_in 14 21 _ rfl)), (fun _ _ => (wl_in 14 22 _ rfl))⟩
theorem moX11_ends : mOk qX11_ends := ⟨by decide, (wl_in 16 5 _ rfl), (wl_in 0 5 _ rfl), by decide, by decide, by decide +kernel, (fun h => nomatch (show false = true from h)), (fun h => nomatch (show false = true from h)), (fun _ => (wl_in 16 3 _ rfl)), (fun _ _ => (wl_in 16 4 _ rfl))⟩
theorem moX11_take : mOk qX11_take := ⟨by decide, (wl_in 16 13 _ rfl), (wl_in 0 5 _ rfl), by decide, by decide, by decide +kernel, (fun h => nomatch (show false = true from h)), (fun h => nomatch (show false = true from h)), (fun _ => (wl_in 16 11 _ rfl)), (fun _ _ => (wl_in 16 12 _ rfl))⟩
theorem moX11_block : mOk qX11_block := ⟨by decide, (wl_in 16 9 _ rfl), (wl_in 0 5 _ rfl), by decide, by decide, by decide +kernel, (fun h => nomatch (show false = true from h)), (fun h => nomatch (show false = true from h)), (fun _ => (wl_in 16 7 _ rfl)), (fun _ _ => (wl_in 16 8 _ rfl))⟩
theorem moX11_isDone : mOk qX11_isDone := ⟨by decide, (wl_in 16 21 _ rfl), (wl_in 0 5 _ rfl), by decide, by decide, by decide +kernel, (fun h => nomatch (show false = true from h)), (fun h => nomatch (show false = true from h)), (fun _ => (wl_in 16 19 _ rfl)), (fun _ _ => (wl_in 16 20 _ rfl))⟩
theorem moX11_otherwise : mOk qX11_otherwise := ⟨by decide, (wl_in 16 17 _ rfl), (wl_in 0 5 _ rfl), by decide, by decide, by decide +kernel, (fun h => nomatch (show false = true from h)), (fun h => nomatch (show false = true from h)), (fun _ => (wl_in 16 15 _ rfl)), (fun _ _ => (wl_in 16 16 _ rfl))⟩
theorem moX11_end : mOk qX11_end := ⟨by decide, (wl_in 17 1 _ rfl), (wl_in 0 5 _ rfl), by decide, by decide, by decide +kernel, (fun h => nomatch (show false = true from h)), (fun h => nomatch (show false = true from h)), (fun _ => (wl_in 16 23 _ rfl)), (fun _ _ => (wl_in 17 0 _ rfl))⟩
theorem moX11_turn : mOk qX11_turn := ⟨by decide, (wl_in 17 5 _ rfl), (wl_in 0 5 _ rfl), by decide, by decide, by decide +kernel, (fun h => nomatch (show false = true from h)), (fun h => nomatch (show false = true from h)), (fun _ => (wl_in 17 3 _ rfl)), (fun _ _ => (wl_in 17 4 _ rfl))⟩
theorem moX11_entries : mOk qX11_entries := ⟨by decide, (wl_in 17 9 _ rfl), (wl_in 0 5 _ rfl), by decide, by decide, by decide +kernel, (fun h => nomatch (show false = true from h)), (fun h => nomatch (show false = true from h)), (fun _ => (wl_in 17 7 _ rfl)), (fun _ _ => (wl_in 17 8 _ rfl))⟩
theorem moX11_control : mOk qX11_control := ⟨by decide, (wl_in 16 1 _ rfl), (wl_in 0 5 _ rfl), by decide, by decide, by decide +kernel, (fun h => nomatch (show false = true from h)), (fun h => nomatch (show false = true from h)), (fun _ => (wl_in 15 23 _ rfl)), (fun _ _ => (wl_in 16 0 _ rfl))⟩
theorem moX11_plain : mOk qX11_plain := ⟨by decide, (wl_in 17 13 _ rfl), (wl_in 0 5 _ rfl), by decide, by decide, by decide +kernel, (fun h => nomatch (show false = true from h)), (fun h => nomatch (show false = true from h)), (fun _ => (wl_in 17 11 _ rfl)), (fun _ _ => (wl_in 17 12 _ rfl))⟩
theorem moX11_code : mOk qX11_code := ⟨by decide, (wl_in 14 19 _ rfl), (wl_in 0 5 _ rfl), by decide, by decide, by decide +kernel, (fun h => nomatch (show false = true from h)), (fun h => nomatch (show false = true from h)), (fun _ => (wl_in 14 17 _ rfl)), (fun _ _ => (wl_in 14 18 _ rfl))⟩
theorem moX8_removeLast : mOk qX8_removeLast := ⟨by decide, (wl_in 17 21 _ rfl), (wl_in 0 15 _ rfl), by decide, by decide, by decide +kernel, (fun h => nomatch (show false = true from h)), (fun h => nomatch (show false = true from h)), (fun _ => (wl_in 17 19 _ rfl)), (fun _ _ => (wl_in 17 20 _ rfl))⟩
theorem moX10_drop : mOk qX10_drop := ⟨by decide, (wl_in 17 17 _ rfl), (wl_in 0 2 _ rfl), by decide, by decide, by decide +kernel, (fun h => nomatch (show false = true from h)), (fun h => nomatch (show false = true from h)), (fun _ => (wl_in 17 15 _ rfl)), (fun _ _ => (wl_in 17 16 _ rfl))⟩
theorem moX11_drop : mOk qX11_drop := ⟨by decide, (wl_in 18 1 _ rfl), (wl_in 0 5 _ rfl), by decide, by decide, by decide +kernel, (fun h => nomatch (show false = true from h)), (fun h => nomatch (show false = true from h)), (fun _ => (wl_in 17 23 _ rfl)), (fun _ _ => (wl_in 18 0 _ rfl))⟩
theorem moX5_setTable : mOk qX5_setTable := ⟨by decide, (wl_in 18 9 _ rfl), (wl_in 0 19 _ rfl), by decide, by decide, by decide +kernel, (fun h => nomatch (show false = true from h)), (fun h => nomatch (show false = true from h)), (fun _ => (wl_in 18 7 _ rfl)), (fun _ _ => (wl_in 18 8 _ rfl))⟩
theorem moX8_findWhole : mOk qX8_findWhole := ⟨by decide, (wl_in 18 13 _ rfl), (wl_in 0 15 _ rfl), by decide, by decide, by decide +kernel, (fun h => nomatch (show false = true from h)), (fun h => nomatch (show false = true from h)), (fun _ => (wl_in 18 11 _ rfl)), (fun _ _ => (wl_in 18 12 _ rfl))⟩
theorem moX10_entry : mOk qX10_entry := ⟨by decide, (wl_in 18 5 _ rfl), (wl_in 0 2 _ rfl), by decide, by decide, by decide +kernel, (fun h => nomatch (show false = true from h)), (fun h => nomatch (show false = true from h)), (fun _ => (wl_in 18 3 _ rfl)), (fun _ _ => (wl_in 18 4 _ rfl))⟩
theorem moX11_isWhole : mOk qX11_isWhole := ⟨by decide, (wl_in 18 23 _ rfl), (wl_in 0 5 _ rfl), by decide, by decide, by decide +kernel, (fun h => nomatch (show false = true from h)), (fun h => nomatch (show false = true from h)), (fun _ => (wl_in 18 21 _ rfl)), (fun _ _ => (wl_in 18 22 _ rfl))⟩
theorem moX11_entry : mOk qX11_entry := ⟨by decide, (wl_in 18 19 _ rfl), (wl_in 0 5 _ rfl), by decide, by decide, by decide +kernel, (fun h => nomatch (show false = true from h)), (fun h => nomatch (show false = true from h)), (fun _ => (wl_in 18 17 _ rfl)), (fun _ _ => (wl_in 18 18 _ rfl))⟩
theorem moX10_argument : mOk qX10_argument := ⟨by decide, (wl_in 19 3 _ rfl), (wl_in 0 2 _ rfl), by decide, by decide, by decide +kernel, (fun h => nomatch (show false = true from h)), (fun h => nomatch (show false = true from h)), (fun _ => (wl_in 19 1 _ rfl)), (fun _ _ => (wl_in 19 2 _ rfl))⟩
theorem moX11_argument : mOk qX11_argument := ⟨by decide, (wl_in 19 8 _ rfl), (wl_in 0 5 _ rfl), by decide, by decide, by decide +kernel, (fun h => nomatch (show false = true from h)), (fun h => nomatch (show false = true from h)), (fun _ => (wl_in 19 6 _ rfl)), (fun _ _ => (wl_in 19 7 _ rfl))⟩
theorem moX9_push : mOk qX9_push := ⟨by decide, (wl_in 20 6 _ rfl), (wl_in 1 19 _ rfl), by decide, by decide, by decide +kernel, (fun h => nomatch (show false = true from h)), (fun h => nomatch (show false = true from h)), (fun _ => (wl_in 20 4 _ rfl)), (fun _ _ => (wl_in 20 5 _ rfl))⟩
theorem moX2_room : mOk qX2_room := ⟨by decide, (wl_in 20 16 _ rfl), (wl_in 4 4 _ rfl), by decide, by decide, by decide +kernel, (fun h => nomatch (show false = true from h)), (fun h => nomatch (show false = true from h)), (fun _ => (wl_in 20 14 _ rfl)), (fun _ _ => (wl_in 20 15 _ rfl))⟩
theorem moX1_enter : mOk qX1_enter := ⟨by decide, (wl_in 20 21 _ rfl), (wl_in 1 23 _ rfl), by decide, by decide, by decide +kernel, (fun h => nomatch (show false = true from h)), (fun h => nomatch (show false = true from h)), (fun _ => (wl_in 20 19 _ rfl)), (fun _ _ => (wl_in 20 20 _ rfl))⟩
theorem moX5_enter : mOk qX5_enter := ⟨by decide, (wl_in 20 11 _ rfl), (wl_in 0 19 _ rfl), by decide, by decide, by decide +kernel, (fun h => nomatch (show false = true from h)), (fun h => nomatch (show false = true from h)), (fun _ => (wl_in 20 9 _ rfl)), (fun _ _ => (wl_in 20 10 _ rfl))⟩
theorem moX5_isGoing : mOk qX5_isGoing := ⟨by decide, (wl_in 21 13 _ rfl), (wl_in 0 19 _ rfl), by decide, by decide, by decide +kernel, (fun h => nomatch (show false = true from h)), (fun h => nomatch (show false = true from h)), (fun _ => (wl_in 21 11 _ rfl)), (fun _ _ => (wl_in 21 12 _ rfl))⟩
theorem moX5_innermost : mOk qX5_innermost := ⟨by decide, (wl_in 21 17 _ rfl), (wl_in 0 19 _ rfl), by decide, by decide, by decide +kernel, (fun h => nomatch (show false = true from h)), (fun h => nomatch (show false = true from h)), (fun _ => (wl_in 21 15 _ rfl)), (fun _ _ => (wl_in 21 16 _ rfl))⟩
theorem moX9_at : mOk qX9_at := ⟨by decide, (wl_in 22 1 _ rfl), (wl_in 1 19 _ rfl), by decide, by decide, by decide +kernel, (fun h => nomatch (show false = true from h)), (fun h => nomatch (show false = true from h)), (fun _ => (wl_in 21 23 _ rfl)), (fun _ _ => (wl_in 22 0 _ rfl))⟩
theorem moX9_set : mOk qX9_set := ⟨by decide, (wl_in 22 5 _ rfl), (wl_in 1 19 _ rfl), by decide, by decide, by decide +kernel, (fun h => nomatch (show false = true from h)), (fun h => nomatch (show false = true from h)), (fun _ => (wl_in 22 3 _ rfl)), (fun _ _ => (wl_in 22 4 _ rfl))⟩
theorem moX9_keep : mOk qX9_keep := ⟨by decide, (wl_in 21 21 _ rfl), (wl_in 1 19 _ rfl), by decide, by decide, by decide +kernel, (fun h => nomatch (show false = true from h)), (fun h => nomatch (show false = true from h)), (fun _ => (wl_in 21 19 _ rfl)), (fun _ _ => (wl_in 21 20 _ rfl))⟩
theorem moX5_leaveWhatIsOver : mOk qX5_leaveWhatIsOver := ⟨by decide, (wl_in 21 5 _ rfl), (wl_in 0 19 _ rfl), by decide, by decide, by decide +kernel, (fun h => nomatch (show false = true from h)), (fun h => nomatch (show false = true from h)), (fun _ => (wl_in 21 3 _ rfl)), (fun _ _ => (wl_in 21 4 _ rfl))⟩
theorem moX5_begin : mOk qX5_begin := ⟨by decide, (wl_in 19 18 _ rfl), (wl_in 0 19 _ rfl), by decide, by decide, by decide +kernel, (fun h => nomatch (show false = true from h)), (fun h => nomatch (show false = true from h)), (fun _ => (wl_in 19 16 _ rfl)), (fun _ _ => (wl_in 19 17 _ rfl))⟩
theorem moX10_call : mOk qX10_call := ⟨by decide, (wl_in 19 13 _ rfl), (wl_in 0 2 _ rfl), by decide, by decide, by decide +kernel, (fun h => nomatch (show false = true from h)), (fun h => nomatch (show false = true from h)), (fun _ => (wl_in 19 11 _ rfl)), (fun _ _ => (wl_in 19 12 _ rfl))⟩
theorem moX11_push : mOk qX11_push := ⟨by decide, (wl_in 22 20 _ rfl), (wl_in 0 5 _ rfl), by decide, by decide, by decide +kernel, (fun h => nomatch (show false = true from h)), (fun h => nomatch (show false = true from h)), (fun _ => (wl_in 22 18 _ rfl)), (fun _ _ => (wl_in 22 19 _ rfl))⟩
theorem moX11_namesOf : mOk qX11_namesOf := ⟨by decide, (wl_in 23 8 _ rfl), (wl_in 0 5 _ rfl), by decide, by decide, by decide +kernel, (fun h => nomatch (show false = true from h)), (fun h => nomatch (show false = true from h)), (fun _ => (wl_in 23 6 _ rfl)), (fun _ _ => (wl_in 23 7 _ rfl))⟩
theorem moX11_asks : mOk qX11_asks := ⟨by decide, (wl_in 23 4 _ rfl), (wl_in 0 5 _ rfl), by decide, by decide, by decide +kernel, (fun h => nomatch (show false = true from h)), (fun h => nomatch (show false = true from h)), (fun _ => (wl_in 23 2 _ rfl)), (fun _ _ => (wl_in 23 3 _ rfl))⟩
theorem moX11_enter : mOk qX11_enter := ⟨by decide, (wl_in 23 0 _ rfl), (wl_in 0 5 _ rfl), by decide, by decide, by decide +kernel, (fun h => nomatch (show false = true from h)), (fun h => nomatch (show false = true from h)), (fun _ => (wl_in 22 22 _ rfl)), (fun _ _ => (wl_in 22 23 _ rfl))⟩
theorem moX11_begins : mOk qX11_begins := ⟨by decide, (wl_in 23 19 _ rfl), (wl_in 0 5 _ rfl), by decide, by decide, by decide +kernel, (fun h => nomatch (show false = true from h)), (fun _ => (wl_in 23 18 _ rfl)), (fun h => nomatch (show true = false from h)), (fun h => nomatch (show true = false from h))⟩
theorem moX11_endOf : mOk qX11_endOf := ⟨by decide, (wl_in 23 16 _ rfl), (wl_in 0 5 _ rfl), by decide, by decide, by decide +kernel, (fun h => nomatch (show false = true from h)), (fun h => nomatch (show false = true from h)), (fun _ => (wl_in 23 14 _ rfl)), (fun _ _ => (wl_in 23 15 _ rfl))⟩
theorem moX11_keep : mOk qX11_keep := ⟨by decide, (wl_in 24 3 _ rfl), (wl_in 0 5 _ rfl), by decide, by decide, by decide +kernel, (fun h => nomatch (show false = true from h)), (fun h => nomatch (show false = true from h)), (fun _ => (wl_in 24 1 _ rfl)), (fun _ _ => (wl_in 24 2 _ rfl))⟩
theorem moX11_back : mOk qX11_back := ⟨by decide, (wl_in 23 23 _ rfl), (wl_in 0 5 _ rfl), by decide, by decide, by decide +kernel, (fun h => nomatch (show false = true from h)), (fun h => nomatch (show false = true from h)), (fun _ => (wl_in 23 21 _ rfl)), (fun _ _ => (wl_in 23 22 _ rfl))⟩
theorem moX11_pass : mOk qX11_pass := ⟨by decide, (wl_in 23 12 _ rfl), (wl_in 0 5 _ rfl), by decide, by decide, by decide +kernel, (fun h => nomatch (show false = true from h)), (fun h => nomatch (show false = true from h)), (fun _ => (wl_in 23 10 _ rfl)), (fun _ _ => (wl_in 23 11 _ rfl))⟩
theorem moX11_call : mOk qX11_call := ⟨by decide, (wl_in 22 9 _ rfl), (wl_in 0 5 _ rfl), by decide, by decide, by decide +kernel, (fun h => nomatch (show false = true from h)), (fun h => nomatch (show false = true from h)), (fun _ => (wl_in 22 7 _ rfl)), (fun _ _ => (wl_in 22 8 _ rfl))⟩
theorem moX5_trap : mOk qX5_trap := ⟨by decide, (wl_in 25 3 _ rfl), (wl_in 0 19 _ rfl), by decide, by decide, by decide +kernel, (fun h => nomatch (show false = true from h)), (fun h => nomatch (show false = true from h)), (fun _ => (wl_in 25 1 _ rfl)), (fun _ _ => (wl_in 25 2 _ rfl))⟩
theorem moX9_pop : mOk qX9_pop := ⟨by decide, (wl_in 25 8 _ rfl), (wl_in 1 19 _ rfl), by decide, by decide, by decide +kernel, (fun h => nomatch (show false = true from h)), (fun h => nomatch (show false = true from h)), (fun _ => (wl_in 25 6 _ rfl)), (fun _ _ => (wl_in 25 7 _ rfl))⟩
theorem moX7_isTrue : mOk qX7_isTrue := ⟨by decide, (wl_in 25 11 _ rfl), (wl_in 13 22 _ rfl), by decide, by decide, by decide +kernel, (fun h => nomatch (show false = true from h)), (fun _ => (wl_in 25 10 _ rfl)), (fun h => nomatch (show true = false from h)), (fun h => nomatch (show true = false from h))⟩
theorem moX1_operandsFrom : mOk qX1_operandsFrom := ⟨by decide, (wl_in 25 21 _ rfl), (wl_in 1 23 _ rfl), by decide, by decide, by decide +kernel, (fun h => nomatch (show false = true from h)), (fun h => nomatch (show false = true from h)), (fun _ => (wl_in 25 19 _ rfl)), (fun _ _ => (wl_in 25 20 _ rfl))⟩
theorem moX5_branch : mOk qX5_branch := ⟨by decide, (wl_in 25 15 _ rfl), (wl_in 0 19 _ rfl), by decide, by decide, by decide +kernel, (fun h => nomatch (show false = true from h)), (fun h => nomatch (show false = true from h)), (fun _ => (wl_in 25 13 _ rfl)), (fun _ _ => (wl_in 25 14 _ rfl))⟩
theorem moX5_chosenEntry : mOk qX5_chosenEntry := ⟨by decide, (wl_in 26 2 _ rfl), (wl_in 0 19 _ rfl), by decide, by decide, by decide +kernel, (fun h => nomatch (show false = true from h)), (fun h => nomatch (show false = true from h)), (fun _ => (wl_in 26 0 _ rfl)), (fun _ _ => (wl_in 26 1 _ rfl))⟩
theorem moX2_hasSignature : mOk qX2_hasSignature := ⟨by decide, (wl_in 26 13 _ rfl), (wl_in 4 4 _ rfl), by decide, by decide, by decide +kernel, (fun h => nomatch (show false = true from h)), (fun h => nomatch (show false = true from h)), (fun _ => (wl_in 26 11 _ rfl)), (fun _ _ => (wl_in 26 12 _ rfl))⟩
theorem moX5_enterByTable : mOk qX5_enterByTable := ⟨by decide, (wl_in 26 8 _ rfl), (wl_in 0 19 _ rfl), by decide, by decide, by decide +kernel, (fun h => nomatch (show false = true from h)), (fun h => nomatch (show false = true from h)), (fun _ => (wl_in 26 6 _ rfl)), (fun _ _ => (wl_in 26 7 _ rfl))⟩
theorem moX5_control : mOk qX5_control := ⟨by decide, (wl_in 24 21 _ rfl), (wl_in 0 19 _ rfl), by decide, by decide, by decide +kernel, (fun h => nomatch (show false = true from h)), (fun h => nomatch (show false = true from h)), (fun _ => (wl_in 24 19 _ rfl)), (fun _ _ => (wl_in 24 20 _ rfl))⟩
theorem moX5_select : mOk qX5_select := ⟨by decide, (wl_in 26 21 _ rfl), (wl_in 0 19 _ rfl), by decide, by decide, by decide +kernel, (fun h => nomatch (show false = true from h)), (fun h => nomatch (show false = true from h)), (fun _ => (wl_in 26 19 _ rfl)), (fun _ _ => (wl_in 26 20 _ rfl))⟩
theorem moX5_globalAt : mOk qX5_globalAt := ⟨by decide, (wl_in 27 3 _ rfl), (wl_in 0 19 _ rfl), by decide, by decide, by decide +kernel, (fun h => nomatch (show false = true from h)), (fun h => nomatch (show false = true from h)), (fun _ => (wl_in 27 1 _ rfl)), (fun _ _ => (wl_in 27 2 _ rfl))⟩
theorem moX5_setGlobal : mOk qX5_setGlobal := ⟨by decide, (wl_in 27 7 _ rfl), (wl_in 0 19 _ rfl), by decide, by decide, by decide +kernel, (fun h => nomatch (show false = true from h)), (fun h => nomatch (show false = true from h)), (fun _ => (wl_in 27 5 _ rfl)), (fun _ _ => (wl_in 27 6 _ rfl))⟩
theorem moX5_move : mOk qX5_move := ⟨by decide, (wl_in 26 17 _ rfl), (wl_in 0 19 _ rfl), by decide, by decide, by decide +kernel, (fun h => nomatch (show false = true from h)), (fun h => nomatch (show false = true from h)), (fun _ => (wl_in 26 15 _ rfl)), (fun _ _ => (wl_in 26 16 _ rfl))⟩
theorem moX7_sizeOf : mOk qX7_sizeOf := ⟨by decide, (wl_in 27 14 _ rfl), (wl_in 13 22 _ rfl), by decide, by decide, by decide +kernel, (fun h => nomatch (show false = true from h)), (fun _ => (wl_in 27 13 _ rfl)), (fun h => nomatch (show true = false from h)), (fun h => nomatch (show true = false from h))⟩
theorem moX6_holds : mOk qX6_holds := ⟨by decide, (wl_in 27 18 _ rfl), (wl_in 1 15 _ rfl), by decide, by decide, by decide +kernel, (fun h => nomatch (show false = true from h)), (fun h => nomatch (show false = true from h)), (fun _ => (wl_in 27 16 _ rfl)), (fun _ _ => (wl_in 27 17 _ rfl))⟩
theorem moX6_load : mOk qX6_load := ⟨by decide, (wl_in 28 2 _ rfl), (wl_in 1 15 _ rfl), by decide, by decide, by decide +kernel, (fun h => nomatch (show false = true from h)), (fun h => nomatch (show false = true from h)), (fun _ => (wl_in 28 0 _ rfl)), (fun _ _ => (wl_in 28 1 _ rfl))⟩
theorem moX7_widened : mOk qX7_widened := ⟨by decide, (wl_in 28 6 _ rfl), (wl_in 13 22 _ rfl), by decide, by decide, by decide +kernel, (fun h => nomatch (show false = true from h)), (fun _ => (wl_in 28 5 _ rfl)), (fun h => nomatch (show true = false from h)), (fun h => nomatch (show true = false from h))⟩
theorem moX5_load : mOk qX5_load := ⟨by decide, (wl_in 27 11 _ rfl), (wl_in 0 19 _ rfl), by decide, by decide, by decide +kernel, (fun h => nomatch (show false = true from h)), (fun h => nomatch (show false = true from h)), (fun _ => (wl_in 27 9 _ rfl)), (fun _ _ => (wl_in 27 10 _ rfl))⟩
theorem moX6_store : mOk qX6_store := ⟨by decide, (wl_in 28 15 _ rfl), (wl_in 1 15 _ rfl), by decide, by decide, by decide +kernel, (fun h => nomatch (show false = true from h)), (fun h => nomatch (show false = true from h)), (fun _ => (wl_in 28 13 _ rfl)), (fun _ _ => (wl_in 28 14 _ rfl))⟩
theorem moX5_store : mOk qX5_store := ⟨by decide, (wl_in 28 11 _ rfl), (wl_in 0 19 _ rfl), by decide, by decide, by decide +kernel, (fun h => nomatch (show false = true from h)), (fun h => nomatch (show false = true from h)), (fun _ => (wl_in 28 9 _ rfl)), (fun _ _ => (wl_in 28 10 _ rfl))⟩
theorem moX6_grow : mOk qX6_grow := ⟨by decide, (wl_in 29 0 _ rfl), (wl_in 1 15 _ rfl), by decide, by decide, by decide +kernel, (fun h => nomatch (show false = true from h)), (fun h => nomatch (show false = true from h)), (fun _ => (wl_in 28 22 _ rfl)), (fun _ _ => (wl_in 28 23 _ rfl))⟩
theorem moX5_provide : mOk qX5_provide := ⟨by decide, (wl_in 28 19 _ rfl), (wl_in 0 19 _ rfl), by decide, by decide, by decide +kernel, (fun h => nomatch (show false = true from h)), (fun h => nomatch (show false = true from h)), (fun _ => (wl_in 28 17 _ rfl)), (fun _ _ => (wl_in 28 18 _ rfl))⟩
theorem moX5_divide : mOk qX5_divide := ⟨by decide, (wl_in 29 10 _ rfl), (wl_in 0 19 _ rfl), by decide, by decide, by decide +kernel, (fun h => nomatch (show false = true from h)), (fun h => nomatch (show false = true from h)), (fun _ => (wl_in 29 8 _ rfl)), (fun _ _ => (wl_in 29 9 _ rfl))⟩
theorem moX7_isOf64 : mOk qX7_isOf64 := ⟨by decide, (wl_in 29 13 _ rfl), (wl_in 13 22 _ rfl), by decide, by decide, by decide +kernel, (fun h => nomatch (show false = true from h)), (fun _ => (wl_in 29 12 _ rfl)), (fun h => nomatch (show true = false from h)), (fun h => nomatch (show true = false from h))⟩
theorem moX7_of64 : mOk qX7_of64 := ⟨by decide, (wl_in 29 16 _ rfl), (wl_in 13 22 _ rfl), by decide, by decide, by decide +kernel, (fun h => nomatch (show false = true from h)), (fun _ => (wl_in 29 15 _ rfl)), (fun h => nomatch (show true = false from h)), (fun h => nomatch (show true = false from h))⟩
theorem moX7_of32 : mOk qX7_of32 := ⟨by decide, (wl_in 29 19 _ rfl), (wl_in 13 22 _ rfl), by decide, by decide, by decide +kernel, (fun h => nomatch (show false = true from h)), (fun _ => (wl_in 29 18 _ rfl)), (fun h => nomatch (show true = false from h)), (fun h => nomatch (show true = false from h))⟩
theorem moX5_computeOfTwo : mOk qX5_computeOfTwo := ⟨by decide, (wl_in 29 6 _ rfl), (wl_in 0 19 _ rfl), by decide, by decide, by decide +kernel, (fun h => nomatch (show false = true from h)), (fun h => nomatch (show false = true from h)), (fun _ => (wl_in 29 4 _ rfl)), (fun _ _ => (wl_in 29 5 _ rfl))⟩
theorem moX5_computeOfOne : mOk qX5_computeOfOne := ⟨by decide, (wl_in 29 23 _ rfl), (wl_in 0 19 _ rfl), by decide, by decide, by decide +kernel, (fun h => nomatch (show false = true from h)), (fun h => nomatch (show false = true from h)), (fun _ => (wl_in 29 21 _ rfl)), (fun _ _ => (wl_in 29 22 _ rfl))⟩
theorem moX5_step : mOk qX5_step := ⟨by decide, (wl_in 24 15 _ rfl), (wl_in 0 19 _ rfl), by decide, by decide, by decide +kernel, (fun h => nomatch (show false = true from h)), (fun h => nomatch (show false = true from h)), (fun _ => (wl_in 24 13 _ rfl)), (fun _ _ => (wl_in 24 14 _ rfl))⟩
theorem moX5_advance : mOk qX5_advance := ⟨by decide, (wl_in 24 11 _ rfl), (wl_in 0 19 _ rfl), by decide, by decide, by decide +kernel, (fun h => nomatch (show false = true from h)), (fun h => nomatch (show false = true from h)), (fun _ => (wl_in 24 9 _ rfl)), (fun _ _ => (wl_in 24 10 _ rfl))⟩
theorem moX10_run : mOk qX10_run := ⟨by decide, (wl_in 24 7 _ rfl), (wl_in 0 2 _ rfl), by decide, by decide, by decide +kernel, (fun h => nomatch (show false = true from h)), (fun h => nomatch (show false = true from h)), (fun _ => (wl_in 24 5 _ rfl)), (fun _ _ => (wl_in 24 6 _ rfl))⟩
theorem moX11_traps : mOk qX11_traps := ⟨by decide, (wl_in 30 12 _ rfl), (wl_in 0 5 _ rfl), by decide, by decide, by decide +kernel, (fun h => nomatch (show false = true from h)), (fun h => nomatch (show false = true from h)), (fun _ => (wl_in 30 10 _ rfl)), (fun _ _ => (wl_in 30 11 _ rfl))⟩
theorem moX11_pop : mOk qX11_pop := ⟨by decide, (wl_in 30 21 _ rfl), (wl_in 0 5 _ rfl), by decide, by decide, by decide +kernel, (fun h => nomatch (show false = true from h)), (fun h => nomatch (show false = true from h)), (fun _ => (wl_in 30 19 _ rfl)), (fun _ _ => (wl_in 30 20 _ rfl))⟩
theorem moX11_isTrue : mOk qX11_isTrue := ⟨by decide, (wl_in 31 0 _ rfl), (wl_in 0 5 _ rfl), by decide, by decide, by decide +kernel, (fun h => nomatch (show false = true from h)), (fun _ => (wl_in 30 23 _ rfl)), (fun h => nomatch (show true = false from h)), (fun h => nomatch (show true = false from h))⟩
theorem moX11_condition : mOk qX11_condition := ⟨by decide, (wl_in 30 17 _ rfl), (wl_in 0 5 _ rfl), by decide, by decide, by decide +kernel, (fun h => nomatch (show false = true from h)), (fun h => nomatch (show false = true from h)), (fun _ => (wl_in 30 15 _ rfl)), (fun _ _ => (wl_in 30 16 _ rfl))⟩
theorem moX11_beginOf : mOk qX11_beginOf := ⟨by decide, (wl_in 31 8 _ rfl), (wl_in 0 5 _ rfl), by decide, by decide, by decide +kernel, (fun h => nomatch (show false = true from h)), (fun h => nomatch (show false = true from h)), (fun _ => (wl_in 31 6 _ rfl)), (fun _ _ => (wl_in 31 7 _ rfl))⟩
theorem moX11_base : mOk qX11_base := ⟨by decide, (wl_in 31 12 _ rfl), (wl_in 0 5 _ rfl), by decide, by decide, by decide +kernel, (fun h => nomatch (show false = true from h)), (fun h => nomatch (show false = true from h)), (fun _ => (wl_in 31 10 _ rfl)), (fun _ _ => (wl_in 31 11 _ rfl))⟩
theorem moX11_branch : mOk qX11_branch := ⟨by decide, (wl_in 31 4 _ rfl), (wl_in 0 5 _ rfl), by decide, by decide, by decide +kernel, (fun h => nomatch (show false = true from h)), (fun h => nomatch (show false = true from h)), (fun _ => (wl_in 31 2 _ rfl)), (fun _ _ => (wl_in 31 3 _ rfl))⟩
theorem moX11_outermost : mOk qX11_outermost := ⟨by decide, (wl_in 31 16 _ rfl), (wl_in 0 5 _ rfl), by decide, by decide, by decide +kernel, (fun h => nomatch (show false = true from h)), (fun h => nomatch (show false = true from h)), (fun _ => (wl_in 31 14 _ rfl)), (fun _ _ => (wl_in 31 15 _ rfl))⟩
theorem moX11_callTable : mOk qX11_callTable := ⟨by decide, (wl_in 31 20 _ rfl), (wl_in 0 5 _ rfl), by decide, by decide, by decide +kernel, (fun h => nomatch (show false = true from h)), (fun h => nomatch (show false = true from h)), (fun _ => (wl_in 31 18 _ rfl)), (fun _ _ => (wl_in 31 19 _ rfl))⟩
theorem moX11_choose : mOk qX11_choose := ⟨by decide, (wl_in 32 5 _ rfl), (wl_in 0 5 _ rfl), by decide, by decide, by decide +kernel, (fun h => nomatch (show false = true from h)), (fun h => nomatch (show false = true from h)), (fun _ => (wl_in 32 3 _ rfl)), (fun _ _ => (wl_in 32 4 _ rfl))⟩
theorem moX11_variable : mOk qX11_variable := ⟨by decide, (wl_in 32 9 _ rfl), (wl_in 0 5 _ rfl), by decide, by decide, by decide +kernel, (fun h => nomatch (show false = true from h)), (fun h => nomatch (show false = true from h)), (fun _ => (wl_in 32 7 _ rfl)), (fun _ _ => (wl_in 32 8 _ rfl))⟩
theorem moX11_size : mOk qX11_size := ⟨by decide, (wl_in 32 18 _ rfl), (wl_in 0 5 _ rfl), by decide, by decide, by decide +kernel, (fun h => nomatch (show false = true from h)), (fun _ => (wl_in 32 17 _ rfl)), (fun h => nomatch (show true = false from h)), (fun h => nomatch (show true = false from h))⟩
theorem moX11_move : mOk qX11_move := ⟨by decide, (wl_in 32 13 _ rfl), (wl_in 0 5 _ rfl), by decide, by decide, by decide +kernel, (fun h => nomatch (show false = true from h)), (fun h => nomatch (show false = true from h)), (fun _ => (wl_in 32 11 _ rfl)), (fun _ _ => (wl_in 32 12 _ rfl))⟩
theorem moX11_grow : mOk qX11_grow := ⟨by decide, (wl_in 32 22 _ rfl), (wl_in 0 5 _ rfl), by decide, by decide, by decide +kernel, (fun h => nomatch (show false = true from h)), (fun h => nomatch (show false = true from h)), (fun _ => (wl_in 32 20 _ rfl)), (fun _ _ => (wl_in 32 21 _ rfl))⟩
theorem moX11_truth : mOk qX11_truth := ⟨by decide, (wl_in 33 7 _ rfl), (wl_in 0 5 _ rfl), by decide, by decide, by decide +kernel, (fun h => nomatch (show false = true from h)), (fun _ => (wl_in 33 6 _ rfl)), (fun h => nomatch (show true = false from h)), (fun h => nomatch (show true = false from h))⟩
theorem moX11_work : mOk qX11_work := ⟨by decide, (wl_in 33 3 _ rfl), (wl_in 0 5 _ rfl), by decide, by decide, by decide +kernel, (fun h => nomatch (show false = true from h)), (fun h => nomatch (show false = true from h)), (fun _ => (wl_in 33 1 _ rfl)), (fun _ _ => (wl_in 33 2 _ rfl))⟩
theorem moX11_simple : mOk qX11_simple := ⟨by decide, (wl_in 32 1 _ rfl), (wl_in 0 5 _ rfl), by decide, by decide, by decide +kernel, (fun h => nomatch (show false = true from h)), (fun h => nomatch (show false = true from h)), (fun _ => (wl_in 31 23 _ rfl)), (fun _ _ => (wl_in 32 0 _ rfl))⟩
theorem moX11_step : mOk qX11_step := ⟨by decide, (wl_in 30 7 _ rfl), (wl_in 0 5 _ rfl), by decide, by decide, by decide +kernel, (fun h => nomatch (show false = true from h)), (fun h => nomatch (show false = true from h)), (fun _ => (wl_in 30 5 _ rfl)), (fun _ _ => (wl_in 30 6 _ rfl))⟩
theorem moX11_run : mOk qX11_run := ⟨by decide, (wl_in 30 3 _ rfl), (wl_in 0 5 _ rfl), by decide, by decide, by decide +kernel, (fun h => nomatch (show false = true from h)), (fun h => nomatch (show false = true from h)), (fun _ => (wl_in 30 1 _ rfl)), (fun _ _ => (wl_in 30 2 _ rfl))⟩
theorem moX0_isDead : mOk qX0_isDead := ⟨by decide, (wl_in 34 2 _ rfl), (wl_in 4 7 _ rfl), by decide, by decide, by decide +kernel, (fun h => nomatch (show false = true from h)), (fun h => nomatch (show false = true from h)), (fun _ => (wl_in 34 0 _ rfl)), (fun _ _ => (wl_in 34 1 _ rfl))⟩
theorem moX10_state : mOk qX10_state := ⟨by decide, (wl_in 33 11 _ rfl), (wl_in 0 2 _ rfl), by decide, by decide, by decide +kernel, (fun h => nomatch (show false = true from h)), (fun h => nomatch (show false = true from h)), (fun _ => (wl_in 33 9 _ rfl)), (fun _ _ => (wl_in 33 10 _ rfl))⟩
theorem moX11_state : mOk qX11_state := ⟨by decide, (wl_in 34 6 _ rfl), (wl_in 0 5 _ rfl), by decide, by decide, by decide +kernel, (fun h => nomatch (show false = true from h)), (fun h => nomatch (show false = true from h)), (fun _ => (wl_in 34 4 _ rfl)), (fun _ _ => (wl_in 34 5 _ rfl))⟩
theorem moX5_resultAt : mOk qX5_resultAt := ⟨by decide, (wl_in 34 14 _ rfl), (wl_in 0 19 _ rfl), by decide, by decide, by decide +kernel, (fun h => nomatch (show false = true from h)), (fun h => nomatch (show false = true from h)), (fun _ => (wl_in 34 12 _ rfl)), (fun _ _ => (wl_in 34 13 _ rfl))⟩
theorem moX10_result : mOk qX10_result := ⟨by decide, (wl_in 34 10 _ rfl), (wl_in 0 2 _ rfl), by decide, by decide, by decide +kernel, (fun h => nomatch (show false = true from h)), (fun h => nomatch (show false = true from h)), (fun _ => (wl_in 34 8 _ rfl)), (fun _ _ => (wl_in 34 9 _ rfl))⟩
theorem moX11_result : mOk qX11_result := ⟨by decide, (wl_in 34 18 _ rfl), (wl_in 0 5 _ rfl), by decide, by decide, by decide +kernel, (fun h => nomatch (show false = true from h)), (fun h => nomatch (show false = true from h)), (fun _ => (wl_in 34 16 _ rfl)), (fun _ _ => (wl_in 34 17 _ rfl))⟩
theorem moX10_global : mOk qX10_global := ⟨by decide, (wl_in 34 22 _ rfl), (wl_in 0 2 _ rfl), by decide, by decide, by decide +kernel, (fun h => nomatch (show false = true from h)), (fun h => nomatch (show false = true from h)), (fun _ => (wl_in 34 20 _ rfl)), (fun _ _ => (wl_in 34 21 _ rfl))⟩
theorem moX11_global : mOk qX11_global := ⟨by decide, (wl_in 35 3 _ rfl), (wl_in 0 5 _ rfl), by decide, by decide, by decide +kernel, (fun h => nomatch (show false = true from h)), (fun h => nomatch (show false = true from h)), (fun _ => (wl_in 35 1 _ rfl)), (fun _ _ => (wl_in 35 2 _ rfl))⟩
theorem moX6_byteAt : mOk qX6_byteAt := ⟨by decide, (wl_in 35 11 _ rfl), (wl_in 1 15 _ rfl), by decide, by decide, by decide +kernel, (fun h => nomatch (show false = true from h)), (fun h => nomatch (show false = true from h)), (fun _ => (wl_in 35 9 _ rfl)), (fun _ _ => (wl_in 35 10 _ rfl))⟩
theorem moX10_memory : mOk qX10_memory := ⟨by decide, (wl_in 35 7 _ rfl), (wl_in 0 2 _ rfl), by decide, by decide, by decide +kernel, (fun h => nomatch (show false = true from h)), (fun h => nomatch (show false = true from h)), (fun _ => (wl_in 35 5 _ rfl)), (fun _ _ => (wl_in 35 6 _ rfl))⟩
theorem moX11_memory : mOk qX11_memory := ⟨by decide, (wl_in 35 15 _ rfl), (wl_in 0 5 _ rfl), by decide, by decide, by decide +kernel, (fun h => nomatch (show false = true from h)), (fun h => nomatch (show false = true from h)), (fun _ => (wl_in 35 13 _ rfl)), (fun _ _ => (wl_in 35 14 _ rfl))⟩
theorem moX10_look : mOk qX10_look := ⟨by decide, (wl_in 35 19 _ rfl), (wl_in 0 2 _ rfl), by decide, by decide, by decide +kernel, (fun h => nomatch (show false = true from h)), (fun h => nomatch (show false = true from h)), (fun _ => (wl_in 35 17 _ rfl)), (fun _ _ => (wl_in 35 18 _ rfl))⟩
theorem moX11_look : mOk qX11_look := ⟨by decide, (wl_in 36 2 _ rfl), (wl_in 0 5 _ rfl), by decide, by decide, by decide +kernel, (fun h => nomatch (show false = true from h)), (fun h => nomatch (show false = true from h)), (fun _ => (wl_in 36 0 _ rfl)), (fun _ _ => (wl_in 36 1 _ rfl))⟩
