/-! AN INTERPRETER OF THE BYTECODE, 7: contracts of all methods, by the interpreter -/
def Pcc (base : Nat) (D : Dt) (as : List TV) (h : Hp) : Array Value → State → Prop := fun v U => v = (as.map tv).toArray ∧ Rep base D U U.heap h ∧ Kn D U
def Qcc (base : Nat) (D : Dt) (r : Option TV) (h' : Hp) : Array Value → State → Outcome → State → Prop := fun _ st o t => o = .returned (r.map tv) ∧ Rep base D t t.heap h' ∧ va_F (fun q => base ≤ q) st t
theorem Pcc_blind (base : Nat) (D : Dt) (as : List TV) (h : Hp) : FrameBlind (Pcc base D as h) := fun a U g mk hp => ⟨hp.1, Rep.moved (s := U) (U := U.calling g mk a) (Vm.Alike.refl U.vm) hp.2.1, Kn.same (s := U) (U := U.calling g mk a) rfl hp.2.2⟩
def rmOf (q : MD) (mc ms : Nat) : Room := { frames := mFr q, cells := mc, slots := ms, locals := mLr q }
def wsOf (q : MD) : List Cond := Cond.code (mY q) (mB q) (mL q) (mR q) :: wsA
def Ctr (P : List MD) (l : Launch) (base : Nat) (D : Dt) (j : Nat) : Prop := ∀ q : MD, P[j]? = some q → ∀ (n : Nat) (h h' : Hp) (as : List TV) (r : Option TV), ex P n j (0, lvA (mL q) as, [], h) = some (r, h') → (lvA0 as).length ≤ mL q → base ≤ sz h → Met l (mY q) (wsOf q) (rmOf q (sz h' - sz h) (us h' - us h)) (Pcc base D as h) (Qcc base D r h') (sz h' - sz h) (us h' - us h) (fun a => base ≤ a)
theorem wsOf_good {q : MD} (hm : mOk q) : GoodIn wsA (wsOf q) := fun w hw => by
  rcases List.mem_cons.mp hw with e | h
  · rw [e]
    exact wsA_good _ hm.2.1
  · exact wsA_good _ h
theorem map_toList (r : Option TV) : (r.map tv).toList = (tvl r).map tv := by cases r <;> rfl
section SND
variable {p : Program} {l : Launch} {e : Env} {R : Room} {s : State} {m : MethodId} {args : Array Value} {below : List Frame} {meth : Method} {c : Code} {H : Heap} {locs : List Loc} {cells slots : Nat} {Q : State → Prop} {pc : Nat} {ls : Array Slot}
variable {base : Nat} {D : Dt} {h h1 : Hp} {P : List MD} {j : Nat} {q q' : MD}
theorem run_go {mc ms : Nat} {st0 rest : List Value} {as : Array Value} {r : Option TV} (hr : va_Run p l e R s m args below meth c H locs cells slots mc ms (F0 m pc ls st0) rest (Qcc base D r h1 as) (fun a => base ≤ a)) (hS : va_S (fun q => base ≤ q) s.heap H locs)
    (kk : ∀ (H1 : Heap) (locs1 : List Loc), Rep base D s H1 h1 → va_S (fun q => base ≤ q) s.heap H1 locs1 → W p l e R s m args below meth c H1 locs1 (cells + mc) (slots + ms) Q (F0 m (pc + 3) ls ((tvl r).map tv ++ rest))) : W p l e R s m args below meth c H locs cells slots Q (F0 m pc ls st0) := by
  intro T hT X
  obtain ⟨v, st₀, t, T', L, h0, X', hL, e1, e2, ⟨hv, hRep, hz, hk⟩, st⟩ := hr T hT X
  have hv' : v = r.map tv := Outcome.returned.inj hv
  subst hv'
  rw [h0] at hz hk
  rw [map_toList] at st
  have hal : t.vm.Alike s.vm := by
    have := X'.warmed.alike
    rw [e2] at this
    exact this.symm
  obtain ⟨t2, a1, b1⟩ := kk T'.heap (locs ++ L) (by rw [e1]; exact hRep.moved hal)
    ⟨Nat.le_trans hS.1 (by rw [e1]; exact hz), fun q h1 h2 => by rw [e1, hk q (Nat.lt_of_lt_of_le h1 hS.1) h2]; exact hS.2.1 q h1 h2, fun q hq => by
      rcases List.mem_append.mp hq with h | h
      · exact hS.2.2 q h
      · exact hL q h⟩ T' rfl X'
  exact ⟨t2, st t2 a1, b1⟩
theorem callB_ok (X : Cx D p s m args meth c (mB q) (mY q).cls (mIn q)) (hm : mOk q') (hfit : fitsR q q') (hfr : mFr q ≤ R.frames) (hlr : mLr q ≤ R.locals) {idx mc ms : Nat} (hl : (Cond.methodLink (mY q).cls idx (mY q')).before args s = true) : CallB R s args (mY q).cls idx (mY q') (mB q') (mL q') (mR q') (wsOf q') (rmOf q' mc ms) mc ms (mNp q') := by
  obtain ⟨hx, hb, hown, hts, hK, hI⟩ := X
  refine ⟨rfl, rfl, ?_, ?_, pay_in hts (wsOf_good hm), List.mem_cons_self, hts _ hm.2.1, hts _ hm.2.2.1, ⟨hm.2.2.2.1, hm.2.2.2.2.1⟩, fun sig h => ?_, hl⟩
  · show mFr q' + 1 ≤ R.frames
    exact Nat.le_trans hfit.1 hfr
  · show 8 + (mL q' + 11) + mLr q' ≤ R.locals
    exact Nat.le_trans hfit.2 hlr
  · have h2 := hm.2.2.2.2.2.1
    rw [h] at h2
    exact (Option.some.inj h2).symm
theorem callN_ok (X : Cx D p s m args meth c (mB q) (mY q).cls (mIn q)) (hm : mOk q') (hfit : fitsR q q') (hfr : mFr q ≤ R.frames) (hlr : mLr q ≤ R.locals) {idx mc ms : Nat} {host : String} (hl : (Cond.methodLinkNest (mY q).cls idx (mY q') host).before args s = true) : va_CN R s args (mY q).cls idx (mY q') host (mB q') (mL q') (mR q') (wsOf q') (rmOf q' mc ms) mc ms (mNp q') := by
  obtain ⟨hx, hb, hown, hts, hK, hI⟩ := X
  refine ⟨⟨rfl, rfl, ?_, ?_, pay_in hts (wsOf_good hm), List.mem_cons_self⟩, hts _ hm.2.1, hts _ hm.2.2.1, ⟨hm.2.2.2.1, hm.2.2.2.2.1⟩, fun sig h => ?_, hl⟩
  · show mFr q' + 1 ≤ R.frames
    exact Nat.le_trans hfit.1 hfr
  · show 8 + (mL q' + 11) + mLr q' ≤ R.locals
    exact Nat.le_trans hfit.2 hlr
  · have h2 := hm.2.2.2.2.2.1
    rw [h] at h2
    exact (Option.some.inj h2).symm
theorem lkM_cases (hwl : wlOk) (X : Cx D p s m args meth c (mB q) (mY q).cls (mIn q)) {idx : Nat} {rs : Rs} (h : lkM (mY q).cls idx (mY q') rs) : (Cond.methodLink (mY q).cls idx (mY q')).before args s = true ∨ (Cond.methodLinkNest (mY q).cls idx (mY q') "StackMachine").before args s = true := by
  obtain ⟨hx, hb, hown, hts, hK, hI⟩ := X
  unfold lkM at h
  split at h
  · exact Or.inr (va_Nw.use rfl (hK.2.2.1 _ (List.mem_of_getElem? h)).2)
  · exact Or.inl (hts _ (hwl _ _ _ h))
theorem take_drop_map (st : List TV) (n : Nat) : st.map tv = ((st.take n).reverse.map tv).reverse ++ (st.drop n).map tv := by
  rw [List.map_reverse, List.reverse_reverse, ← List.map_append, List.take_append_drop]
set_option maxHeartbeats 4000000 in
theorem opC_ok (hwl : wlOk) (hm : ∀ (j' : Nat) (q : MD), j' < j → P[j']? = some q → mOk q) (IH : ∀ j', j' < j → Ctr P l base D j') (X : Cx D p s m args meth c (mB q) (mY q).cls (mIn q)) (hml : c.maxLocals = ls.size) (hfr : mFr q ≤ R.frames) (hlr : mLr q ≤ R.locals) {i : Instr} {rs : Rs} (hi : iOk P j q i rs) {st : List TV} {y : Nat × List TV × List TV} (hz : opC i rs st h = some y) (hq' : P[y.1]? = some q') (hlen : (lvA0 y.2.1).length ≤ mL q') {n : Nat} {r : Option TV} (hex : ex P n y.1 (0, lvA (mL q') y.2.1, [], h) = some (r, h1)) (hd : decode (mB q) pc = .ok (i, ilen i)) (hR : Rep base D s H h) (hbz : base ≤ sz h) (hS : va_S (fun q => base ≤ q) s.heap H locs) (hc : cells + (sz h1 - sz h) ≤ R.cells) (hs : slots + (us h1 - us h) ≤ R.slots)
    (k : ∀ (H' : Heap) (locs' : List Loc), Rep base D s H' h1 → va_S (fun q => base ≤ q) s.heap H' locs' → W p l e R s m args below meth c H' locs' (cells + (sz h1 - sz h)) (slots + (us h1 - us h)) Q (F0 m (pc + 3) ls ((tvl r ++ y.2.2).map tv))) : W p l e R s m args below meth c H locs cells slots Q (F0 m pc ls (st.map tv)) := by
  have hX := X
  obtain ⟨hx, hb, hown, hts, hK, hI⟩ := hX
  have hKm : ∀ U : State, U.heap = H → s.WarmedH U.vm → ∀ as : List TV, Pcc base D as h (as.map tv).toArray U := fun U hU hW as => ⟨rfl, by rw [hU]; exact hR.moved hW.alike, hK.moved hW⟩
  have fin : ∀ {st0 : List Value}, va_Run p l e R s m args below meth c H locs cells slots (sz h1 - sz h) (us h1 - us h) (F0 m pc ls st0) (y.2.2.map tv) (Qcc base D r h1 (y.2.1.map tv).toArray) (fun a => base ≤ a) → W p l e R s m args below meth c H locs cells slots Q (F0 m pc ls st0) := fun hr => run_go hr hS (fun H1 locs1 a b => by
    have := k H1 locs1 a b
    rw [List.map_append] at this
    exact this)
  cases i with
  | invokevirtual idx =>
    obtain ⟨q2, t, a1, a2, a3, a4, a5, a6, a7, a8, a9⟩ := hi
    unfold opC at hz
    dsimp only at hz
    split at hz
    · rename_i b rr hdrop
      split at hz
      · rename_i hcond
        obtain ⟨c1, c2, c3⟩ := hcond
        cases hz
        cases hq'.symm.trans a1
        have hmq := hm _ _ a2 hq'
        have M := IH _ a2 q' hq' n h h1 _ r hex hlen hbz
        obtain ⟨-, -, t2, ht2, cell, g1, g2, g3, -⟩ := hR.2 b _ c2
        cases ht2.symm.trans a7
        have hpre : PreV s H (mY q').cls b (Pcc base D (tR (some b) :: (st.take rs.2.1).reverse) h) ((st.take rs.2.1).reverse.map tv) := ⟨Pcc_blind _ _ _ _, ⟨cell, g1, by rw [g3]; rfl, by rw [g2, ← a8]; exact (hK.1 _ _ a7).2.1⟩, fun U hU hW => hKm U hU hW _⟩
        have hst : st.map tv = ((st.take rs.2.1).reverse.map tv).reverse ++ Value.ref b :: rr.map tv := by
          rw [take_drop_map st rs.2.1, hdrop]
          rfl
        have hlen2 : ((st.take rs.2.1).reverse.map tv).length = mNp q' := by rw [List.length_map, List.length_reverse, c1, a3]
        have hw8 : 2 * (F0 m pc ls (st.map tv)).monitorRoom + ((rr.map tv).map fun v => v.category).sum ≤ 8 := lv_room (by rw [cats_eq]; exact c3)
        refine fin (st0 := st.map tv) ?_
        rcases lkM_cases hwl X a9 with hl | hl
        · exact va_runV ⟨hx, hb, rfl, hown, hts⟩ M ⟨callB_ok X hmq a4 hfr hlr hl, hts _ (hmq.2.2.2.2.2.2.2.2.1 a5), hts _ (hmq.2.2.2.2.2.2.2.2.2 a5 a6)⟩ hpre rfl hlen2 hml.symm hst hw8 hd ⟨hc, hs⟩
        · exact va_runVN ⟨hx, hb, rfl, hown, hts⟩ M ⟨callN_ok X hmq a4 hfr hlr hl, hts _ (hmq.2.2.2.2.2.2.2.2.1 a5), hts _ (hmq.2.2.2.2.2.2.2.2.2 a5 a6)⟩ hpre rfl hlen2 hml.symm hst hw8 hd ⟨hc, hs⟩
      · cases hz
    · cases hz
  | invokespecial idx =>
    unfold opC at hz
    dsimp only at hz
    split at hz
    · rename_i hk1
      unfold iOk at hi
      dsimp only at hi
      rw [hk1] at hi
      obtain ⟨q2, a1, a2, a3, a4, a5, a6, a7, a9⟩ := hi
      split at hz
      · rename_i b rr hdrop
        split at hz
        · rename_i hcond
          obtain ⟨c1, c3⟩ := hcond
          cases hz
          cases hq'.symm.trans a1
          have hmq := hm _ _ a2 hq'
          have M := IH _ a2 q' hq' n h h1 _ r hex hlen hbz
          have hpre : PreS s H (Pcc base D (tR (some b) :: (st.take rs.2.1).reverse) h) (.ref b :: (st.take rs.2.1).reverse.map tv) := ⟨Pcc_blind _ _ _ _, fun U hU hW => hKm U hU hW _⟩
          have hst : st.map tv = ((st.take rs.2.1).reverse.map tv).reverse ++ Value.ref b :: rr.map tv := by
            rw [take_drop_map st rs.2.1, hdrop]
            rfl
          have hlen2 : ((st.take rs.2.1).reverse.map tv).length = mNp q' := by rw [List.length_map, List.length_reverse, c1, a3]
          have hw8 : 2 * (F0 m pc ls (st.map tv)).monitorRoom + ((rr.map tv).map fun v => v.category).sum ≤ 8 := lv_room (by rw [cats_eq]; exact c3)
          refine fin (st0 := st.map tv) ?_
          rcases lkM_cases hwl X a9 with hl | hl
          · have hcb := callB_ok (mc := sz h1 - sz h) (ms := us h1 - us h) X hmq a4 hfr hlr hl
            rw [a7] at hcb
            exact va_runI ⟨hx, hb, rfl, hown, hts⟩ M ⟨hcb, hmq.2.2.2.2.2.2.1 a6, hts _ (hmq.2.2.2.2.2.2.2.2.1 a5)⟩ hpre rfl hlen2 hml.symm hst hw8 hd ⟨hc, hs⟩
          · have hcb := callN_ok (mc := sz h1 - sz h) (ms := us h1 - us h) X hmq a4 hfr hlr hl
            rw [a7] at hcb
            exact va_runIN ⟨hx, hb, rfl, hown, hts⟩ M ⟨hcb, hmq.2.2.2.2.2.2.1 a6, hts _ (hmq.2.2.2.2.2.2.2.2.1 a5)⟩ hpre rfl hlen2 hml.symm hst hw8 hd ⟨hc, hs⟩
        · cases hz
      · cases hz
    · cases hz
  | invokestatic idx =>
    unfold opC at hz
    dsimp only at hz
    split at hz
    · rename_i hk1
      unfold iOk at hi
      dsimp only at hi
      rw [hk1] at hi
      obtain ⟨q2, a1, a2, a3, a4, a5, a9⟩ := hi
      split at hz
      · rename_i hcond
        obtain ⟨c1, c3⟩ := hcond
        cases hz
        cases hq'.symm.trans a1
        have hmq := hm _ _ a2 hq'
        have M := IH _ a2 q' hq' n h h1 _ r hex hlen hbz
        have hpre : PreS s H (Pcc base D ((st.take rs.2.1).reverse) h) ((st.take rs.2.1).reverse.map tv) := ⟨Pcc_blind _ _ _ _, fun U hU hW => hKm U hU hW _⟩
        have hst : st.map tv = ((st.take rs.2.1).reverse.map tv).reverse ++ (st.drop rs.2.1).map tv := take_drop_map st rs.2.1
        have hlen2 : ((st.take rs.2.1).reverse.map tv).length = mNp q' := by rw [List.length_map, List.length_reverse, c1, a3]
        have hw8 : 2 * (F0 m pc ls (st.map tv)).monitorRoom + (((st.drop rs.2.1).map tv).map fun v => v.category).sum ≤ 8 := lv_room (by rw [cats_eq]; exact c3)
        refine fin (st0 := st.map tv) ?_
        rcases lkM_cases hwl X a9 with hl | hl
        · exact va_runS ⟨hx, hb, rfl, hown, hts⟩ M ⟨callB_ok X hmq a4 hfr hlr hl, hts _ (hmq.2.2.2.2.2.2.2.1 a5)⟩ hpre rfl hlen2 hml.symm hst hw8 hd ⟨hc, hs⟩
        · exact va_runSN ⟨hx, hb, rfl, hown, hts⟩ M ⟨callN_ok X hmq a4 hfr hlr hl, hts _ (hmq.2.2.2.2.2.2.2.1 a5), trivial⟩ hpre rfl hlen2 hml.symm hst hw8 hd ⟨hc, hs⟩
      · cases hz
    · cases hz
  | _ => exact nomatch (show (none : Option (Nat × List TV × List TV)) = some y from hz)
end SND
