/-! AN INTERPRETER OF THE BYTECODE, 8: a method's body, and all contracts -/
theorem lvA_len {n : Nat} {as : List TV} (h : (lvA0 as).length ≤ n) : (lvA n as).length = n := by
  unfold lvA
  rw [List.length_append, List.length_replicate]
  omega
theorem opL_len {i : Instr} {lv : Lc} {st : List TV} {z : Lc × List TV} (h : opL i lv st = some z) : z.1.length = lv.length := by
  cases i with
  | iload n => obtain ⟨x, hn, rfl⟩ := ldI_inv h; rfl
  | iload_n n => obtain ⟨x, hn, rfl⟩ := ldI_inv h; rfl
  | lload n => obtain ⟨x, hn, rfl⟩ := ldL_inv h; rfl
  | lload_n n => obtain ⟨x, hn, rfl⟩ := ldL_inv h; rfl
  | aload n => obtain ⟨x, hn, rfl⟩ := ldR_inv h; rfl
  | aload_n n => obtain ⟨x, hn, rfl⟩ := ldR_inv h; rfl
  | istore n => obtain ⟨x, r, rfl, hn, rfl⟩ := stI_inv h; exact lvSet_len _ _ _
  | istore_n n => obtain ⟨x, r, rfl, hn, rfl⟩ := stI_inv h; exact lvSet_len _ _ _
  | lstore n => obtain ⟨x, r, rfl, hn, rfl⟩ := stL_inv h; exact lvSet2_len _ _ _
  | lstore_n n => obtain ⟨x, r, rfl, hn, rfl⟩ := stL_inv h; exact lvSet2_len _ _ _
  | astore n => obtain ⟨x, r, rfl, hn, rfl⟩ := stR_inv h; exact lvSet_len _ _ _
  | astore_n n => obtain ⟨x, r, rfl, hn, rfl⟩ := stR_inv h; exact lvSet_len _ _ _
  | iinc n d => obtain ⟨x, hn, rfl⟩ := inc_inv h; exact lvSet_len _ _ _
  | _ => exact nomatch (show (none : Option (Lc × List TV)) = some z from h)
section SND
variable {p : Program} {l : Launch} {e : Env} {R : Room} {s : State} {m : MethodId} {args : Array Value} {below : List Frame} {meth : Method} {c : Code} {Q : State → Prop}
variable {base : Nat} {D : Dt} {P : List MD} {j : Nat} {q : MD}
theorem ilen_of {i : Instr} {len : Nat} (hl : len = ilen i ∨ isSw i) (h : ¬ isSw i) : len = ilen i := hl.resolve_right h
theorem sw_opS {i : Instr} (h : isSw i) (st : List TV) : opS i st = none := by
  rcases h with ⟨_, _, _, _, rfl⟩ | ⟨_, _, rfl⟩ <;> rfl
theorem sw_opL {i : Instr} (h : isSw i) (lv : Lc) (st : List TV) : opL i lv st = none := by
  rcases h with ⟨_, _, _, _, rfl⟩ | ⟨_, _, rfl⟩ <;> rfl
theorem sw_opH {i : Instr} (h : isSw i) (rs : Rs) (st : List TV) (hp : Hp) : opH i rs st hp = none := by
  rcases h with ⟨_, _, _, _, rfl⟩ | ⟨_, _, rfl⟩ <;> rfl
theorem sw_opM {i : Instr} (h : isSw i) (rs : Rs) (st : List TV) : opM i rs st = none := by
  rcases h with ⟨_, _, _, _, rfl⟩ | ⟨_, _, rfl⟩ <;> rfl
theorem sw_opC {i : Instr} (h : isSw i) (rs : Rs) (st : List TV) (hp : Hp) : opC i rs st hp = none := by
  rcases h with ⟨_, _, _, _, rfl⟩ | ⟨_, _, rfl⟩ <;> rfl
theorem opC_len {i : Instr} {rs : Rs} {st : List TV} {hp : Hp} {y : Nat × List TV × List TV} (h : opC i rs st hp = some y) : ilen i = 3 := by
  cases i with
  | invokevirtual idx => rfl
  | invokespecial idx => rfl
  | invokestatic idx => rfl
  | _ => exact nomatch (show (none : Option (Nat × List TV × List TV)) = some y from h)
theorem opR_len {i : Instr} {ret : Option FieldType} {st : List TV} {y : Option TV} (h : opR ret i st = some y) : ilen i = 1 ∧ ¬ isSw i := by
  have hs : ∀ i : Instr, isSw i → opR ret i st = none := fun i h => by
    rcases h with ⟨_, _, _, _, rfl⟩ | ⟨_, _, rfl⟩ <;> rfl
  refine ⟨?_, fun hw => by rw [hs i hw] at h; cases h⟩
  cases i with
  | ireturn => rfl
  | lreturn => rfl
  | areturn => rfl
  | return_ => rfl
  | _ => exact nomatch (show (none : Option (Option TV)) = some y from h)
set_option maxHeartbeats 4000000 in
theorem body (hC : clsOk) (hA : akOk) (hwl : wlOk) (hlib : libOk) (hm : ∀ (j' : Nat) (q : MD), j' < j → P[j']? = some q → mOk q) (hq : P[j]? = some q) (hB : bOk P j q) (IH : ∀ j', j' < j → Ctr P l base D j')
    (X : Cx D p s m args meth c (mB q) (mY q).cls (mIn q)) (hml : c.maxLocals = mL q) (hfr : mFr q ≤ R.frames) (hlr : mLr q ≤ R.locals) (r : Option TV) (h' : Hp) (cf sf : Nat) (hcf : cf ≤ R.cells) (hsf : sf ≤ R.slots)
    (hret : ∀ (pc : Nat) (i : Instr) (ls : Array Slot) (H : Heap) (locs : List Loc) (st : List TV), opR (mR q) i st = some r → decode (mB q) pc = .ok (i, 1) → Rep base D s H h' → va_S (fun q => base ≤ q) s.heap H locs → W p l e R s m args below meth c H locs cf sf Q (F0 m pc ls (st.map tv))) :
    ∀ (n pc : Nat) (lv : Lc) (st : List TV) (h : Hp), ex P n j (pc, lv, st, h) = some (r, h') → base ≤ sz h → lv.length = mL q → ∀ (ls : Array Slot) (H : Heap) (locs : List Loc) (cells slots : Nat), LR ls lv → Rep base D s H h → va_S (fun q => base ≤ q) s.heap H locs → cells + (sz h' - sz h) = cf → slots + (us h' - us h) = sf →
      W p l e R s m args below meth c H locs cells slots Q (F0 m pc ls (st.map tv)) := by
  intro n
  induction n with
  | zero =>
    intro pc lv st h hex
    cases hex
  | succ n ih =>
    intro pc lv st h hex hbz hlv ls H locs cells slots hl hR hS hc hs
    have hmls : c.maxLocals = ls.size := by rw [hl.1, hlv, hml]
    unfold ex at hex
    rw [hq] at hex
    dsimp only at hex
    split at hex
    · cases hex
    · rename_i x hx
      obtain ⟨hd, hlen, hi⟩ := hB _ _ hx
      obtain ⟨i, len, rs⟩ := x
      dsimp only at hd hlen hi hex
      split at hex
      · rename_i s' hs'
        have hmo := ex_mono P _ _ _ _ _ hex
        have hmn := nxt_mono hs'
        unfold nxt at hs'
        dsimp only at hs' hmn hd
        split at hs'
        · rename_i st' hst
          cases hs'
          have hns : ¬ isSw i := fun hw => by rw [sw_opS hw] at hst; cases hst
          have e1 := ilen_of hlen hns
          subst e1
          exact opS_ok X.1 X.2.1 hst hd (ih _ _ _ _ hex hbz hlv ls H locs cells slots hl hR hS hc hs)
        · split at hs'
          · rename_i z hz
            cases hs'
            have hns : ¬ isSw i := fun hw => by rw [sw_opL hw] at hz; cases hz
            have e1 := ilen_of hlen hns
            subst e1
            exact opL_ok X.1 X.2.1 hl hz hd (fun ls' hl' => ih _ _ _ _ hex hbz ((opL_len hz).trans hlv) ls' H locs cells slots hl' hR hS hc hs)
          · split at hs'
            · rename_i z hz
              cases hs'
              exact opB_ok X.1 X.2.1 hlen hz hd (ih _ _ _ _ hex hbz hlv ls H locs cells slots hl hR hS hc hs)
            · split at hs'
              · rename_i z hz
                cases hs'
                have hns : ¬ isSw i := fun hw => by rw [sw_opH hw] at hz; cases hz
                have e1 := ilen_of hlen hns
                subst e1
                dsimp only at hmo hmn
                exact opH_ok hC hA hwl hlib X hi hz hd hR hbz hS (by omega) (by omega) (fun H' locs' hR' hS' => ih _ _ _ _ hex (by omega) hlv ls H' locs' _ _ hl hR' hS' (by omega) (by omega))
              · split at hs'
                · rename_i st' hst
                  cases hs'
                  have hns : ¬ isSw i := fun hw => by rw [sw_opM hw] at hst; cases hst
                  have e1 := ilen_of hlen hns
                  subst e1
                  exact opM_ok hwl hlib X hmls hfr hlr (by omega) (by omega) hi hst hd (ih _ _ _ _ hex hbz hlv ls H locs cells slots hl hR hS hc hs)
                · cases hs'
      · split at hex
        · rename_i y hy
          split at hex
          · cases hex
          · rename_i q' hq'
            split at hex
            · rename_i hfit
              split at hex
              · cases hex
              · rename_i z hz
                obtain ⟨zr, zh⟩ := z
                dsimp only at hy hz hex
                have hmo := ex_mono P _ _ _ _ _ hex
                have hmz := ex_mono P _ _ _ _ _ hz
                dsimp only at hmo hmz
                have hns : ¬ isSw i := fun hw => by rw [sw_opC hw] at hy; cases hy
                have e1 := ilen_of hlen hns
                subst e1
                have e3 := opC_len hy
                rw [e3] at hex
                exact opC_ok hwl hm IH X hmls hfr hlr hi hy hq' hfit hz hd hR hbz hS (by omega) (by omega) (fun H' locs' hR' hS' => ih _ _ _ _ hex (by omega) hlv ls H' locs' _ _ hl hR' hS' (by omega) (by omega))
            · cases hex
        · split at hex
          · rename_i r' hr
            cases hex
            obtain ⟨e1, hns⟩ := opR_len hr
            have e2 := ilen_of hlen hns
            rw [e1] at e2
            subst e2
            have e3 : cells = cf := by omega
            have e4 : slots = sf := by omega
            rw [e3, e4]
            exact hret pc i ls H locs st hr hd hR hS
          · cases hex
set_option maxHeartbeats 4000000 in
/-- the contracts of all methods -/
theorem ctr_all (N : Nat) (hC : clsOk) (hA : akOk) (hwl : wlOk) (hlib : libOk) (hm : ∀ (j : Nat) (q : MD), j < N → P[j]? = some q → mOk q) (hB : ∀ (j : Nat) (q : MD), j < N → P[j]? = some q → bOk P j q) (l : Launch) (base : Nat) (D : Dt) : ∀ j : Nat, j < N → Ctr P l base D j := by
  intro j
  induction j using Nat.strongRecOn with
  | ind j IH =>
    intro hjN q hq n h h' as r hex hlen hbz
    have hmq := hm _ _ hjN hq
    refine Met.ofW (cc := mB q) (maxL := mL q) (ret := mR q) hmq.1 rfl ?_
    intro p e s m args below meth c s₁ B hml hv
    obtain ⟨rfl, hRep, hKn⟩ := hv
    have hts := atoms_spec (ws := wsOf q) B.pre
    have hr := B.returns
    have hlocks := B.notSynchronized
    have hnm := (name_of_methodNamed B.named B.method).1
    have X : Cx D p s m (as.map tv).toArray meth c (mB q) (mY q).cls (mIn q) := ⟨B.exec, B.bytes, findClass_of_methodNamed B.named, fun w hw => hts w (List.mem_cons_of_mem _ hw), hKn, fun hI => hnm.trans (hmq.2.2.2.2.2.2.1 hI)⟩
    rw [lg_entry_eq]
    have hl := LR.entry as hlen
    refine body (R := (headSpec (wsOf q) (rmOf q (sz h' - sz h) (us h' - us h))).room) hC hA hwl hlib (fun j' q' hj' hq' => hm j' q' (Nat.lt_trans hj' hjN) hq') hq (hB _ _ hjN hq) (fun j' hj' => IH j' hj' (Nat.lt_trans hj' hjN)) X hml (Nat.le_refl _) (Nat.le_refl _) r h' (sz h' - sz h) (us h' - us h) (Nat.le_refl _) (Nat.le_refl _) ?_ n 0 _ [] h hex hbz (lvA_len hlen) _ _ [] 0 0 hl hRep va_S.rf (Nat.zero_add _) (Nat.zero_add _)
    intro pc i ls H locs st hopr hd hR hS
    have hQ : ∀ t : State, t.heap = H → s.WarmedH t.vm → Qcc base D r h' (as.map tv).toArray s (.returned (r.map tv)) t := fun t ht hW => ⟨rfl, by rw [ht]; exact hR.moved hW.alike, hS.F ht⟩
    cases i with
    | ireturn =>
      unfold opR at hopr
      dsimp only at hopr
      split at hopr
      · split at hopr
        · rename_i hty
          cases hopr
          exact W.iret X.1 X.2.1 (hr.trans hty) hQ hS.2.2 hd
        · rename_i hty
          split at hopr
          · rename_i hv01
            cases hopr
            refine W.zret X.1 X.2.1 (hr.trans hty) ?_ hQ hS.2.2 hd
            rcases hv01 with rfl | rfl <;> rfl
          · cases hopr
        · cases hopr
      · cases hopr
    | lreturn =>
      unfold opR at hopr
      dsimp only at hopr
      split at hopr
      · split at hopr
        · rename_i hty
          cases hopr
          exact W.lret X.1 X.2.1 (hr.trans hty) hQ hS.2.2 hd
        · cases hopr
      · cases hopr
    | areturn =>
      unfold opR at hopr
      dsimp only at hopr
      split at hopr
      · rename_i v
        have hvv : va_rf v = .null ∨ ∃ a, va_rf v = .ref a := by
          cases v with
          | none => exact Or.inl rfl
          | some a => exact Or.inr ⟨a, rfl⟩
        split at hopr
        · rename_i nm hty
          cases hopr
          exact W.aret (v := va_rf v) X.1 X.2.1 (hr.trans hty) (Or.inl ⟨nm, rfl⟩) hvv hQ hS.2.2 hd
        · rename_i nm hty
          cases hopr
          exact W.aret (v := va_rf v) X.1 X.2.1 (hr.trans hty) (Or.inr ⟨nm, rfl⟩) hvv hQ hS.2.2 hd
        · cases hopr
      · cases hopr
    | return_ =>
      unfold opR at hopr
      dsimp only at hopr
      split at hopr
      · split at hopr
        · rename_i hty
          cases hopr
          exact W.vret X.1 X.2.1 (hr.trans hty) hQ hS.2.2 hd
        · cases hopr
      · cases hopr
    | _ => exact nomatch (show (none : Option (Option TV)) = some r from hopr)
end SND
