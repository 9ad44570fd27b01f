/-! THE INTERPRETER AS A JUDGEMENT: T j pc locals stack heap Q: from there method j ends, with Q of its answer and the heap -/
theorem ex_fuel (P : List MD) : ∀ (n j : Nat) (s : St) (z : Option TV × Hp), ex P n j s = some z → ex P (n + 1) j s = some z := by
  intro n
  induction n with
  | zero =>
    intro j s z h
    cases h
  | succ n ih =>
    intro j s z h
    unfold ex at h ⊢
    split at h
    · cases h
    · split at h
      · cases h
      · split at h
        · exact ih _ _ _ h
        · split at h
          · split at h
            · cases h
            · rename_i q' hq'
              try rw [hq']
              try dsimp only
              split at h
              · rename_i hfit
                try rw [if_pos hfit]
                split at h
                · cases h
                · rename_i z1 hz1
                  rw [ih _ _ _ hz1]
                  exact ih _ _ _ h
              · cases h
          · exact h
theorem ex_fuel_le (P : List MD) {n m : Nat} (hnm : n ≤ m) {j : Nat} {s : St} {z : Option TV × Hp} (h : ex P n j s = some z) : ex P m j s = some z := by
  induction hnm with
  | refl => exact h
  | step _ ih => exact ex_fuel P _ _ _ _ ih
def T (j pc : Nat) (lv : Lc) (st : List TV) (h : Hp) (Q : Option TV → Hp → Prop) : Prop := ∃ (n : Nat) (r : Option TV) (h' : Hp), ex mT n j (pc, lv, st, h) = some (r, h') ∧ Q r h'
theorem T.mono {j pc : Nat} {lv : Lc} {st : List TV} {h : Hp} {Q Q' : Option TV → Hp → Prop} (k : T j pc lv st h Q) (hQ : ∀ r h', Q r h' → Q' r h') : T j pc lv st h Q' := by
  obtain ⟨n, r, h', h1, h2⟩ := k
  exact ⟨n, r, h', h1, hQ _ _ h2⟩
/-- some instructions in a row that neither call nor return -/
def run (q : MD) : Nat → St → Option St
  | 0, s => some s
  | n + 1, s => match (mCo q).lookup s.1 with
    | none => none
    | some x => match nxt x.1 x.2.1 x.2.2 s with
      | some s' => run q n s'
      | none => none
section TR
variable {j : Nat} {q : MD} {pc : Nat} {lv : Lc} {st : List TV} {h : Hp} {Q : Option TV → Hp → Prop}
theorem T_nx {i : Instr} {len : Nat} {rs : Rs} {pc' : Nat} {lv' : Lc} {st' : List TV} {h' : Hp} (hq : mT[j]? = some q) (hf : (mCo q).lookup pc = some (i, len, rs)) (hn : nxt i len rs (pc, lv, st, h) = some (pc', lv', st', h')) (k : T j pc' lv' st' h' Q) : T j pc lv st h Q := by
  obtain ⟨n, r, h2, h1, hQ⟩ := k
  refine ⟨n + 1, r, h2, ?_, hQ⟩
  unfold ex
  rw [hq]
  dsimp only
  rw [hf]
  dsimp only
  rw [hn]
  exact h1
theorem T_run {n : Nat} {pc' : Nat} {lv' : Lc} {st' : List TV} {h' : Hp} (hq : mT[j]? = some q) (hr : run q n (pc, lv, st, h) = some (pc', lv', st', h')) (k : T j pc' lv' st' h' Q) : T j pc lv st h Q := by
  have key : ∀ (n : Nat) (s : St), run q n s = some (pc', lv', st', h') → T j s.1 s.2.1 s.2.2.1 s.2.2.2 Q := by
    intro n
    induction n with
    | zero =>
      intro s hs
      cases hs
      exact k
    | succ n ih =>
      intro s hs
      unfold run at hs
      split at hs
      · cases hs
      · rename_i x hx
        split at hs
        · rename_i s' hs'
          exact T_nx hq hx hs' (ih _ hs)
        · cases hs
  exact key n _ hr
theorem T_ret {i : Instr} {rs : Rs} {r : Option TV} (hq : mT[j]? = some q) (hf : (mCo q).lookup pc = some (i, 1, rs)) (hn : nxt i 1 rs (pc, lv, st, h) = none) (hc : opC i rs st h = none) (hr : opR (mR q) i st = some r) (k : Q r h) : T j pc lv st h Q := by
  refine ⟨1, r, h, ?_, k⟩
  unfold ex
  rw [hq]
  dsimp only
  rw [hf]
  dsimp only
  rw [hn]
  dsimp only
  rw [hc]
  dsimp only
  rw [hr]
theorem T_call {i : Instr} {rs : Rs} {j' : Nat} {q' : MD} {as rest : List TV} {lv' : Lc} (hq : mT[j]? = some q) (hf : (mCo q).lookup pc = some (i, 3, rs)) (hn : nxt i 3 rs (pc, lv, st, h) = none) (hc : opC i rs st h = some (j', as, rest)) (hq' : mT[j']? = some q') (hl : (lvA0 as).length ≤ mL q') (hlv : lvA (mL q') as = lv') (k : T j' 0 lv' [] h (fun r h1 => T j (pc + 3) lv (tvl r ++ rest) h1 Q)) : T j pc lv st h Q := by
  subst hlv
  obtain ⟨n, r, h1, e1, n2, r2, h2, e2, hQ⟩ := k
  refine ⟨max n n2 + 1, r2, h2, ?_, hQ⟩
  unfold ex
  rw [hq]
  dsimp only
  rw [hf]
  dsimp only
  rw [hn]
  dsimp only
  rw [hc]
  dsimp only
  rw [hq']
  dsimp only
  rw [if_pos hl, ex_fuel_le mT (Nat.le_max_left n n2) e1]
  exact ex_fuel_le mT (Nat.le_max_right n n2) e2
/-! locals that are known and not needed -/
def leL : Lc → Lc → Prop
  | [], [] => True
  | a :: as, b :: bs => (a = none ∨ a = b) ∧ leL as bs
  | _, _ => False
theorem leL.len {a b : Lc} (h : leL a b) : a.length = b.length := by
  induction a generalizing b with
  | nil =>
    cases b with
    | nil => rfl
    | cons y ys => cases h
  | cons x xs ih =>
    cases b with
    | nil => cases h
    | cons y ys => simp [ih h.2]
theorem leL.get {a b : Lc} (h : leL a b) {i : Nat} {x : TV} (hi : a[i]? = some (some x)) : b[i]? = some (some x) := by
  induction a generalizing b i with
  | nil => cases hi
  | cons y ys ih =>
    cases b with
    | nil => cases h
    | cons z zs =>
      cases i with
      | zero =>
        have e : y = some x := Option.some.inj hi
        rcases h.1 with h1 | h1
        · rw [e] at h1; cases h1
        · show some z = _
          rw [← h1, e]
      | succ i => exact ih h.2 hi
theorem leL_iff {a b : Lc} (hl : a.length = b.length) (hg : ∀ (i : Nat) (x : TV), a[i]? = some (some x) → b[i]? = some (some x)) : leL a b := by
  induction a generalizing b with
  | nil =>
    cases b with
    | nil => trivial
    | cons y ys => cases hl
  | cons x xs ih =>
    cases b with
    | nil => cases hl
    | cons y ys =>
      refine ⟨?_, ih (by simpa using hl) (fun i z hz => hg (i + 1) z hz)⟩
      cases x with
      | none => exact Or.inl rfl
      | some x =>
        have := hg 0 x rfl
        exact Or.inr (Option.some.inj this).symm
theorem clr_le {a b : Lc} (h : leL a b) (i : Nat) : leL (clr a i) (clr b i) := by
  refine leL_iff (by rw [clr_len, clr_len, h.len]) (fun k y hk => ?_)
  obtain ⟨h1, h2⟩ := clr_get hk
  have h3 := h.get h1
  cases i with
  | zero => exact h3
  | succ m =>
    unfold clr
    dsimp only
    split
    · rename_i w hw
      rw [List.getElem?_set]
      split
      · rename_i e
        subst e
        rw [hw] at h3
        cases h3
        exact absurd ⟨rfl, rfl⟩ h2
      · exact h3
    · exact h3
theorem set_le {a b : Lc} (h : leL a b) (i : Nat) (x : Option TV) : leL (a.set i x) (b.set i x) := by
  refine leL_iff (by rw [List.length_set, List.length_set, h.len]) (fun k y hk => ?_)
  rw [List.getElem?_set] at hk ⊢
  split at hk
  · rename_i e
    rw [if_pos e]
    rw [h.len] at hk
    exact hk
  · rename_i e
    rw [if_neg e]
    exact h.get hk
theorem opL_le {i : Instr} {a b : Lc} {st : List TV} {z : Lc × List TV} (h : leL a b) (hz : opL i a st = some z) : ∃ b', opL i b st = some (b', z.2) ∧ leL z.1 b' := by
  have hI : ∀ n, ldI a n st = some z → ∃ b', ldI b n st = some (b', z.2) ∧ leL z.1 b' := fun n hz => by
    obtain ⟨x, hn, rfl⟩ := ldI_inv hz
    refine ⟨b, ?_, h⟩
    unfold ldI
    rw [h.get hn]
  have hL : ∀ n, ldL a n st = some z → ∃ b', ldL b n st = some (b', z.2) ∧ leL z.1 b' := fun n hz => by
    obtain ⟨x, hn, rfl⟩ := ldL_inv hz
    refine ⟨b, ?_, h⟩
    unfold ldL
    rw [h.get hn]
  have hR : ∀ n, ldR a n st = some z → ∃ b', ldR b n st = some (b', z.2) ∧ leL z.1 b' := fun n hz => by
    obtain ⟨x, hn, rfl⟩ := ldR_inv hz
    refine ⟨b, ?_, h⟩
    unfold ldR
    rw [h.get hn]
  have sI : ∀ n, stI a n st = some z → ∃ b', stI b n st = some (b', z.2) ∧ leL z.1 b' := fun n hz => by
    obtain ⟨x, r, rfl, hn, rfl⟩ := stI_inv hz
    refine ⟨lvSet b n (tI x), ?_, set_le (clr_le h n) _ _⟩
    unfold stI
    dsimp only
    rw [if_pos (by rw [← h.len]; exact hn)]
  have sL : ∀ n, stL a n st = some z → ∃ b', stL b n st = some (b', z.2) ∧ leL z.1 b' := fun n hz => by
    obtain ⟨x, r, rfl, hn, rfl⟩ := stL_inv hz
    refine ⟨lvSet2 b n (tL x), ?_, set_le (set_le (clr_le h n) _ _) _ _⟩
    unfold stL
    dsimp only
    rw [if_pos (by rw [← h.len]; exact hn)]
  have sR : ∀ n, stR a n st = some z → ∃ b', stR b n st = some (b', z.2) ∧ leL z.1 b' := fun n hz => by
    obtain ⟨x, r, rfl, hn, rfl⟩ := stR_inv hz
    refine ⟨lvSet b n (tR x), ?_, set_le (clr_le h n) _ _⟩
    unfold stR
    dsimp only
    rw [if_pos (by rw [← h.len]; exact hn)]
  cases i with
  | iload n => exact hI _ hz
  | iload_n n => exact hI _ hz
  | lload n => exact hL _ hz
  | lload_n n => exact hL _ hz
  | aload n => exact hR _ hz
  | aload_n n => exact hR _ hz
  | istore n => exact sI _ hz
  | istore_n n => exact sI _ hz
  | lstore n => exact sL _ hz
  | lstore_n n => exact sL _ hz
  | astore n => exact sR _ hz
  | astore_n n => exact sR _ hz
  | iinc n d =>
    obtain ⟨x, hn, rfl⟩ := inc_inv hz
    refine ⟨lvSet b n (tI (x + Int32.ofInt d)), ?_, set_le (clr_le h n) _ _⟩
    show inc b n d st = _
    unfold inc
    rw [h.get hn]
  | _ => exact nomatch (show (none : Option (Lc × List TV)) = some z from hz)
theorem opL_none {i : Instr} {a b : Lc} {st : List TV} (hz : opL i a st = none) : (∃ z, opL i b st = some z) → opS i st = none ∧ opB i pc st = none ∧ (∀ rs hp, opH i rs st hp = none) ∧ (∀ rs, opM i rs st = none) ∧ (∀ rs hp, opC i rs st hp = none) ∧ ∀ ret, opR ret i st = none := by
  intro ⟨z, hz2⟩
  cases i with
  | iload n => exact ⟨rfl, rfl, fun _ _ => rfl, fun _ => rfl, fun _ _ => rfl, fun _ => rfl⟩
  | iload_n n => exact ⟨rfl, rfl, fun _ _ => rfl, fun _ => rfl, fun _ _ => rfl, fun _ => rfl⟩
  | lload n => exact ⟨rfl, rfl, fun _ _ => rfl, fun _ => rfl, fun _ _ => rfl, fun _ => rfl⟩
  | lload_n n => exact ⟨rfl, rfl, fun _ _ => rfl, fun _ => rfl, fun _ _ => rfl, fun _ => rfl⟩
  | aload n => exact ⟨rfl, rfl, fun _ _ => rfl, fun _ => rfl, fun _ _ => rfl, fun _ => rfl⟩
  | aload_n n => exact ⟨rfl, rfl, fun _ _ => rfl, fun _ => rfl, fun _ _ => rfl, fun _ => rfl⟩
  | istore n => exact ⟨rfl, rfl, fun _ _ => rfl, fun _ => rfl, fun _ _ => rfl, fun _ => rfl⟩
  | istore_n n => exact ⟨rfl, rfl, fun _ _ => rfl, fun _ => rfl, fun _ _ => rfl, fun _ => rfl⟩
  | lstore n => exact ⟨rfl, rfl, fun _ _ => rfl, fun _ => rfl, fun _ _ => rfl, fun _ => rfl⟩
  | lstore_n n => exact ⟨rfl, rfl, fun _ _ => rfl, fun _ => rfl, fun _ _ => rfl, fun _ => rfl⟩
  | astore n => exact ⟨rfl, rfl, fun _ _ => rfl, fun _ => rfl, fun _ _ => rfl, fun _ => rfl⟩
  | astore_n n => exact ⟨rfl, rfl, fun _ _ => rfl, fun _ => rfl, fun _ _ => rfl, fun _ => rfl⟩
  | iinc n d => exact ⟨rfl, rfl, fun _ _ => rfl, fun _ => rfl, fun _ _ => rfl, fun _ => rfl⟩
  | _ => exact nomatch (show (none : Option (Lc × List TV)) = some z from hz2)
theorem nxt_le {i : Instr} {len : Nat} {rs : Rs} {pc : Nat} {a b : Lc} {st : List TV} {h : Hp} {s' : St} (hl : leL a b) (hn : nxt i len rs (pc, a, st, h) = some s') : ∃ b', nxt i len rs (pc, b, st, h) = some (s'.1, b', s'.2.2) ∧ leL s'.2.1 b' := by
  unfold nxt at hn ⊢
  dsimp only at hn ⊢
  split at hn
  · rename_i st' e
    cases hn
    exact ⟨b, by first | rfl | rw [e], hl⟩
  · rename_i e
    try rw [e]
    try dsimp only
    split at hn
    · rename_i z hz
      cases hn
      obtain ⟨b', h1, h2⟩ := opL_le hl hz
      exact ⟨b', by first | rfl | rw [h1], h2⟩
    · rename_i e2
      have e3 : opL i b st = none := by
        cases hb : opL i b st with
        | none => rfl
        | some z =>
          obtain ⟨-, g1, g2, g3, -⟩ := opL_none (pc := pc) (b := b) e2 ⟨z, hb⟩
          rw [g1] at hn
          dsimp only at hn
          rw [g2] at hn
          dsimp only at hn
          rw [g3] at hn
          cases hn
      try rw [e3]
      try dsimp only
      split at hn
      · rename_i z hz
        cases hn
        exact ⟨b, by first | rfl | rw [hz], hl⟩
      · rename_i e4
        try rw [e4]
        try dsimp only
        split at hn
        · rename_i z hz
          cases hn
          exact ⟨b, by first | rfl | rw [hz], hl⟩
        · rename_i e5
          try rw [e5]
          try dsimp only
          split at hn
          · rename_i z hz
            cases hn
            exact ⟨b, by first | rfl | rw [hz], hl⟩
          · cases hn
theorem nxt_le_none {i : Instr} {len : Nat} {rs : Rs} {pc : Nat} {a b : Lc} {st : List TV} {h : Hp} (hl : leL a b) (hn : nxt i len rs (pc, a, st, h) = none) : nxt i len rs (pc, b, st, h) = none ∨ (∀ rs hp, opC i rs st hp = none) ∧ ∀ ret, opR ret i st = none := by
  unfold nxt at hn
  dsimp only at hn
  split at hn
  · cases hn
  · rename_i e
    split at hn
    · cases hn
    · rename_i e2
      cases hb : opL i b st with
      | some z =>
        obtain ⟨-, -, -, -, g4, g5⟩ := opL_none (pc := pc) (b := b) e2 ⟨z, hb⟩
        exact Or.inr ⟨g4, g5⟩
      | none =>
        left
        unfold nxt
        try dsimp only
        try rw [e]
        try dsimp only
        rw [hb]
        try dsimp only
        split at hn
        · cases hn
        · rename_i e4
          try rw [e4]
          try dsimp only
          split at hn
          · cases hn
          · rename_i e5
            try rw [e5]
            try dsimp only
            split at hn
            · cases hn
            · rename_i e6
              first | rfl | rw [e6]
theorem ex_le (P : List MD) : ∀ (n j pc : Nat) (a b : Lc) (st : List TV) (h : Hp) (z : Option TV × Hp), leL a b → ex P n j (pc, a, st, h) = some z → ex P n j (pc, b, st, h) = some z := by
  intro n
  induction n with
  | zero =>
    intro j pc a b st h z _ hz
    cases hz
  | succ n ih =>
    intro j pc a b st h z hl hz
    unfold ex at hz ⊢
    split at hz
    · cases hz
    · dsimp only at hz ⊢
      split at hz
      · cases hz
      · rename_i x hx
        try rw [hx]
        try dsimp only
        split at hz
        · rename_i s' hs'
          obtain ⟨b', h1, h2⟩ := nxt_le hl hs'
          rw [h1]
          exact ih _ _ _ _ _ _ _ h2 hz
        · rename_i hnn
          rcases nxt_le_none hl hnn with h1 | ⟨g1, g2⟩
          · rw [h1]
            try dsimp only
            split at hz
            · rename_i y hy
              try rw [hy]
              try dsimp only
              split at hz
              · cases hz
              · rename_i q' hq'
                try rw [hq']
                try dsimp only
                split at hz
                · rename_i hfit
                  try rw [if_pos hfit]
                  split at hz
                  · cases hz
                  · rename_i z1 hz1
                    try rw [hz1]
                    exact ih _ _ _ _ _ _ _ hl hz
                · cases hz
            · rename_i hy
              try rw [hy]
              exact hz
          · rw [g1] at hz
            dsimp only at hz
            rw [g2] at hz
            cases hz
theorem T_weak {lv' : Lc} (hl : leL lv' lv) (k : T j pc lv' st h Q) : T j pc lv st h Q := by
  obtain ⟨n, r, h', h1, h2⟩ := k
  exact ⟨n, r, h', ex_le mT _ _ _ _ _ _ _ _ hl h1, h2⟩
end TR
