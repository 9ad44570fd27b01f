/-! rows of T, an instruction each -/
/-- a reference that isn't null -/
def dr (r : Option Nat) (k : Nat → Prop) : Prop := ∃ a, r = some a ∧ k a
theorem dr_some (a : Nat) (k : Nat → Prop) : dr (some a) k = k a := by
  unfold dr
  exact propext ⟨fun ⟨b, e, h⟩ => by cases e; exact h, fun h => ⟨a, rfl, h⟩⟩
theorem dr_of {r : Option Nat} {a : Nat} {k : Nat → Prop} (e : r = some a) (h : k a) : dr r k := ⟨a, e, h⟩
/-- a cell of a class -/
def ob (h : Hp) (a ci : Nat) (P : Prop) : Prop := tg h a = some (.inl ci) ∧ P
theorem ob_eq {h : Hp} {a ci : Nat} (e : tg h a = some (.inl ci)) (P : Prop) : ob h a ci P = P := propext ⟨fun x => x.2, fun x => ⟨e, x⟩⟩
theorem ob_of {h : Hp} {a ci : Nat} {P : Prop} (e : tg h a = some (.inl ci)) (p : P) : ob h a ci P := ⟨e, p⟩
/-- an array of a kind, an index within it -/
def ix (h : Hp) (ok : Nat → Bool) (a : Nat) (j : Int32) (P : Prop) : Prop := ∃ t n, tg h a = some (.inr (t, n)) ∧ ok t = true ∧ ¬ (j < 0 ∨ n ≤ j.toNatClampNeg) ∧ P
theorem ix_of {h : Hp} {ok : Nat → Bool} {a t n : Nat} {j : Int32} {P : Prop} (e : tg h a = some (.inr (t, n))) (hok : ok t = true) (hj : ¬ (j < 0 ∨ n ≤ j.toNatClampNeg)) (p : P) : ix h ok a j P := ⟨t, n, e, hok, hj, p⟩
theorem ix_eq {h : Hp} {ok : Nat → Bool} {a t n : Nat} {j : Int32} (e : tg h a = some (.inr (t, n))) (hok : ok t = true) (hj : ¬ (j < 0 ∨ n ≤ j.toNatClampNeg)) (P : Prop) : ix h ok a j P = P := propext ⟨fun ⟨_, _, _, _, _, p⟩ => p, fun p => ⟨t, n, e, hok, hj, p⟩⟩
abbrev kI : Nat → Bool := fun t => t == 0 || t == 9
abbrev kJ : Nat → Bool := fun t => t == 1
abbrev kB : Nat → Bool := fun t => t == 2 || t == 3
abbrev kA : Nat → Bool := fun t => decide (10 ≤ t)
abbrev kIs : Nat → Bool := fun t => t == 0
abbrev kBy : Nat → Bool := fun t => t == 2
abbrev kZ : Nat → Bool := fun t => t == 3
/-- an array's length -/
def al_ (h : Hp) (a : Nat) (k : Nat → Prop) : Prop := ∃ t n, tg h a = some (.inr (t, n)) ∧ k n
theorem al_of {h : Hp} {a t n : Nat} {k : Nat → Prop} (e : tg h a = some (.inr (t, n))) (p : k n) : al_ h a k := ⟨t, n, e, p⟩
theorem al_eq {h : Hp} {a t n : Nat} (e : tg h a = some (.inr (t, n))) (k : Nat → Prop) : al_ h a k = k n := propext ⟨fun ⟨t2, n2, e2, p⟩ => by rw [e] at e2; cases e2; exact p, fun p => ⟨t, n, e, p⟩⟩
section TR
variable {j : Nat} {q : MD} {pc : Nat} {lv : Lc} {st : List TV} {h : Hp} {Q : Option TV → Hp → Prop}
theorem jmp_eq {pc : Nat} {off : Int} {tgt : Nat} (r : List TV) (ht : (pc : Int) + off = (tgt : Int)) : jmp pc off r = some (tgt, r) := by
  unfold jmp
  rw [ht]
  simp
theorem brn_eq {b : Bool} {pc : Nat} {off : Int} {tgt : Nat} (r : List TV) (ht : (pc : Int) + off = (tgt : Int)) : brn b pc off r = some (if b = true then tgt else pc + 3, r) := by
  unfold brn
  rw [jmp_eq r ht]
  cases b <;> rfl
theorem T_goto {off : Int} {rs : Rs} {tgt : Nat} (hq : mT[j]? = some q) (hf : (mCo q).lookup pc = some (.goto off, 3, rs)) (ht : (pc : Int) + off = (tgt : Int)) (k : T j tgt lv st h Q) : T j pc lv st h Q := by
  refine T_nx (pc' := tgt) (lv' := lv) (st' := st) (h' := h) hq hf ?_ k
  unfold nxt
  show (match jmp pc off st with
    | some q => some (q.1, lv, q.2, h)
    | none => _) = _
  rw [jmp_eq st ht]
theorem T_if {cd : Jvm.ClassFile.Cond} {off : Int} {rs : Rs} {tgt : Nat} {x : Int32} (hq : mT[j]? = some q) (hf : (mCo q).lookup pc = some (.ifCond cd off, 3, rs)) (ht : (pc : Int) + off = (tgt : Int)) (kt : cnd cd x 0 = true → T j tgt lv st h Q) (kf : cnd cd x 0 = false → T j (pc + 3) lv st h Q) : T j pc lv (tI x :: st) h Q := by
  refine T_nx (pc' := if cnd cd x 0 = true then tgt else pc + 3) (lv' := lv) (st' := st) (h' := h) hq hf ?_ ?_
  · unfold nxt
    show (match brn (cnd cd x 0) pc off st with
      | some q => some (q.1, lv, q.2, h)
      | none => _) = _
    rw [brn_eq st ht]
  · cases hc : cnd cd x 0 with
    | true => exact kt hc
    | false => exact kf hc
theorem T_ic {cd : Jvm.ClassFile.Cond} {off : Int} {rs : Rs} {tgt : Nat} {x y : Int32} (hq : mT[j]? = some q) (hf : (mCo q).lookup pc = some (.if_icmp cd off, 3, rs)) (ht : (pc : Int) + off = (tgt : Int)) (kt : cnd cd x y = true → T j tgt lv st h Q) (kf : cnd cd x y = false → T j (pc + 3) lv st h Q) : T j pc lv (tI y :: tI x :: st) h Q := by
  refine T_nx (pc' := if cnd cd x y = true then tgt else pc + 3) (lv' := lv) (st' := st) (h' := h) hq hf ?_ ?_
  · unfold nxt
    show (match brn (cnd cd x y) pc off st with
      | some q => some (q.1, lv, q.2, h)
      | none => _) = _
    rw [brn_eq st ht]
  · cases hc : cnd cd x y with
    | true => exact kt hc
    | false => exact kf hc
theorem T_nul {off : Int} {rs : Rs} {tgt : Nat} {r : Option Nat} (hq : mT[j]? = some q) (hf : (mCo q).lookup pc = some (.ifnull off, 3, rs)) (ht : (pc : Int) + off = (tgt : Int)) (k : if r = none then T j tgt lv st h Q else T j (pc + 3) lv st h Q) : T j pc lv (tR r :: st) h Q := by
  refine T_nx (pc' := if r.isNone = true then tgt else pc + 3) (lv' := lv) (st' := st) (h' := h) hq hf ?_ ?_
  · unfold nxt
    show (match brn r.isNone pc off st with
      | some q => some (q.1, lv, q.2, h)
      | none => _) = _
    rw [brn_eq st ht]
  · cases r with
    | none => exact k
    | some a => exact k
theorem T_nnl {off : Int} {rs : Rs} {tgt : Nat} {r : Option Nat} (hq : mT[j]? = some q) (hf : (mCo q).lookup pc = some (.ifnonnull off, 3, rs)) (ht : (pc : Int) + off = (tgt : Int)) (k : if r = none then T j (pc + 3) lv st h Q else T j tgt lv st h Q) : T j pc lv (tR r :: st) h Q := by
  refine T_nx (pc' := if r.isSome = true then tgt else pc + 3) (lv' := lv) (st' := st) (h' := h) hq hf ?_ ?_
  · unfold nxt
    show (match brn r.isSome pc off st with
      | some q => some (q.1, lv, q.2, h)
      | none => _) = _
    rw [brn_eq st ht]
  · cases r with
    | none => exact k
    | some a => exact k
theorem c_eq {x y : Int32} {A B : Prop} (k : if x = y then A else B) : (cnd .eq x y = true → A) ∧ (cnd .eq x y = false → B) := by
  by_cases e : x = y
  · rw [if_pos e] at k
    exact ⟨fun _ => k, fun hc => absurd e (of_decide_eq_false hc)⟩
  · rw [if_neg e] at k
    exact ⟨fun hc => absurd (of_decide_eq_true hc) e, fun _ => k⟩
theorem c_ne {x y : Int32} {A B : Prop} (k : if x = y then B else A) : (cnd .ne x y = true → A) ∧ (cnd .ne x y = false → B) := by
  by_cases e : x = y
  · rw [if_pos e] at k
    exact ⟨fun hc => by simp [cnd, e] at hc, fun _ => k⟩
  · rw [if_neg e] at k
    exact ⟨fun _ => k, fun hc => by simp [cnd, e] at hc⟩
theorem c_lt {x y : Int32} {A B : Prop} (k : if x < y then A else B) : (cnd .lt x y = true → A) ∧ (cnd .lt x y = false → B) := by
  by_cases e : x < y
  · rw [if_pos e] at k
    exact ⟨fun _ => k, fun hc => absurd e (of_decide_eq_false hc)⟩
  · rw [if_neg e] at k
    exact ⟨fun hc => absurd (of_decide_eq_true hc) e, fun _ => k⟩
theorem c_ge {x y : Int32} {A B : Prop} (k : if x < y then B else A) : (cnd .ge x y = true → A) ∧ (cnd .ge x y = false → B) := by
  by_cases e : x < y
  · rw [if_pos e] at k
    exact ⟨fun hc => absurd (of_decide_eq_true hc) (Int32.not_le.mpr e), fun _ => k⟩
  · rw [if_neg e] at k
    exact ⟨fun _ => k, fun hc => absurd (Int32.not_lt.mp e) (of_decide_eq_false hc)⟩
theorem c_gt {x y : Int32} {A B : Prop} (k : if y < x then A else B) : (cnd .gt x y = true → A) ∧ (cnd .gt x y = false → B) := by
  by_cases e : y < x
  · rw [if_pos e] at k
    exact ⟨fun _ => k, fun hc => absurd e (of_decide_eq_false hc)⟩
  · rw [if_neg e] at k
    exact ⟨fun hc => absurd (of_decide_eq_true hc) e, fun _ => k⟩
theorem c_le {x y : Int32} {A B : Prop} (k : if y < x then B else A) : (cnd .le x y = true → A) ∧ (cnd .le x y = false → B) := by
  by_cases e : y < x
  · rw [if_pos e] at k
    exact ⟨fun hc => absurd (of_decide_eq_true hc) (Int32.not_le.mpr e), fun _ => k⟩
  · rw [if_neg e] at k
    exact ⟨fun _ => k, fun hc => absurd (Int32.not_lt.mp e) (of_decide_eq_false hc)⟩
/-! switches -/
def swK (x : Int32) (K : Nat → Prop) (d : Nat) : List (Int32 × Nat) → Prop
  | [] => K d
  | c :: r => if x = c.1 then K c.2 else swK x K d r
def fiT (x : Int32) (d : Nat) : List (Int32 × Nat) → Nat
  | [] => d
  | c :: r => if x = c.1 then c.2 else fiT x d r
theorem swK_fiT {x : Int32} {K : Nat → Prop} {d : Nat} {cs : List (Int32 × Nat)} (k : swK x K d cs) : K (fiT x d cs) := by
  induction cs with
  | nil => exact k
  | cons c r ih =>
    unfold swK at k
    unfold fiT
    split at k
    · rename_i e
      rw [if_pos e]
      exact k
    · rename_i e
      rw [if_neg e]
      exact ih k
theorem fiT_out {x : Int32} {d : Nat} {cs : List (Int32 × Nat)} (h : ∀ c ∈ cs, ¬ x = c.1) : fiT x d cs = d := by
  induction cs with
  | nil => rfl
  | cons c r ih =>
    unfold fiT
    rw [if_neg (h c List.mem_cons_self)]
    exact ih (fun c hc => h c (List.mem_cons_of_mem _ hc))
def tsB (pc : Nat) (d lo hi : Int) (offs : Array Int) (dt : Nat) (cs : List (Int32 × Nat)) : Bool :=
  decide ((pc : Int) + d = (dt : Int)) && (cs.all (fun c => decide (lo ≤ c.1.toInt) && decide (c.1.toInt ≤ hi)) && ((List.range (hi - lo + 1).toNat).all (fun i => match offs[i]? with
    | some off => decide ((pc : Int) + off = ((fiT (Int32.ofInt (lo + i)) dt cs : Nat) : Int)) && decide ((Int32.ofInt (lo + i)).toInt = lo + i)
    | none => false)))
theorem T_tsw {d lo hi : Int} {offs : Array Int} {len : Nat} {rs : Rs} {x : Int32} {dt : Nat} {cs : List (Int32 × Nat)} (hq : mT[j]? = some q) (hf : (mCo q).lookup pc = some (.tableswitch d lo hi offs, len, rs)) (hb : tsB pc d lo hi offs dt cs = true) (k : swK x (fun t => T j t lv st h Q) dt cs) : T j pc lv (tI x :: st) h Q := by
  have k := swK_fiT k
  unfold tsB at hb
  simp only [Bool.and_eq_true, decide_eq_true_eq] at hb
  obtain ⟨h1, h2, h3⟩ := hb
  refine T_nx (pc' := fiT x dt cs) (lv' := lv) (st' := st) (h' := h) hq hf ?_ k
  unfold nxt
  show (match opB (.tableswitch d lo hi offs) pc (tI x :: st) with
    | some q => some (q.1, lv, q.2, h)
    | none => _) = _
  have e : opB (.tableswitch d lo hi offs) pc (tI x :: st) = some (fiT x dt cs, st) := by
    show (if x.toInt < lo ∨ hi < x.toInt then jmp pc d st else match offs[(x.toInt - lo).toNat]? with
      | some off => jmp pc off st
      | none => none) = _
    by_cases ho : x.toInt < lo ∨ hi < x.toInt
    · rw [if_pos ho, jmp_eq st h1, fiT_out]
      intro c hc e
      have := List.all_eq_true.mp h2 c hc
      simp only [Bool.and_eq_true, decide_eq_true_eq] at this
      rw [e] at ho
      omega
    · rw [if_neg ho]
      have hr : (x.toInt - lo).toNat ∈ List.range (hi - lo + 1).toNat := List.mem_range.mpr (by omega)
      have := List.all_eq_true.mp h3 _ hr
      split at this
      · rename_i off hoff
        try rw [hoff]
        simp only [Bool.and_eq_true, decide_eq_true_eq] at this
        obtain ⟨t1, t2⟩ := this
        have ex : Int32.ofInt (lo + ((x.toInt - lo).toNat : Int)) = x := by
          apply Int32.toInt_inj.mp
          rw [t2]
          omega
        rw [ex] at t1
        exact jmp_eq st t1
      · cases this
  rw [e]
def lsB (pc : Nat) (d : Int) (ps : List (Int × Int)) (dt : Nat) (cs : List (Int32 × Nat)) : Bool := match ps, cs with
  | [], [] => decide ((pc : Int) + d = (dt : Int))
  | p :: ps, c :: cs => decide (c.1.toInt = p.1) && (decide ((pc : Int) + p.2 = (c.2 : Int)) && lsB pc d ps dt cs)
  | _, _ => false
theorem ls_off {pc : Nat} {d : Int} {ps : List (Int × Int)} {dt : Nat} {cs : List (Int32 × Nat)} (hb : lsB pc d ps dt cs = true) (x : Int32) : (pc : Int) + Op.lookupswitch.offset ps d x.toInt = ((fiT x dt cs : Nat) : Int) := by
  induction ps generalizing cs with
  | nil =>
    cases cs with
    | nil => exact of_decide_eq_true hb
    | cons c cs => cases hb
  | cons p ps ih =>
    cases cs with
    | nil => cases hb
    | cons c cs =>
      unfold lsB at hb
      simp only [Bool.and_eq_true, decide_eq_true_eq] at hb
      obtain ⟨h1, h2, h3⟩ := hb
      obtain ⟨p1, p2⟩ := p
      by_cases e : x = c.1
      · have e2 : x.toInt = p1 := by rw [e]; exact h1
        unfold fiT
        rw [if_pos e, ← h2]
        simp [Op.lookupswitch.offset, e2]
      · unfold fiT
        rw [if_neg e, lv_osw e h1]
        exact ih h3
theorem T_lsw {d : Int} {ps : Array (Int × Int)} {len : Nat} {rs : Rs} {x : Int32} {dt : Nat} {cs : List (Int32 × Nat)} (hq : mT[j]? = some q) (hf : (mCo q).lookup pc = some (.lookupswitch d ps, len, rs)) (hs : (ps.toList.zip (ps.toList.drop 1)).all (fun (a, next) => a.1 < next.1) = true) (hb : lsB pc d ps.toList dt cs = true) (k : swK x (fun t => T j t lv st h Q) dt cs) : T j pc lv (tI x :: st) h Q := by
  have k := swK_fiT k
  refine T_nx (pc' := fiT x dt cs) (lv' := lv) (st' := st) (h' := h) hq hf ?_ k
  unfold nxt
  show (match opB (.lookupswitch d ps) pc (tI x :: st) with
    | some q => some (q.1, lv, q.2, h)
    | none => _) = _
  have e : opB (.lookupswitch d ps) pc (tI x :: st) = some (fiT x dt cs, st) := by
    show (if (ps.toList.zip (ps.toList.drop 1)).all (fun (a, next) => a.1 < next.1) = true then jmp pc (Op.lookupswitch.offset ps.toList d x.toInt) st else none) = _
    rw [if_pos hs, jmp_eq st (ls_off hb x)]
  rw [e]
end TR
