/-! AN INTERPRETER OF THE BYTECODE, 5: methods, calls, the interpreter itself -/
/-- place, instruction, its length, what it resolves to -/
abbrev RI : Type := Nat × (Instr × Nat × Rs)
/-- name, bytes, locals, answer, room (frames, locals), (is a constructor, is static), parameters, instructions -/
abbrev MD : Type := MethodName × ByteArray × Nat × Option FieldType × (Nat × Nat) × (Bool × Bool) × Nat × List RI
def mY (q : MD) : MethodName := q.1
def mB (q : MD) : ByteArray := q.2.1
def mL (q : MD) : Nat := q.2.2.1
def mR (q : MD) : Option FieldType := q.2.2.2.1
def mFr (q : MD) : Nat := q.2.2.2.2.1.1
def mLr (q : MD) : Nat := q.2.2.2.2.1.2
def mIn (q : MD) : Bool := q.2.2.2.2.2.1.1
def mSt (q : MD) : Bool := q.2.2.2.2.2.1.2
def mNp (q : MD) : Nat := q.2.2.2.2.2.2.1
def mCo (q : MD) : List RI := q.2.2.2.2.2.2.2
abbrev St : Type := Nat × Lc × List TV × Hp
def cats (st : List TV) : Nat := match st with
  | [] => 0
  | x :: r => (if tlg x = true then 2 else 1) + cats r
theorem cats_eq (st : List TV) : ((st.map tv).map fun v => v.category).sum = cats st := by
  induction st with
  | nil => rfl
  | cons x r ih =>
    rw [List.map_cons, List.map_cons, List.sum_cons, ih, tv_cat]
    rfl
/-- calls that leave the heap as it is: Object's constructor, Math.max, Math.min -/
def opM (i : Instr) (rs : Rs) (st : List TV) : Option (List TV) := match i with
  | .invokespecial _ => if rs.2.2.1 = 0 then (match st with
    | .inr (.inr (some _)) :: r => if cats r ≤ 8 then some r else none
    | _ => none) else none
  | .invokestatic _ => match rs.2.2.1 with
    | 1 => (match st with
      | .inl y :: .inl x :: r => if cats r ≤ 8 then some (tI (if x < y then y else x) :: r) else none
      | _ => none)
    | 2 => (match st with
      | .inl y :: .inl x :: r => if cats r ≤ 8 then some (tI (if y < x then y else x) :: r) else none
      | _ => none)
    | 3 => (match st with
      | .inr (.inl y) :: .inr (.inl x) :: r => if cats r ≤ 8 then some (tL (if y < x then y else x) :: r) else none
      | _ => none)
    | _ => none
  | _ => none
def opC (i : Instr) (rs : Rs) (st : List TV) (h : Hp) : Option (Nat × List TV × List TV) := match i with
  | .invokevirtual _ => (match st.drop rs.2.1 with
    | .inr (.inr (some b)) :: r => if (st.take rs.2.1).length = rs.2.1 ∧ tg h b = some (.inl rs.2.2.1) ∧ cats r ≤ 8 then some (rs.1, tR (some b) :: (st.take rs.2.1).reverse, r) else none
    | _ => none)
  | .invokespecial _ => if rs.2.2.1 = 1 then (match st.drop rs.2.1 with
    | .inr (.inr (some b)) :: r => if (st.take rs.2.1).length = rs.2.1 ∧ cats r ≤ 8 then some (rs.1, tR (some b) :: (st.take rs.2.1).reverse, r) else none
    | _ => none) else none
  | .invokestatic _ => if rs.2.2.1 = 0 then (if (st.take rs.2.1).length = rs.2.1 ∧ cats (st.drop rs.2.1) ≤ 8 then some (rs.1, (st.take rs.2.1).reverse, st.drop rs.2.1) else none) else none
  | _ => none
def opR (ret : Option FieldType) (i : Instr) (st : List TV) : Option (Option TV) := match i with
  | .ireturn => (match st with
    | [.inl v] => (match ret with
      | some .int => some (some (tI v))
      | some .boolean => if v = 0 ∨ v = 1 then some (some (tI v)) else none
      | _ => none)
    | _ => none)
  | .lreturn => (match st with
    | [.inr (.inl v)] => (match ret with
      | some .long => some (some (tL v))
      | _ => none)
    | _ => none)
  | .areturn => (match st with
    | [.inr (.inr v)] => (match ret with
      | some (.object _) => some (some (tR v))
      | some (.array _) => some (some (tR v))
      | _ => none)
    | _ => none)
  | .return_ => (match st with
    | [] => (match ret with
      | none => some none
      | _ => none)
    | _ => none)
  | _ => none
/-- the next state, where the instruction neither calls a method of ours nor returns -/
def nxt (i : Instr) (len : Nat) (rs : Rs) (s : St) : Option St := match opS i s.2.2.1 with
  | some st' => some (s.1 + len, s.2.1, st', s.2.2.2)
  | none => match opL i s.2.1 s.2.2.1 with
    | some q => some (s.1 + len, q.1, q.2, s.2.2.2)
    | none => match opB i s.1 s.2.2.1 with
      | some q => some (q.1, s.2.1, q.2, s.2.2.2)
      | none => match opH i rs s.2.2.1 s.2.2.2 with
        | some q => some (s.1 + len, s.2.1, q.1, q.2)
        | none => match opM i rs s.2.2.1 with
          | some st' => some (s.1 + len, s.2.1, st', s.2.2.2)
          | none => none
def tvl (r : Option TV) : List TV := match r with
  | none => []
  | some x => [x]
def ex (P : List MD) : Nat → Nat → St → Option (Option TV × Hp)
  | 0, _, _ => none
  | n + 1, j, s => match P[j]? with
    | none => none
    | some q => match (mCo q).lookup s.1 with
      | none => none
      | some x => match nxt x.1 x.2.1 x.2.2 s with
        | some s' => ex P n j s'
        | none => match opC x.1 x.2.2 s.2.2.1 s.2.2.2 with
          | some y => match P[y.1]? with
            | none => none
            | some q' => if (lvA0 y.2.1).length ≤ mL q' then (match ex P n y.1 (0, lvA (mL q') y.2.1, [], s.2.2.2) with
              | none => none
              | some z => ex P n j (s.1 + x.2.1, s.2.1, tvl z.1 ++ y.2.2, z.2)) else none
          | none => match opR (mR q) x.1 s.2.2.1 with
            | some r => some (r, s.2.2.2)
            | none => none
/-! what the tables must say of a method and of its instructions -/
def wlk (c i : Nat) : Option Cond := match wlC[c]? with
  | some l => l[i]?
  | none => none
def lkM (own : String) (idx : Nat) (y : MethodName) (rs : Rs) : Prop := if rs.2.2.2.2 = 1 then nwL[rs.2.2.2.1.2]? = some (Cond.methodLinkNest own idx y "StackMachine") else wlk rs.2.2.2.1.1 rs.2.2.2.1.2 = some (Cond.methodLink own idx y)
def fitsR (q q' : MD) : Prop := mFr q' + 1 ≤ mFr q ∧ 8 + (mL q' + 11) + mLr q' ≤ mLr q
def iOk (P : List MD) (j : Nat) (q : MD) (i : Instr) (rs : Rs) : Prop := match i with
  | .getfield idx => ∃ t : vw_C, vwCl[rs.1]? = some t ∧ rs.2.1 < t.2.2 ∧ rs.2.2.1 = kdT (tyOf t.2.1 rs.2.1) ∧ wlk rs.2.2.2.1.1 rs.2.2.2.1.2 = some (Cond.fieldLink (mY q).cls idx (t.2.1 rs.2.1).1 (t.2.1 rs.2.1).2.1 (t.2.1 rs.2.1).2.2.1)
  | .putfield idx => ∃ t : vw_C, vwCl[rs.1]? = some t ∧ rs.2.1 < t.2.2 ∧ rs.2.2.1 = kdT (tyOf t.2.1 rs.2.1) ∧ wlk rs.2.2.2.1.1 rs.2.2.2.1.2 = some (Cond.fieldLink (mY q).cls idx (t.2.1 rs.2.1).1 (t.2.1 rs.2.1).2.1 (t.2.1 rs.2.1).2.2.1) ∧ ((t.2.1 rs.2.1).2.2.2 = false ∨ ((t.2.1 rs.2.1).2.2.2 = true ∧ mIn q = true ∧ (t.2.1 rs.2.1).1 = (mY q).cls))
  | .new idx => ∃ t : vw_C, vwCl[rs.1]? = some t ∧ rs.2.1 = t.2.2 ∧ wlk rs.2.2.2.1.1 rs.2.2.2.1.2 = some (Cond.classLink (mY q).cls idx t.1)
  | .newarray ty => kOf ty < 4 ∧ wlk rs.2.2.2.1.1 rs.2.2.2.1.2 = some (Cond.arrayClass (newarray.typeOf ty))
  | .anewarray idx => ∃ C : String, aoL[rs.2.1]? = some C ∧ akT rs.1 = some (.object C) ∧ 10 ≤ rs.1 ∧ wlk rs.2.2.2.1.1 rs.2.2.2.1.2 = some (Cond.classLink (mY q).cls idx C)
  | .ldc idx => wlk rs.2.2.2.1.1 rs.2.2.2.1.2 = some (Cond.constant (mY q).cls idx (Int32.ofInt rs.2.2.2.2))
  | .ldc2_w idx => wlk rs.2.2.2.1.1 rs.2.2.2.1.2 = some (Cond.constantLong (mY q).cls idx (Int64.ofInt rs.2.2.2.2))
  | .invokevirtual idx => ∃ (q' : MD) (t : vw_C), P[rs.1]? = some q' ∧ rs.1 < j ∧ mNp q' = rs.2.1 ∧ fitsR q q' ∧ mSt q' = false ∧ mIn q' = false ∧ vwCl[rs.2.2.1]? = some t ∧ t.1 = (mY q').cls ∧ lkM (mY q).cls idx (mY q') rs
  | .invokestatic idx => (match rs.2.2.1 with
    | 0 => ∃ q' : MD, P[rs.1]? = some q' ∧ rs.1 < j ∧ mNp q' = rs.2.1 ∧ fitsR q q' ∧ mSt q' = true ∧ lkM (mY q).cls idx (mY q') rs
    | 1 => 1 ≤ mFr q ∧ 23 ≤ mLr q ∧ wlk rs.2.2.2.1.1 rs.2.2.2.1.2 = some (Cond.methodLink (mY q).cls idx Lib.Math.max.name)
    | 2 => 1 ≤ mFr q ∧ 23 ≤ mLr q ∧ wlk rs.2.2.2.1.1 rs.2.2.2.1.2 = some (Cond.methodLink (mY q).cls idx Lib.Math.min.name)
    | _ => 1 ≤ mFr q ∧ 23 ≤ mLr q ∧ wlk rs.2.2.2.1.1 rs.2.2.2.1.2 = some (Cond.methodLink (mY q).cls idx Lib.MathLoose.min_long.x))
  | .invokespecial idx => (match rs.2.2.1 with
    | 0 => 1 ≤ mFr q ∧ 20 ≤ mLr q ∧ wlk rs.2.2.2.1.1 rs.2.2.2.1.2 = some (Cond.methodLink (mY q).cls idx objectInit)
    | _ => ∃ q' : MD, P[rs.1]? = some q' ∧ rs.1 < j ∧ mNp q' = rs.2.1 ∧ fitsR q q' ∧ mSt q' = false ∧ mIn q' = true ∧ mR q' = none ∧ lkM (mY q).cls idx (mY q') rs)
  | _ => True
def isSw (i : Instr) : Prop := (∃ d lo hi offs, i = .tableswitch d lo hi offs) ∨ ∃ d ps, i = .lookupswitch d ps
/-- a method as it is called -/
def mOk (q : MD) : Prop := plainName (mY q).cls = true ∧ Cond.code (mY q) (mB q) (mL q) (mR q) ∈ wsA ∧ Cond.initialized (mY q).cls ∈ wsA ∧ (mY q).cls ≠ "java/lang/invoke/MethodHandle" ∧ (mY q).cls ≠ "java/lang/invoke/VarHandle" ∧ (parseMethodDescriptor (mY q).desc).map (fun d => d.parameters.length) = some (mNp q) ∧ (mIn q = true → (mY q).name = "<init>") ∧ (mSt q = true → Cond.static (mY q) ∈ wsA) ∧ (mSt q = false → Cond.instanceMethod (mY q) ∈ wsA) ∧ (mSt q = false → mIn q = false → Cond.selects (mY q).cls (mY q) (mY q) ∈ wsA)
/-- a method's body -/
def bOk (P : List MD) (j : Nat) (q : MD) : Prop := ∀ (pc : Nat) (x : Instr × Nat × Rs), (mCo q).lookup pc = some x → decode (mB q) pc = .ok (x.1, x.2.1) ∧ (x.2.1 = ilen x.1 ∨ isSw x.1) ∧ iOk P j q x.1 x.2.2
def wlOk : Prop := ∀ (c i : Nat) (w : Cond), wlk c i = some w → w ∈ wsA
def libOk : Prop := (Cond.static Lib.Math.max.name ∈ wsA ∧ Cond.code Lib.Math.max.name Lib.Math.max.code 2 (some .int) ∈ wsA) ∧ (Cond.static Lib.Math.min.name ∈ wsA ∧ Cond.code Lib.Math.min.name Lib.Math.min.code 2 (some .int) ∈ wsA) ∧ (Cond.static Lib.MathLoose.min_long.x ∈ wsA ∧ Cond.code Lib.MathLoose.min_long.x Lib.MathLoose.min_long.code 4 (some .long) ∈ wsA) ∧ Cond.initialized "java/lang/Math" ∈ wsA ∧ Cond.instanceMethod objectInit ∈ wsA ∧ Cond.code objectInit ⟨#[0xb1]⟩ 1 none ∈ wsA ∧ ∀ (ci : Nat) (t : vw_C), vwCl[ci]? = some t → Cond.instantiable t.1 t.2.2 ∈ wsA ∧ Cond.initialized t.1 ∈ wsA
