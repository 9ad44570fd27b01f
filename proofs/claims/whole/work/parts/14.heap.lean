/-! AN INTERPRETER OF THE BYTECODE, 2: what an instruction does to the heap of maps -/
abbrev Rs : Type := Nat × Nat × Nat × (Nat × Nat) × Int
/-- a field's number: class and place -/
def fid (ci k : Nat) : Nat := ci * 64 + k
/-- kinds: 0 int, 1 long, 2 a reference, 3 boolean -/
def kdT (ty : FieldType) : Nat := match ty with
  | .int => 0
  | .long => 1
  | .object _ => 2
  | .array _ => 2
  | .boolean => 3
  | _ => 7
def tyOf (T : u_T) (k : Nat) : FieldType := (parseFieldDescriptor (T k).2.2.1).getD .int
def fvv (kd : Nat) (h : Hp) (f a : Nat) : TV := match kd with
  | 1 => tL (gl h f a)
  | 2 => tR (gr h f a)
  | _ => tI (gi h f a)
/-- kinds of arrays: 0 int, 1 long, 2 byte, 3 boolean, 9 the script (ints that nobody writes), 10 and more: of objects of a class -/
def av (t : Nat) (h : Hp) (a j : Nat) : TV := match t with
  | 0 => tI (ai h a j)
  | 1 => tL (al h a j)
  | 2 => tI (ai h a j)
  | 3 => tI (ai h a j)
  | 9 => tI (ai h a j)
  | _ => tR (aq h a j)
abbrev Dt : Type := va_G × (Nat → ClassId)
def isNest (w : Cond) : Bool := match w with
  | .fieldLinkNest _ _ _ _ _ _ => true
  | .methodLinkNest _ _ _ _ => true
  | _ => false
/-- what is known of the classes -/
def Kn (D : Dt) (U : State) : Prop := (∀ (c : Nat) (q : vw_C), vwCl[c]? = some q → u_Kn U q.1 q.2.1 q.2.2 (D.1.1 c) (D.1.2 c)) ∧ (∀ (t : Nat) (ty : FieldType), akT t = some ty → ArrOfT U (D.2 t) ty ∧ va_RA U (D.2 t) ty) ∧ (∀ w ∈ nwL, isNest w = true ∧ va_Nw w U) ∧ ∀ C ∈ aoL, va_AO C U
theorem Kn.moved {D : Dt} {s U : State} (hW : s.WarmedH U.vm) (h : Kn D s) : Kn D U := by
  refine ⟨fun c q hq => u_Kn_moved hW.alike (h.1 c q hq), fun t ty ht => ⟨arrOfT_moved hW.alike (h.2.1 t ty ht).1, (h.2.1 t ty ht).2.moved hW.alike⟩, fun w hw => ?_, fun C hc => va_AO.moved hW.alike (h.2.2.2 C hc)⟩
  obtain ⟨h1, h2⟩ := h.2.2.1 w hw
  refine ⟨h1, ?_⟩
  cases w with
  | fieldLinkNest a b c d e f => exact va_Nw.warmF hW h2
  | methodLinkNest a b c d => exact va_Nw.warmM hW h2
  | _ => cases h1
theorem Kn.same {D : Dt} {s U : State} (hv : s.vm = U.vm) (h : Kn D s) : Kn D U := by
  refine ⟨fun c q hq => u_Kn_moved (hv ▸ Vm.Alike.refl s.vm) (h.1 c q hq), fun t ty ht => ⟨arrOfT_moved (hv ▸ Vm.Alike.refl s.vm) (h.2.1 t ty ht).1, (h.2.1 t ty ht).2.moved (hv ▸ Vm.Alike.refl s.vm)⟩, fun w hw => ?_, fun C hc => va_AO.moved (hv ▸ Vm.Alike.refl s.vm) (h.2.2.2 C hc)⟩
  obtain ⟨h1, h2⟩ := h.2.2.1 w hw
  refine ⟨h1, ?_⟩
  cases w with
  | fieldLinkNest a b c d e f => exact va_Nw.same rfl hv h2
  | methodLinkNest a b c d => exact va_Nw.same rfl hv h2
  | _ => cases h1
/-- what the machine's cell at an address holds -/
def cellOk (D : Dt) (U : State) (H : Heap) (h : Hp) (a : Nat) (x : Tg) : Prop := match x with
  | .inl ci => ∃ r : vw_C, vwCl[ci]? = some r ∧ t_OB a (D.1.1 ci) r.2.2 (D.1.2 ci) H (fun k => tv (fvv (kdT (tyOf r.2.1 k)) h (fid ci k) a))
  | .inr (9, n) => ∃ scr : Cell, H[a]? = some scr ∧ U.isArrayOf scr .int ∧ scr.vm ≠ .unknown ∧ scr.slots.size = n ∧ ∀ j : Nat, j < n → scr.slots[j]? = some (.int (ai h a j))
  | .inr (t, n) => ∃ ty, akT t = some ty ∧ H[a]? = some (arrV (D.2 t) n (fun j => tv (av t h a j)))
def Rep (base : Nat) (D : Dt) (U : State) (H : Heap) (h : Hp) : Prop := H.size = sz h ∧ ∀ (a : Nat) (x : Tg), tg h a = some x → a < sz h ∧ (base ≤ a ∨ ∃ n, x = .inr (9, n)) ∧ cellOk D U H h a x
theorem cellOk_inl {D : Dt} {U : State} {H : Heap} {h : Hp} {a ci : Nat} : cellOk D U H h a (.inl ci) = ∃ r : vw_C, vwCl[ci]? = some r ∧ t_OB a (D.1.1 ci) r.2.2 (D.1.2 ci) H (fun k => tv (fvv (kdT (tyOf r.2.1 k)) h (fid ci k) a)) := rfl
theorem cellOk_9 {D : Dt} {U : State} {H : Heap} {h : Hp} {a n : Nat} : cellOk D U H h a (.inr (9, n)) = ∃ scr : Cell, H[a]? = some scr ∧ U.isArrayOf scr .int ∧ scr.vm ≠ .unknown ∧ scr.slots.size = n ∧ ∀ j : Nat, j < n → scr.slots[j]? = some (.int (ai h a j)) := rfl
theorem cellOk_arr {D : Dt} {U : State} {H : Heap} {h : Hp} {a t n : Nat} (ht : t ≠ 9) : cellOk D U H h a (.inr (t, n)) = ∃ ty, akT t = some ty ∧ H[a]? = some (arrV (D.2 t) n (fun j => tv (av t h a j))) := by
  unfold cellOk
  split
  · rename_i e; cases e
  · rename_i e; cases e; exact absurd rfl ht
  · rename_i e; cases e; rfl
theorem cellOk.moved {D : Dt} {s U : State} {H : Heap} {h : Hp} {a : Nat} {x : Tg} (hv : s.vm.Alike U.vm) (q : cellOk D s H h a x) : cellOk D U H h a x := by
  rcases x with ci | ⟨t, n⟩
  · exact q
  · by_cases ht : t = 9
    · subst ht
      rw [cellOk_9] at q ⊢
      obtain ⟨scr, h1, h2, h3⟩ := q
      exact ⟨scr, h1, State.isArrayOf_alike hv h2, h3⟩
    · rw [cellOk_arr ht] at q ⊢
      exact q
theorem Rep.moved {base : Nat} {D : Dt} {s U : State} {H : Heap} {h : Hp} (hv : s.vm.Alike U.vm) (q : Rep base D s H h) : Rep base D U H h :=
  ⟨q.1, fun a x hx => ⟨(q.2 a x hx).1, (q.2 a x hx).2.1, (q.2 a x hx).2.2.moved hv⟩⟩
/-- two heaps of maps say the same of an address -/
def sameAt (h h' : Hp) (b : Nat) : Prop := (∀ f, gi h' f b = gi h f b) ∧ (∀ f, gl h' f b = gl h f b) ∧ (∀ f, gr h' f b = gr h f b) ∧ (∀ j, ai h' b j = ai h b j) ∧ (∀ j, al h' b j = al h b j) ∧ ∀ j, aq h' b j = aq h b j
theorem sameAt_fvv {h h' : Hp} {b : Nat} (q : sameAt h h' b) (kd f : Nat) : fvv kd h' f b = fvv kd h f b := by
  unfold fvv
  split
  · rw [q.2.1]
  · rw [q.2.2.1]
  · rw [q.1]
theorem sameAt_av {h h' : Hp} {b : Nat} (q : sameAt h h' b) (t j : Nat) : av t h' b j = av t h b j := by
  unfold av
  split
  · rw [q.2.2.2.1]
  · rw [q.2.2.2.2.1]
  · rw [q.2.2.2.1]
  · rw [q.2.2.2.1]
  · rw [q.2.2.2.1]
  · rw [q.2.2.2.2.2]
theorem cellOk.kept {D : Dt} {U : State} {H H' : Heap} {h h' : Hp} {b : Nat} {x : Tg} (q : cellOk D U H h b x) (e : H'[b]? = H[b]?) (w : sameAt h h' b) : cellOk D U H' h' b x := by
  rcases x with ci | ⟨t, n⟩
  · rw [cellOk_inl] at q ⊢
    obtain ⟨r, h1, h2⟩ := q
    exact ⟨r, h1, (h2.kept e).to (fun k _ => by rw [sameAt_fvv w])⟩
  · by_cases ht : t = 9
    · subst ht
      rw [cellOk_9] at q ⊢
      obtain ⟨scr, h1, h2, h3, h4, h5⟩ := q
      exact ⟨scr, by rw [e]; exact h1, h2, h3, h4, fun j hj => by rw [w.2.2.2.1]; exact h5 j hj⟩
    · rw [cellOk_arr ht] at q ⊢
      obtain ⟨ty, h0, h1⟩ := q
      refine ⟨ty, h0, ?_⟩
      rw [e, h1]
      congr 2
      funext j
      rw [sameAt_av w]
theorem Rep.write {base : Nat} {D : Dt} {U : State} {H H' : Heap} {h h' : Hp} {a : Nat} (q : Rep base D U H h) (e2 : H'.size = H.size) (e3 : ∀ b : Nat, b ≠ a → H'[b]? = H[b]?) (ht : tg h' = tg h) (hz : sz h' = sz h) (hw : ∀ b, b ≠ a → sameAt h h' b) (ha : ∀ x, tg h a = some x → cellOk D U H' h' a x) : Rep base D U H' h' := by
  refine ⟨by rw [e2, hz]; exact q.1, fun b x hx => ?_⟩
  rw [ht] at hx
  obtain ⟨h1, h2, h3⟩ := q.2 b x hx
  refine ⟨by rw [hz]; exact h1, h2, ?_⟩
  by_cases hb : b = a
  · subst hb
    exact ha x hx
  · exact h3.kept (e3 b hb) (hw b hb)
theorem Rep.new {base : Nat} {D : Dt} {U : State} {H H' : Heap} {h : Hp} {x : Tg} {n : Nat} (q : Rep base D U H h) (hb : base ≤ sz h) (e2 : H'.size = H.size + 1) (e3 : ∀ b : Nat, b < H.size → H'[b]? = H[b]?) (ha : cellOk D U H' (nw h x n) (sz h) x) : Rep base D U H' (nw h x n) := by
  refine ⟨by rw [e2, sz_nw, q.1], fun b y hy => ?_⟩
  rw [tg_nw] at hy
  by_cases hbz : b = sz h
  · rw [if_pos hbz] at hy
    cases hy
    subst hbz
    exact ⟨by rw [sz_nw]; omega, Or.inl hb, ha⟩
  · rw [if_neg hbz] at hy
    obtain ⟨h1, h2, h3⟩ := q.2 b y hy
    refine ⟨by rw [sz_nw]; omega, h2, h3.kept (e3 b (by rw [q.1]; exact h1)) ?_⟩
    refine ⟨fun f => ?_, fun f => ?_, fun f => ?_, fun j => ?_, fun j => ?_, fun j => ?_⟩
    · rw [gi_nw, if_neg hbz]
    · rw [gl_nw, if_neg hbz]
    · rw [gr_nw, if_neg hbz]
    · rw [ai_nw, if_neg hbz]
    · rw [al_nw, if_neg hbz]
    · rw [aq_nw, if_neg hbz]
/-! the instructions -/
def gF (rs : Rs) (st : List TV) (h : Hp) : Option (List TV × Hp) := match st with
  | .inr (.inr (some a)) :: r => if tg h a = some (.inl rs.1) then some (fvv rs.2.2.1 h (fid rs.1 rs.2.1) a :: r, h) else none
  | _ => none
def putV (kd : Nat) (h : Hp) (f a : Nat) (v : TV) : Option Hp := match v with
  | .inl x => if kd = 0 then some (pi h f a x) else if kd = 3 ∧ (x = 0 ∨ x = 1) then some (pi h f a x) else none
  | .inr (.inl x) => if kd = 1 then some (pl h f a x) else none
  | .inr (.inr x) => if kd = 2 then some (pr h f a x) else none
def pF (rs : Rs) (st : List TV) (h : Hp) : Option (List TV × Hp) := match st with
  | v :: .inr (.inr (some a)) :: r => if tg h a = some (.inl rs.1) then (match putV rs.2.2.1 h (fid rs.1 rs.2.1) a v with
    | some h' => some (r, h')
    | none => none) else none
  | _ => none
def kOf (ty : ArrayType) : Nat := match ty with
  | .int => 0
  | .long => 1
  | .byte => 2
  | .boolean => 3
  | _ => 99
def nA (t : Nat) (st : List TV) (h : Hp) : Option (List TV × Hp) := match st with
  | .inl n :: r => if n < 0 then none else if n.toNatClampNeg * 8 ≤ 536870912 then some (tR (some (sz h)) :: r, nw h (.inr (t, n.toNatClampNeg)) n.toNatClampNeg) else none
  | _ => none
def aLen (st : List TV) (h : Hp) : Option (List TV × Hp) := match st with
  | .inr (.inr (some a)) :: r => match tg h a with
    | some (.inr (_, n)) => some (tI (Int32.ofNat n) :: r, h)
    | _ => none
  | _ => none
def aLd (ok : Nat → Bool) (st : List TV) (h : Hp) : Option (List TV × Hp) := match st with
  | .inl j :: .inr (.inr (some a)) :: r => match tg h a with
    | some (.inr (t, n)) => if ok t = true ∧ ¬ (j < 0 ∨ n ≤ j.toNatClampNeg) then some (av t h a j.toNatClampNeg :: r, h) else none
    | _ => none
  | _ => none
def astV (t : Nat) (h : Hp) (a j : Nat) (v : TV) : Option Hp := match v with
  | .inl x => if t = 0 then some (si h a j x) else if t = 2 then some (si h a j x.toInt8.toInt32) else if t = 3 then some (si h a j (x &&& 1)) else none
  | .inr (.inl x) => if t = 1 then some (sl h a j x) else none
  | .inr (.inr none) => if 10 ≤ t then some (sq h a j none) else none
  | .inr (.inr (some b)) => if 10 ≤ t ∧ tg h b = some (.inl (t - 10)) then some (sq h a j (some b)) else none
def aSt (ok : Nat → Bool) (st : List TV) (h : Hp) : Option (List TV × Hp) := match st with
  | v :: .inl j :: .inr (.inr (some a)) :: r => match tg h a with
    | some (.inr (t, n)) => if ok t = true ∧ ¬ (j < 0 ∨ n ≤ j.toNatClampNeg) then (match astV t h a j.toNatClampNeg v with
      | some h' => some (r, h')
      | none => none) else none
    | _ => none
  | _ => none
def opH (i : Instr) (rs : Rs) (st : List TV) (h : Hp) : Option (List TV × Hp) := match i with
  | .getfield _ => gF rs st h
  | .putfield _ => pF rs st h
  | .new _ => some (tR (some (sz h)) :: st, nw h (.inl rs.1) rs.2.1)
  | .newarray ty => nA (kOf ty) st h
  | .anewarray _ => nA rs.1 st h
  | .arraylength => aLen st h
  | .iaload => aLd (fun t => t == 0 || t == 9) st h
  | .laload => aLd (fun t => t == 1) st h
  | .baload => aLd (fun t => t == 2 || t == 3) st h
  | .aaload => aLd (fun t => decide (10 ≤ t)) st h
  | .iastore => aSt (fun t => t == 0) st h
  | .lastore => aSt (fun t => t == 1) st h
  | .bastore => aSt (fun t => t == 2 || t == 3) st h
  | .aastore => aSt (fun t => decide (10 ≤ t)) st h
  | .ldc _ => some (tI (Int32.ofInt rs.2.2.2.2) :: st, h)
  | .ldc2_w _ => some (tL (Int64.ofInt rs.2.2.2.2) :: st, h)
  | _ => none
