/-! THE V-LAYER, 1: typed values, the heap as maps (a map a field), what the machine's heap holds of it (Rep) -/
abbrev TV : Type := Int32 ⊕ (Int64 ⊕ Option Nat)
abbrev tI (x : Int32) : TV := Sum.inl x
abbrev tL (x : Int64) : TV := Sum.inr (Sum.inl x)
abbrev tR (r : Option Nat) : TV := Sum.inr (Sum.inr r)
def tv (x : TV) : Value := match x with
  | .inl x => .int x
  | .inr (.inl x) => .long x
  | .inr (.inr r) => va_rf r
def tlg (x : TV) : Bool := match x with
  | .inl _ => false
  | .inr (.inl _) => true
  | .inr (.inr _) => false
theorem tv_cat (x : TV) : (tv x).category = if tlg x = true then 2 else 1 := by
  rcases x with x | x | r
  · rfl
  · rfl
  · cases r <;> rfl
theorem tv_cat2 (x : TV) : ((tv x).category == 2) = tlg x := by
  rcases x with x | x | r
  · rfl
  · rfl
  · cases r <;> rfl
theorem rf_cat (r : Option Nat) : (va_rf r).category = 1 := by cases r <;> rfl
/-! locals: a list of slots; none where nothing is known (unset, or the second half of a long) -/
abbrev Lc : Type := List (Option TV)
def clr (lv : Lc) (i : Nat) : Lc := match i with
  | 0 => lv
  | k + 1 => match lv[k]? with
    | some (some (.inr (.inl _))) => lv.set k none
    | _ => lv
def lvSet (lv : Lc) (i : Nat) (x : TV) : Lc := (clr lv i).set i (some x)
def lvSet2 (lv : Lc) (i : Nat) (x : TV) : Lc := ((clr lv i).set i (some x)).set (i + 1) none
/-- the arguments as locals -/
def lvA0 : List TV → Lc
  | [] => []
  | x :: xs => if tlg x = true then some x :: none :: lvA0 xs else some x :: lvA0 xs
def lvA (n : Nat) (as : List TV) : Lc := lvA0 as ++ List.replicate (n - (lvA0 as).length) none
/-! the heap: what is at an address (an object of class ci, an array of kind t and length n), and a map a field -/
abbrev Tg : Type := Nat ⊕ (Nat × Nat)
abbrev Hp : Type := (Nat → Option Tg) × (Nat → Nat → Int32) × (Nat → Nat → Int64) × (Nat → Nat → Option Nat) × (Nat → Nat → Int32) × (Nat → Nat → Int64) × (Nat → Nat → Option Nat) × Nat × Nat
def tg (h : Hp) (a : Nat) : Option Tg := h.1 a
def gi (h : Hp) (f a : Nat) : Int32 := h.2.1 f a
def gl (h : Hp) (f a : Nat) : Int64 := h.2.2.1 f a
def gr (h : Hp) (f a : Nat) : Option Nat := h.2.2.2.1 f a
def ai (h : Hp) (a j : Nat) : Int32 := h.2.2.2.2.1 a j
def al (h : Hp) (a j : Nat) : Int64 := h.2.2.2.2.2.1 a j
def aq (h : Hp) (a j : Nat) : Option Nat := h.2.2.2.2.2.2.1 a j
def sz (h : Hp) : Nat := h.2.2.2.2.2.2.2.1
/-- how many slots (fields, elements) have been made -/
def us (h : Hp) : Nat := h.2.2.2.2.2.2.2.2
def up2 {α : Type} (g : Nat → Nat → α) (f a : Nat) (x : α) : Nat → Nat → α := fun f' a' => if f' = f ∧ a' = a then x else g f' a'
/-- at one address, for all fields -/
def upA {α : Type} (g : Nat → Nat → α) (a : Nat) (x : α) : Nat → Nat → α := fun f' a' => if a' = a then x else g f' a'
def upR {α : Type} (g : Nat → Nat → α) (a : Nat) (x : α) : Nat → Nat → α := fun a' j => if a' = a then x else g a' j
def pi (h : Hp) (f a : Nat) (x : Int32) : Hp := (h.1, up2 h.2.1 f a x, h.2.2)
def pl (h : Hp) (f a : Nat) (x : Int64) : Hp := (h.1, h.2.1, up2 h.2.2.1 f a x, h.2.2.2)
def pr (h : Hp) (f a : Nat) (x : Option Nat) : Hp := (h.1, h.2.1, h.2.2.1, up2 h.2.2.2.1 f a x, h.2.2.2.2)
def si (h : Hp) (a j : Nat) (x : Int32) : Hp := (h.1, h.2.1, h.2.2.1, h.2.2.2.1, up2 h.2.2.2.2.1 a j x, h.2.2.2.2.2)
def sl (h : Hp) (a j : Nat) (x : Int64) : Hp := (h.1, h.2.1, h.2.2.1, h.2.2.2.1, h.2.2.2.2.1, up2 h.2.2.2.2.2.1 a j x, h.2.2.2.2.2.2)
def sq (h : Hp) (a j : Nat) (x : Option Nat) : Hp := (h.1, h.2.1, h.2.2.1, h.2.2.2.1, h.2.2.2.2.1, h.2.2.2.2.2.1, up2 h.2.2.2.2.2.2.1 a j x, h.2.2.2.2.2.2.2)
/-- a new cell: an object or array, all of it 0 or null, at the next address -/
def nw (h : Hp) (t : Tg) (n : Nat) : Hp := (fun b => if b = sz h then some t else tg h b, upA h.2.1 (sz h) 0, upA h.2.2.1 (sz h) 0, upA h.2.2.2.1 (sz h) none, upR h.2.2.2.2.1 (sz h) 0, upR h.2.2.2.2.2.1 (sz h) 0, upR h.2.2.2.2.2.2.1 (sz h) none, sz h + 1, us h + n)
/-- an array's length -/
def ln (h : Hp) (a : Nat) : Nat := match tg h a with
  | some (.inr q) => q.2
  | _ => 0
/-! reading behind writing -/
theorem gi_pi (h : Hp) (f a : Nat) (x : Int32) (g b : Nat) : gi (pi h f a x) g b = if g = f ∧ b = a then x else gi h g b := rfl
theorem gi_pl (h : Hp) (f a : Nat) (x : Int64) : gi (pl h f a x) = gi h := rfl
theorem gi_pr (h : Hp) (f a : Nat) (x : Option Nat) : gi (pr h f a x) = gi h := rfl
theorem gi_si (h : Hp) (f a : Nat) (x : Int32) : gi (si h f a x) = gi h := rfl
theorem gi_sl (h : Hp) (f a : Nat) (x : Int64) : gi (sl h f a x) = gi h := rfl
theorem gi_sq (h : Hp) (f a : Nat) (x : Option Nat) : gi (sq h f a x) = gi h := rfl
theorem gi_nw (h : Hp) (t : Tg) (m : Nat) (g b : Nat) : gi (nw h t m) g b = if b = sz h then 0 else gi h g b := rfl
theorem gl_pi (h : Hp) (f a : Nat) (x : Int32) : gl (pi h f a x) = gl h := rfl
theorem gl_pl (h : Hp) (f a : Nat) (x : Int64) (g b : Nat) : gl (pl h f a x) g b = if g = f ∧ b = a then x else gl h g b := rfl
theorem gl_pr (h : Hp) (f a : Nat) (x : Option Nat) : gl (pr h f a x) = gl h := rfl
theorem gl_si (h : Hp) (f a : Nat) (x : Int32) : gl (si h f a x) = gl h := rfl
theorem gl_sl (h : Hp) (f a : Nat) (x : Int64) : gl (sl h f a x) = gl h := rfl
theorem gl_sq (h : Hp) (f a : Nat) (x : Option Nat) : gl (sq h f a x) = gl h := rfl
theorem gl_nw (h : Hp) (t : Tg) (m : Nat) (g b : Nat) : gl (nw h t m) g b = if b = sz h then 0 else gl h g b := rfl
theorem gr_pi (h : Hp) (f a : Nat) (x : Int32) : gr (pi h f a x) = gr h := rfl
theorem gr_pl (h : Hp) (f a : Nat) (x : Int64) : gr (pl h f a x) = gr h := rfl
theorem gr_pr (h : Hp) (f a : Nat) (x : Option Nat) (g b : Nat) : gr (pr h f a x) g b = if g = f ∧ b = a then x else gr h g b := rfl
theorem gr_si (h : Hp) (f a : Nat) (x : Int32) : gr (si h f a x) = gr h := rfl
theorem gr_sl (h : Hp) (f a : Nat) (x : Int64) : gr (sl h f a x) = gr h := rfl
theorem gr_sq (h : Hp) (f a : Nat) (x : Option Nat) : gr (sq h f a x) = gr h := rfl
theorem gr_nw (h : Hp) (t : Tg) (m : Nat) (g b : Nat) : gr (nw h t m) g b = if b = sz h then none else gr h g b := rfl
theorem ai_pi (h : Hp) (f a : Nat) (x : Int32) : ai (pi h f a x) = ai h := rfl
theorem ai_pl (h : Hp) (f a : Nat) (x : Int64) : ai (pl h f a x) = ai h := rfl
theorem ai_pr (h : Hp) (f a : Nat) (x : Option Nat) : ai (pr h f a x) = ai h := rfl
theorem ai_si (h : Hp) (a j : Nat) (x : Int32) (b i : Nat) : ai (si h a j x) b i = if b = a ∧ i = j then x else ai h b i := rfl
theorem ai_sl (h : Hp) (f a : Nat) (x : Int64) : ai (sl h f a x) = ai h := rfl
theorem ai_sq (h : Hp) (f a : Nat) (x : Option Nat) : ai (sq h f a x) = ai h := rfl
theorem ai_nw (h : Hp) (t : Tg) (m : Nat) (b i : Nat) : ai (nw h t m) b i = if b = sz h then 0 else ai h b i := rfl
theorem al_pi (h : Hp) (f a : Nat) (x : Int32) : al (pi h f a x) = al h := rfl
theorem al_pl (h : Hp) (f a : Nat) (x : Int64) : al (pl h f a x) = al h := rfl
theorem al_pr (h : Hp) (f a : Nat) (x : Option Nat) : al (pr h f a x) = al h := rfl
theorem al_si (h : Hp) (f a : Nat) (x : Int32) : al (si h f a x) = al h := rfl
theorem al_sl (h : Hp) (a j : Nat) (x : Int64) (b i : Nat) : al (sl h a j x) b i = if b = a ∧ i = j then x else al h b i := rfl
theorem al_sq (h : Hp) (f a : Nat) (x : Option Nat) : al (sq h f a x) = al h := rfl
theorem al_nw (h : Hp) (t : Tg) (m : Nat) (b i : Nat) : al (nw h t m) b i = if b = sz h then 0 else al h b i := rfl
theorem aq_pi (h : Hp) (f a : Nat) (x : Int32) : aq (pi h f a x) = aq h := rfl
theorem aq_pl (h : Hp) (f a : Nat) (x : Int64) : aq (pl h f a x) = aq h := rfl
theorem aq_pr (h : Hp) (f a : Nat) (x : Option Nat) : aq (pr h f a x) = aq h := rfl
theorem aq_si (h : Hp) (f a : Nat) (x : Int32) : aq (si h f a x) = aq h := rfl
theorem aq_sl (h : Hp) (f a : Nat) (x : Int64) : aq (sl h f a x) = aq h := rfl
theorem aq_sq (h : Hp) (a j : Nat) (x : Option Nat) (b i : Nat) : aq (sq h a j x) b i = if b = a ∧ i = j then x else aq h b i := rfl
theorem aq_nw (h : Hp) (t : Tg) (m : Nat) (b i : Nat) : aq (nw h t m) b i = if b = sz h then none else aq h b i := rfl
theorem tg_pi (h : Hp) (f a : Nat) (x : Int32) : tg (pi h f a x) = tg h := rfl
theorem tg_pl (h : Hp) (f a : Nat) (x : Int64) : tg (pl h f a x) = tg h := rfl
theorem tg_pr (h : Hp) (f a : Nat) (x : Option Nat) : tg (pr h f a x) = tg h := rfl
theorem tg_si (h : Hp) (f a : Nat) (x : Int32) : tg (si h f a x) = tg h := rfl
theorem tg_sl (h : Hp) (f a : Nat) (x : Int64) : tg (sl h f a x) = tg h := rfl
theorem tg_sq (h : Hp) (f a : Nat) (x : Option Nat) : tg (sq h f a x) = tg h := rfl
theorem tg_nw (h : Hp) (t : Tg) (m : Nat) (b : Nat) : tg (nw h t m) b = if b = sz h then some t else tg h b := rfl
theorem sz_pi (h : Hp) (f a : Nat) (x : Int32) : sz (pi h f a x) = sz h := rfl
theorem sz_pl (h : Hp) (f a : Nat) (x : Int64) : sz (pl h f a x) = sz h := rfl
theorem sz_pr (h : Hp) (f a : Nat) (x : Option Nat) : sz (pr h f a x) = sz h := rfl
theorem sz_si (h : Hp) (f a : Nat) (x : Int32) : sz (si h f a x) = sz h := rfl
theorem sz_sl (h : Hp) (f a : Nat) (x : Int64) : sz (sl h f a x) = sz h := rfl
theorem sz_sq (h : Hp) (f a : Nat) (x : Option Nat) : sz (sq h f a x) = sz h := rfl
theorem us_pi (h : Hp) (f a : Nat) (x : Int32) : us (pi h f a x) = us h := rfl
theorem us_pl (h : Hp) (f a : Nat) (x : Int64) : us (pl h f a x) = us h := rfl
theorem us_pr (h : Hp) (f a : Nat) (x : Option Nat) : us (pr h f a x) = us h := rfl
theorem us_si (h : Hp) (f a : Nat) (x : Int32) : us (si h f a x) = us h := rfl
theorem us_sl (h : Hp) (f a : Nat) (x : Int64) : us (sl h f a x) = us h := rfl
theorem us_sq (h : Hp) (f a : Nat) (x : Option Nat) : us (sq h f a x) = us h := rfl
theorem us_nw (h : Hp) (t : Tg) (m : Nat) : us (nw h t m) = us h + m := rfl
theorem sz_nw (h : Hp) (t : Tg) (m : Nat) : sz (nw h t m) = sz h + 1 := rfl
theorem ln_pi (h : Hp) (f a : Nat) (x : Int32) : ln (pi h f a x) = ln h := rfl
theorem ln_pl (h : Hp) (f a : Nat) (x : Int64) : ln (pl h f a x) = ln h := rfl
theorem ln_pr (h : Hp) (f a : Nat) (x : Option Nat) : ln (pr h f a x) = ln h := rfl
theorem ln_si (h : Hp) (f a : Nat) (x : Int32) : ln (si h f a x) = ln h := rfl
theorem ln_sl (h : Hp) (f a : Nat) (x : Int64) : ln (sl h f a x) = ln h := rfl
theorem ln_sq (h : Hp) (f a : Nat) (x : Option Nat) : ln (sq h f a x) = ln h := rfl
theorem ln_nw (h : Hp) (t : Tg) (m : Nat) {b : Nat} (hb : b ≠ sz h) : ln (nw h t m) b = ln h b := by
  unfold ln
  rw [tg_nw, if_neg hb]
theorem ln_nwS (h : Hp) (t n m : Nat) : ln (nw h (.inr (t, n)) m) (sz h) = n := by
  unfold ln
  rw [tg_nw, if_pos rfl]
/-- every cell that was there is there -/
def tgLe (h h' : Hp) : Prop := ∀ (a : Nat) (x : Tg), tg h a = some x → tg h' a = some x
theorem tgLe.rfl' (h : Hp) : tgLe h h := fun _ _ q => q
theorem tgLe.tr {h h1 h2 : Hp} (a : tgLe h h1) (b : tgLe h1 h2) : tgLe h h2 := fun x y q => b x y (a x y q)
/-- what a reference may be: of class ci, or an array of kind t -/
def tyOk (h : Hp) (x : Option (Nat ⊕ Nat)) (r : Option Nat) : Prop := match x with
  | none => True
  | some (.inl ci) => ∀ b : Nat, r = some b → tg h b = some (.inl ci)
  | some (.inr t) => ∀ b : Nat, r = some b → tg h b = some (.inr (t, ln h b))
theorem tgLe_ln {h h' : Hp} (q : tgLe h h') {b t n : Nat} (e : tg h b = some (.inr (t, n))) : ln h' b = ln h b := by
  unfold ln
  rw [e, q _ _ e]
theorem tyOk.mono {h h' : Hp} {x : Option (Nat ⊕ Nat)} {r : Option Nat} (q : tyOk h x r) (hle : tgLe h h') : tyOk h' x r := by
  rcases x with _ | ci | t
  · trivial
  · exact fun b e => hle b _ (q b e)
  · intro b e
    have e1 := q b e
    rw [tgLe_ln hle e1]
    exact hle b _ e1
theorem tyOk.null {h : Hp} {x : Option (Nat ⊕ Nat)} : tyOk h x none := by
  rcases x with _ | ci | t
  · trivial
  · intro b e; cases e
  · intro b e; cases e
/-! locals: what the machine's slots hold of them -/
def LR (ls : Array Slot) (lv : Lc) : Prop := ls.size = lv.length ∧ lv_wf ls ∧ ∀ (i : Nat) (x : TV), lv[i]? = some (some x) → ls[i]? = some (.val (tv x))
def lvm (lv : Lc) : List (Nat × Value) := (List.range lv.length).filterMap (fun i => match lv[i]? with
  | some (some x) => some (i, tv x)
  | _ => none)
theorem lvm_mem {lv : Lc} {i : Nat} {x : TV} (h : lv[i]? = some (some x)) : (i, tv x) ∈ lvm lv := by
  refine List.mem_filterMap.mpr ⟨i, List.mem_range.mpr (List.getElem?_eq_some_iff.mp h).1, ?_⟩
  rw [h]
theorem lvm_of {lv : Lc} {q : Nat × Value} (h : q ∈ lvm lv) : ∃ x : TV, lv[q.1]? = some (some x) ∧ q.2 = tv x := by
  obtain ⟨i, -, hi⟩ := List.mem_filterMap.mp h
  split at hi
  · rename_i x hx
    cases hi
    exact ⟨x, hx, rfl⟩
  · cases hi
theorem LR.has {ls : Array Slot} {lv : Lc} (h : LR ls lv) : lv_has ls lv.length (lvm lv) := by
  refine ⟨h.1, h.2.1, fun q hq => ?_⟩
  obtain ⟨x, hx, e⟩ := lvm_of hq
  rw [e]
  exact h.2.2 _ _ hx
theorem clr_len (lv : Lc) (i : Nat) : (clr lv i).length = lv.length := by
  unfold clr
  split
  · rfl
  · split
    · rw [List.length_set]
    · rfl
theorem clr_get {lv : Lc} {i k : Nat} {y : TV} (h : (clr lv i)[k]? = some (some y)) : lv[k]? = some (some y) ∧ ¬ (k + 1 = i ∧ tlg y = true) := by
  cases i with
  | zero => exact ⟨h, fun q => by omega⟩
  | succ j =>
    unfold clr at h
    dsimp only at h
    split at h
    · rename_i w hw
      rw [List.getElem?_set] at h
      split at h
      · split at h
        · cases h
        · cases h
      · exact ⟨h, fun q => by omega⟩
    · rename_i hw
      refine ⟨h, fun q => ?_⟩
      have e : k = j := by omega
      subst e
      rcases y with y | y | y
      · cases q.2
      · exact hw y h
      · cases q.2
theorem lvSet_len (lv : Lc) (i : Nat) (x : TV) : (lvSet lv i x).length = lv.length := by
  unfold lvSet
  rw [List.length_set, clr_len]
theorem lvSet2_len (lv : Lc) (i : Nat) (x : TV) : (lvSet2 lv i x).length = lv.length := by
  unfold lvSet2
  rw [List.length_set, List.length_set, clr_len]
theorem LR.set1 {ls' : Array Slot} {lv : Lc} {i : Nat} {x : TV} (h : lv_has ls' lv.length ((i, tv x) :: (lvm lv).filter (fun q => !(q.1 == i) && !(q.1 + 1 == i && q.2.category == 2)))) : LR ls' (lvSet lv i x) := by
  refine ⟨h.1.trans (lvSet_len lv i x).symm, h.2.1, fun k y hk => ?_⟩
  unfold lvSet at hk
  rw [List.getElem?_set] at hk
  split at hk
  · rename_i e
    subst e
    split at hk
    · cases hk
      exact h.2.2 (i, tv x) List.mem_cons_self
    · cases hk
  · rename_i e
    obtain ⟨h1, h2⟩ := clr_get hk
    refine h.2.2 (k, tv y) (List.mem_cons_of_mem _ (List.mem_filter.mpr ⟨lvm_mem h1, ?_⟩))
    rw [tv_cat2]
    have h3 : (k == i) = false := by simpa using Ne.symm e
    rw [h3]
    by_cases h4 : k + 1 = i
    · have h5 : tlg y = false := by
        cases h6 : tlg y with
        | false => rfl
        | true => exact absurd ⟨h4, h6⟩ h2
      simp [h5]
    · have h5 : (k + 1 == i) = false := by simpa using h4
      simp [h5]
theorem LR.set2 {ls' : Array Slot} {lv : Lc} {i : Nat} {x : TV} (h : lv_has ls' lv.length ((i, tv x) :: (lvm lv).filter (fun q => !(q.1 == i) && (!(q.1 == i + 1) && !(q.1 + 1 == i && q.2.category == 2))))) : LR ls' (lvSet2 lv i x) := by
  refine ⟨h.1.trans (lvSet2_len lv i x).symm, h.2.1, fun k y hk => ?_⟩
  unfold lvSet2 at hk
  rw [List.getElem?_set] at hk
  split at hk
  · split at hk
    · cases hk
    · cases hk
  · rename_i e0
    rw [List.getElem?_set] at hk
    split at hk
    · rename_i e
      subst e
      split at hk
      · cases hk
        exact h.2.2 (i, tv x) List.mem_cons_self
      · cases hk
    · rename_i e
      obtain ⟨h1, h2⟩ := clr_get hk
      refine h.2.2 (k, tv y) (List.mem_cons_of_mem _ (List.mem_filter.mpr ⟨lvm_mem h1, ?_⟩))
      rw [tv_cat2]
      have h3 : (k == i) = false := by simpa using Ne.symm e
      have h30 : (k == i + 1) = false := by simpa using Ne.symm e0
      rw [h3, h30]
      by_cases h4 : k + 1 = i
      · have h5 : tlg y = false := by
          cases h6 : tlg y with
          | false => rfl
          | true => exact absurd ⟨h4, h6⟩ h2
        simp [h5]
      · have h5 : (k + 1 == i) = false := by simpa using h4
        simp [h5]
theorem lvA0_len (as : List TV) : (lvA0 as).length = (lg_sl (as.map tv)).length := by
  induction as with
  | nil => rfl
  | cons x xs ih =>
    have e : lg_sl (List.map tv (x :: xs)) = (if (tv x).category = 2 then [Slot.val (tv x), Slot.second] else [Slot.val (tv x)]) ++ lg_sl (List.map tv xs) := rfl
    have e2 : lvA0 (x :: xs) = if tlg x = true then some x :: none :: lvA0 xs else some x :: lvA0 xs := rfl
    rw [e, e2, List.length_append, ← ih, tv_cat]
    cases hx : tlg x with
    | true => simp; omega
    | false => simp; omega
theorem lvA0_mem (as : List TV) : ∀ (off i : Nat) (x : TV), (lvA0 as)[i]? = some (some x) → (off + i, tv x) ∈ lv_args off (as.map tv) := by
  induction as with
  | nil =>
    intro off i x h
    simp [lvA0] at h
  | cons y ys ih =>
    intro off i x h
    have e : lv_args off (List.map tv (y :: ys)) = (off, tv y) :: lv_args (if (tv y).category = 2 then off + 2 else off + 1) (List.map tv ys) := rfl
    rw [e, tv_cat]
    unfold lvA0 at h
    cases hy : tlg y with
    | true =>
      rw [if_pos hy] at h
      rw [if_pos rfl, if_pos rfl]
      match i, h with
      | 0, h =>
        cases h
        exact List.mem_cons_self
      | 1, h => cases h
      | j + 2, h =>
        have h' : (lvA0 ys)[j]? = some (some x) := h
        have := ih (off + 2) j x h'
        rw [show off + (j + 2) = off + 2 + j by omega]
        exact List.mem_cons_of_mem _ this
    | false =>
      rw [if_neg (by rw [hy]; decide)] at h
      try rw [if_neg (by decide)]
      try rw [if_neg (by decide)]
      match i, h with
      | 0, h =>
        cases h
        exact List.mem_cons_self
      | j + 1, h =>
        have h' : (lvA0 ys)[j]? = some (some x) := h
        have := ih (off + 1) j x h'
        rw [show off + (j + 1) = off + 1 + j by omega]
        exact List.mem_cons_of_mem _ this
theorem LR.entry {n : Nat} (as : List TV) (hn : (lvA0 as).length ≤ n) : LR ((lg_sl (as.map tv) ++ List.replicate (n - (lg_sl (as.map tv)).length) Slot.unset).toArray) (lvA n as) := by
  have h := lv_entry (as.map tv) (n := n) (by rw [← lvA0_len]; exact hn)
  refine ⟨h.1.trans ?_, h.2.1, fun i x hi => ?_⟩
  · unfold lvA
    rw [List.length_append, List.length_replicate]
    omega
  · refine h.2.2 (i, tv x) ?_
    have := lvA0_mem as 0 i x ?_
    · rw [Nat.zero_add] at this
      exact this
    · unfold lvA at hi
      by_cases hl : i < (lvA0 as).length
      · rw [List.getElem?_append_left hl] at hi
        exact hi
      · rw [List.getElem?_append_right (by omega), List.getElem?_replicate] at hi
        split at hi
        · cases hi
        · cases hi
