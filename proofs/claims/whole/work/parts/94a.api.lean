/-! THE CALLS, pure -/
/-- whole functions; the one that is written; arguments; table; the machine; steps -/
abbrev Ab : Type := List Fn × Option Fn × Nat × VV × (Nat → Option Nat) × RS × Int32
def fnD (P : List Fn) (D : Option Fn) : List Fn := match D with
  | none => P
  | some d => P ++ [d]
def aFun (x : Ab) (p r l : Int32) : TV × Ab := match x with
  | (P, D, ac, ar, tb, s, st) => if D.isSome = true ∨ P.length = 40 ∨ ¬ (wi p 8 ∧ wi r 8 ∧ wi l 8) then (tI (-1), (P, D, ac, ar, tb, s, st)) else (tI (nI P.length), (P, some ((nt p, nt r, nt l), []), ac, ar, tb, s, st))
def aCode (x : Ab) (o a b : Int32) : TV × Ab := match x with
  | (P, D, ac, ar, tb, s, st) => match D with
    | none => (tI (-1), (P, D, ac, ar, tb, s, st))
    | some d => if totL (P ++ [d]) = 1500 then (tI (-1), (P, D, ac, ar, tb, s, st)) else match vk (P ++ [d]) P.length d (fC d).length with
      | none => (tI (-1), (P, D, ac, ar, tb, s, st))
      | some v => match vstep (sgs (P ++ [d])) (fP d + fL d) v (o, a, b) with
        | none => (tI (-1), (P, D, ac, ar, tb, s, st))
        | some v' => (tI (nI (totL (P ++ [d]) + 1)), if v'.1 = [] then (P ++ [(d.1, fC d ++ [(o, a, b)])], none, ac, ar, tb, s, st) else (P, some (d.1, fC d ++ [(o, a, b)]), ac, ar, tb, s, st))
def aDrop (x : Ab) : TV × Ab := match x with
  | (P, D, ac, ar, tb, s, st) => match D with
    | none => (tI 0, (P, D, ac, ar, tb, s, st))
    | some _ => (tI 1, (P, none, ac, ar, tb, s, st))
def aEntry (x : Ab) (k f : Int32) : TV × Ab := match x with
  | (P, D, ac, ar, tb, s, st) => if wi k 29 ∧ (f = -1 ∨ (¬ f < 0 ∧ nt f < P.length)) then (tI 1, (P, D, ac, ar, (fun j => if j = nt k then (if f = -1 then none else some (nt f)) else tb j), s, st)) else (tI 0, (P, D, ac, ar, tb, s, st))
def aArg (x : Ab) (y : Int64) : TV × Ab := match x with
  | (P, D, ac, ar, tb, s, st) => if ac = 8 then (tI (-1), (P, D, ac, ar, tb, s, st)) else (tI (nI (ac + 1)), (P, D, ac + 1, upv ar ac y, tb, s, st))
def clS (P : List Fn) (f ac : Nat) (ar : VV) (s : RS) : RS := afS P s.2.1 (ac, ag s.2.2.2.2.1 ar ac, s.2.2.2.2.2) (enA P f [] (ac, ag s.2.2.2.2.1 ar ac, s.2.2.2.2.2))
def aCall (x : Ab) (f : Int32) : TV × Ab := match x with
  | (P, D, ac, ar, tb, s, st) => if f < 0 then (tI 0, (P, D, ac, ar, tb, s, st)) else match P[nt f]? with
    | none => (tI 0, (P, D, ac, ar, tb, s, st))
    | some g => if ac = fP g then (tI 1, (P, D, 0, ar, tb, clS P (nt f) ac ar s, 0)) else (tI 0, (P, D, ac, ar, tb, s, st))
def aRun (x : Ab) (n : Int32) : TV × Ab := match x with
  | (P, D, ac, ar, tb, s, st) => if wi n 2000 then (tI (nI (rnS P tb (nt n) 0 s).1), (P, D, ac, ar, tb, (rnS P tb (nt n) 0 s).2, st + nI (rnS P tb (nt n) 0 s).1)) else (tI (-1), (P, D, ac, ar, tb, s, st))
def labD (P : List Fn) (D : Option Fn) : Option (List Lb) := match D with
  | none => none
  | some d => match vk (P ++ [d]) P.length d (fC d).length with
    | none => none
    | some v => some v.1
def aState (x : Ab) (k : Int32) : TV := match x with
  | (P, D, _, _, _, s, st) =>
    if k = 0 then tI s.1 else if k = 1 then tI s.2.1
    else if k = 2 then tI (if s.1 = 1 then nI s.2.2.1.length else 0)
    else if k = 3 then tI (if s.1 = 1 then nI s.2.2.2.1 else 0)
    else if k = 4 then tI st
    else if k = 5 then tI (nI (fnD P D).length)
    else if k = 6 then tI (nI (totL (fnD P D)))
    else if k = 7 then tI (match labD P D with
      | none => 0
      | some ls => nI ls.length)
    else if k = 8 then tI (match labD P D with
      | some (l :: _) => nI (oW l)
      | _ => 0)
    else if k = 9 then tI (match labD P D with
      | some (l :: _) => if dD l = true then 1 else 0
      | _ => 0)
    else if k = 10 then tI (nI s.2.2.2.2.2.1) else tI (-1)
def aRes (x : Ab) (k : Int32) : TV := match x with
  | (_, _, _, _, _, s, _) => tL (if s.1 = 2 ∧ ¬ k < 0 ∧ nt k < s.2.2.2.1 then s.2.2.2.2.1 (nt k) else 0)
def aGlob (x : Ab) (k : Int32) : TV := match x with
  | (_, _, _, _, _, s, _) => tL (if wi k 7 then s.2.2.2.2.2.2.2 (nt k) else 0)
def aMem (x : Ab) (k : Int32) : TV := match x with
  | (_, _, _, _, _, s, _) => tI (if ¬ k < 0 ∧ nt k < 64 * s.2.2.2.2.2.1 then s.2.2.2.2.2.2.1 (nt k) else -1)
def aLook (x : Ab) (f k : Int32) : TV := match x with
  | (P, _, _, _, _, _, _) => if f < 0 then tI (-1) else match P[nt f]? with
    | none => tI (-1)
    | some g => tI (if k = 0 then nI (fP g) else if k = 1 then nI (fR g) else if k = 2 then nI (fL g) else if k = 3 then nI (moF P (nt f)) else -1)
/-! what holds between calls -/
def IVd (P : List Fn) (D : Option Fn) : Prop := match D with
  | none => P.length ≤ 40
  | some d => P.length < 40 ∧ (fP d ≤ 8 ∧ fR d ≤ 8 ∧ fL d ≤ 8) ∧ ∃ v, vk (P ++ [d]) P.length d (fC d).length = some v ∧ v.1 ≠ []
def IV (x : Ab) : Prop := match x with
  | (P, D, ac, _, tb, s, _) => WhP P ∧ IVd P D ∧ totL (fnD P D) ≤ 1500 ∧ ac ≤ 8 ∧ (∀ j f2, tb j = some f2 → f2 < P.length) ∧ OKS P s
section AP
variable {P : List Fn} {d : Fn}
theorem moF_app {f : Nat} (hf : f < P.length) : moF (P ++ [d]) f = moF P f := by
  unfold moF
  rw [List.getElem?_append_left hf]
  cases hg : P[f]? with
  | none => rfl
  | some g =>
    dsimp only
    rw [vk_pre hf]
theorem askN_app {f : Nat} (hf : f < P.length) : askN (P ++ [d]) f = askN P f := by
  unfold askN
  rw [List.getElem?_append_left hf, moF_app hf]
theorem take_app {f : Nat} (hf : f < P.length) : (P ++ [d]).take (f + 1) = P.take (f + 1) := List.take_append_of_le_length (by omega)
theorem lt_of_get {f : Nat} {g : Fn} (h : P[f]? = some g) : f < P.length := (List.getElem?_eq_some_iff.mp h).1
theorem FrOK.app : ∀ {fr : List Fm} {n : Nat}, FrOK P n fr → FrOK (P ++ [d]) n fr ∧ askF (P ++ [d]) fr = askF P fr ∧ ∀ x ∈ fr, x.1 < P.length := by
  intro fr
  induction fr with
  | nil => intro n _; exact ⟨trivial, rfl, fun x hx => by cases hx⟩
  | cons y r ih =>
    intro n h
    obtain ⟨f, b, p⟩ := y
    obtain ⟨g, hg, ⟨k, h1, h2, h3⟩, h4, h5⟩ := h
    have hf := lt_of_get hg
    obtain ⟨i1, i2, i3⟩ := ih h5
    refine ⟨⟨g, by rw [List.getElem?_append_left hf]; exact hg, ⟨k, h1, by rw [moF_app hf]; exact h2, ?_⟩, h4, i1⟩, ?_, fun x hx => ?_⟩
    · cases p with
      | none => exact h3
      | some i =>
        rw [take_app hf]
        exact h3
    · show askN (P ++ [d]) f + askF (P ++ [d]) r = askN P f + askF P r
      rw [askN_app hf, i2]
    · rcases List.mem_cons.mp hx with e | hx
      · rw [e]; exact hf
      · exact i3 x hx
theorem OKS.app {s : RS} (h : OKS P s) : OKS (P ++ [d]) s := by
  obtain ⟨h1, h2, h3, h4⟩ := h
  refine ⟨h1, h2, fun e => ?_, h4⟩
  obtain ⟨⟨o1, o2, o3, o4, o5⟩, o6⟩ := h3 e
  obtain ⟨a1, a2, -⟩ := o1.app (d := d)
  exact ⟨⟨a1, o2, o3, by rw [a2]; exact o4, o5⟩, o6⟩
theorem WhP.app (h : WhP P) (hd : Wh (sgs (P ++ [d])) (fP d + fL d) (fR d) (fC d)) (h8 : fP d ≤ 8 ∧ fR d ≤ 8 ∧ fL d ≤ 8) : WhP (P ++ [d]) := by
  intro f g hg
  rcases snoc_cases hg with ⟨hk, hg⟩ | ⟨rfl, rfl⟩
  · rw [take_app hk]
    exact h f g hg
  · rw [List.take_of_length_le (by simp)]
    exact ⟨hd, h8⟩
theorem iv_fun {x : Ab} (h : IV x) (p r l : Int32) : IV (aFun x p r l).2 := by
  obtain ⟨P, D, ac, ar, tb, s, st⟩ := x
  unfold aFun
  dsimp only
  split
  · exact h
  · rename_i hc
    obtain ⟨h1, h2, h3, h4, h5, h6⟩ := h
    have hD : D = none := by
      cases D with
      | none => rfl
      | some d => exact absurd (Or.inl rfl) hc
    subst hD
    have h40 : ¬ P.length = 40 := fun z => hc (Or.inr (Or.inl z))
    have hw : wi p 8 ∧ wi r 8 ∧ wi l 8 := Classical.byContradiction fun z => hc (Or.inr (Or.inr z))
    have b1 := ((wi_nI (d := 8) (by decide)).mp hw.1).2
    have b2 := ((wi_nI (d := 8) (by decide)).mp hw.2.1).2
    have b3 := ((wi_nI (d := 8) (by decide)).mp hw.2.2).2
    have h2 : P.length ≤ 40 := h2
    refine ⟨h1, ⟨by omega, ⟨b1, b2, b3⟩, _, rfl, List.cons_ne_nil _ _⟩, ?_, h4, h5, h6⟩
    show totL (P ++ [((nt p, nt r, nt l), [])]) ≤ 1500
    rw [totL_snoc]
    exact h3
theorem vk_snoc (P : List Fn) (s : Nat × Nat × Nat) (c : List Ic) (x : Ic) {v v' : VS} (hv : vk (P ++ [(s, c)]) P.length (s, c) c.length = some v) (hs : vstep (sgs (P ++ [(s, c)])) (s.1 + s.2.2) v x = some v') : vk (P ++ [(s, c ++ [x])]) P.length (s, c ++ [x]) (c ++ [x]).length = some v' := by
  rw [vk_last] at hv ⊢
  rw [sgs_snoc P s (c ++ [x]) c]
  have hv : vat (sgs (P ++ [(s, c)])) (s.1 + s.2.2) s.2.1 c c.length = some v := hv
  show vat (sgs (P ++ [(s, c)])) (s.1 + s.2.2) s.2.1 (c ++ [x]) (c ++ [x]).length = some v'
  rw [List.length_append]
  show vat (sgs (P ++ [(s, c)])) (s.1 + s.2.2) s.2.1 (c ++ [x]) (c.length + 1) = some v'
  unfold vat
  rw [vat_app (Nat.le_refl _), hv]
  dsimp only
  rw [List.getElem?_append_right (Nat.le_refl _)]
  simp [hs]
theorem vstep_end0 {sg : List (Nat × Nat)} {nm : Nat} {v v' : VS} {x : Ic} (h : vstep sg nm v x = some v') (he : v'.1 = []) : v'.2.1 = 0 := by
  rcases vstep_shape h with ⟨-, l, r, -, -, -, -, e⟩ | ⟨hb, h11, -⟩ | ⟨-, -, l, r, l', -, e, -⟩
  · rw [he] at e; cases e
  · exact (vstep_ctl h (by rw [h11]; decide) (by rw [h11]; decide)).2.2
  · rw [he] at e; cases e
theorem iv_code {x : Ab} (h : IV x) (o a b : Int32) : IV (aCode x o a b).2 := by
  obtain ⟨P, D, ac, ar, tb, s, st⟩ := x
  cases D with
  | none => exact h
  | some d =>
    obtain ⟨sg, c⟩ := d
    have h0 := h
    obtain ⟨h1, ⟨g1, g2, v, g3, g4⟩, h3, h4, h5, h6⟩ := h
    unfold aCode
    dsimp only
    by_cases ct : totL (P ++ [(sg, c)]) = 1500
    · rw [if_pos ct]; exact h0
    rw [if_neg ct, g3]
    dsimp only
    cases hs : vstep (sgs (P ++ [(sg, c)])) (fP (sg, c) + fL (sg, c)) v (o, a, b) with
    | none => exact h0
    | some v' =>
      dsimp only
      have hv' := vk_snoc P sg c (o, a, b) g3 hs
      have h3 : totL (P ++ [(sg, c)]) ≤ 1500 := h3
      have ht : totL (P ++ [(sg, c ++ [(o, a, b)])]) ≤ 1500 := by
        rw [totL_snoc] at ct h3 ⊢
        have e1 : (fC (sg, c)).length = c.length := rfl
        have e2 : (fC (sg, c ++ [(o, a, b)])).length = c.length + 1 := by
          show (c ++ [(o, a, b)]).length = _
          simp
        omega
      split
      · rename_i he
        refine ⟨h1.app ⟨v', ?_, he, vstep_end0 hs he⟩ g2, by show (P ++ _).length ≤ 40; simp; omega, ht, h4, fun j f2 e => ?_, h6.app⟩
        · rw [vk_last] at hv'
          exact hv'
        · have := h5 j f2 e
          simp
          omega
      · rename_i he
        exact ⟨h1, ⟨g1, g2, v', hv', he⟩, ht, h4, h5, h6⟩
theorem iv_drop {x : Ab} (h : IV x) : IV (aDrop x).2 := by
  obtain ⟨P, D, ac, ar, tb, s, st⟩ := x
  cases D with
  | none => exact h
  | some d =>
    obtain ⟨h1, ⟨g1, -⟩, h3, h4, h5, h6⟩ := h
    refine ⟨h1, by show P.length ≤ 40; omega, ?_, h4, h5, h6⟩
    have h3 : totL (P ++ [d]) ≤ 1500 := h3
    rw [totL_snoc] at h3
    show totL P ≤ 1500
    omega
theorem iv_entry {x : Ab} (h : IV x) (k f : Int32) : IV (aEntry x k f).2 := by
  obtain ⟨P, D, ac, ar, tb, s, st⟩ := x
  unfold aEntry
  dsimp only
  split
  · rename_i hc
    obtain ⟨h1, h2, h3, h4, h5, h6⟩ := h
    refine ⟨h1, h2, h3, h4, fun j f2 e => ?_, h6⟩
    dsimp only at e
    split at e
    · split at e
      · cases e
      · rename_i hf
        cases e
        exact (hc.2.resolve_left hf).2
    · exact h5 j f2 e
  · exact h
theorem iv_arg {x : Ab} (h : IV x) (y : Int64) : IV (aArg x y).2 := by
  obtain ⟨P, D, ac, ar, tb, s, st⟩ := x
  unfold aArg
  dsimp only
  split
  · exact h
  · rename_i hc
    obtain ⟨h1, h2, h3, h4, h5, h6⟩ := h
    exact ⟨h1, h2, h3, by omega, h5, h6⟩
theorem cl_ok (hW : WhP P) {f ac : Nat} {g : Fn} {w : Wd} (hg : P[f]? = some g) (hac : w.1 = fP g) (hpg : 1 ≤ w.2.2.1 ∧ w.2.2.1 ≤ 6) : ∀ y, enA P f [] w = .inr y → OKR P y.1 y.2 := by
  intro y he
  unfold enA at he
  rw [hg] at he
  dsimp only at he
  split at he
  · cases he
  · rename_i hc
    cases he
    have hz := (At.zero (sg := sgs (P.take (f + 1))) (nm := fP g + fL g) (r := fR g) (c := fC g)).stp hW hg
    refine ⟨⟨g, hg, ⟨0, by dsimp only; omega, hz⟩, fun _ => by omega, trivial⟩, List.cons_ne_nil _ _, by show 1 ≤ 30; omega, ?_, hpg⟩
    show askN P f + 0 ≤ 220
    have : ¬ 220 < askF P [] + askN P f := fun z => hc (Or.inr z)
    have e : askF P [] = 0 := rfl
    omega
theorem iv_call {x : Ab} (h : IV x) (f : Int32) : IV (aCall x f).2 := by
  obtain ⟨P, D, ac, ar, tb, s, st⟩ := x
  unfold aCall
  dsimp only
  split
  · exact h
  · split
    · exact h
    · rename_i g hg
      split
      · rename_i hac
        obtain ⟨h1, h2, h3, h4, h5, h6⟩ := h
        exact ⟨h1, h2, h3, Nat.zero_le _, h5, afS_ok h1 ⟨h6.1, h6.2.1⟩ (cl_ok (ac := ac) h1 hg hac ⟨h6.1, h6.2.1⟩)⟩
      · exact h
theorem rn_ok {tb : Nat → Option Nat} (hW : WhP P) (hT : ∀ j f2, tb j = some f2 → f2 < P.length) : ∀ (k d : Nat) (s : RS), OKS P s → OKS P (rnS P tb k d s).2 := by
  intro k
  induction k with
  | zero => intro d s h; exact h
  | succ k ih =>
    intro d s h
    unfold rnS
    split
    · rename_i h1
      exact ih _ _ (stS_ok hW hT h h1)
    · exact h
theorem iv_run {x : Ab} (h : IV x) (n : Int32) : IV (aRun x n).2 := by
  obtain ⟨P, D, ac, ar, tb, s, st⟩ := x
  unfold aRun
  dsimp only
  split
  · obtain ⟨h1, h2, h3, h4, h5, h6⟩ := h
    exact ⟨h1, h2, h3, h4, h5, rn_ok h1 h5 _ _ _ h6⟩
  · exact h
end AP
