/-! THE RUN, 1: the machine itself, pure -/
abbrev Fm : Type := Nat × Nat × Option Nat
abbrev VV : Type := Nat → Int64
/-- values: how many, which; pages, bytes, globals -/
abbrev Wd : Type := Nat × VV × Nat × (Nat → Int32) × (Nat → Int64)
def upv (v : VV) (n : Nat) (y : Int64) : VV := fun j => if j = n then y else v j
theorem upv_same (v : VV) (n : Nat) (y : Int64) : upv v n y n = y := if_pos rfl
theorem upv_oth (v : VV) {n j : Nat} (y : Int64) (h : j ≠ n) : upv v n y j = v j := if_neg h
/-- k values from s on are put to d on -/
def kp (v : VV) (s d : Nat) : Nat → VV
  | 0 => v
  | k + 1 => upv (kp v s d k) (d + k) (kp v s d k (s + k))
theorem kp_eq (v : VV) {s d : Nat} (h : d ≤ s) : ∀ (k j : Nat), kp v s d k j = if d ≤ j ∧ j < d + k then v (s + (j - d)) else v j := by
  intro k
  induction k with
  | zero =>
    intro j
    rw [if_neg (by omega)]
    rfl
  | succ k ih =>
    intro j
    show upv (kp v s d k) (d + k) (kp v s d k (s + k)) j = _
    by_cases e : j = d + k
    · subst e
      rw [upv_same, ih, if_neg (by omega), if_pos (by omega)]
      congr 1
      omega
    · rw [upv_oth _ _ e, ih]
      by_cases c : d ≤ j ∧ j < d + k
      · rw [if_pos c, if_pos (by omega)]
      · rw [if_neg c, if_neg (by omega)]
/-- to d1 and then to d0 is to d0 -/
theorem kp_kp (v : VV) {s d1 d0 k : Nat} (h1 : d1 ≤ s) (h0 : d0 ≤ d1) {j : Nat} (hj : j < d0 + k) : kp (kp v s d1 k) d1 d0 k j = kp v s d0 k j := by
  rw [kp_eq _ h0, kp_eq _ (Nat.le_trans h0 h1)]
  by_cases c : d0 ≤ j ∧ j < d0 + k
  · rw [if_pos c, if_pos c, kp_eq _ h1, if_pos (by omega)]
    congr 1
    omega
  · rw [if_neg c, if_neg c, kp_eq _ h1, if_neg (by omega)]
/-- k zeros from n on -/
def zr (v : VV) (n : Nat) : Nat → VV
  | 0 => v
  | k + 1 => upv (zr v n k) (n + k) 0
/-- k of the arguments from 0 on -/
def ag (v : VV) (g : VV) : Nat → VV
  | 0 => v
  | k + 1 => upv (ag v g k) k (g k)
def low (y : Int64) : Int64 := y &&& 4294967295
/-- an address -/
def lwN (y : Int64) : Nat := (low y).toNatClampNeg
def ad (y : Int64) (a : Int32) : Nat := lwN y + lwN a.toInt64
def sizeN (o : Int32) : Nat := if o = 41 then 8 else if o = 43 then 8 else if o = 55 then 8 else if o = 57 then 8 else if o = 40 then 4 else if o = 42 then 4 else if o = 52 then 4 else if o = 53 then 4 else if o = 54 then 4 else if o = 56 then 4 else if o = 62 then 4 else if o = 46 then 2 else if o = 47 then 2 else if o = 50 then 2 else if o = 51 then 2 else if o = 59 then 2 else if o = 61 then 2 else 1
def ldV (bb : Nat → Int32) (a : Nat) : Nat → Int64 → Int64
  | 0, y => y
  | k + 1, y => ldV bb a k ((y <<< ((8 : Int32).toInt64 &&& 63)) ||| (bb (a + k)).toInt64)
def stB (bb : Nat → Int32) (a : Nat) (y : Int64) : Nat → Nat → Int32
  | 0 => bb
  | k + 1 => fun j => if j = a + k then ((y >>> ((8 * nI k).toInt64 &&& 63)) &&& 255).toInt32 else stB bb a y k j
def shUp (o : Int32) (y : Int64) : Int64 := (y <<< ((64 - 8 * nI (sizeN o)).toInt64 &&& 63)) >>> ((64 - 8 * nI (sizeN o)).toInt64 &&& 63)
def sgnO (o : Int32) : Bool := decide (43 < o) && decide (o - o / 2 * 2 = 0)
def wid1 (o : Int32) (y : Int64) : Int64 := if sgnO o = true then shUp o y else y
def wid (o : Int32) (y : Int64) : Int64 := if o = 44 ∨ o = 46 then low (wid1 o y) else wid1 o y
def wk2 (o : Int32) (x y : Int64) : Option Int64 :=
  if o = 70 then some (if low x = low y then 1 else 0)
  else if o = 71 then some (if low x = low y then 0 else 1)
  else if o = 72 then some (if x.toInt32 < y.toInt32 then 1 else 0)
  else if o = 73 then some (if low x < low y then 1 else 0)
  else if o = 81 then some (if x = y then 1 else 0)
  else if o = 83 then some (if x < y then 1 else 0)
  else if o = 106 then some (low (low x + low y))
  else if o = 107 then some (low (low x - low y))
  else if o = 108 then some (low (low x * low y))
  else if o = 110 then (if low y = 0 then none else some (low x / low y))
  else if o = 113 then some (low x &&& low y)
  else if o = 116 then some (low (low x <<< (((low y &&& 31).toInt32).toInt64 &&& 63)))
  else if o = 124 then some (x + y)
  else if o = 125 then some (x - y)
  else some (x * y)
/-- an operation that goes on to the next place: a trap's number, or the new values -/
def smp (o a b : Int32) (b0 : Nat) (w : Wd) : Int32 ⊕ Wd := match w with
  | (n, v, p, bb, g) =>
    if o = 1 then .inr (n, v, p, bb, g)
    else if o = 26 then .inr (n - 1, v, p, bb, g)
    else if o = 27 then .inr (n - 2, upv v (n - 3) (if low (v (n - 1)) = 0 then v (n - 2) else v (n - 3)), p, bb, g)
    else if o = 32 then .inr (n + 1, upv v n (v (b0 + nt a)), p, bb, g)
    else if o = 33 then .inr (n - 1, upv v (b0 + nt a) (v (n - 1)), p, bb, g)
    else if o = 34 then .inr (n, upv v (b0 + nt a) (v (n - 1)), p, bb, g)
    else if o = 35 then .inr (n + 1, upv v n (g (nt a)), p, bb, g)
    else if o = 36 then .inr (n - 1, v, p, bb, upv g (nt a) (v (n - 1)))
    else if o < 54 then (if 64 * p < ad (v (n - 1)) a + sizeN o then .inl 4 else .inr (n, upv v (n - 1) (wid o (ldV bb (ad (v (n - 1)) a) (sizeN o) 0)), p, bb, g))
    else if o < 63 then (if 64 * p < ad (v (n - 2)) a + sizeN o then .inl 4 else .inr (n - 2, v, p, stB bb (ad (v (n - 2)) a) (v (n - 1)) (sizeN o), g))
    else if o = 63 then .inr (n + 1, upv v n (nI p).toInt64, p, bb, g)
    else if o = 64 then (if 6 < p + lwN (v (n - 1)) then .inr (n, upv v (n - 1) 4294967295, p, bb, g) else .inr (n, upv v (n - 1) (nI p).toInt64, p + lwN (v (n - 1)), bb, g))
    else if o = 65 then .inr (n + 1, upv v n (low a.toInt64), p, bb, g)
    else if o = 66 then .inr (n + 1, upv v n ((b.toInt64 <<< ((32 : Int32).toInt64 &&& 63)) ||| low a.toInt64), p, bb, g)
    else if o = 69 then .inr (n, upv v (n - 1) (if low (v (n - 1)) = 0 then 1 else 0), p, bb, g)
    else if o = 80 then .inr (n, upv v (n - 1) (if v (n - 1) = 0 then 1 else 0), p, bb, g)
    else if o = 167 ∨ o = 173 then .inr (n, upv v (n - 1) (low (v (n - 1))), p, bb, g)
    else match wk2 o (v (n - 2)) (v (n - 1)) with
      | none => .inl 11
      | some z => .inr (n - 1, upv v (n - 2) z, p, bb, g)
/-! functions and frames -/
def moF (P : List Fn) (f : Nat) : Nat := match P[f]? with
  | none => 0
  | some g => match vk P f g (fC g).length with
    | some v => v.2.2.2
    | none => 0
def askN (P : List Fn) (f : Nat) : Nat := match P[f]? with
  | none => 0
  | some g => fP g + fL g + moF P f
def askF (P : List Fn) : List Fm → Nat
  | [] => 0
  | x :: r => askN P x.1 + askF P r
/-- the frames at their functions' ends go -/
def lvF (P : List Fn) : List Fm → Nat → VV → List Fm × Nat × VV
  | [], n, v => ([], n, v)
  | (f, b, some i) :: r, n, v => ((f, b, some i) :: r, n, v)
  | (f, b, none) :: r, n, v => match P[f]? with
    | none => ([], n, v)
    | some g => lvF P r (b + fR g) (kp v (n - fR g) b (fR g))
def enA (P : List Fn) (f : Nat) (fr : List Fm) (w : Wd) : Int32 ⊕ (List Fm × Wd) := match P[f]? with
  | none => .inl 0
  | some g => if fr.length = 30 ∨ 220 < askF P fr + askN P f then .inl 0 else .inr ((f, w.1 - fP g, settle (fC g) 0) :: fr, (w.1 + fL g, zr w.2.1 w.1 (fL g), w.2.2))
def brA (P : List Fn) (f b0 : Nat) (g : Fn) (i j : Nat) (r : List Fm) (w : Wd) : Int32 ⊕ (List Fm × Wd) := match vk P f g i with
  | none => .inl 0
  | some v => match v.1[j]? with
    | none => .inl 0
    | some lb => .inr ((f, b0, tgt (fC g) (ps (fC g) i)[j]?) :: r, (b0 + (fP g + fL g) + hT lb + wantL lb, kp w.2.1 (w.1 - wantL lb) (b0 + (fP g + fL g) + hT lb) (wantL lb), w.2.2))
def elG (c : List Ic) (i : Nat) : Option Nat := match els c i with
  | none => none
  | some q => settle c (q + 1)
/-- a step, without the frames that go behind it -/
def stA (P : List Fn) (tb : Nat → Option Nat) (f b0 i : Nat) (r : List Fm) (w : Wd) : Int32 ⊕ (List Fm × Wd) := match P[f]? with
  | none => .inl 0
  | some g =>
    if oA (fC g) i = 0 then .inl 1
    else if oA (fC g) i = 4 then .inr ((f, b0, if low (w.2.1 (w.1 - 1)) = 0 then elG (fC g) i else settle (fC g) (i + 1)) :: r, (w.1 - 1, w.2))
    else if oA (fC g) i = 12 then brA P f b0 g i (nt (aA (fC g) i)) r w
    else if oA (fC g) i = 13 then (if low (w.2.1 (w.1 - 1)) = 0 then .inr ((f, b0, settle (fC g) (i + 1)) :: r, (w.1 - 1, w.2)) else brA P f b0 g i (nt (aA (fC g) i)) r (w.1 - 1, w.2))
    else if oA (fC g) i = 14 then brA P f b0 g i (nt (aA (fC g) (i + 1 + min (lwN (w.2.1 (w.1 - 1))) (nt (aA (fC g) i))))) r (w.1 - 1, w.2)
    else if oA (fC g) i = 15 then brA P f b0 g i (ps (fC g) i).length r w
    else if oA (fC g) i = 16 then enA P (nt (aA (fC g) i)) ((f, b0, settle (fC g) (i + 1)) :: r) w
    else if oA (fC g) i = 17 then (if 30 ≤ lwN (w.2.1 (w.1 - 1)) then .inl 6 else match tb (lwN (w.2.1 (w.1 - 1))) with
      | none => .inl 7
      | some f2 => match P[f2]? with
        | none => .inl 7
        | some g2 => if nI (fP g2) = aA (fC g) i ∧ nI (fR g2) = bA (fC g) i then enA P f2 ((f, b0, settle (fC g) (i + 1)) :: r) (w.1 - 1, w.2) else .inl 8)
    else match smp (oA (fC g) i) (aA (fC g) i) (bA (fC g) i) b0 w with
      | .inl x => .inl x
      | .inr w2 => .inr ((f, b0, settle (fC g) (i + 1)) :: r, w2)
/-- state, trap, frames, values and the rest -/
abbrev RS : Type := Int32 × Int32 × List Fm × Wd
def lvS (P : List Fn) (tr : Int32) (fr : List Fm) (w : Wd) : RS := match lvF P fr w.1 w.2.1 with
  | (fr2, n2, v2) => (if fr2 = [] then 2 else 1, tr, fr2, (n2, v2, w.2.2))
def afS (P : List Fn) (tr : Int32) (w : Wd) (x : Int32 ⊕ (List Fm × Wd)) : RS := match x with
  | .inl c => if c = 0 then (4, tr, [], (0, w.2)) else (3, c, [], (0, w.2))
  | .inr y => lvS P tr y.1 y.2
def stS (P : List Fn) (tb : Nat → Option Nat) (s : RS) : RS := match s with
  | (_, tr, (f, b0, some i) :: r, w) => afS P tr w (stA P tb f b0 i r w)
  | s => s
/-- at most k steps: how many were done, and what is then -/
def rnS (P : List Fn) (tb : Nat → Option Nat) : Nat → Nat → RS → Nat × RS
  | 0, d, s => (d, s)
  | k + 1, d, s => if s.1 = 1 then rnS P tb k (d + 1) (stS P tb s) else (d, s)
/-! what holds of the frames -/
/-- all functions are whole -/
def WhP (P : List Fn) : Prop := ∀ f g, P[f]? = some g → Wh (sgs (P.take (f + 1))) (fP g + fL g) (fR g) (fC g) ∧ fP g ≤ 8 ∧ fR g ≤ 8 ∧ fL g ≤ 8
def FrOK (P : List Fn) : Nat → List Fm → Prop
  | _, [] => True
  | n, (f, b, p) :: r => ∃ g, P[f]? = some g ∧ (∃ k, n = b + (fP g + fL g) + k ∧ k ≤ moF P f ∧ (match p with
      | some i => At (sgs (P.take (f + 1))) (fP g + fL g) (fR g) (fC g) i k ∧ isStep (oA (fC g) i)
      | none => k = fR g)) ∧ (r = [] → b = 0) ∧ FrOK P (b + fR g) r
def OKR (P : List Fn) (fr : List Fm) (w : Wd) : Prop := FrOK P w.1 fr ∧ fr ≠ [] ∧ fr.length ≤ 30 ∧ askF P fr ≤ 220 ∧ 1 ≤ w.2.2.1 ∧ w.2.2.1 ≤ 6
/-- what holds of a state between steps -/
def OKS (P : List Fn) (s : RS) : Prop := 1 ≤ s.2.2.2.2.2.1 ∧ s.2.2.2.2.2.1 ≤ 6 ∧ (s.1 = 1 → OKR P s.2.2.1 s.2.2.2 ∧ ∃ f b i r, s.2.2.1 = (f, b, some i) :: r) ∧ (s.1 = 2 → s.2.2.2.1 ≤ 8)
theorem moF_some {P : List Fn} {f : Nat} {g : Fn} {v : VS} (hg : P[f]? = some g) (hv : vk P f g (fC g).length = some v) : moF P f = v.2.2.2 := by
  unfold moF
  rw [hg]
  dsimp only
  rw [hv]
theorem askN_some {P : List Fn} {f : Nat} {g : Fn} (hg : P[f]? = some g) : askN P f = fP g + fL g + moF P f := by
  unfold askN
  rw [hg]
section RK
variable {P : List Fn} {f : Nat} {g : Fn}
/-- at a place that can be reached there are at most the most operands -/
theorem At.most (hW : WhP P) (hg : P[f]? = some g) {i k : Nat} (h : At (sgs (P.take (f + 1))) (fP g + fL g) (fR g) (fC g) i k) : k ≤ moF P f := by
  have hw := (hW f g hg).1
  have hi := h.lt hw
  obtain ⟨v, hv, -, -, hk, -⟩ := h
  obtain ⟨u, hu, -, -⟩ := hw
  have h1 := vat_most hv
  have h2 := vat_most_le (Nat.le_of_lt hi) hv hu
  rw [moF_some hg hu]
  omega
/-- how many values there are -/
theorem FrOK.bound : ∀ {n : Nat} {fr : List Fm}, FrOK P n fr → fr ≠ [] → n ≤ askF P fr := by
  intro n fr
  induction fr generalizing n with
  | nil => intro _ h; exact absurd rfl h
  | cons x r ih =>
    intro h _
    obtain ⟨f, b, p⟩ := x
    obtain ⟨g, hg, ⟨k, hn, hk, -⟩, hb, hr⟩ := h
    show n ≤ askN P f + askF P r
    rw [askN_some hg]
    by_cases e : r = []
    · have := hb e
      omega
    · have := ih hr e
      omega
theorem FrOK.base : ∀ {n : Nat} {b : Nat} {p : Option Nat} {r : List Fm}, FrOK P n ((f, b, p) :: r) → b ≤ askF P r := by
  intro n b p r h
  obtain ⟨g, hg, -, hb, hr⟩ := h
  by_cases e : r = []
  · rw [hb e]; exact Nat.zero_le _
  · have := hr.bound e
    omega
/-- a place that can be reached, settled -/
theorem At.stp (hW : WhP P) (hg : P[f]? = some g) {i k : Nat} (h : At (sgs (P.take (f + 1))) (fP g + fL g) (fR g) (fC g) i k) : k ≤ moF P f ∧ (match settle (fC g) i with
      | some i => At (sgs (P.take (f + 1))) (fP g + fL g) (fR g) (fC g) i k ∧ isStep (oA (fC g) i)
      | none => k = fR g) := by
  refine ⟨h.most hW hg, ?_⟩
  rcases h.stle (hW f g hg).1 _ i k (Nat.le_refl _) with ⟨j, e, -, h1, h2⟩ | ⟨e, h1⟩
  · rw [e]; exact ⟨h1, h2⟩
  · rw [e]; exact h1
theorem lvF_ok : ∀ {fr : List Fm} {n : Nat} {v : VV}, FrOK P n fr → fr.length ≤ 30 → askF P fr ≤ 220 → fr ≠ [] → FrOK P (lvF P fr n v).2.1 (lvF P fr n v).1 ∧ (lvF P fr n v).1.length ≤ 30 ∧ askF P (lvF P fr n v).1 ≤ 220 ∧ ((lvF P fr n v).1 = [] ∨ ∃ f b i r, (lvF P fr n v).1 = (f, b, some i) :: r) ∧ ((lvF P fr n v).1 = [] → ∃ (f : Nat) (g : Fn), P[f]? = some g ∧ (lvF P fr n v).2.1 = fR g) := by
  intro fr
  induction fr with
  | nil => intro n v _ _ _ h; exact absurd rfl h
  | cons x r ih =>
    intro n v h h30 ha _
    obtain ⟨f, b, p⟩ := x
    cases p with
    | some i => exact ⟨h, h30, ha, Or.inr ⟨f, b, i, r, rfl⟩, fun e => by cases e⟩
    | none =>
      obtain ⟨g, hg, ⟨k, hn, hk, hp⟩, hb, hr⟩ := h
      have e : lvF P ((f, b, none) :: r) n v = lvF P r (b + fR g) (kp v (n - fR g) b (fR g)) := by
        show (match P[f]? with
          | none => _
          | some g => _) = _
        rw [hg]
      rw [e]
      have ha2 : askN P f + askF P r ≤ 220 := ha
      by_cases er : r = []
      · subst er
        have hb0 := hb rfl
        exact ⟨trivial, by show 0 ≤ 30; omega, by show 0 ≤ 220; omega, Or.inl rfl, fun _ => ⟨f, g, hg, by show b + fR g = fR g; omega⟩⟩
      · exact ih hr (by simp at h30; omega) (by omega) er
end RK
