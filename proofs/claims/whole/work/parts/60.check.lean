/-! THE PURE PART, 1: code, labels, the checker -/
abbrev Ic : Type := Int32 × Int32 × Int32
def oA (c : List Ic) (i : Nat) : Int32 := match c[i]? with
  | some x => x.1
  | none => 0
def aA (c : List Ic) (i : Nat) : Int32 := match c[i]? with
  | some x => x.2.1
  | none => 0
def bA (c : List Ic) (i : Nat) : Int32 := match c[i]? with
  | some x => x.2.2
  | none => 0
def nt (a : Int32) : Nat := a.toNatClampNeg
/-- begins a label -/
def isBg (o : Int32) : Bool := decide (o = 2) || (decide (o = 3) || decide (o = 4))
/-- the places of the labels that are open ahead of place i (without the function's own), the innermost first -/
def ps (c : List Ic) : Nat → List Nat
  | 0 => []
  | i + 1 => if isBg (oA c i) = true then i :: ps c i else if oA c i = 11 then (ps c i).tail else ps c i
/-- a label: by, takes, gives, height, own, dead -/
abbrev Lb : Type := Nat × Nat × Nat × Nat × Nat × Bool
def bY (l : Lb) : Nat := l.1
def tK (l : Lb) : Nat := l.2.1
def gV (l : Lb) : Nat := l.2.2.1
def hT (l : Lb) : Nat := l.2.2.2.1
def oW (l : Lb) : Nat := l.2.2.2.2.1
def dD (l : Lb) : Bool := l.2.2.2.2.2
def sOw (l : Lb) (n : Nat) : Lb := (l.1, l.2.1, l.2.2.1, l.2.2.2.1, n, l.2.2.2.2.2)
def sDie (l : Lb) : Lb := (l.1, l.2.1, l.2.2.1, l.2.2.2.1, 0, true)
def hasB (l : Lb) (n : Nat) : Bool := decide (n ≤ oW l) || dD l
def turnV (ls : List Lb) (t p : Nat) : Option (List Lb) := match ls with
  | [] => none
  | l :: r => if hasB l t = true then some (sOw l (oW l - t + p) :: r) else none
def endsV (ls : List Lb) (t : Nat) : Option (List Lb) := match ls with
  | [] => none
  | l :: r => if hasB l t = true then some (sDie l :: r) else none
def wantL (l : Lb) : Nat := if bY l = 3 then tK l else gV l
def doneB (l : Lb) : Bool := decide (oW l = gV l) || (dD l && decide (oW l < gV l))
def blkN (o : Int32) (a : Nat) : Nat := if o = 4 then 1 + a else a
def blockV (ls : List Lb) (o : Int32) (a b : Nat) : Option (List Lb) := match ls with
  | [] => none
  | l :: r => if hasB l (blkN o a) = true then some ((nt o, a, b, hT l + (oW l - blkN o a), a, false) :: sOw l (oW l - blkN o a) :: r) else none
def elseV (ls : List Lb) : Option (List Lb) := match ls with
  | [] => none
  | l :: r => if bY l = 4 ∧ doneB l = true then some ((5, tK l, gV l, hT l, tK l, false) :: r) else none
def bump (ls : List Lb) (n : Nat) : List Lb := match ls with
  | [] => []
  | l :: r => sOw l (oW l + n) :: r
def endV (ls : List Lb) : Option (List Lb) := match ls with
  | [] => none
  | l :: r => if doneB l = true ∧ ¬ (bY l = 4 ∧ ¬ tK l = gV l) then some (bump r (gV l)) else none
abbrev wi (a k : Int32) : Prop := ¬ a < 0 ∧ ¬ k < a
def labAt (ls : List Lb) (a : Int32) : Option Lb := if a < 0 then none else ls[nt a]?
def lastG (ls : List Lb) : Nat := match ls.getLast? with
  | some l => gV l
  | none => 0
/-- how many operands a plain operation takes and puts; nm: the names of the function -/
def arP (o a : Int32) (nm : Nat) : Option (Nat × Nat) :=
  if o = 26 then some (1, 0) else if o = 27 then some (3, 1)
  else if o = 32 then (if a < 0 ∨ nm ≤ nt a then none else some (0, 1))
  else if o = 33 then (if a < 0 ∨ nm ≤ nt a then none else some (1, 0))
  else if o = 34 then (if a < 0 ∨ nm ≤ nt a then none else some (1, 1))
  else if o = 35 then (if wi a 7 then some (0, 1) else none)
  else if o = 36 then (if wi a 7 then some (1, 0) else none)
  else if o = 63 ∨ o = 65 ∨ o = 66 then some (0, 1)
  else if o = 64 ∨ o = 69 ∨ o = 80 ∨ o = 167 ∨ o = 173 then some (1, 1)
  else if o = 70 ∨ o = 71 ∨ o = 72 ∨ o = 73 ∨ o = 81 ∨ o = 83 ∨ o = 106 ∨ o = 107 ∨ o = 108 ∨ o = 110 ∨ o = 113 ∨ o = 116 ∨ o = 124 ∨ o = 125 ∨ o = 126 then some (2, 1)
  else if ¬ o < 40 ∧ o < 54 then some (1, 1)
  else if ¬ o < 54 ∧ o < 63 then some (2, 0)
  else none
def vctl (sg : List (Nat × Nat)) (nm : Nat) (ls : List Lb) (o a b : Int32) : Option (List Lb) :=
  if o = 0 then endsV ls 0
  else if o = 1 then turnV ls 0 0
  else if isBg o = true then (if wi a 4 ∧ wi b 4 then blockV ls o (nt a) (nt b) else none)
  else if o = 5 then elseV ls
  else if o = 11 then endV ls
  else if o = 12 then (match labAt ls a with
    | some l => endsV ls (wantL l)
    | none => none)
  else if o = 13 then (match labAt ls a with
    | some l => turnV ls (1 + wantL l) (wantL l)
    | none => none)
  else if o = 15 then endsV ls (lastG ls)
  else if o = 16 then (if a < 0 then none else match sg[nt a]? with
    | some s => turnV ls s.1 s.2
    | none => none)
  else if o = 17 then (if wi a 8 ∧ wi b 8 then turnV ls (1 + nt a) (nt b) else none)
  else match arP o a nm with
    | some q => turnV ls q.1 q.2
    | none => none
/-- labels, entries that are due, what they want, the most operands so far -/
abbrev VS : Type := List Lb × Nat × Option Nat × Nat
def mstV (ls : List Lb) (ms : Nat) : Nat := match ls with
  | [] => ms
  | l :: _ => if ms < hT l + oW l then hT l + oW l else ms
def okE (w : Option Nat) (l t : Lb) : Bool := match w with
  | none => hasB l (wantL t)
  | some n => decide (wantL t = n)
def entV (v : VS) (a : Int32) : Option VS := match labAt v.1 a with
  | none => none
  | some t => match v.1 with
    | [] => none
    | l :: r => if okE v.2.2.1 l t = true then (if v.2.1 = 1 then some (sDie l :: r, 0, some (wantL t), mstV (sDie l :: r) v.2.2.2) else some (l :: r, v.2.1 - 1, some (wantL t), mstV (l :: r) v.2.2.2)) else none
def vstep (sg : List (Nat × Nat)) (nm : Nat) (v : VS) (x : Ic) : Option VS :=
  if 0 < v.2.1 then (if x.1 = 6 then entV v x.2.1 else none)
  else if x.1 = 6 then none
  else if x.1 = 14 then (if wi x.2.1 20 then (match turnV v.1 1 0 with
    | some ls => some (ls, nt x.2.1 + 1, none, mstV ls v.2.2.2)
    | none => none) else none)
  else match vctl sg nm v.1 x.1 x.2.1 x.2.2 with
    | some ls => some (ls, 0, v.2.2.1, mstV ls v.2.2.2)
    | none => none
def vat (sg : List (Nat × Nat)) (nm r : Nat) (c : List Ic) : Nat → Option VS
  | 0 => some ([(0, 0, r, 0, 0, false)], 0, none, 0)
  | i + 1 => match vat sg nm r c i with
    | none => none
    | some v => match c[i]? with
      | none => none
      | some x => vstep sg nm v x
/-! what a step of the checker does to the labels -/
theorem turnV_inv {ls ls' : List Lb} {t p : Nat} (h : turnV ls t p = some ls') : ∃ l r, ls = l :: r ∧ hasB l t = true ∧ ls' = sOw l (oW l - t + p) :: r := by
  unfold turnV at h
  split at h
  · cases h
  · split at h
    · rename_i l r hh
      cases h
      exact ⟨l, r, rfl, hh, rfl⟩
    · cases h
theorem endsV_inv {ls ls' : List Lb} {t : Nat} (h : endsV ls t = some ls') : ∃ l r, ls = l :: r ∧ hasB l t = true ∧ ls' = sDie l :: r := by
  unfold endsV at h
  split at h
  · cases h
  · split at h
    · rename_i l r hh
      cases h
      exact ⟨l, r, rfl, hh, rfl⟩
    · cases h
theorem blockV_inv {ls ls' : List Lb} {o : Int32} {a b : Nat} (h : blockV ls o a b = some ls') : ∃ l r, ls = l :: r ∧ hasB l (blkN o a) = true ∧ ls' = (nt o, a, b, hT l + (oW l - blkN o a), a, false) :: sOw l (oW l - blkN o a) :: r := by
  unfold blockV at h
  split at h
  · cases h
  · split at h
    · rename_i l r hh
      cases h
      exact ⟨l, r, rfl, hh, rfl⟩
    · cases h
theorem elseV_inv {ls ls' : List Lb} (h : elseV ls = some ls') : ∃ l r, ls = l :: r ∧ bY l = 4 ∧ doneB l = true ∧ ls' = (5, tK l, gV l, hT l, tK l, false) :: r := by
  unfold elseV at h
  split at h
  · cases h
  · split at h
    · rename_i l r hh
      cases h
      exact ⟨l, r, rfl, hh.1, hh.2, rfl⟩
    · cases h
theorem endV_inv {ls ls' : List Lb} (h : endV ls = some ls') : ∃ l r, ls = l :: r ∧ doneB l = true ∧ (bY l = 4 → tK l = gV l) ∧ ls' = bump r (gV l) := by
  unfold endV at h
  split at h
  · cases h
  · split at h
    · rename_i l r hh
      cases h
      exact ⟨l, r, rfl, hh.1, fun h4 => Classical.byContradiction fun hn => hh.2 ⟨h4, hn⟩, rfl⟩
    · cases h
/-- the same label, but for its own operands, its being dead, and an IF that turned -/
def sim (l l' : Lb) : Prop := tK l' = tK l ∧ gV l' = gV l ∧ hT l' = hT l ∧ (bY l' = bY l ∨ (bY l = 4 ∧ bY l' = 5))
theorem sim.rf (l : Lb) : sim l l := ⟨rfl, rfl, rfl, Or.inl rfl⟩
theorem sim_sOw (l : Lb) (n : Nat) : sim l (sOw l n) := ⟨rfl, rfl, rfl, Or.inl rfl⟩
theorem sim_sDie (l : Lb) : sim l (sDie l) := ⟨rfl, rfl, rfl, Or.inl rfl⟩
/-- the three ways of a step: a label begins, one ends, or the innermost changes -/
theorem vstep_shape {sg : List (Nat × Nat)} {nm : Nat} {v v' : VS} {x : Ic} (h : vstep sg nm v x = some v') :
    (isBg x.1 = true ∧ ∃ l r, v.1 = l :: r ∧ wi x.2.1 4 ∧ wi x.2.2 4 ∧ hasB l (blkN x.1 (nt x.2.1)) = true ∧ v'.1 = (nt x.1, nt x.2.1, nt x.2.2, hT l + (oW l - blkN x.1 (nt x.2.1)), nt x.2.1, false) :: sOw l (oW l - blkN x.1 (nt x.2.1)) :: r) ∨
    (isBg x.1 = false ∧ x.1 = 11 ∧ ∃ l r, v.1 = l :: r ∧ doneB l = true ∧ (bY l = 4 → tK l = gV l) ∧ v'.1 = bump r (gV l)) ∨
    (isBg x.1 = false ∧ ¬ x.1 = 11 ∧ ∃ l r l', v.1 = l :: r ∧ v'.1 = l' :: r ∧ sim l l') := by
  unfold vstep at h
  split at h
  · split at h
    · rename_i h6
      refine Or.inr (Or.inr ⟨by rw [h6]; rfl, by rw [h6]; decide, ?_⟩)
      unfold entV at h
      split at h
      · cases h
      · split at h
        · cases h
        · rename_i l r hv
          split at h
          · split at h
            · cases h
              exact ⟨l, r, sDie l, hv, rfl, sim_sDie l⟩
            · cases h
              exact ⟨l, r, l, hv, rfl, sim.rf l⟩
          · cases h
    · cases h
  · split at h
    · cases h
    · split at h
      · rename_i h14
        refine Or.inr (Or.inr ⟨by rw [h14]; rfl, by rw [h14]; decide, ?_⟩)
        split at h
        · split at h
          · rename_i ls hls
            cases h
            obtain ⟨l, r, e1, -, e2⟩ := turnV_inv hls
            exact ⟨l, r, _, e1, e2, sim_sOw _ _⟩
          · cases h
        · cases h
      · split at h
        · rename_i ls hls
          cases h
          have tr : ∀ {t p : Nat}, turnV v.1 t p = some ls → isBg x.1 = false → ¬ x.1 = 11 → (isBg x.1 = true ∧ ∃ l r, v.1 = l :: r ∧ wi x.2.1 4 ∧ wi x.2.2 4 ∧ hasB l (blkN x.1 (nt x.2.1)) = true ∧ ls = (nt x.1, nt x.2.1, nt x.2.2, hT l + (oW l - blkN x.1 (nt x.2.1)), nt x.2.1, false) :: sOw l (oW l - blkN x.1 (nt x.2.1)) :: r) ∨ (isBg x.1 = false ∧ x.1 = 11 ∧ ∃ l r, v.1 = l :: r ∧ doneB l = true ∧ (bY l = 4 → tK l = gV l) ∧ ls = bump r (gV l)) ∨ (isBg x.1 = false ∧ ¬ x.1 = 11 ∧ ∃ l r l', v.1 = l :: r ∧ ls = l' :: r ∧ sim l l') := by
            intro t p ht hb h11
            obtain ⟨l, r, e1, -, e2⟩ := turnV_inv ht
            exact Or.inr (Or.inr ⟨hb, h11, l, r, _, e1, e2, sim_sOw _ _⟩)
          have en : ∀ {t : Nat}, endsV v.1 t = some ls → isBg x.1 = false → ¬ x.1 = 11 → (isBg x.1 = true ∧ ∃ l r, v.1 = l :: r ∧ wi x.2.1 4 ∧ wi x.2.2 4 ∧ hasB l (blkN x.1 (nt x.2.1)) = true ∧ ls = (nt x.1, nt x.2.1, nt x.2.2, hT l + (oW l - blkN x.1 (nt x.2.1)), nt x.2.1, false) :: sOw l (oW l - blkN x.1 (nt x.2.1)) :: r) ∨ (isBg x.1 = false ∧ x.1 = 11 ∧ ∃ l r, v.1 = l :: r ∧ doneB l = true ∧ (bY l = 4 → tK l = gV l) ∧ ls = bump r (gV l)) ∨ (isBg x.1 = false ∧ ¬ x.1 = 11 ∧ ∃ l r l', v.1 = l :: r ∧ ls = l' :: r ∧ sim l l') := by
            intro t ht hb h11
            obtain ⟨l, r, e1, -, e2⟩ := endsV_inv ht
            exact Or.inr (Or.inr ⟨hb, h11, l, r, _, e1, e2, sim_sDie _⟩)
          unfold vctl at hls
          by_cases c0 : x.1 = 0
          · rw [if_pos c0] at hls
            exact en hls (by rw [c0]; rfl) (by rw [c0]; decide)
          rw [if_neg c0] at hls
          by_cases c1 : x.1 = 1
          · rw [if_pos c1] at hls
            exact tr hls (by rw [c1]; rfl) (by rw [c1]; decide)
          rw [if_neg c1] at hls
          by_cases c2 : isBg x.1 = true
          · rw [if_pos c2] at hls
            by_cases hw : wi x.2.1 4 ∧ wi x.2.2 4
            · rw [if_pos hw] at hls
              obtain ⟨l, r, e1, e2, e3⟩ := blockV_inv hls
              exact Or.inl ⟨c2, l, r, e1, hw.1, hw.2, e2, e3⟩
            · rw [if_neg hw] at hls
              cases hls
          rw [if_neg c2] at hls
          have hbf : isBg x.1 = false := by simpa using c2
          by_cases c5 : x.1 = 5
          · rw [if_pos c5] at hls
            obtain ⟨l, r, e1, e2, e3, e4⟩ := elseV_inv hls
            exact Or.inr (Or.inr ⟨hbf, by rw [c5]; decide, l, r, _, e1, e4, rfl, rfl, rfl, Or.inr ⟨e2, rfl⟩⟩)
          rw [if_neg c5] at hls
          by_cases c11 : x.1 = 11
          · rw [if_pos c11] at hls
            obtain ⟨l, r, e1, e2, e3, e4⟩ := endV_inv hls
            exact Or.inr (Or.inl ⟨hbf, c11, l, r, e1, e2, e3, e4⟩)
          rw [if_neg c11] at hls
          by_cases c12 : x.1 = 12
          · rw [if_pos c12] at hls
            cases hla : labAt v.1 x.2.1 with
            | none => rw [hla] at hls; cases hls
            | some t => rw [hla] at hls; exact en hls hbf c11
          rw [if_neg c12] at hls
          by_cases c13 : x.1 = 13
          · rw [if_pos c13] at hls
            cases hla : labAt v.1 x.2.1 with
            | none => rw [hla] at hls; cases hls
            | some t => rw [hla] at hls; exact tr hls hbf c11
          rw [if_neg c13] at hls
          by_cases c15 : x.1 = 15
          · rw [if_pos c15] at hls
            exact en hls hbf c11
          rw [if_neg c15] at hls
          by_cases c16 : x.1 = 16
          · rw [if_pos c16] at hls
            by_cases ha : x.2.1 < 0
            · rw [if_pos ha] at hls; cases hls
            · rw [if_neg ha] at hls
              cases hla : sg[nt x.2.1]? with
              | none => rw [hla] at hls; cases hls
              | some t => rw [hla] at hls; exact tr hls hbf c11
          rw [if_neg c16] at hls
          by_cases c17 : x.1 = 17
          · rw [if_pos c17] at hls
            by_cases ha : wi x.2.1 8 ∧ wi x.2.2 8
            · rw [if_pos ha] at hls; exact tr hls hbf c11
            · rw [if_neg ha] at hls; cases hls
          rw [if_neg c17] at hls
          cases hla : arP x.1 x.2.1 nm with
          | none => rw [hla] at hls; cases hls
          | some t => rw [hla] at hls; exact tr hls hbf c11
        · cases h
