/-! THE REFERENCE, 1: its arrays -/
theorem nck {k : Nat} (h : k < 2147483648) : (nI k).toNatClampNeg = k := nI_clamp h
theorem nI_sub1 (n : Nat) : nI (n + 1) - 1 = nI n := by rw [nI_succ]; simp
theorem nJ_inj {a b : Nat} (ha : a < 2147483648) (hb : b < 2147483648) : nI a = nI b ↔ a = b := ⟨fun h => by rw [← nck ha, ← nck hb, h], fun h => by rw [h]⟩
theorem nJ_lt {a b : Nat} (ha : a < 2147483648) (hb : b < 2147483648) : nI a < nI b ↔ a < b := ⟨fun h => Classical.byContradiction fun hn => nI_nlt (Nat.le_of_not_lt hn) ha h, fun h => nI_lt h hb⟩
theorem nJ_add (a b : Nat) : nI a + nI b = nI (a + b) := by
  induction b with
  | zero => show nI a + 0 = nI a; simp
  | succ b ih => rw [nI_succ, ← Nat.add_assoc, nI_succ, ← ih, Int32.add_assoc]
theorem nJ_sub {a b : Nat} (h : b ≤ a) : nI a - nI b = nI (a - b) := by
  have := nJ_add (a - b) b
  rw [Nat.sub_add_cancel h] at this
  rw [← this]
  simp
theorem n0 : (0 : Int32) = nI 0 := rfl
theorem n1 : (1 : Int32) = nI 1 := rfl
def mAr : List (Nat × Nat × Nat × Nat) := [(643, 1, 0, 40), (644, 2, 0, 40), (645, 3, 0, 40), (646, 4, 0, 40), (647, 5, 0, 40), (648, 6, 0, 40), (649, 7, 0, 1500), (650, 8, 0, 1500), (651, 9, 0, 1500), (652, 10, 0, 1500), (657, 11, 0, 1501), (658, 12, 0, 1501), (659, 13, 0, 1501), (660, 14, 0, 1501), (661, 15, 0, 1501), (662, 16, 3, 1501), (663, 17, 0, 30), (664, 18, 1, 8), (665, 19, 0, 384), (675, 20, 1, 8), (676, 21, 1, 700), (677, 22, 0, 31), (678, 23, 0, 31), (679, 24, 0, 31), (681, 25, 1, 8)]
/-- the reference's object at m: its arrays lie behind it -/
def MS (h : Hp) (m : Nat) : Prop := tg h m = some (.inl 10) ∧ ∀ q ∈ mAr, gr h q.1 m = some (m + q.2.1) ∧ tg h (m + q.2.1) = some (.inr (q.2.2.1, q.2.2.2))
theorem MS.ld {h h' : Hp} {m f o t n k : Nat} {ok : Nat → Bool} {P : Nat → Prop} (hm : MS h m) (hm' : MS h' m) (hq : (f, o, t, n) ∈ mAr) (hok : ok t = true) (hn : n < 2147483648) (hk : k < n) (p : P (m + o)) : dr (gr h f m) (fun a => ix h' ok a (nI k) (P a)) := ⟨m + o, (hm.2 _ hq).1, t, n, (hm'.2 _ hq).2, hok, nI_in hk hn, p⟩
theorem L_start {h h' : Hp} {m k : Nat} {P : Nat → Prop} (hm : MS h m) (hm' : MS h' m) (hk : k < 40) (p : P (m + 1)) : dr (gr h 643 m) (fun a => ix h' kI a (nI k) (P a)) := MS.ld (t := 0) (n := 40) hm hm' (by decide) rfl (by decide) hk p
theorem S_start {h h' : Hp} {m k : Nat} {P : Nat → Prop} (hm : MS h m) (hm' : MS h' m) (hk : k < 40) (p : P (m + 1)) : dr (gr h 643 m) (fun a => ix h' kIs a (nI k) (P a)) := MS.ld (t := 0) (n := 40) hm hm' (by decide) rfl (by decide) hk p
theorem L_length {h h' : Hp} {m k : Nat} {P : Nat → Prop} (hm : MS h m) (hm' : MS h' m) (hk : k < 40) (p : P (m + 2)) : dr (gr h 644 m) (fun a => ix h' kI a (nI k) (P a)) := MS.ld (t := 0) (n := 40) hm hm' (by decide) rfl (by decide) hk p
theorem S_length {h h' : Hp} {m k : Nat} {P : Nat → Prop} (hm : MS h m) (hm' : MS h' m) (hk : k < 40) (p : P (m + 2)) : dr (gr h 644 m) (fun a => ix h' kIs a (nI k) (P a)) := MS.ld (t := 0) (n := 40) hm hm' (by decide) rfl (by decide) hk p
theorem L_params {h h' : Hp} {m k : Nat} {P : Nat → Prop} (hm : MS h m) (hm' : MS h' m) (hk : k < 40) (p : P (m + 3)) : dr (gr h 645 m) (fun a => ix h' kI a (nI k) (P a)) := MS.ld (t := 0) (n := 40) hm hm' (by decide) rfl (by decide) hk p
theorem S_params {h h' : Hp} {m k : Nat} {P : Nat → Prop} (hm : MS h m) (hm' : MS h' m) (hk : k < 40) (p : P (m + 3)) : dr (gr h 645 m) (fun a => ix h' kIs a (nI k) (P a)) := MS.ld (t := 0) (n := 40) hm hm' (by decide) rfl (by decide) hk p
theorem L_results {h h' : Hp} {m k : Nat} {P : Nat → Prop} (hm : MS h m) (hm' : MS h' m) (hk : k < 40) (p : P (m + 4)) : dr (gr h 646 m) (fun a => ix h' kI a (nI k) (P a)) := MS.ld (t := 0) (n := 40) hm hm' (by decide) rfl (by decide) hk p
theorem S_results {h h' : Hp} {m k : Nat} {P : Nat → Prop} (hm : MS h m) (hm' : MS h' m) (hk : k < 40) (p : P (m + 4)) : dr (gr h 646 m) (fun a => ix h' kIs a (nI k) (P a)) := MS.ld (t := 0) (n := 40) hm hm' (by decide) rfl (by decide) hk p
theorem L_locals {h h' : Hp} {m k : Nat} {P : Nat → Prop} (hm : MS h m) (hm' : MS h' m) (hk : k < 40) (p : P (m + 5)) : dr (gr h 647 m) (fun a => ix h' kI a (nI k) (P a)) := MS.ld (t := 0) (n := 40) hm hm' (by decide) rfl (by decide) hk p
theorem S_locals {h h' : Hp} {m k : Nat} {P : Nat → Prop} (hm : MS h m) (hm' : MS h' m) (hk : k < 40) (p : P (m + 5)) : dr (gr h 647 m) (fun a => ix h' kIs a (nI k) (P a)) := MS.ld (t := 0) (n := 40) hm hm' (by decide) rfl (by decide) hk p
theorem L_most {h h' : Hp} {m k : Nat} {P : Nat → Prop} (hm : MS h m) (hm' : MS h' m) (hk : k < 40) (p : P (m + 6)) : dr (gr h 648 m) (fun a => ix h' kI a (nI k) (P a)) := MS.ld (t := 0) (n := 40) hm hm' (by decide) rfl (by decide) hk p
theorem S_most {h h' : Hp} {m k : Nat} {P : Nat → Prop} (hm : MS h m) (hm' : MS h' m) (hk : k < 40) (p : P (m + 6)) : dr (gr h 648 m) (fun a => ix h' kIs a (nI k) (P a)) := MS.ld (t := 0) (n := 40) hm hm' (by decide) rfl (by decide) hk p
theorem L_op {h h' : Hp} {m k : Nat} {P : Nat → Prop} (hm : MS h m) (hm' : MS h' m) (hk : k < 1500) (p : P (m + 7)) : dr (gr h 649 m) (fun a => ix h' kI a (nI k) (P a)) := MS.ld (t := 0) (n := 1500) hm hm' (by decide) rfl (by decide) hk p
theorem S_op {h h' : Hp} {m k : Nat} {P : Nat → Prop} (hm : MS h m) (hm' : MS h' m) (hk : k < 1500) (p : P (m + 7)) : dr (gr h 649 m) (fun a => ix h' kIs a (nI k) (P a)) := MS.ld (t := 0) (n := 1500) hm hm' (by decide) rfl (by decide) hk p
theorem L_one {h h' : Hp} {m k : Nat} {P : Nat → Prop} (hm : MS h m) (hm' : MS h' m) (hk : k < 1500) (p : P (m + 8)) : dr (gr h 650 m) (fun a => ix h' kI a (nI k) (P a)) := MS.ld (t := 0) (n := 1500) hm hm' (by decide) rfl (by decide) hk p
theorem S_one {h h' : Hp} {m k : Nat} {P : Nat → Prop} (hm : MS h m) (hm' : MS h' m) (hk : k < 1500) (p : P (m + 8)) : dr (gr h 650 m) (fun a => ix h' kIs a (nI k) (P a)) := MS.ld (t := 0) (n := 1500) hm hm' (by decide) rfl (by decide) hk p
theorem L_two {h h' : Hp} {m k : Nat} {P : Nat → Prop} (hm : MS h m) (hm' : MS h' m) (hk : k < 1500) (p : P (m + 9)) : dr (gr h 651 m) (fun a => ix h' kI a (nI k) (P a)) := MS.ld (t := 0) (n := 1500) hm hm' (by decide) rfl (by decide) hk p
theorem S_two {h h' : Hp} {m k : Nat} {P : Nat → Prop} (hm : MS h m) (hm' : MS h' m) (hk : k < 1500) (p : P (m + 9)) : dr (gr h 651 m) (fun a => ix h' kIs a (nI k) (P a)) := MS.ld (t := 0) (n := 1500) hm hm' (by decide) rfl (by decide) hk p
theorem L_below {h h' : Hp} {m k : Nat} {P : Nat → Prop} (hm : MS h m) (hm' : MS h' m) (hk : k < 1500) (p : P (m + 10)) : dr (gr h 652 m) (fun a => ix h' kI a (nI k) (P a)) := MS.ld (t := 0) (n := 1500) hm hm' (by decide) rfl (by decide) hk p
theorem S_below {h h' : Hp} {m k : Nat} {P : Nat → Prop} (hm : MS h m) (hm' : MS h' m) (hk : k < 1500) (p : P (m + 10)) : dr (gr h 652 m) (fun a => ix h' kIs a (nI k) (P a)) := MS.ld (t := 0) (n := 1500) hm hm' (by decide) rfl (by decide) hk p
theorem L_by {h h' : Hp} {m k : Nat} {P : Nat → Prop} (hm : MS h m) (hm' : MS h' m) (hk : k < 1501) (p : P (m + 11)) : dr (gr h 657 m) (fun a => ix h' kI a (nI k) (P a)) := MS.ld (t := 0) (n := 1501) hm hm' (by decide) rfl (by decide) hk p
theorem S_by {h h' : Hp} {m k : Nat} {P : Nat → Prop} (hm : MS h m) (hm' : MS h' m) (hk : k < 1501) (p : P (m + 11)) : dr (gr h 657 m) (fun a => ix h' kIs a (nI k) (P a)) := MS.ld (t := 0) (n := 1501) hm hm' (by decide) rfl (by decide) hk p
theorem L_takes {h h' : Hp} {m k : Nat} {P : Nat → Prop} (hm : MS h m) (hm' : MS h' m) (hk : k < 1501) (p : P (m + 12)) : dr (gr h 658 m) (fun a => ix h' kI a (nI k) (P a)) := MS.ld (t := 0) (n := 1501) hm hm' (by decide) rfl (by decide) hk p
theorem S_takes {h h' : Hp} {m k : Nat} {P : Nat → Prop} (hm : MS h m) (hm' : MS h' m) (hk : k < 1501) (p : P (m + 12)) : dr (gr h 658 m) (fun a => ix h' kIs a (nI k) (P a)) := MS.ld (t := 0) (n := 1501) hm hm' (by decide) rfl (by decide) hk p
theorem L_gives {h h' : Hp} {m k : Nat} {P : Nat → Prop} (hm : MS h m) (hm' : MS h' m) (hk : k < 1501) (p : P (m + 13)) : dr (gr h 659 m) (fun a => ix h' kI a (nI k) (P a)) := MS.ld (t := 0) (n := 1501) hm hm' (by decide) rfl (by decide) hk p
theorem S_gives {h h' : Hp} {m k : Nat} {P : Nat → Prop} (hm : MS h m) (hm' : MS h' m) (hk : k < 1501) (p : P (m + 13)) : dr (gr h 659 m) (fun a => ix h' kIs a (nI k) (P a)) := MS.ld (t := 0) (n := 1501) hm hm' (by decide) rfl (by decide) hk p
theorem L_height {h h' : Hp} {m k : Nat} {P : Nat → Prop} (hm : MS h m) (hm' : MS h' m) (hk : k < 1501) (p : P (m + 14)) : dr (gr h 660 m) (fun a => ix h' kI a (nI k) (P a)) := MS.ld (t := 0) (n := 1501) hm hm' (by decide) rfl (by decide) hk p
theorem S_height {h h' : Hp} {m k : Nat} {P : Nat → Prop} (hm : MS h m) (hm' : MS h' m) (hk : k < 1501) (p : P (m + 14)) : dr (gr h 660 m) (fun a => ix h' kIs a (nI k) (P a)) := MS.ld (t := 0) (n := 1501) hm hm' (by decide) rfl (by decide) hk p
theorem L_own {h h' : Hp} {m k : Nat} {P : Nat → Prop} (hm : MS h m) (hm' : MS h' m) (hk : k < 1501) (p : P (m + 15)) : dr (gr h 661 m) (fun a => ix h' kI a (nI k) (P a)) := MS.ld (t := 0) (n := 1501) hm hm' (by decide) rfl (by decide) hk p
theorem S_own {h h' : Hp} {m k : Nat} {P : Nat → Prop} (hm : MS h m) (hm' : MS h' m) (hk : k < 1501) (p : P (m + 15)) : dr (gr h 661 m) (fun a => ix h' kIs a (nI k) (P a)) := MS.ld (t := 0) (n := 1501) hm hm' (by decide) rfl (by decide) hk p
theorem L_dead {h h' : Hp} {m k : Nat} {P : Nat → Prop} (hm : MS h m) (hm' : MS h' m) (hk : k < 1501) (p : P (m + 16)) : dr (gr h 662 m) (fun a => ix h' kB a (nI k) (P a)) := MS.ld (t := 3) (n := 1501) hm hm' (by decide) rfl (by decide) hk p
theorem S_dead {h h' : Hp} {m k : Nat} {P : Nat → Prop} (hm : MS h m) (hm' : MS h' m) (hk : k < 1501) (p : P (m + 16)) : dr (gr h 662 m) (fun a => ix h' kZ a (nI k) (P a)) := MS.ld (t := 3) (n := 1501) hm hm' (by decide) rfl (by decide) hk p
theorem L_table {h h' : Hp} {m k : Nat} {P : Nat → Prop} (hm : MS h m) (hm' : MS h' m) (hk : k < 30) (p : P (m + 17)) : dr (gr h 663 m) (fun a => ix h' kI a (nI k) (P a)) := MS.ld (t := 0) (n := 30) hm hm' (by decide) rfl (by decide) hk p
theorem S_table {h h' : Hp} {m k : Nat} {P : Nat → Prop} (hm : MS h m) (hm' : MS h' m) (hk : k < 30) (p : P (m + 17)) : dr (gr h 663 m) (fun a => ix h' kIs a (nI k) (P a)) := MS.ld (t := 0) (n := 30) hm hm' (by decide) rfl (by decide) hk p
theorem L_globals {h h' : Hp} {m k : Nat} {P : Nat → Prop} (hm : MS h m) (hm' : MS h' m) (hk : k < 8) (p : P (m + 18)) : dr (gr h 664 m) (fun a => ix h' kJ a (nI k) (P a)) := MS.ld (t := 1) (n := 8) hm hm' (by decide) rfl (by decide) hk p
theorem L_bytes {h h' : Hp} {m k : Nat} {P : Nat → Prop} (hm : MS h m) (hm' : MS h' m) (hk : k < 384) (p : P (m + 19)) : dr (gr h 665 m) (fun a => ix h' kI a (nI k) (P a)) := MS.ld (t := 0) (n := 384) hm hm' (by decide) rfl (by decide) hk p
theorem S_bytes {h h' : Hp} {m k : Nat} {P : Nat → Prop} (hm : MS h m) (hm' : MS h' m) (hk : k < 384) (p : P (m + 19)) : dr (gr h 665 m) (fun a => ix h' kIs a (nI k) (P a)) := MS.ld (t := 0) (n := 384) hm hm' (by decide) rfl (by decide) hk p
theorem L_argument {h h' : Hp} {m k : Nat} {P : Nat → Prop} (hm : MS h m) (hm' : MS h' m) (hk : k < 8) (p : P (m + 20)) : dr (gr h 675 m) (fun a => ix h' kJ a (nI k) (P a)) := MS.ld (t := 1) (n := 8) hm hm' (by decide) rfl (by decide) hk p
theorem L_value {h h' : Hp} {m k : Nat} {P : Nat → Prop} (hm : MS h m) (hm' : MS h' m) (hk : k < 700) (p : P (m + 21)) : dr (gr h 676 m) (fun a => ix h' kJ a (nI k) (P a)) := MS.ld (t := 1) (n := 700) hm hm' (by decide) rfl (by decide) hk p
theorem L_function {h h' : Hp} {m k : Nat} {P : Nat → Prop} (hm : MS h m) (hm' : MS h' m) (hk : k < 31) (p : P (m + 22)) : dr (gr h 677 m) (fun a => ix h' kI a (nI k) (P a)) := MS.ld (t := 0) (n := 31) hm hm' (by decide) rfl (by decide) hk p
theorem S_function {h h' : Hp} {m k : Nat} {P : Nat → Prop} (hm : MS h m) (hm' : MS h' m) (hk : k < 31) (p : P (m + 22)) : dr (gr h 677 m) (fun a => ix h' kIs a (nI k) (P a)) := MS.ld (t := 0) (n := 31) hm hm' (by decide) rfl (by decide) hk p
theorem L_first {h h' : Hp} {m k : Nat} {P : Nat → Prop} (hm : MS h m) (hm' : MS h' m) (hk : k < 31) (p : P (m + 23)) : dr (gr h 678 m) (fun a => ix h' kI a (nI k) (P a)) := MS.ld (t := 0) (n := 31) hm hm' (by decide) rfl (by decide) hk p
theorem S_first {h h' : Hp} {m k : Nat} {P : Nat → Prop} (hm : MS h m) (hm' : MS h' m) (hk : k < 31) (p : P (m + 23)) : dr (gr h 678 m) (fun a => ix h' kIs a (nI k) (P a)) := MS.ld (t := 0) (n := 31) hm hm' (by decide) rfl (by decide) hk p
theorem L_back {h h' : Hp} {m k : Nat} {P : Nat → Prop} (hm : MS h m) (hm' : MS h' m) (hk : k < 31) (p : P (m + 24)) : dr (gr h 679 m) (fun a => ix h' kI a (nI k) (P a)) := MS.ld (t := 0) (n := 31) hm hm' (by decide) rfl (by decide) hk p
theorem S_back {h h' : Hp} {m k : Nat} {P : Nat → Prop} (hm : MS h m) (hm' : MS h' m) (hk : k < 31) (p : P (m + 24)) : dr (gr h 679 m) (fun a => ix h' kIs a (nI k) (P a)) := MS.ld (t := 0) (n := 31) hm hm' (by decide) rfl (by decide) hk p
theorem L_outcome {h h' : Hp} {m k : Nat} {P : Nat → Prop} (hm : MS h m) (hm' : MS h' m) (hk : k < 8) (p : P (m + 25)) : dr (gr h 681 m) (fun a => ix h' kJ a (nI k) (P a)) := MS.ld (t := 1) (n := 8) hm hm' (by decide) rfl (by decide) hk p
