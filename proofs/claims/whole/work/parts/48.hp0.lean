/-- the heap of maps at the law's entry: the script alone -/
def hp0 (n b L : Nat) (xs : Nat → Int32) : Hp := (fun a => if a = b then some (.inr (9, L)) else none, fun _ _ => 0, fun _ _ => 0, fun _ _ => none, fun a j => if a = b then xs j else 0, fun _ _ => 0, fun _ _ => none, n, 0)
