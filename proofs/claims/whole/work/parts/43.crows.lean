/-! rows of T: constants, longs compared, switches -/
section TR
variable {j : Nat} {q : MD} {pc : Nat} {lv : Lc} {st : List TV} {h : Hp} {Q : Option TV → Hp → Prop}
theorem T_s {i : Instr} {len : Nat} {rs : Rs} {st' : List TV} (hq : mT[j]? = some q) (hf : (mCo q).lookup pc = some (i, len, rs)) (hs : opS i st = some st') (k : T j (pc + len) lv st' h Q) : T j pc lv st h Q := by
  refine T_nx (pc' := pc + len) (lv' := lv) (st' := st') (h' := h) hq hf ?_ k
  unfold nxt
  dsimp only
  rw [hs]
theorem T_kn {n : Int} {v : Int32} {rs : Rs} (hq : mT[j]? = some q) (hf : (mCo q).lookup pc = some (.iconst n, 1, rs)) (hv : Int32.ofInt n = v) (k : T j (pc + 1) lv (tI v :: st) h Q) : T j pc lv st h Q := by
  subst hv
  exact T_s hq hf rfl k
theorem T_kb {n : Int} {v : Int32} {rs : Rs} (hq : mT[j]? = some q) (hf : (mCo q).lookup pc = some (.bipush n, 2, rs)) (hv : (Int8.ofInt n).toInt32 = v) (k : T j (pc + 2) lv (tI v :: st) h Q) : T j pc lv st h Q := by
  subst hv
  exact T_s hq hf rfl k
theorem T_ks {n : Int} {v : Int32} {rs : Rs} (hq : mT[j]? = some q) (hf : (mCo q).lookup pc = some (.sipush n, 3, rs)) (hv : (Int16.ofInt n).toInt32 = v) (k : T j (pc + 3) lv (tI v :: st) h Q) : T j pc lv st h Q := by
  subst hv
  exact T_s hq hf rfl k
theorem T_kj {n : Fin 2} {v : Int64} {rs : Rs} (hq : mT[j]? = some q) (hf : (mCo q).lookup pc = some (.lconst n, 1, rs)) (hv : Int64.ofNat (n : Nat) = v) (k : T j (pc + 1) lv (tL v :: st) h Q) : T j pc lv st h Q := by
  subst hv
  exact T_s hq hf rfl k
theorem T_kl2 {idx a b c : Nat} {w : Nat × Nat} {z : Int} {v : Int64} (hq : mT[j]? = some q) (hf : (mCo q).lookup pc = some (.ldc2_w idx, 3, (a, b, c, w, z))) (hv : Int64.ofInt z = v) (k : T j (pc + 3) lv (tL v :: st) h Q) : T j pc lv st h Q := by
  subst hv
  exact T_h (z := (tL (Int64.ofInt z) :: st, h)) hq hf rfl rfl rfl rfl k
theorem T_inc {n : Nat} {d : Int} {x c : Int32} {rs : Rs} {lv' : Lc} (hq : mT[j]? = some q) (hf : (mCo q).lookup pc = some (.iinc n d, 3, rs)) (hl : lv[n]? = some (some (tI x))) (hc : Int32.ofInt d = c) (hlv : lvSet lv n (tI (x + c)) = lv') (k : T j (pc + 3) lv' st h Q) : T j pc lv st h Q := by
  subst hc
  subst hlv
  refine T_nx (pc' := pc + 3) (lv' := lvSet lv n (tI (x + Int32.ofInt d))) (st' := st) (h' := h) hq hf ?_ k
  unfold nxt
  show (match inc lv n d st with
    | some q => some (pc + 3, q.1, q.2, h)
    | none => _) = _
  unfold inc
  rw [hl]
/-- division of longs -/
theorem T_ldv {rs : Rs} {x y : Int64} (hq : mT[j]? = some q) (hf : (mCo q).lookup pc = some (.ldiv, 1, rs)) (kk : (¬ y = 0) ∧ T j (pc + 1) lv (tL (x / y) :: st) h Q) : T j pc lv (tL y :: tL x :: st) h Q := by
  refine T_s (st' := tL (x / y) :: st) hq hf ?_ kk.2
  show (if y = 0 then none else some (tL (x / y) :: st)) = _
  rw [if_neg kk.1]
theorem T_irm {rs : Rs} {x y : Int32} (hq : mT[j]? = some q) (hf : (mCo q).lookup pc = some (.irem, 1, rs)) (kk : (¬ y = 0) ∧ T j (pc + 1) lv (tI (x - x / y * y) :: st) h Q) : T j pc lv (tI y :: tI x :: st) h Q := by
  refine T_s (st' := tI (x - x / y * y) :: st) hq hf ?_ kk.2
  show (if y = 0 then none else some (tI (x - x / y * y) :: st)) = _
  rw [if_neg kk.1]
theorem T_m {i : Instr} {rs : Rs} {st' : List TV} (hq : mT[j]? = some q) (hf : (mCo q).lookup pc = some (i, 3, rs)) (h1 : opS i st = none) (h2 : opL i lv st = none) (h3 : opB i pc st = none) (h4 : opH i rs st h = none) (hz : opM i rs st = some st') (k : T j (pc + 3) lv st' h Q) : T j pc lv st h Q := by
  refine T_nx (pc' := pc + 3) (lv' := lv) (st' := st') (h' := h) hq hf ?_ k
  unfold nxt
  dsimp only
  rw [h1]
  dsimp only
  rw [h2]
  dsimp only
  rw [h3]
  dsimp only
  rw [h4]
  dsimp only
  rw [hz]
theorem T_max {idx a b : Nat} {w : Nat × Nat} {z : Int} {x y : Int32} (hq : mT[j]? = some q) (hf : (mCo q).lookup pc = some (.invokestatic idx, 3, (a, b, 1, w, z))) (hc : cats st ≤ 8) (k : T j (pc + 3) lv (tI (if x < y then y else x) :: st) h Q) : T j pc lv (tI y :: tI x :: st) h Q := by
  refine T_m (st' := tI (if x < y then y else x) :: st) hq hf rfl rfl rfl rfl ?_ k
  show (if cats st ≤ 8 then some (tI (if x < y then y else x) :: st) else none) = _
  rw [if_pos hc]
theorem T_min {idx a b : Nat} {w : Nat × Nat} {z : Int} {x y : Int32} (hq : mT[j]? = some q) (hf : (mCo q).lookup pc = some (.invokestatic idx, 3, (a, b, 2, w, z))) (hc : cats st ≤ 8) (k : T j (pc + 3) lv (tI (if y < x then y else x) :: st) h Q) : T j pc lv (tI y :: tI x :: st) h Q := by
  refine T_m (st' := tI (if y < x then y else x) :: st) hq hf rfl rfl rfl rfl ?_ k
  show (if cats st ≤ 8 then some (tI (if y < x then y else x) :: st) else none) = _
  rw [if_pos hc]
theorem T_minl {idx a b : Nat} {w : Nat × Nat} {z : Int} {x y : Int64} (hq : mT[j]? = some q) (hf : (mCo q).lookup pc = some (.invokestatic idx, 3, (a, b, 3, w, z))) (hc : cats st ≤ 8) (k : T j (pc + 3) lv (tL (if y < x then y else x) :: st) h Q) : T j pc lv (tL y :: tL x :: st) h Q := by
  refine T_m (st' := tL (if y < x then y else x) :: st) hq hf rfl rfl rfl rfl ?_ k
  show (if cats st ≤ 8 then some (tL (if y < x then y else x) :: st) else none) = _
  rw [if_pos hc]
theorem T_oi {idx a b : Nat} {w : Nat × Nat} {z : Int} {o : Nat} (hq : mT[j]? = some q) (hf : (mCo q).lookup pc = some (.invokespecial idx, 3, (a, b, 0, w, z))) (hc : cats st ≤ 8) (k : T j (pc + 3) lv st h Q) : T j pc lv (tR (some o) :: st) h Q := by
  refine T_m (st' := st) hq hf rfl rfl rfl rfl ?_ k
  show (if (0 : Nat) = 0 then (if cats st ≤ 8 then some st else none) else none) = _
  rw [if_pos rfl, if_pos hc]
theorem T_nu2 {off : Int} {rs : Rs} {tgt : Nat} {r : Option Nat} (hq : mT[j]? = some q) (hf : (mCo q).lookup pc = some (.ifnull off, 3, rs)) (ht : (pc : Int) + off = (tgt : Int)) (kt : r = none → T j tgt lv st h Q) (kf : ¬ r = none → T j (pc + 3) lv st h Q) : T j pc lv (tR r :: st) h Q := by
  refine T_nul hq hf ht ?_
  split
  · rename_i e; exact kt e
  · rename_i e; exact kf e
theorem T_nn2 {off : Int} {rs : Rs} {tgt : Nat} {r : Option Nat} (hq : mT[j]? = some q) (hf : (mCo q).lookup pc = some (.ifnonnull off, 3, rs)) (ht : (pc : Int) + off = (tgt : Int)) (kt : ¬ r = none → T j tgt lv st h Q) (kf : r = none → T j (pc + 3) lv st h Q) : T j pc lv (tR r :: st) h Q := by
  refine T_nnl hq hf ht ?_
  split
  · rename_i e; exact kf e
  · rename_i e; exact kt e
theorem sw_cons {x : Int32} {K : Nat → Prop} {d t : Nat} {c : Int32} {r : List (Int32 × Nat)} (h1 : x = c → K t) (h2 : ¬ x = c → swK x K d r) : swK x K d ((c, t) :: r) := by
  unfold swK
  split
  · rename_i e; exact h1 e
  · rename_i e; exact h2 e
theorem lg_lt (x y : Int64) : lg_cmp x y < 0 ↔ x < y := by
  unfold lg_cmp
  simp only [gt_iff_lt, Int64.lt_iff_toInt_lt, ← Int64.toInt_inj]
  repeat' split
  all_goals first | omega | (simp; omega) | (constructor <;> intro q <;> first | omega | exact absurd q (by decide) | decide)
theorem lg_gt (x y : Int64) : 0 < lg_cmp x y ↔ y < x := by
  unfold lg_cmp
  simp only [gt_iff_lt, Int64.lt_iff_toInt_lt, ← Int64.toInt_inj]
  repeat' split
  all_goals first | omega | (simp; omega) | (constructor <;> intro q <;> first | omega | exact absurd q (by decide) | decide)
theorem lg_eq (x y : Int64) : lg_cmp x y = 0 ↔ x = y := by
  unfold lg_cmp
  simp only [gt_iff_lt, Int64.lt_iff_toInt_lt, ← Int64.toInt_inj]
  repeat' split
  all_goals first | omega | (simp; omega) | (constructor <;> intro q <;> first | omega | exact absurd q (by decide) | decide)
theorem if_iff {c d : Prop} [Decidable c] [Decidable d] {A B : Prop} (e : c ↔ d) (k : if d then A else B) : if c then A else B := by
  by_cases h : d
  · rw [if_pos h] at k
    rw [if_pos (e.mpr h)]
    exact k
  · rw [if_neg h] at k
    rw [if_neg (fun q => h (e.mp q))]
    exact k
theorem T_wk {lv' : Lc} (k : T j pc lv' st h Q) (hl : leL lv' lv) : T j pc lv st h Q := T_weak hl k
theorem le0 : leL [] [] := trivial
theorem leN {as bs : Lc} {b : Option TV} (h : leL as bs) : leL (none :: as) (b :: bs) := ⟨Or.inl rfl, h⟩
theorem leE {as bs : Lc} {b : Option TV} (h : leL as bs) : leL (b :: as) (b :: bs) := ⟨Or.inr rfl, h⟩
end TR
