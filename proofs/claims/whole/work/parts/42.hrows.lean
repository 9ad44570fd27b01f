/-! rows of T: heap, calls, returns -/
def rI (K : Int32 → Hp → Prop) : Option TV → Hp → Prop := fun r h => ∃ x, r = some (tI x) ∧ K x h
def rL (K : Int64 → Hp → Prop) : Option TV → Hp → Prop := fun r h => ∃ x, r = some (tL x) ∧ K x h
def rR (K : Option Nat → Hp → Prop) : Option TV → Hp → Prop := fun r h => ∃ x, r = some (tR x) ∧ K x h
def rV (K : Hp → Prop) : Option TV → Hp → Prop := fun r h => r = none ∧ K h
theorem rI_of {K : Int32 → Hp → Prop} {x : Int32} {h : Hp} (k : K x h) : rI K (some (tI x)) h := ⟨x, rfl, k⟩
theorem rL_of {K : Int64 → Hp → Prop} {x : Int64} {h : Hp} (k : K x h) : rL K (some (tL x)) h := ⟨x, rfl, k⟩
theorem rR_of {K : Option Nat → Hp → Prop} {x : Option Nat} {h : Hp} (k : K x h) : rR K (some (tR x)) h := ⟨x, rfl, k⟩
theorem rV_of {K : Hp → Prop} {h : Hp} (k : K h) : rV K none h := ⟨rfl, k⟩
section TR
variable {j : Nat} {q : MD} {pc : Nat} {lv : Lc} {st : List TV} {h : Hp} {Q : Option TV → Hp → Prop}
theorem T_h {i : Instr} {len : Nat} {rs : Rs} {z : List TV × Hp} (hq : mT[j]? = some q) (hf : (mCo q).lookup pc = some (i, len, rs)) (h1 : opS i st = none) (h2 : opL i lv st = none) (h3 : opB i pc st = none) (hz : opH i rs st h = some z) (k : T j (pc + len) lv z.1 z.2 Q) : T j pc lv st h Q := by
  refine T_nx (pc' := pc + len) (lv' := lv) (st' := z.1) (h' := z.2) hq hf ?_ k
  unfold nxt
  dsimp only
  rw [h1]
  dsimp only
  rw [h2]
  dsimp only
  rw [h3]
  dsimp only
  rw [hz]
theorem T_gf {idx ci k kd : Nat} {w : Nat × Nat} {z : Int} {r : Option Nat} (F : Nat → TV) (hq : mT[j]? = some q) (hf : (mCo q).lookup pc = some (.getfield idx, 3, (ci, k, kd, w, z))) (hv : ∀ a, fvv kd h (fid ci k) a = F a) (kk : dr r (fun a => ob h a ci (T j (pc + 3) lv (F a :: st) h Q))) : T j pc lv (tR r :: st) h Q := by
  obtain ⟨a, rfl, e, kk⟩ := kk
  rw [← hv a] at kk
  refine T_h (z := (fvv kd h (fid ci k) a :: st, h)) hq hf rfl rfl rfl ?_ kk
  show (if tg h a = some (.inl ci) then some (fvv kd h (fid ci k) a :: st, h) else none) = _
  rw [if_pos e]
theorem T_gs {idx ci k kd : Nat} {w : Nat × Nat} {z : Int} {a : Nat} (v : TV) (hq : mT[j]? = some q) (hf : (mCo q).lookup pc = some (.getfield idx, 3, (ci, k, kd, w, z))) (hv : fvv kd h (fid ci k) a = v) (kk : ob h a ci (T j (pc + 3) lv (v :: st) h Q)) : T j pc lv (tR (some a) :: st) h Q := by
  obtain ⟨e, kk⟩ := kk
  subst hv
  refine T_h (z := (fvv kd h (fid ci k) a :: st, h)) hq hf rfl rfl rfl ?_ kk
  show (if tg h a = some (.inl ci) then some (fvv kd h (fid ci k) a :: st, h) else none) = _
  rw [if_pos e]
theorem T_pf {idx ci k kd : Nat} {w : Nat × Nat} {z : Int} {r : Option Nat} {v : TV} (F : Nat → Hp) (hq : mT[j]? = some q) (hf : (mCo q).lookup pc = some (.putfield idx, 3, (ci, k, kd, w, z))) (hv : ∀ a, putV kd h (fid ci k) a v = some (F a)) (kk : dr r (fun a => ob h a ci (∀ h', h' = F a → T j (pc + 3) lv st h' Q))) : T j pc lv (v :: tR r :: st) h Q := by
  obtain ⟨a, rfl, e, kk⟩ := kk
  refine T_h (z := (st, F a)) hq hf rfl rfl rfl ?_ (kk _ rfl)
  show (if tg h a = some (.inl ci) then (match putV kd h (fid ci k) a v with
    | some h' => some (st, h')
    | none => none) else none) = _
  rw [if_pos e, hv]
theorem T_ps {idx ci k kd : Nat} {w : Nat × Nat} {z : Int} {a : Nat} {v : TV} (H' : Hp) (hq : mT[j]? = some q) (hf : (mCo q).lookup pc = some (.putfield idx, 3, (ci, k, kd, w, z))) (hv : putV kd h (fid ci k) a v = some H') (kk : ob h a ci (∀ h', h' = H' → T j (pc + 3) lv st h' Q)) : T j pc lv (v :: tR (some a) :: st) h Q := by
  obtain ⟨e, kk⟩ := kk
  refine T_h (z := (st, H')) hq hf rfl rfl rfl ?_ (kk _ rfl)
  show (if tg h a = some (.inl ci) then (match putV kd h (fid ci k) a v with
    | some h' => some (st, h')
    | none => none) else none) = _
  rw [if_pos e, hv]
theorem putZ {h : Hp} {f a : Nat} {x : Int32} (hx : x = 0 ∨ x = 1) : putV 3 h f a (tI x) = some (pi h f a x) := by
  show (if 3 = 0 then some (pi h f a x) else if 3 = 3 ∧ (x = 0 ∨ x = 1) then some (pi h f a x) else none) = _
  rw [if_neg (by decide), if_pos ⟨rfl, hx⟩]
/-- a boolean that is written -/
theorem T_pz {idx ci k : Nat} {w : Nat × Nat} {z : Int} {a : Nat} {x : Int32} (hq : mT[j]? = some q) (hf : (mCo q).lookup pc = some (.putfield idx, 3, (ci, k, 3, w, z))) (kk : ob h a ci ((x = 0 ∨ x = 1) ∧ ∀ h', h' = pi h (fid ci k) a x → T j (pc + 3) lv st h' Q)) : T j pc lv (tI x :: tR (some a) :: st) h Q := by
  obtain ⟨e, hx, kk⟩ := kk
  exact T_ps _ hq hf (putZ hx) ⟨e, kk⟩
theorem T_pzr {idx ci k : Nat} {w : Nat × Nat} {z : Int} {r : Option Nat} {x : Int32} (hq : mT[j]? = some q) (hf : (mCo q).lookup pc = some (.putfield idx, 3, (ci, k, 3, w, z))) (kk : dr r (fun a => ob h a ci ((x = 0 ∨ x = 1) ∧ ∀ h', h' = pi h (fid ci k) a x → T j (pc + 3) lv st h' Q))) : T j pc lv (tI x :: tR r :: st) h Q := by
  obtain ⟨a, rfl, kk⟩ := kk
  exact T_pz hq hf kk
theorem T_new {idx ci n kd : Nat} {w : Nat × Nat} {z : Int} (hq : mT[j]? = some q) (hf : (mCo q).lookup pc = some (.new idx, 3, (ci, n, kd, w, z))) (kk : ∀ (h' : Hp) (a : Nat), h' = nw h (.inl ci) n → a = sz h → T j (pc + 3) lv (tR (some a) :: st) h' Q) : T j pc lv st h Q :=
  T_h (z := (tR (some (sz h)) :: st, nw h (.inl ci) n)) hq hf rfl rfl rfl rfl (kk _ _ rfl rfl)
theorem nA_eq {t : Nat} {n : Int32} {N : Nat} (hn : ¬ n < 0) (hN : n.toNatClampNeg = N) (hb : N * 8 ≤ 536870912) : nA t (tI n :: st) h = some (tR (some (sz h)) :: st, nw h (.inr (t, N)) N) := by
  subst hN
  show (if n < 0 then none else if n.toNatClampNeg * 8 ≤ 536870912 then some (tR (some (sz h)) :: st, nw h (.inr (t, n.toNatClampNeg)) n.toNatClampNeg) else none) = _
  rw [if_neg hn, if_pos hb]
theorem T_na {ty : ArrayType} {rs : Rs} {t : Nat} {n : Int32} {N : Nat} (hq : mT[j]? = some q) (hf : (mCo q).lookup pc = some (.newarray ty, 2, rs)) (ht : kOf ty = t) (hn : ¬ n < 0) (hN : n.toNatClampNeg = N) (hb : N * 8 ≤ 536870912) (kk : ∀ (h' : Hp) (a : Nat), h' = nw h (.inr (t, N)) N → a = sz h → T j (pc + 2) lv (tR (some a) :: st) h' Q) : T j pc lv (tI n :: st) h Q := by
  subst ht
  exact T_h (z := (tR (some (sz h)) :: st, nw h (.inr (kOf ty, N)) N)) hq hf rfl rfl rfl (nA_eq hn hN hb) (kk _ _ rfl rfl)
theorem T_nr {idx t b kd : Nat} {w : Nat × Nat} {z : Int} {n : Int32} {N : Nat} (hq : mT[j]? = some q) (hf : (mCo q).lookup pc = some (.anewarray idx, 3, (t, b, kd, w, z))) (hn : ¬ n < 0) (hN : n.toNatClampNeg = N) (hb : N * 8 ≤ 536870912) (kk : ∀ (h' : Hp) (a : Nat), h' = nw h (.inr (t, N)) N → a = sz h → T j (pc + 3) lv (tR (some a) :: st) h' Q) : T j pc lv (tI n :: st) h Q :=
  T_h (z := (tR (some (sz h)) :: st, nw h (.inr (t, N)) N)) hq hf rfl rfl rfl (nA_eq hn hN hb) (kk _ _ rfl rfl)
theorem T_len {rs : Rs} {r : Option Nat} (hq : mT[j]? = some q) (hf : (mCo q).lookup pc = some (.arraylength, 1, rs)) (kk : dr r (fun a => al_ h a (fun n => T j (pc + 1) lv (tI (Int32.ofNat n) :: st) h Q))) : T j pc lv (tR r :: st) h Q := by
  obtain ⟨a, rfl, t, n, e, kk⟩ := kk
  refine T_h (z := (tI (Int32.ofNat n) :: st, h)) hq hf rfl rfl rfl ?_ kk
  show (match tg h a with
    | some (.inr (_, n)) => some (tI (Int32.ofNat n) :: st, h)
    | _ => none) = _
  rw [e]
theorem aLd_eq {ok : Nat → Bool} {i : Int32} {a t n : Nat} (e : tg h a = some (.inr (t, n))) (ho : ok t = true) (hi : ¬ (i < 0 ∨ n ≤ i.toNatClampNeg)) : aLd ok (tI i :: tR (some a) :: st) h = some (av t h a i.toNatClampNeg :: st, h) := by
  show (match tg h a with
    | some (.inr (t, n)) => if ok t = true ∧ ¬ (i < 0 ∨ n ≤ i.toNatClampNeg) then some (av t h a i.toNatClampNeg :: st, h) else none
    | _ => none) = _
  rw [e]
  dsimp only
  rw [if_pos ⟨ho, hi⟩]
theorem T_ial {rs : Rs} {r : Option Nat} {i : Int32} (hq : mT[j]? = some q) (hf : (mCo q).lookup pc = some (.iaload, 1, rs)) (kk : dr r (fun a => ix h kI a i (T j (pc + 1) lv (tI (ai h a i.toNatClampNeg) :: st) h Q))) : T j pc lv (tI i :: tR r :: st) h Q := by
  obtain ⟨a, rfl, t, n, e, ho, hi, kk⟩ := kk
  refine T_h (z := (av t h a i.toNatClampNeg :: st, h)) hq hf rfl rfl rfl (aLd_eq e ho hi) ?_
  have h0 : t = 0 ∨ t = 9 := by
    have ho : (t == 0 || t == 9) = true := ho
    simpa using ho
  rcases h0 with rfl | rfl <;> exact kk
theorem T_bal {rs : Rs} {r : Option Nat} {i : Int32} (hq : mT[j]? = some q) (hf : (mCo q).lookup pc = some (.baload, 1, rs)) (kk : dr r (fun a => ix h kB a i (T j (pc + 1) lv (tI (ai h a i.toNatClampNeg) :: st) h Q))) : T j pc lv (tI i :: tR r :: st) h Q := by
  obtain ⟨a, rfl, t, n, e, ho, hi, kk⟩ := kk
  refine T_h (z := (av t h a i.toNatClampNeg :: st, h)) hq hf rfl rfl rfl (aLd_eq e ho hi) ?_
  have h0 : t = 2 ∨ t = 3 := by
    have ho : (t == 2 || t == 3) = true := ho
    simpa using ho
  rcases h0 with rfl | rfl <;> exact kk
theorem T_lal {rs : Rs} {r : Option Nat} {i : Int32} (hq : mT[j]? = some q) (hf : (mCo q).lookup pc = some (.laload, 1, rs)) (kk : dr r (fun a => ix h kJ a i (T j (pc + 1) lv (tL (al h a i.toNatClampNeg) :: st) h Q))) : T j pc lv (tI i :: tR r :: st) h Q := by
  obtain ⟨a, rfl, t, n, e, ho, hi, kk⟩ := kk
  refine T_h (z := (av t h a i.toNatClampNeg :: st, h)) hq hf rfl rfl rfl (aLd_eq e ho hi) ?_
  have h0 : t = 1 := by simpa using ho
  subst h0
  exact kk
theorem T_aal {rs : Rs} {r : Option Nat} {i : Int32} (hq : mT[j]? = some q) (hf : (mCo q).lookup pc = some (.aaload, 1, rs)) (kk : dr r (fun a => ix h kA a i (T j (pc + 1) lv (tR (aq h a i.toNatClampNeg) :: st) h Q))) : T j pc lv (tI i :: tR r :: st) h Q := by
  obtain ⟨a, rfl, t, n, e, ho, hi, kk⟩ := kk
  refine T_h (z := (av t h a i.toNatClampNeg :: st, h)) hq hf rfl rfl rfl (aLd_eq e ho hi) ?_
  have h0 : 10 ≤ t := by simpa using ho
  dsimp only
  rw [av_ge h0]
  exact kk
theorem aSt_eq {ok : Nat → Bool} {v : TV} {i : Int32} {a t n : Nat} {h' : Hp} (e : tg h a = some (.inr (t, n))) (ho : ok t = true) (hi : ¬ (i < 0 ∨ n ≤ i.toNatClampNeg)) (hv : astV t h a i.toNatClampNeg v = some h') : aSt ok (v :: tI i :: tR (some a) :: st) h = some (st, h') := by
  show (match tg h a with
    | some (.inr (t, n)) => if ok t = true ∧ ¬ (i < 0 ∨ n ≤ i.toNatClampNeg) then (match astV t h a i.toNatClampNeg v with
      | some h' => some (st, h')
      | none => none) else none
    | _ => none) = _
  rw [e]
  dsimp only
  rw [if_pos ⟨ho, hi⟩, hv]
theorem T_ias {rs : Rs} {r : Option Nat} {i x : Int32} (hq : mT[j]? = some q) (hf : (mCo q).lookup pc = some (.iastore, 1, rs)) (kk : dr r (fun a => ix h kIs a i (∀ h', h' = si h a i.toNatClampNeg x → T j (pc + 1) lv st h' Q))) : T j pc lv (tI x :: tI i :: tR r :: st) h Q := by
  obtain ⟨a, rfl, t, n, e, ho, hi, kk⟩ := kk
  have h0 : t = 0 := by simpa using ho
  subst h0
  exact T_h (z := (st, si h a i.toNatClampNeg x)) hq hf rfl rfl rfl (aSt_eq e rfl hi rfl) (kk _ rfl)
theorem T_las {rs : Rs} {r : Option Nat} {i : Int32} {x : Int64} (hq : mT[j]? = some q) (hf : (mCo q).lookup pc = some (.lastore, 1, rs)) (kk : dr r (fun a => ix h kJ a i (∀ h', h' = sl h a i.toNatClampNeg x → T j (pc + 1) lv st h' Q))) : T j pc lv (tL x :: tI i :: tR r :: st) h Q := by
  obtain ⟨a, rfl, t, n, e, ho, hi, kk⟩ := kk
  have h0 : t = 1 := by simpa using ho
  subst h0
  exact T_h (z := (st, sl h a i.toNatClampNeg x)) hq hf rfl rfl rfl (aSt_eq e rfl hi rfl) (kk _ rfl)
theorem T_bas {rs : Rs} {r : Option Nat} {i x : Int32} (hq : mT[j]? = some q) (hf : (mCo q).lookup pc = some (.bastore, 1, rs)) (kk : dr r (fun a => ix h kBy a i (∀ h', h' = si h a i.toNatClampNeg x.toInt8.toInt32 → T j (pc + 1) lv st h' Q))) : T j pc lv (tI x :: tI i :: tR r :: st) h Q := by
  obtain ⟨a, rfl, t, n, e, ho, hi, kk⟩ := kk
  have h0 : t = 2 := by simpa using ho
  subst h0
  exact T_h (z := (st, si h a i.toNatClampNeg x.toInt8.toInt32)) hq hf rfl rfl rfl (aSt_eq e rfl hi rfl) (kk _ rfl)
theorem T_zas {rs : Rs} {r : Option Nat} {i x : Int32} (hq : mT[j]? = some q) (hf : (mCo q).lookup pc = some (.bastore, 1, rs)) (kk : dr r (fun a => ix h kZ a i (∀ h', h' = si h a i.toNatClampNeg (x &&& 1) → T j (pc + 1) lv st h' Q))) : T j pc lv (tI x :: tI i :: tR r :: st) h Q := by
  obtain ⟨a, rfl, t, n, e, ho, hi, kk⟩ := kk
  have h0 : t = 3 := by simpa using ho
  subst h0
  exact T_h (z := (st, si h a i.toNatClampNeg (x &&& 1))) hq hf rfl rfl rfl (aSt_eq e rfl hi rfl) (kk _ rfl)
/-- an array of references, an index within it, and what may be stored there -/
def ixa (h : Hp) (a : Nat) (i : Int32) (v : Option Nat) (P : Prop) : Prop := ∃ t n, tg h a = some (.inr (t, n)) ∧ 10 ≤ t ∧ ¬ (i < 0 ∨ n ≤ i.toNatClampNeg) ∧ (∀ b, v = some b → tg h b = some (.inl (t - 10))) ∧ P
theorem ixa_of {a t n : Nat} {i : Int32} {v : Option Nat} {P : Prop} (e : tg h a = some (.inr (t, n))) (ht : 10 ≤ t) (hi : ¬ (i < 0 ∨ n ≤ i.toNatClampNeg)) (hv : ∀ b, v = some b → tg h b = some (.inl (t - 10))) (p : P) : ixa h a i v P := ⟨t, n, e, ht, hi, hv, p⟩
theorem T_aas {rs : Rs} {r v : Option Nat} {i : Int32} (hq : mT[j]? = some q) (hf : (mCo q).lookup pc = some (.aastore, 1, rs)) (kk : dr r (fun a => ixa h a i v (∀ h', h' = sq h a i.toNatClampNeg v → T j (pc + 1) lv st h' Q))) : T j pc lv (tR v :: tI i :: tR r :: st) h Q := by
  obtain ⟨a, rfl, t, n, e, ho, hi, hv, kk⟩ := kk
  refine T_h (z := (st, sq h a i.toNatClampNeg v)) hq hf rfl rfl rfl (aSt_eq e (decide_eq_true ho) hi ?_) (kk _ rfl)
  cases v with
  | none =>
    show (if 10 ≤ t then some (sq h a i.toNatClampNeg none) else none) = _
    rw [if_pos ho]
  | some b =>
    show (if 10 ≤ t ∧ tg h b = some (.inl (t - 10)) then some (sq h a i.toNatClampNeg (some b)) else none) = _
    rw [if_pos ⟨ho, hv b rfl⟩]
/-! returns -/
theorem T_ri {rs : Rs} {v : Int32} (hq : mT[j]? = some q) (hf : (mCo q).lookup pc = some (.ireturn, 1, rs)) (hR : mR q = some .int) (k : Q (some (tI v)) h) : T j pc lv [tI v] h Q := by
  refine T_ret hq hf rfl rfl ?_ k
  rw [hR]
  rfl
theorem T_rz {rs : Rs} {v : Int32} (hq : mT[j]? = some q) (hf : (mCo q).lookup pc = some (.ireturn, 1, rs)) (hR : mR q = some .boolean) (hv : v = 0 ∨ v = 1) (k : Q (some (tI v)) h) : T j pc lv [tI v] h Q := by
  refine T_ret hq hf rfl rfl ?_ k
  rw [hR]
  show (if v = 0 ∨ v = 1 then some (some (tI v)) else none) = _
  rw [if_pos hv]
theorem T_rl {rs : Rs} {v : Int64} (hq : mT[j]? = some q) (hf : (mCo q).lookup pc = some (.lreturn, 1, rs)) (hR : mR q = some .long) (k : Q (some (tL v)) h) : T j pc lv [tL v] h Q := by
  refine T_ret hq hf rfl rfl ?_ k
  rw [hR]
  rfl
theorem T_ra {rs : Rs} {v : Option Nat} {C : String} (hq : mT[j]? = some q) (hf : (mCo q).lookup pc = some (.areturn, 1, rs)) (hR : mR q = some (.object C)) (k : Q (some (tR v)) h) : T j pc lv [tR v] h Q := by
  refine T_ret hq hf rfl rfl ?_ k
  rw [hR]
  rfl
theorem T_rv {rs : Rs} (hq : mT[j]? = some q) (hf : (mCo q).lookup pc = some (.return_, 1, rs)) (hR : mR q = none) (k : Q none h) : T j pc lv [] h Q := by
  refine T_ret hq hf rfl rfl ?_ k
  rw [hR]
  rfl
/-! calls -/
theorem T_cs {idx j' n : Nat} {w : Nat × Nat} {z : Int} {q' : MD} {ar rest : List TV} {lv' : Lc} (hq : mT[j]? = some q) (hf : (mCo q).lookup pc = some (.invokestatic idx, 3, (j', n, 0, w, z))) (h1 : st.take n = ar) (h2 : st.drop n = rest) (h3 : ar.length = n) (h4 : cats rest ≤ 8) (hq' : mT[j']? = some q') (hl : (lvA0 ar.reverse).length ≤ mL q') (hlv : lvA (mL q') ar.reverse = lv') (k : T j' 0 lv' [] h (fun r h1 => T j (pc + 3) lv (tvl r ++ rest) h1 Q)) : T j pc lv st h Q := by
  subst h1
  subst h2
  refine T_call (as := (st.take n).reverse) (rest := st.drop n) hq hf rfl ?_ hq' hl hlv k
  show (if (0 : Nat) = 0 then (if (st.take n).length = n ∧ cats (st.drop n) ≤ 8 then some (j', (st.take n).reverse, st.drop n) else none) else none) = _
  rw [if_pos rfl, if_pos ⟨h3, h4⟩]
theorem T_ci {idx j' n : Nat} {w : Nat × Nat} {z : Int} {q' : MD} {ar rest : List TV} {a : Nat} {lv' : Lc} (hq : mT[j]? = some q) (hf : (mCo q).lookup pc = some (.invokespecial idx, 3, (j', n, 1, w, z))) (h1 : st.take n = ar) (h2 : st.drop n = tR (some a) :: rest) (h3 : ar.length = n) (h4 : cats rest ≤ 8) (hq' : mT[j']? = some q') (hl : (lvA0 (tR (some a) :: ar.reverse)).length ≤ mL q') (hlv : lvA (mL q') (tR (some a) :: ar.reverse) = lv') (k : T j' 0 lv' [] h (fun r h1 => T j (pc + 3) lv (tvl r ++ rest) h1 Q)) : T j pc lv st h Q := by
  subst h1
  refine T_call (as := tR (some a) :: (st.take n).reverse) (rest := rest) hq hf rfl ?_ hq' hl hlv k
  show (if (1 : Nat) = 1 then (match st.drop n with
    | .inr (.inr (some b)) :: r => if (st.take n).length = n ∧ cats r ≤ 8 then some (j', tR (some b) :: (st.take n).reverse, r) else none
    | _ => none) else none) = _
  rw [if_pos rfl, h2]
  show (if (st.take n).length = n ∧ cats rest ≤ 8 then _ else none) = _
  rw [if_pos ⟨h3, h4⟩]
theorem T_cv {idx j' n ci : Nat} {w : Nat × Nat} {z : Int} {q' : MD} {ar rest : List TV} {r : Option Nat} (lv' : Nat → Lc) (hq : mT[j]? = some q) (hf : (mCo q).lookup pc = some (.invokevirtual idx, 3, (j', n, ci, w, z))) (h1 : st.take n = ar) (h2 : st.drop n = tR r :: rest) (h3 : ar.length = n) (h4 : cats rest ≤ 8) (hq' : mT[j']? = some q') (hl : ∀ a, (lvA0 (tR (some a) :: ar.reverse)).length ≤ mL q') (hlv : ∀ a, lvA (mL q') (tR (some a) :: ar.reverse) = lv' a) (k : dr r (fun a => ob h a ci (T j' 0 (lv' a) [] h (fun r h1 => T j (pc + 3) lv (tvl r ++ rest) h1 Q)))) : T j pc lv st h Q := by
  subst h1
  obtain ⟨a, rfl, e, k⟩ := k
  refine T_call (as := tR (some a) :: (st.take n).reverse) (rest := rest) hq hf rfl ?_ hq' (hl a) (hlv a) k
  show (match st.drop n with
    | .inr (.inr (some b)) :: r => if (st.take n).length = n ∧ tg h b = some (Sum.inl ci) ∧ cats r ≤ 8 then some (j', tR (some b) :: (st.take n).reverse, r) else none
    | _ => none) = _
  rw [h2]
  show (if (st.take n).length = n ∧ tg h a = some (Sum.inl ci) ∧ cats rest ≤ 8 then _ else none) = _
  rw [if_pos ⟨h3, e, h4⟩]
theorem T_ki {lv' : Lc} {rest : List TV} {j' pc' : Nat} {h : Hp} (k : T j' 0 lv' [] h (rI (fun x h1 => T j pc' lv (tI x :: rest) h1 Q))) : T j' 0 lv' [] h (fun r h1 => T j pc' lv (tvl r ++ rest) h1 Q) := k.mono (fun r h1 ⟨x, e, kk⟩ => by rw [e]; exact kk)
theorem T_kl {lv' : Lc} {rest : List TV} {j' pc' : Nat} {h : Hp} (k : T j' 0 lv' [] h (rL (fun x h1 => T j pc' lv (tL x :: rest) h1 Q))) : T j' 0 lv' [] h (fun r h1 => T j pc' lv (tvl r ++ rest) h1 Q) := k.mono (fun r h1 ⟨x, e, kk⟩ => by rw [e]; exact kk)
theorem T_kr {lv' : Lc} {rest : List TV} {j' pc' : Nat} {h : Hp} (k : T j' 0 lv' [] h (rR (fun x h1 => T j pc' lv (tR x :: rest) h1 Q))) : T j' 0 lv' [] h (fun r h1 => T j pc' lv (tvl r ++ rest) h1 Q) := k.mono (fun r h1 ⟨x, e, kk⟩ => by rw [e]; exact kk)
theorem T_kv {lv' : Lc} {rest : List TV} {j' pc' : Nat} {h : Hp} (k : T j' 0 lv' [] h (rV (fun h1 => T j pc' lv rest h1 Q))) : T j' 0 lv' [] h (fun r h1 => T j pc' lv (tvl r ++ rest) h1 Q) := k.mono (fun r h1 ⟨e, kk⟩ => by rw [e]; exact kk)
end TR
