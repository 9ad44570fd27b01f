/-! AN INTERPRETER OF THE BYTECODE over the heap of maps, 1: what an instruction does to stack, locals and program counter -/
def ilen (i : Instr) : Nat := match i with
  | .bipush _ => 2
  | .iload _ => 2
  | .lload _ => 2
  | .aload _ => 2
  | .istore _ => 2
  | .lstore _ => 2
  | .astore _ => 2
  | .ldc _ => 2
  | .newarray _ => 2
  | .sipush _ => 3
  | .iinc _ _ => 3
  | .ifCond _ _ => 3
  | .if_icmp _ _ => 3
  | .if_acmp _ _ => 3
  | .goto _ => 3
  | .ifnull _ => 3
  | .ifnonnull _ => 3
  | .getfield _ => 3
  | .putfield _ => 3
  | .invokevirtual _ => 3
  | .invokespecial _ => 3
  | .invokestatic _ => 3
  | .new _ => 3
  | .anewarray _ => 3
  | .ldc2_w _ => 3
  | _ => 1
def pII (f : Int32 → Int32 → TV) (st : List TV) : Option (List TV) := match st with
  | .inl y :: .inl x :: r => some (f x y :: r)
  | _ => none
def pLL (f : Int64 → Int64 → TV) (st : List TV) : Option (List TV) := match st with
  | .inr (.inl y) :: .inr (.inl x) :: r => some (f x y :: r)
  | _ => none
def pLI (f : Int64 → Int32 → TV) (st : List TV) : Option (List TV) := match st with
  | .inl y :: .inr (.inl x) :: r => some (f x y :: r)
  | _ => none
def pI (f : Int32 → TV) (st : List TV) : Option (List TV) := match st with
  | .inl x :: r => some (f x :: r)
  | _ => none
def pL (f : Int64 → TV) (st : List TV) : Option (List TV) := match st with
  | .inr (.inl x) :: r => some (f x :: r)
  | _ => none
theorem pII_inv {f : Int32 → Int32 → TV} {st st' : List TV} (h : pII f st = some st') : ∃ (x y : Int32) (r : List TV), st = .inl y :: .inl x :: r ∧ st' = f x y :: r := by
  unfold pII at h
  split at h
  · cases h
    exact ⟨_, _, _, rfl, rfl⟩
  · cases h
theorem pLL_inv {f : Int64 → Int64 → TV} {st st' : List TV} (h : pLL f st = some st') : ∃ (x y : Int64) (r : List TV), st = .inr (.inl y) :: .inr (.inl x) :: r ∧ st' = f x y :: r := by
  unfold pLL at h
  split at h
  · cases h
    exact ⟨_, _, _, rfl, rfl⟩
  · cases h
theorem pLI_inv {f : Int64 → Int32 → TV} {st st' : List TV} (h : pLI f st = some st') : ∃ (x : Int64) (y : Int32) (r : List TV), st = .inl y :: .inr (.inl x) :: r ∧ st' = f x y :: r := by
  unfold pLI at h
  split at h
  · cases h
    exact ⟨_, _, _, rfl, rfl⟩
  · cases h
theorem pI_inv {f : Int32 → TV} {st st' : List TV} (h : pI f st = some st') : ∃ (x : Int32) (r : List TV), st = .inl x :: r ∧ st' = f x :: r := by
  unfold pI at h
  split at h
  · cases h
    exact ⟨_, _, rfl, rfl⟩
  · cases h
theorem pL_inv {f : Int64 → TV} {st st' : List TV} (h : pL f st = some st') : ∃ (x : Int64) (r : List TV), st = .inr (.inl x) :: r ∧ st' = f x :: r := by
  unfold pL at h
  split at h
  · cases h
    exact ⟨_, _, rfl, rfl⟩
  · cases h
/-- division: none by 0 -/
def pIId (f : Int32 → Int32 → TV) (st : List TV) : Option (List TV) := match st with
  | .inl y :: .inl x :: r => if y = 0 then none else some (f x y :: r)
  | _ => none
def pLLd (f : Int64 → Int64 → TV) (st : List TV) : Option (List TV) := match st with
  | .inr (.inl y) :: .inr (.inl x) :: r => if y = 0 then none else some (f x y :: r)
  | _ => none
theorem pIId_inv {f : Int32 → Int32 → TV} {st st' : List TV} (h : pIId f st = some st') : ∃ (x y : Int32) (r : List TV), st = .inl y :: .inl x :: r ∧ ¬ y = 0 ∧ st' = f x y :: r := by
  unfold pIId at h
  split at h
  · split at h
    · cases h
    · rename_i hy
      cases h
      exact ⟨_, _, _, rfl, hy, rfl⟩
  · cases h
theorem pLLd_inv {f : Int64 → Int64 → TV} {st st' : List TV} (h : pLLd f st = some st') : ∃ (x y : Int64) (r : List TV), st = .inr (.inl y) :: .inr (.inl x) :: r ∧ ¬ y = 0 ∧ st' = f x y :: r := by
  unfold pLLd at h
  split at h
  · split at h
    · cases h
    · rename_i hy
      cases h
      exact ⟨_, _, _, rfl, hy, rfl⟩
  · cases h
def pDup (st : List TV) : Option (List TV) := match st with
  | x :: r => if tlg x = true then none else some (x :: x :: r)
  | _ => none
def pPop (st : List TV) : Option (List TV) := match st with
  | x :: r => if tlg x = true then none else some r
  | _ => none
def pDupx1 (st : List TV) : Option (List TV) := match st with
  | x :: y :: r => if tlg x = true then none else if tlg y = true then none else some (x :: y :: x :: r)
  | _ => none
def pDupx2 (st : List TV) : Option (List TV) := match st with
  | x :: y :: z :: r => if tlg x = true then none else if tlg y = true then none else if tlg z = true then none else some (x :: y :: z :: x :: r)
  | _ => none
def pDup2 (st : List TV) : Option (List TV) := match st with
  | x :: r => if tlg x = true then some (x :: x :: r) else match r with
    | y :: r => if tlg y = true then none else some (x :: y :: x :: y :: r)
    | _ => none
  | _ => none
def pPop2 (st : List TV) : Option (List TV) := match st with
  | x :: r => if tlg x = true then some r else match r with
    | y :: r => if tlg y = true then none else some r
    | _ => none
  | _ => none
def pDup2x1 (st : List TV) : Option (List TV) := match st with
  | x :: y :: r => if tlg x = true then (if tlg y = true then none else some (x :: y :: x :: r)) else none
  | _ => none
def pDup2x2 (st : List TV) : Option (List TV) := match st with
  | x :: y :: z :: r => if tlg x = true then (if tlg y = true then none else if tlg z = true then none else some (x :: y :: z :: x :: r)) else none
  | _ => none
theorem cat1 {x : TV} (h : ¬ tlg x = true) : (tv x).category = 1 := by rw [tv_cat, if_neg h]
theorem cat2 {x : TV} (h : tlg x = true) : (tv x).category = 2 := by rw [tv_cat, if_pos h]
def opS (i : Instr) (st : List TV) : Option (List TV) := match i with
  | .iconst n => some (tI (Int32.ofInt n) :: st)
  | .bipush n => some (tI ((Int8.ofInt n).toInt32) :: st)
  | .sipush n => some (tI ((Int16.ofInt n).toInt32) :: st)
  | .lconst n => some (tL (Int64.ofNat (n : Nat)) :: st)
  | .aconst_null => some (tR none :: st)
  | .iadd => pII (fun x y => tI (x + y)) st
  | .isub => pII (fun x y => tI (x - y)) st
  | .imul => pII (fun x y => tI (x * y)) st
  | .iand => pII (fun x y => tI (x &&& y)) st
  | .ior => pII (fun x y => tI (x ||| y)) st
  | .ixor => pII (fun x y => tI (x ^^^ y)) st
  | .idiv => pIId (fun x y => tI (x / y)) st
  | .irem => pIId (fun x y => tI (x - x / y * y)) st
  | .ineg => pI (fun x => tI (-x)) st
  | .ishl => pII (fun x y => tI (x <<< (y &&& 31))) st
  | .ishr => pII (fun x y => tI (x >>> (y &&& 31))) st
  | .iushr => pII (fun x y => tI ((x.toUInt32 >>> (y.toUInt32 &&& Int32.toUInt32 31)).toInt32)) st
  | .ladd => pLL (fun x y => tL (x + y)) st
  | .lsub => pLL (fun x y => tL (x - y)) st
  | .lmul => pLL (fun x y => tL (x * y)) st
  | .land => pLL (fun x y => tL (x &&& y)) st
  | .lor => pLL (fun x y => tL (x ||| y)) st
  | .lxor => pLL (fun x y => tL (x ^^^ y)) st
  | .ldiv => pLLd (fun x y => tL (x / y)) st
  | .lrem => pLLd (fun x y => tL (x - x / y * y)) st
  | .lneg => pL (fun x => tL (-x)) st
  | .lshl => pLI (fun x y => tL (x <<< (y.toInt64 &&& 63))) st
  | .lshr => pLI (fun x y => tL (x >>> (y.toInt64 &&& 63))) st
  | .lushr => pLI (fun x y => tL ((x.toUInt64 >>> (y.toInt64.toUInt64 &&& Int64.toUInt64 63)).toInt64)) st
  | .lcmp => pLL (fun x y => tI (lg_cmp x y)) st
  | .i2l => pI (fun x => tL x.toInt64) st
  | .l2i => pL (fun x => tI x.toInt32) st
  | .i2b => pI (fun x => tI x.toInt8.toInt32) st
  | .i2s => pI (fun x => tI x.toInt16.toInt32) st
  | .i2c => pI (fun x => tI ((x.toUInt32 % 65536).toInt32)) st
  | .dup => pDup st
  | .pop => pPop st
  | .dup_x1 => pDupx1 st
  | .dup_x2 => pDupx2 st
  | .dup2 => pDup2 st
  | .pop2 => pPop2 st
  | .dup2_x1 => pDup2x1 st
  | .dup2_x2 => pDup2x2 st
  | _ => none
section SND
variable {p : Program} {l : Launch} {e : Env} {R : Room} {s : State} {m : MethodId} {args : Array Value} {below : List Frame} {meth : Method} {c : Code} {H : Heap} {locs : List Loc} {cells slots : Nat} {Q : State → Prop} {cc : ByteArray} {pc : Nat} {ls : Array Slot}
set_option maxHeartbeats 4000000 in
theorem opS_ok (hx : p.tables.exec = Jvm.exec) (hb : c.code = cc) {i : Instr} {st st' : List TV} (h : opS i st = some st') (hd : decode cc pc = .ok (i, ilen i)) (k : W p l e R s m args below meth c H locs cells slots Q (F0 m (pc + ilen i) ls (st'.map tv))) : W p l e R s m args below meth c H locs cells slots Q (F0 m pc ls (st.map tv)) := by
  cases i with
  | iconst n => cases h; exact lv_iconst hx hb hd rfl k
  | bipush n => cases h; exact lv_bipush hx hb hd rfl k
  | sipush n => cases h; exact lv_sipush hx hb hd rfl k
  | lconst n => cases h; exact lv_lconst hx hb hd rfl k
  | aconst_null => cases h; exact lv_null hx hb hd k
  | iadd => obtain ⟨x, y, r, rfl, rfl⟩ := pII_inv h; exact lv_iadd hx hb hd k
  | isub => obtain ⟨x, y, r, rfl, rfl⟩ := pII_inv h; exact lv_isub hx hb hd k
  | imul => obtain ⟨x, y, r, rfl, rfl⟩ := pII_inv h; exact lv_imul hx hb hd k
  | iand => obtain ⟨x, y, r, rfl, rfl⟩ := pII_inv h; exact lv_iand hx hb hd k
  | ior => obtain ⟨x, y, r, rfl, rfl⟩ := pII_inv h; exact lv_ior hx hb hd k
  | ixor => obtain ⟨x, y, r, rfl, rfl⟩ := pII_inv h; exact lv_ixor hx hb hd k
  | idiv => obtain ⟨x, y, r, rfl, hy, rfl⟩ := pIId_inv h; exact lv_idiv hx hb hd hy k
  | irem => obtain ⟨x, y, r, rfl, hy, rfl⟩ := pIId_inv h; exact lv_irem hx hb hd hy k
  | ineg => obtain ⟨x, r, rfl, rfl⟩ := pI_inv h; exact lv_ineg hx hb hd k
  | ishl => obtain ⟨x, y, r, rfl, rfl⟩ := pII_inv h; exact lv_ishl hx hb hd k
  | ishr => obtain ⟨x, y, r, rfl, rfl⟩ := pII_inv h; exact lv_ishr hx hb hd k
  | iushr => obtain ⟨x, y, r, rfl, rfl⟩ := pII_inv h; exact lv_iushr hx hb hd rfl k
  | ladd => obtain ⟨x, y, r, rfl, rfl⟩ := pLL_inv h; exact lv_ladd hx hb hd k
  | lsub => obtain ⟨x, y, r, rfl, rfl⟩ := pLL_inv h; exact lv_lsub hx hb hd k
  | lmul => obtain ⟨x, y, r, rfl, rfl⟩ := pLL_inv h; exact lv_lmul hx hb hd k
  | land => obtain ⟨x, y, r, rfl, rfl⟩ := pLL_inv h; exact lv_land hx hb hd k
  | lor => obtain ⟨x, y, r, rfl, rfl⟩ := pLL_inv h; exact lv_lor hx hb hd k
  | lxor => obtain ⟨x, y, r, rfl, rfl⟩ := pLL_inv h; exact lv_lxor hx hb hd k
  | ldiv => obtain ⟨x, y, r, rfl, hy, rfl⟩ := pLLd_inv h; exact lv_ldiv hx hb hd hy k
  | lrem => obtain ⟨x, y, r, rfl, hy, rfl⟩ := pLLd_inv h; exact lv_lrem hx hb hd hy k
  | lneg => obtain ⟨x, r, rfl, rfl⟩ := pL_inv h; exact lv_lneg hx hb hd k
  | lshl => obtain ⟨x, y, r, rfl, rfl⟩ := pLI_inv h; exact lv_lshl hx hb hd rfl k
  | lshr => obtain ⟨x, y, r, rfl, rfl⟩ := pLI_inv h; exact lv_lshr hx hb hd rfl k
  | lushr => obtain ⟨x, y, r, rfl, rfl⟩ := pLI_inv h; exact lv_lushr hx hb hd rfl k
  | lcmp => obtain ⟨x, y, r, rfl, rfl⟩ := pLL_inv h; exact W.lcmp hx hb hd k
  | i2l => obtain ⟨x, r, rfl, rfl⟩ := pI_inv h; exact lv_i2l hx hb hd rfl k
  | l2i => obtain ⟨x, r, rfl, rfl⟩ := pL_inv h; exact lv_l2i hx hb hd rfl k
  | i2b => obtain ⟨x, r, rfl, rfl⟩ := pI_inv h; exact lv_i2b hx hb hd rfl k
  | i2s => obtain ⟨x, r, rfl, rfl⟩ := pI_inv h; exact lv_i2s hx hb hd rfl k
  | i2c => obtain ⟨x, r, rfl, rfl⟩ := pI_inv h; exact lv_i2c hx hb hd rfl k
  | dup =>
    have h : pDup st = some st' := h
    unfold pDup at h
    split at h
    · split at h
      · cases h
      · rename_i h1
        cases h
        exact lv_dup hx hb hd (cat1 h1) k
    · cases h
  | pop =>
    have h : pPop st = some st' := h
    unfold pPop at h
    split at h
    · split at h
      · cases h
      · rename_i h1
        cases h
        exact lv_pop hx hb hd (cat1 h1) k
    · cases h
  | dup_x1 =>
    have h : pDupx1 st = some st' := h
    unfold pDupx1 at h
    split at h
    · split at h
      · cases h
      · rename_i h1
        split at h
        · cases h
        · rename_i h2
          cases h
          exact lv_dup_x1 hx hb hd (cat1 h1) (cat1 h2) k
    · cases h
  | dup_x2 =>
    have h : pDupx2 st = some st' := h
    unfold pDupx2 at h
    split at h
    · split at h
      · cases h
      · rename_i h1
        split at h
        · cases h
        · rename_i h2
          split at h
          · cases h
          · rename_i h3
            cases h
            exact lv_dup_x2 hx hb hd (cat1 h1) (cat1 h2) (cat1 h3) k
    · cases h
  | dup2 =>
    have h : pDup2 st = some st' := h
    unfold pDup2 at h
    split at h
    · split at h
      · rename_i h1
        cases h
        exact lv_dup2_2 hx hb hd (cat2 h1) k
      · rename_i h1
        split at h
        · split at h
          · cases h
          · rename_i h2
            cases h
            exact lv_dup2_11 hx hb hd (cat1 h1) (cat1 h2) k
        · cases h
    · cases h
  | pop2 =>
    have h : pPop2 st = some st' := h
    unfold pPop2 at h
    split at h
    · split at h
      · rename_i h1
        cases h
        exact lv_pop2_2 hx hb hd (cat2 h1) k
      · rename_i h1
        split at h
        · split at h
          · cases h
          · rename_i h2
            cases h
            exact lv_pop2_11 hx hb hd (cat1 h1) (cat1 h2) k
        · cases h
    · cases h
  | dup2_x1 =>
    have h : pDup2x1 st = some st' := h
    unfold pDup2x1 at h
    split at h
    · split at h
      · rename_i h1
        split at h
        · cases h
        · rename_i h2
          cases h
          exact lv_dup2_x1_2 hx hb hd (cat2 h1) (cat1 h2) k
      · cases h
    · cases h
  | dup2_x2 =>
    have h : pDup2x2 st = some st' := h
    unfold pDup2x2 at h
    split at h
    · split at h
      · rename_i h1
        split at h
        · cases h
        · rename_i h2
          split at h
          · cases h
          · rename_i h3
            cases h
            exact lv_dup2_x2_2 hx hb hd (cat2 h1) (cat1 h2) (cat1 h3) k
      · cases h
    · cases h
  | _ => exact nomatch (show (none : Option (List TV)) = some st' from h)
end SND
/-! loads and stores of locals -/
def ldI (lv : Lc) (n : Nat) (st : List TV) : Option (Lc × List TV) := match lv[n]? with
  | some (some (.inl x)) => some (lv, tI x :: st)
  | _ => none
def ldL (lv : Lc) (n : Nat) (st : List TV) : Option (Lc × List TV) := match lv[n]? with
  | some (some (.inr (.inl x))) => some (lv, tL x :: st)
  | _ => none
def ldR (lv : Lc) (n : Nat) (st : List TV) : Option (Lc × List TV) := match lv[n]? with
  | some (some (.inr (.inr x))) => some (lv, tR x :: st)
  | _ => none
def stI (lv : Lc) (n : Nat) (st : List TV) : Option (Lc × List TV) := match st with
  | .inl x :: r => if n < lv.length then some (lvSet lv n (tI x), r) else none
  | _ => none
def stL (lv : Lc) (n : Nat) (st : List TV) : Option (Lc × List TV) := match st with
  | .inr (.inl x) :: r => if n + 1 < lv.length then some (lvSet2 lv n (tL x), r) else none
  | _ => none
def stR (lv : Lc) (n : Nat) (st : List TV) : Option (Lc × List TV) := match st with
  | .inr (.inr x) :: r => if n < lv.length then some (lvSet lv n (tR x), r) else none
  | _ => none
def inc (lv : Lc) (n : Nat) (d : Int) (st : List TV) : Option (Lc × List TV) := match lv[n]? with
  | some (some (.inl x)) => some (lvSet lv n (tI (x + Int32.ofInt d)), st)
  | _ => none
def opL (i : Instr) (lv : Lc) (st : List TV) : Option (Lc × List TV) := match i with
  | .iload n => ldI lv n st
  | .iload_n n => ldI lv n.val st
  | .lload n => ldL lv n st
  | .lload_n n => ldL lv n.val st
  | .aload n => ldR lv n st
  | .aload_n n => ldR lv n.val st
  | .istore n => stI lv n st
  | .istore_n n => stI lv n.val st
  | .lstore n => stL lv n st
  | .lstore_n n => stL lv n.val st
  | .astore n => stR lv n st
  | .astore_n n => stR lv n.val st
  | .iinc n d => inc lv n d st
  | _ => none
theorem ldI_inv {lv : Lc} {n : Nat} {st : List TV} {q : Lc × List TV} (h : ldI lv n st = some q) : ∃ x : Int32, lv[n]? = some (some (tI x)) ∧ q = (lv, tI x :: st) := by
  unfold ldI at h
  split at h
  · cases h
    exact ⟨_, by assumption, rfl⟩
  · cases h
theorem ldL_inv {lv : Lc} {n : Nat} {st : List TV} {q : Lc × List TV} (h : ldL lv n st = some q) : ∃ x : Int64, lv[n]? = some (some (tL x)) ∧ q = (lv, tL x :: st) := by
  unfold ldL at h
  split at h
  · cases h
    exact ⟨_, by assumption, rfl⟩
  · cases h
theorem ldR_inv {lv : Lc} {n : Nat} {st : List TV} {q : Lc × List TV} (h : ldR lv n st = some q) : ∃ x : Option Nat, lv[n]? = some (some (tR x)) ∧ q = (lv, tR x :: st) := by
  unfold ldR at h
  split at h
  · cases h
    exact ⟨_, by assumption, rfl⟩
  · cases h
theorem stI_inv {lv : Lc} {n : Nat} {st : List TV} {q : Lc × List TV} (h : stI lv n st = some q) : ∃ (x : Int32) (r : List TV), st = tI x :: r ∧ n < lv.length ∧ q = (lvSet lv n (tI x), r) := by
  unfold stI at h
  split at h
  · split at h
    · cases h
      exact ⟨_, _, rfl, by assumption, rfl⟩
    · cases h
  · cases h
theorem stL_inv {lv : Lc} {n : Nat} {st : List TV} {q : Lc × List TV} (h : stL lv n st = some q) : ∃ (x : Int64) (r : List TV), st = tL x :: r ∧ n + 1 < lv.length ∧ q = (lvSet2 lv n (tL x), r) := by
  unfold stL at h
  split at h
  · split at h
    · cases h
      exact ⟨_, _, rfl, by assumption, rfl⟩
    · cases h
  · cases h
theorem stR_inv {lv : Lc} {n : Nat} {st : List TV} {q : Lc × List TV} (h : stR lv n st = some q) : ∃ (x : Option Nat) (r : List TV), st = tR x :: r ∧ n < lv.length ∧ q = (lvSet lv n (tR x), r) := by
  unfold stR at h
  split at h
  · split at h
    · cases h
      exact ⟨_, _, rfl, by assumption, rfl⟩
    · cases h
  · cases h
theorem inc_inv {lv : Lc} {n : Nat} {d : Int} {st : List TV} {q : Lc × List TV} (h : inc lv n d st = some q) : ∃ x : Int32, lv[n]? = some (some (tI x)) ∧ q = (lvSet lv n (tI (x + Int32.ofInt d)), st) := by
  unfold inc at h
  split at h
  · cases h
    exact ⟨_, by assumption, rfl⟩
  · cases h
section SND
variable {p : Program} {l : Launch} {e : Env} {R : Room} {s : State} {m : MethodId} {args : Array Value} {below : List Frame} {meth : Method} {c : Code} {H : Heap} {locs : List Loc} {cells slots : Nat} {Q : State → Prop} {cc : ByteArray} {pc : Nat} {ls : Array Slot}
theorem lvm_idx {lv : Lc} {i : Nat} {x : TV} (h : lv[i]? = some (some x)) : ∃ k : Nat, (lvm lv)[k]? = some (i, tv x) := List.getElem?_of_mem (lvm_mem h)
set_option maxHeartbeats 4000000 in
theorem opL_ok (hx : p.tables.exec = Jvm.exec) (hb : c.code = cc) {i : Instr} {lv : Lc} {st : List TV} {q : Lc × List TV} (hl : LR ls lv) (h : opL i lv st = some q) (hd : decode cc pc = .ok (i, ilen i)) (k : ∀ ls' : Array Slot, LR ls' q.1 → W p l e R s m args below meth c H locs cells slots Q (F0 m (pc + ilen i) ls' (q.2.map tv))) : W p l e R s m args below meth c H locs cells slots Q (F0 m pc ls (st.map tv)) := by
  cases i with
  | iload n => obtain ⟨x, hn, rfl⟩ := ldI_inv h; exact lv_iload hx hb hd (hl.2.2 _ _ hn) (k ls hl)
  | iload_n n => obtain ⟨x, hn, rfl⟩ := ldI_inv h; exact lv_iload_n hx hb hd rfl (hl.2.2 _ _ hn) (k ls hl)
  | lload n => obtain ⟨x, hn, rfl⟩ := ldL_inv h; exact lv_lload hx hb hd (hl.2.2 _ _ hn) (k ls hl)
  | lload_n n => obtain ⟨x, hn, rfl⟩ := ldL_inv h; exact lv_lload_n hx hb hd rfl (hl.2.2 _ _ hn) (k ls hl)
  | aload n =>
    obtain ⟨x, hn, rfl⟩ := ldR_inv h
    cases x with
    | none => exact lv_aloadN hx hb hd (hl.2.2 _ _ hn) (k ls hl)
    | some x => exact lv_aload hx hb hd (hl.2.2 _ _ hn) (k ls hl)
  | aload_n n =>
    obtain ⟨x, hn, rfl⟩ := ldR_inv h
    cases x with
    | none => exact lv_aload_nN hx hb hd rfl (hl.2.2 _ _ hn) (k ls hl)
    | some x => exact lv_aload_n hx hb hd rfl (hl.2.2 _ _ hn) (k ls hl)
  | istore n => obtain ⟨x, r, rfl, hn, rfl⟩ := stI_inv h; exact lv_istore hx hb hd hl.has hn rfl (fun ls' h' => k ls' (LR.set1 h'))
  | istore_n n => obtain ⟨x, r, rfl, hn, rfl⟩ := stI_inv h; exact lv_istore_n hx hb hd rfl hl.has hn rfl (fun ls' h' => k ls' (LR.set1 h'))
  | lstore n => obtain ⟨x, r, rfl, hn, rfl⟩ := stL_inv h; exact lv_lstore hx hb hd hl.has hn rfl (fun ls' h' => k ls' (LR.set2 h'))
  | lstore_n n => obtain ⟨x, r, rfl, hn, rfl⟩ := stL_inv h; exact lv_lstore_n hx hb hd rfl hl.has hn rfl (fun ls' h' => k ls' (LR.set2 h'))
  | astore n =>
    obtain ⟨x, r, rfl, hn, rfl⟩ := stR_inv h
    cases x with
    | none => exact lv_astoreN hx hb hd hl.has hn rfl (fun ls' h' => k ls' (LR.set1 h'))
    | some x => exact lv_astore hx hb hd hl.has hn rfl (fun ls' h' => k ls' (LR.set1 h'))
  | astore_n n =>
    obtain ⟨x, r, rfl, hn, rfl⟩ := stR_inv h
    cases x with
    | none => exact lv_astore_nN hx hb hd rfl hl.has hn rfl (fun ls' h' => k ls' (LR.set1 h'))
    | some x => exact lv_astore_n hx hb hd rfl hl.has hn rfl (fun ls' h' => k ls' (LR.set1 h'))
  | iinc n d =>
    obtain ⟨x, hn, rfl⟩ := inc_inv h
    obtain ⟨kk, hk⟩ := lvm_idx hn
    exact lv_iinc hx hb hd hl.has hk rfl (List.getElem?_eq_some_iff.mp hn).1 rfl (fun ls' h' => k ls' (LR.set1 h'))
  | _ => exact nomatch (show (none : Option (Lc × List TV)) = some q from h)
end SND
/-! branches -/
def jmp (pc : Nat) (off : Int) (r : List TV) : Option (Nat × List TV) := if ((((pc : Int) + off).toNat : Nat) : Int) = (pc : Int) + off then some (((pc : Int) + off).toNat, r) else none
theorem jmp_inv {pc : Nat} {off : Int} {r : List TV} {q : Nat × List TV} (h : jmp pc off r = some q) : (pc : Int) + off = (q.1 : Int) ∧ q.2 = r := by
  unfold jmp at h
  split at h
  · rename_i e
    cases h
    exact ⟨e.symm, rfl⟩
  · cases h
def cnd (k : Jvm.ClassFile.Cond) (x y : Int32) : Bool := match k with
  | .eq => decide (x = y)
  | .ne => !decide (x = y)
  | .lt => decide (x < y)
  | .ge => decide (y ≤ x)
  | .gt => decide (y < x)
  | .le => decide (x ≤ y)
def brn (b : Bool) (pc : Nat) (off : Int) (r : List TV) : Option (Nat × List TV) := match jmp pc off r with
  | some q => if b = true then some q else some (pc + 3, r)
  | none => none
theorem brn_inv {b : Bool} {pc : Nat} {off : Int} {r : List TV} {q : Nat × List TV} (h : brn b pc off r = some q) : ∃ tgt : Nat, (pc : Int) + off = (tgt : Int) ∧ ((b = true ∧ q = (tgt, r)) ∨ (b = false ∧ q = (pc + 3, r))) := by
  unfold brn at h
  split at h
  · rename_i q0 hq
    obtain ⟨h1, h2⟩ := jmp_inv hq
    split at h
    · rename_i hb
      cases h
      exact ⟨q.1, h1, Or.inl ⟨hb, by rw [← h2]⟩⟩
    · rename_i hb
      cases h
      exact ⟨q0.1, h1, Or.inr ⟨by simpa using hb, rfl⟩⟩
  · cases h
def opB (i : Instr) (pc : Nat) (st : List TV) : Option (Nat × List TV) := match i with
  | .goto off => jmp pc off st
  | .ifCond k off => match st with
    | .inl x :: r => brn (cnd k x 0) pc off r
    | _ => none
  | .if_icmp k off => match st with
    | .inl y :: .inl x :: r => brn (cnd k x y) pc off r
    | _ => none
  | .ifnull off => match st with
    | .inr (.inr x) :: r => brn x.isNone pc off r
    | _ => none
  | .ifnonnull off => match st with
    | .inr (.inr x) :: r => brn x.isSome pc off r
    | _ => none
  | .tableswitch d lo hi offs => match st with
    | .inl x :: r => if x.toInt < lo ∨ hi < x.toInt then jmp pc d r else match offs[(x.toInt - lo).toNat]? with
      | some off => jmp pc off r
      | none => none
    | _ => none
  | .lookupswitch d ps => match st with
    | .inl x :: r => if (ps.toList.zip (ps.toList.drop 1)).all (fun (a, next) => a.1 < next.1) = true then jmp pc (Op.lookupswitch.offset ps.toList d x.toInt) r else none
    | _ => none
  | _ => none
section SND
variable {p : Program} {l : Launch} {e : Env} {R : Room} {s : State} {m : MethodId} {args : Array Value} {below : List Frame} {meth : Method} {c : Code} {H : Heap} {locs : List Loc} {cells slots : Nat} {Q : State → Prop} {cc : ByteArray} {pc : Nat} {ls : Array Slot}
theorem opB_if (hx : p.tables.exec = Jvm.exec) (hb : c.code = cc) {cd : Jvm.ClassFile.Cond} {off : Int} {x : Int32} {r : List TV} {q : Nat × List TV} (h : brn (cnd cd x 0) pc off r = some q) (hd : decode cc pc = .ok (.ifCond cd off, 3)) (k : W p l e R s m args below meth c H locs cells slots Q (F0 m q.1 ls (q.2.map tv))) : W p l e R s m args below meth c H locs cells slots Q (F0 m pc ls ((tI x :: r).map tv)) := by
  obtain ⟨tgt, ht, hq⟩ := brn_inv h
  have kt : cnd cd x 0 = true → W p l e R s m args below meth c H locs cells slots Q (F0 m tgt ls (r.map tv)) := fun hc => by
    rcases hq with ⟨-, rfl⟩ | ⟨h1, -⟩
    · exact k
    · rw [hc] at h1; cases h1
  have kf : cnd cd x 0 = false → W p l e R s m args below meth c H locs cells slots Q (F0 m (pc + 3) ls (r.map tv)) := fun hc => by
    rcases hq with ⟨h1, -⟩ | ⟨-, rfl⟩
    · rw [hc] at h1; cases h1
    · exact k
  cases cd with
  | eq => exact lv_if_eq hx hb hd ht (fun q => kt (by simp [cnd, q])) (fun q => kf (by simp [cnd, q]))
  | ne => exact lv_if_ne hx hb hd ht (fun q => kt (by simp [cnd, q])) (fun q => kf (by simp [cnd, q]))
  | lt => exact lv_if_lt hx hb hd ht (fun q => kt (decide_eq_true q)) (fun q => kf (decide_eq_false q))
  | ge => exact lv_if_ge hx hb hd ht (fun q => kt (decide_eq_true q)) (fun q => kf (decide_eq_false q))
  | gt => exact lv_if_gt hx hb hd ht (fun q => kt (decide_eq_true q)) (fun q => kf (decide_eq_false q))
  | le => exact lv_if_le hx hb hd ht (fun q => kt (decide_eq_true q)) (fun q => kf (decide_eq_false q))
theorem opB_icmp (hx : p.tables.exec = Jvm.exec) (hb : c.code = cc) {cd : Jvm.ClassFile.Cond} {off : Int} {x y : Int32} {r : List TV} {q : Nat × List TV} (h : brn (cnd cd x y) pc off r = some q) (hd : decode cc pc = .ok (.if_icmp cd off, 3)) (k : W p l e R s m args below meth c H locs cells slots Q (F0 m q.1 ls (q.2.map tv))) : W p l e R s m args below meth c H locs cells slots Q (F0 m pc ls ((tI y :: tI x :: r).map tv)) := by
  obtain ⟨tgt, ht, hq⟩ := brn_inv h
  have kt : cnd cd x y = true → W p l e R s m args below meth c H locs cells slots Q (F0 m tgt ls (r.map tv)) := fun hc => by
    rcases hq with ⟨-, rfl⟩ | ⟨h1, -⟩
    · exact k
    · rw [hc] at h1; cases h1
  have kf : cnd cd x y = false → W p l e R s m args below meth c H locs cells slots Q (F0 m (pc + 3) ls (r.map tv)) := fun hc => by
    rcases hq with ⟨h1, -⟩ | ⟨-, rfl⟩
    · rw [hc] at h1; cases h1
    · exact k
  cases cd with
  | eq => exact lv_icmp_eq hx hb hd ht (fun q => kt (by simp [cnd, q])) (fun q => kf (by simp [cnd, q]))
  | ne => exact lv_icmp_ne hx hb hd ht (fun q => kt (by simp [cnd, q])) (fun q => kf (by simp [cnd, q]))
  | lt => exact lv_icmp_lt hx hb hd ht (fun q => kt (decide_eq_true q)) (fun q => kf (decide_eq_false q))
  | ge => exact lv_icmp_ge hx hb hd ht (fun q => kt (decide_eq_true q)) (fun q => kf (decide_eq_false q))
  | gt => exact lv_icmp_gt hx hb hd ht (fun q => kt (decide_eq_true q)) (fun q => kf (decide_eq_false q))
  | le => exact lv_icmp_le hx hb hd ht (fun q => kt (decide_eq_true q)) (fun q => kf (decide_eq_false q))
set_option maxHeartbeats 4000000 in
theorem opB_ok (hx : p.tables.exec = Jvm.exec) (hb : c.code = cc) {i : Instr} {len : Nat} (hlen : len = ilen i ∨ (∃ d lo hi offs, i = .tableswitch d lo hi offs) ∨ ∃ d ps, i = .lookupswitch d ps) {st : List TV} {q : Nat × List TV} (h : opB i pc st = some q) (hd : decode cc pc = .ok (i, len)) (k : W p l e R s m args below meth c H locs cells slots Q (F0 m q.1 ls (q.2.map tv))) : W p l e R s m args below meth c H locs cells slots Q (F0 m pc ls (st.map tv)) := by
  cases i with
  | goto off =>
    rcases hlen with rfl | ⟨_, _, _, _, h1⟩ | ⟨_, _, h1⟩
    · obtain ⟨h1, h2⟩ := jmp_inv h
      rw [h2] at k
      exact lv_goto hx hb hd h1 k
    · cases h1
    · cases h1
  | ifCond cd off =>
    rcases hlen with rfl | ⟨_, _, _, _, h1⟩ | ⟨_, _, h1⟩
    · unfold opB at h
      dsimp only at h
      split at h
      · exact opB_if hx hb h hd k
      · cases h
    · cases h1
    · cases h1
  | if_icmp cd off =>
    rcases hlen with rfl | ⟨_, _, _, _, h1⟩ | ⟨_, _, h1⟩
    · unfold opB at h
      dsimp only at h
      split at h
      · exact opB_icmp hx hb h hd k
      · cases h
    · cases h1
    · cases h1
  | ifnull off =>
    rcases hlen with rfl | ⟨_, _, _, _, h1⟩ | ⟨_, _, h1⟩
    · unfold opB at h
      dsimp only at h
      split at h
      · rename_i x r
        obtain ⟨tgt, ht, hq⟩ := brn_inv h
        cases x with
        | none =>
          rcases hq with ⟨-, rfl⟩ | ⟨h1, -⟩
          · exact lv_ifnullN hx hb hd ht k
          · cases h1
        | some x =>
          rcases hq with ⟨h1, -⟩ | ⟨-, rfl⟩
          · cases h1
          · exact lv_ifnull hx hb hd k
      · cases h
    · cases h1
    · cases h1
  | ifnonnull off =>
    rcases hlen with rfl | ⟨_, _, _, _, h1⟩ | ⟨_, _, h1⟩
    · unfold opB at h
      dsimp only at h
      split at h
      · rename_i x r
        obtain ⟨tgt, ht, hq⟩ := brn_inv h
        cases x with
        | none =>
          rcases hq with ⟨h1, -⟩ | ⟨-, rfl⟩
          · cases h1
          · exact lv_ifnonnullN hx hb hd k
        | some x =>
          rcases hq with ⟨-, rfl⟩ | ⟨h1, -⟩
          · exact lv_ifnonnull hx hb hd ht k
          · cases h1
      · cases h
    · cases h1
    · cases h1
  | tableswitch d lo hi offs =>
    unfold opB at h
    dsimp only at h
    split at h
    · split at h
      · rename_i ho
        obtain ⟨h1, h2⟩ := jmp_inv h
        rw [h2] at k
        exact lv_tableOut hx hb hd ho h1 k
      · rename_i ho
        split at h
        · rename_i off hoff
          obtain ⟨h1, h2⟩ := jmp_inv h
          rw [h2] at k
          exact lv_tableIn hx hb hd (fun q => ho (Or.inl q)) (fun q => ho (Or.inr q)) hoff h1 k
        · cases h
    · cases h
  | lookupswitch d ps =>
    unfold opB at h
    dsimp only at h
    split at h
    · split at h
      · rename_i ho
        obtain ⟨h1, h2⟩ := jmp_inv h
        rw [h2] at k
        exact lv_lookup hx hb hd ho rfl h1 k
      · cases h
    · cases h
  | _ => exact nomatch (show (none : Option (Nat × List TV)) = some q from h)
end SND
