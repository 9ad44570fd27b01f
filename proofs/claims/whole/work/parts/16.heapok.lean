/-! AN INTERPRETER OF THE BYTECODE, 3: the machine does to its heap what the interpreter does to the maps -/
abbrev wsA : List Cond := wsL_law
set_option maxRecDepth 20000 in
theorem wsA_good : GoodIn wsA wsA := goodIn_sub (fun _ h => h) (by decide +kernel)
def clsOk : Prop := ∀ (ci : Nat) (q : vw_C), vwCl[ci]? = some q → q.2.2 ≤ 64 ∧ (∀ w ∈ u_ws q.1 q.2.1 q.2.2, w ∈ wsA) ∧ (∀ k, k < q.2.2 → parseFieldDescriptor (q.2.1 k).2.2.1 = some (tyOf q.2.1 k) ∧ kdT (tyOf q.2.1 k) < 4) ∧ ∀ a, a < q.2.2 → ∀ b, b < q.2.2 → a ≠ b → (q.2.1 a).2.1 ≠ (q.2.1 b).2.1
def akOk : Prop := (∀ ty, akT 0 = some ty → ty = .int) ∧ (∀ ty, akT 1 = some ty → ty = .long) ∧ (∀ ty, akT 2 = some ty → ty = .byte) ∧ (∀ ty, akT 3 = some ty → ty = .boolean) ∧ ∀ t ty, 10 ≤ t → akT t = some ty → ∃ q : vw_C, vwCl[t - 10]? = some q ∧ ty = .object q.1
def FLk (own : String) (idx ci k kd : Nat) : Prop := ∃ q : vw_C, vwCl[ci]? = some q ∧ k < q.2.2 ∧ kd = kdT (tyOf q.2.1 k) ∧ (Cond.fieldLink own idx (q.2.1 k).1 (q.2.1 k).2.1 (q.2.1 k).2.2.1 ∈ wsA ∨ ∃ host, Cond.fieldLinkNest own idx (q.2.1 k).1 (q.2.1 k).2.1 (q.2.1 k).2.2.1 host ∈ nwL)
def FPk (own : String) (isI : Bool) (idx ci k kd : Nat) : Prop := ∃ q : vw_C, vwCl[ci]? = some q ∧ k < q.2.2 ∧ kd = kdT (tyOf q.2.1 k) ∧ (((q.2.1 k).2.2.2 = false ∧ (Cond.fieldLink own idx (q.2.1 k).1 (q.2.1 k).2.1 (q.2.1 k).2.2.1 ∈ wsA ∨ ∃ host, Cond.fieldLinkNest own idx (q.2.1 k).1 (q.2.1 k).2.1 (q.2.1 k).2.2.1 host ∈ nwL)) ∨ ((q.2.1 k).2.2.2 = true ∧ isI = true ∧ (q.2.1 k).1 = own ∧ Cond.fieldLink own idx (q.2.1 k).1 (q.2.1 k).2.1 (q.2.1 k).2.2.1 ∈ wsA))
theorem fid_inj {ci j k : Nat} (h : j ≠ k) : fid ci j ≠ fid ci k := by unfold fid; omega
theorem put_facts {ty : FieldType} {v : TV} {kd f a : Nat} {h h' : Hp} (hk : kd = kdT ty) (hp : putV kd h f a v = some h') : narrow ty (tv v) = tv v ∧ fits ty (tv v) = true ∧ tg h' = tg h ∧ sz h' = sz h ∧ us h' = us h ∧ (∀ b, b ≠ a → sameAt h h' b) ∧ fvv kd h' f a = v ∧ (∀ kd' f', f' ≠ f → fvv kd' h' f' a = fvv kd' h f' a) := by
  subst hk
  rcases v with x | x | x
  · have hp : (if kdT ty = 0 then some (pi h f a x) else if kdT ty = 3 ∧ (x = 0 ∨ x = 1) then some (pi h f a x) else none) = some h' := hp
    have hg : ∀ hh : pi h f a x = h', tg h' = tg h ∧ sz h' = sz h ∧ us h' = us h ∧ (∀ b, b ≠ a → sameAt h h' b) ∧ (∀ kd' f', f' ≠ f → fvv kd' h' f' a = fvv kd' h f' a) := by
      intro hh
      subst hh
      refine ⟨rfl, rfl, rfl, fun b hb => ⟨fun f' => ?_, fun _ => rfl, fun _ => rfl, fun _ => rfl, fun _ => rfl, fun _ => rfl⟩, fun kd' f' hf => ?_⟩
      · rw [gi_pi, if_neg (fun q => hb q.2)]
      · unfold fvv
        split
        · rfl
        · rfl
        · rw [gi_pi, if_neg (fun q => hf q.1)]
    have hv : gi (pi h f a x) f a = x := by rw [gi_pi, if_pos ⟨rfl, rfl⟩]
    split at hp
    · rename_i h0
      have hh := Option.some.inj hp
      obtain ⟨g1, g2, g3, g4, g5⟩ := hg hh
      have hty : ty = .int := by
        cases ty <;> first | rfl | cases h0
      subst hty
      exact ⟨rfl, rfl, g1, g2, g3, g4, by rw [← hh]; exact congrArg tI hv, g5⟩
    · split at hp
      · rename_i h0
        have hh := Option.some.inj hp
        obtain ⟨g1, g2, g3, g4, g5⟩ := hg hh
        have hty : ty = .boolean := by
          obtain ⟨h1, -⟩ := h0
          cases ty <;> first | rfl | cases h1
        subst hty
        refine ⟨?_, ?_, g1, g2, g3, g4, by rw [← hh]; exact congrArg tI hv, g5⟩
        · rcases h0.2 with rfl | rfl <;> rfl
        · rcases h0.2 with rfl | rfl <;> rfl
      · cases hp
  · have hp : (if kdT ty = 1 then some (pl h f a x) else none) = some h' := hp
    split at hp
    · rename_i h0
      have hh := Option.some.inj hp
      have hty : ty = .long := by
        cases ty <;> first | rfl | cases h0
      subst hty
      subst hh
      refine ⟨rfl, rfl, rfl, rfl, rfl, fun b hb => ⟨fun _ => rfl, fun f' => ?_, fun _ => rfl, fun _ => rfl, fun _ => rfl, fun _ => rfl⟩, ?_, fun kd' f' hf => ?_⟩
      · rw [gl_pl, if_neg (fun q => hb q.2)]
      · show tL (gl (pl h f a x) f a) = _
        rw [gl_pl, if_pos ⟨rfl, rfl⟩]
      · unfold fvv
        split
        · rw [gl_pl, if_neg (fun q => hf q.1)]
        · rfl
        · rfl
    · cases hp
  · have hp : (if kdT ty = 2 then some (pr h f a x) else none) = some h' := hp
    split at hp
    · rename_i h0
      have hh := Option.some.inj hp
      subst hh
      have h1 : narrow ty (tv (Sum.inr (Sum.inr x))) = tv (Sum.inr (Sum.inr x)) ∧ fits ty (tv (Sum.inr (Sum.inr x))) = true := by
        cases ty <;> first | (cases x <;> exact ⟨rfl, rfl⟩) | cases h0
      refine ⟨h1.1, h1.2, rfl, rfl, rfl, fun b hb => ⟨fun _ => rfl, fun _ => rfl, fun f' => ?_, fun _ => rfl, fun _ => rfl, fun _ => rfl⟩, ?_, fun kd' f' hf => ?_⟩
      · rw [gr_pr, if_neg (fun q => hb q.2)]
      · rw [h0]
        show tR (gr (pr h f a x) f a) = _
        rw [gr_pr, if_pos ⟨rfl, rfl⟩]
      · unfold fvv
        split
        · rfl
        · rw [gr_pr, if_neg (fun q => hf q.1)]
        · rfl
    · cases hp
section SND
variable {p : Program} {l : Launch} {e : Env} {R : Room} {s : State} {m : MethodId} {args : Array Value} {below : List Frame} {meth : Method} {c : Code} {H : Heap} {locs : List Loc} {cells slots : Nat} {Q : State → Prop} {cc : ByteArray} {pc : Nat} {ls : Array Slot}
variable {base : Nat} {D : Dt} {own : String} {isI : Bool} {h : Hp}
/-- what stands fast in a method's body -/
def Cx (D : Dt) (p : Program) (s : State) (m : MethodId) (args : Array Value) (meth : Method) (c : Code) (cc : ByteArray) (own : String) (isI : Bool) : Prop := p.tables.exec = Jvm.exec ∧ c.code = cc ∧ s.vm.findClass own = some m.cls ∧ (∀ w ∈ wsA, w.before args s = true) ∧ Kn D s ∧ (isI = true → meth.name = "<init>")
theorem gF_ok (hC : clsOk) (X : Cx D p s m args meth c cc own isI) {idx : Nat} {rs : Rs} (hF : FLk own idx rs.1 rs.2.1 rs.2.2.1) {st : List TV} {q : List TV × Hp} (hq : gF rs st h = some q) (hd : decode cc pc = .ok (.getfield idx, 3)) (hR : Rep base D s H h) (k : q.2 = h → W p l e R s m args below meth c H locs cells slots Q (F0 m (pc + 3) ls (q.1.map tv))) : W p l e R s m args below meth c H locs cells slots Q (F0 m pc ls (st.map tv)) := by
  obtain ⟨hx, hb, hown, hts, hK, -⟩ := X
  obtain ⟨ci, kf, kd, wi, z⟩ := rs
  unfold gF at hq
  split at hq
  · rename_i a r
    split at hq
    · rename_i htag
      cases hq
      obtain ⟨-, -, r0, hr0, cell, q1, q2, q3, q4⟩ := hR.2 a _ htag
      obtain ⟨r1, hr1, hk, hkd, hlink⟩ := hF
      cases hr0.symm.trans hr1
      obtain ⟨hS, hfc, kC, hkC, hkind⟩ := hK.1 ci _ hr0
      obtain ⟨cf, kff, fi, f, hi, hsl⟩ := hS kf hk
      have hst := (u_facts hfc hkC (u_lays hts (hC ci _ hr0).2.1 hk) hi).1
      have hkd : kd = kdT (tyOf r0.2.1 kf) := hkd
      have hv : cell.slots[f.slot]? = some (tv (fvv kd h (fid ci kf) a)) := by rw [hsl, hkd]; exact q4 kf hk
      rcases hlink with hl | ⟨host, hl⟩
      · exact W.getf hx hb hown (hts _ hl) hi hst q1 (by rw [q3]; exact fun h => by cases h) hv rfl rfl hd (k rfl)
      · exact va_Wgetf hx hb hown (va_Nw.use rfl (hK.2.2.1 _ hl).2) hi hst q1 (by rw [q3]; exact fun h => by cases h) hv rfl rfl hd (k rfl)
    · cases hq
  · cases hq
theorem pF_ok (hC : clsOk) (X : Cx D p s m args meth c cc own isI) {idx : Nat} {rs : Rs} (hF : FPk own isI idx rs.1 rs.2.1 rs.2.2.1) {st : List TV} {q : List TV × Hp} (hq : pF rs st h = some q) (hd : decode cc pc = .ok (.putfield idx, 3)) (hR : Rep base D s H h) (hS0 : va_S (fun q => base ≤ q) s.heap H locs) (k : sz q.2 = sz h → us q.2 = us h → ∀ (H' : Heap) (locs' : List Loc), Rep base D s H' q.2 → va_S (fun q => base ≤ q) s.heap H' locs' → W p l e R s m args below meth c H' locs' cells slots Q (F0 m (pc + 3) ls (q.1.map tv))) : W p l e R s m args below meth c H locs cells slots Q (F0 m pc ls (st.map tv)) := by
  obtain ⟨hx, hb, hown, hts, hK, hI⟩ := X
  obtain ⟨ci, kf, kd, wi, z⟩ := rs
  unfold pF at hq
  split at hq
  · rename_i v a r
    split at hq
    · rename_i htag
      split at hq
      · rename_i h' hput
        cases hq
        obtain ⟨hlt, hbase, r0, hr0, cell, q1, q2, q3, q4⟩ := hR.2 a _ htag
        obtain ⟨r1, hr1, hk, hkd, hlink⟩ := hF
        cases hr0.symm.trans hr1
        obtain ⟨hN, hin, hty, hnm⟩ := hC ci _ hr0
        have hKn := hK.1 ci _ hr0
        obtain ⟨hS, hfc, kC, hkC, hkind⟩ := hKn
        obtain ⟨cf, kff, fi, f, hi, hsl⟩ := hS kf hk
        have hst := (u_facts hfc hkC (u_lays hts hin hk) hi).1
        have hvk : va_K D.1 vwCl [] s := ⟨hK.1, fun k q h => by simp at h⟩
        have hap := va_apart (own := own) hts hin (tyOf r0.2.1) (fun k hk => (hty k hk).1) hnm hvk hr0
        have hkd : kd = kdT (tyOf r0.2.1 kf) := hkd
        obtain ⟨g1, g2, g3, g4, g5, g6, g7, g8⟩ := put_facts hkd hput
        have hba : base ≤ a := by
          rcases hbase with hb | ⟨n, hn⟩
          · exact hb
          · cases hn
        have fin : ∀ H' : Heap, H'[a]? = some (cell.setSlot (D.1.2 ci kf) (tv v)) → H'.size = H.size → (∀ b, b ≠ a → H'[b]? = H[b]?) → W p l e R s m args below meth c H' (locs ++ [⟨a, f.slot⟩]) cells slots Q (F0 m (pc + 3) ls (r.map tv)) := by
          intro H' e1 e2 e3
          refine k g4 g5 H' _ (hR.write e2 e3 g3 g4 g6 (fun x hx => ?_)) (hS0.put e2 e3 hba)
          cases htag.symm.trans hx
          refine ⟨r0, hr0, t_OB.to (V := updV (fun j => tv (fvv (kdT (tyOf r0.2.1 j)) h (fid ci j) a)) kf (tv v)) ⟨_, e1, q2, q3, t_set q4 hap hk (tv v)⟩ (fun j hj => ?_)⟩
          by_cases hjk : j = kf
          · subst hjk
            have := g7
            rw [hkd] at this
            rw [this]
            simp [updV]
          · rw [g8 _ _ (fid_inj hjk)]
            simp [updV, hjk]
        have hlt' : f.slot < cell.slots.size := by rw [hsl]; exact k2_hasslot (q4 kf hk)
        rcases hlink with ⟨hfin, hl⟩ | ⟨hfin, hI2, hdecl, hl⟩
        · have hlay := hts _ (hin _ (u_in_lay hk))
          unfold u_lay at hlay
          rw [if_neg (by rw [hfin]; decide)] at hlay
          have h6 := u_store hfc hkC hkind hlay hi (hty kf hk).1 g1 g2
          rcases hl with hl | ⟨host, hl⟩
          · refine W.putK hx hb (f := f) ⟨hown, hts _ hl, ⟨_, _, _, hi⟩, hst⟩ (by rw [q2]; exact h6) q1 q3 hlt' rfl rfl hd fun H' e1 e2 e3 => ?_
            rw [hsl] at e1
            exact fin H' e1 e2 e3
          · refine va_WputK hx hb (f := f) hown (va_Nw.use rfl (hK.2.2.1 _ hl).2) hi hst (by rw [q2]; exact h6) q1 q3 hlt' rfl rfl hd fun H' e1 e2 e3 => ?_
            rw [hsl] at e1
            exact fin H' e1 e2 e3
        · have hlay := hts _ (hin _ (u_in_lay hk))
          unfold u_lay at hlay
          rw [if_pos hfin] at hlay
          have hcf : m.cls = cf := by
            obtain ⟨_, _, c', _, _, _, -, -, hf', -, -, -, hown2, -⟩ := Cond.laysFinal_spec hlay
            have e1 : c' = cf := by have := hi.symm.trans hf'; simp at this; exact this.1.symm
            rw [hdecl] at hown2
            rw [← e1]; exact Option.some.inj (hown.symm.trans hown2)
          have h6 := u_fits hfc hkC hkind (Or.inr hlay) hi (hty kf hk).1 g1 g2
          refine W.putFinK hx hb hown (hts _ hl) hi hst hcf (hI hI2) (by rw [q2]; exact h6) q1 q3 hlt' rfl rfl hd fun H' e1 e2 e3 => ?_
          rw [hsl] at e1
          exact fin H' e1 e2 e3
      · cases hq
    · cases hq
  · cases hq
theorem nw_default {ty : FieldType} (hk : kdT ty < 4) (h : Hp) (x : Tg) (n f : Nat) : tv (fvv (kdT ty) (nw h x n) f (sz h)) = defaultValue ty := by
  have e1 : gi (nw h x n) f (sz h) = 0 := by rw [gi_nw, if_pos rfl]
  have e2 : gl (nw h x n) f (sz h) = 0 := by rw [gl_nw, if_pos rfl]
  have e3 : gr (nw h x n) f (sz h) = none := by rw [gr_nw, if_pos rfl]
  cases ty with
  | int => show tv (tI _) = _; rw [e1]; rfl
  | long => show tv (tL _) = _; rw [e2]; rfl
  | object n => show tv (tR _) = _; rw [e3]; rfl
  | array n => show tv (tR _) = _; rw [e3]; rfl
  | boolean => show tv (tI _) = _; rw [e1]; rfl
  | _ => exact absurd hk (by decide)
theorem S_new {H' : Heap} (hS : va_S (fun q => base ≤ q) s.heap H locs) (z : H'.size = H.size + 1) (o : ∀ q, q < H.size → H'[q]? = H[q]?) : va_S (fun q => base ≤ q) s.heap H' locs :=
  ⟨Nat.le_trans hS.1 (by omega), fun x h1 h2 => (o x (Nat.lt_of_lt_of_le h1 hS.1)).trans (hS.2.1 x h1 h2), hS.2.2⟩
theorem nO_ok (hC : clsOk) (X : Cx D p s m args meth c cc own isI) {idx ci n : Nat} {q : vw_C} (hq : vwCl[ci]? = some q) (hn : n = q.2.2) (h1 : Cond.classLink own idx q.1 ∈ wsA) (h2 : Cond.instantiable q.1 q.2.2 ∈ wsA) (h3 : Cond.initialized q.1 ∈ wsA) {st : List TV} (hd : decode cc pc = .ok (.new idx, 3)) (hR : Rep base D s H h) (hbz : base ≤ sz h) (hS0 : va_S (fun q => base ≤ q) s.heap H locs) (hc : cells + 1 ≤ R.cells) (hs : slots + n ≤ R.slots) (k : ∀ (H' : Heap), Rep base D s H' (nw h (.inl ci) n) → va_S (fun q => base ≤ q) s.heap H' locs → W p l e R s m args below meth c H' locs (cells + 1) (slots + n) Q (F0 m (pc + 3) ls ((tR (some (sz h)) :: st).map tv))) : W p l e R s m args below meth c H locs cells slots Q (F0 m pc ls (st.map tv)) := by
  obtain ⟨hx, hb, hown, hts, hK, hI⟩ := X
  subst hn
  obtain ⟨hN, hin, hty, hnm⟩ := hC ci _ hq
  have hKn := hK.1 ci _ hq
  refine W.newcK hx hb hown (hts _ h1) (hts _ h2) (hts _ h3) rfl hd hc hs hKn.2.1 hR.1 fun H' kC hkC e1 z1 o1 => ?_
  refine k H' (hR.new hbz (by rw [z1, hR.1]) (by rw [hR.1]; exact o1) ⟨q, hq, (u_born (tyOf q.2.1) hts hin hKn hkC e1 (fun k hk => (hty k hk).1)).to (fun j hj => ?_)⟩) (S_new hS0 (by rw [z1, hR.1]) (by rw [hR.1]; exact o1))
  exact (nw_default (hty j hj).2 h _ _ _).symm
theorem nA_inv {t : Nat} {st : List TV} {q : List TV × Hp} (hq : nA t st h = some q) : ∃ (n : Int32) (r : List TV), st = tI n :: r ∧ ¬ n < 0 ∧ n.toNatClampNeg * 8 ≤ 536870912 ∧ q = (tR (some (sz h)) :: r, nw h (.inr (t, n.toNatClampNeg)) n.toNatClampNeg) := by
  unfold nA at hq
  split at hq
  · split at hq
    · cases hq
    · rename_i h0
      split at hq
      · rename_i h1
        cases hq
        exact ⟨_, _, rfl, h0, h1, rfl⟩
      · cases hq
  · cases hq
theorem nP_ok (X : Cx D p s m args meth c cc own isI) {atype : ArrayType} (h1 : Cond.arrayClass (newarray.typeOf atype) ∈ wsA) (hak : akT (kOf atype) = some (newarray.typeOf atype)) (hk9 : kOf atype < 4) {st : List TV} {q : List TV × Hp} (hq : nA (kOf atype) st h = some q) (hd : decode cc pc = .ok (.newarray atype, 2)) (hR : Rep base D s H h) (hbz : base ≤ sz h) (hS0 : va_S (fun q => base ≤ q) s.heap H locs) (hc : cells + (sz q.2 - sz h) ≤ R.cells) (hs : slots + (us q.2 - us h) ≤ R.slots) (k : ∀ (H' : Heap), Rep base D s H' q.2 → va_S (fun q => base ≤ q) s.heap H' locs → W p l e R s m args below meth c H' locs (cells + (sz q.2 - sz h)) (slots + (us q.2 - us h)) Q (F0 m (pc + 2) ls (q.1.map tv))) : W p l e R s m args below meth c H locs cells slots Q (F0 m pc ls (st.map tv)) := by
  obtain ⟨hx, hb, hown, hts, hK, hI⟩ := X
  obtain ⟨n, r, rfl, h0, hby, rfl⟩ := nA_inv hq
  have e1 : sz (nw h (.inr (kOf atype, n.toNatClampNeg)) n.toNatClampNeg) - sz h = 1 := by rw [sz_nw]; omega
  have e2 : us (nw h (.inr (kOf atype, n.toNatClampNeg)) n.toNatClampNeg) - us h = n.toNatClampNeg := by rw [us_nw]; omega
  dsimp only at hc hs k
  rw [e1] at hc k
  rw [e2] at hs k
  have hcb : n.toNatClampNeg * componentBytes (newarray.typeOf atype) ≤ 536870912 := by
    refine Nat.le_trans (Nat.mul_le_mul_left _ ?_) hby
    cases atype <;> decide
  refine va_newaK hx hb (hts _ h1) rfl hd rfl h0 rfl hcb hc hs hR.1 fun H' cA f1 z1 o1 hAr hNm => ?_
  have hcA : cA = D.2 (kOf atype) := by
    have hr := (hK.2.1 _ _ hak).2
    have hr' : s.vm.findClass ("[" ++ (newarray.typeOf atype).toString) = some (D.2 (kOf atype)) := by
      cases atype <;> exact hr
    exact Option.some.inj (hNm.symm.trans hr')
  refine k H' (hR.new hbz (by rw [z1, hR.1]) (by rw [hR.1]; exact o1) ?_) (S_new hS0 (by rw [z1, hR.1]) (by rw [hR.1]; exact o1))
  rw [cellOk_arr (by omega)]
  refine ⟨_, hak, ?_⟩
  rw [f1, hcA]
  congr 2
  funext j
  have a1 : ∀ x, ai (nw h x n.toNatClampNeg) (sz h) j = 0 := fun x => by rw [ai_nw, if_pos rfl]
  have a2 : ∀ x, al (nw h x n.toNatClampNeg) (sz h) j = 0 := fun x => by rw [al_nw, if_pos rfl]
  cases atype with
  | int => show _ = tv (tI _); rw [a1]; rfl
  | long => show _ = tv (tL _); rw [a2]; rfl
  | byte => show _ = tv (tI _); rw [a1]; rfl
  | boolean => show _ = tv (tI _); rw [a1]; rfl
  | _ => exact absurd hk9 (by decide)
theorem nR_ok (X : Cx D p s m args meth c cc own isI) {idx t : Nat} {C : String} (h1 : Cond.classLink own idx C ∈ wsA) (h2 : C ∈ aoL) (hak : akT t = some (.object C)) (ht : 10 ≤ t) {st : List TV} {q : List TV × Hp} (hq : nA t st h = some q) (hd : decode cc pc = .ok (.anewarray idx, 3)) (hR : Rep base D s H h) (hbz : base ≤ sz h) (hS0 : va_S (fun q => base ≤ q) s.heap H locs) (hc : cells + (sz q.2 - sz h) ≤ R.cells) (hs : slots + (us q.2 - us h) ≤ R.slots) (k : ∀ (H' : Heap), Rep base D s H' q.2 → va_S (fun q => base ≤ q) s.heap H' locs → W p l e R s m args below meth c H' locs (cells + (sz q.2 - sz h)) (slots + (us q.2 - us h)) Q (F0 m (pc + 3) ls (q.1.map tv))) : W p l e R s m args below meth c H locs cells slots Q (F0 m pc ls (st.map tv)) := by
  obtain ⟨hx, hb, hown, hts, hK, hI⟩ := X
  obtain ⟨n, r, rfl, h0, hby, rfl⟩ := nA_inv hq
  have e1 : sz (nw h (.inr (t, n.toNatClampNeg)) n.toNatClampNeg) - sz h = 1 := by rw [sz_nw]; omega
  have e2 : us (nw h (.inr (t, n.toNatClampNeg)) n.toNatClampNeg) - us h = n.toNatClampNeg := by rw [us_nw]; omega
  dsimp only at hc hs k
  rw [e1] at hc k
  rw [e2] at hs k
  refine W.anew hx hb hown (hts _ h1) (va_AO.use (hK.2.2.2 _ h2)) rfl hd rfl h0 (by omega) hc hs fun cA kA comp f1 f2 f3 f4 => ?_
  obtain ⟨kA', comp', g1, g2, g3, g4⟩ := (hK.2.1 _ _ hak).2
  have hcA : cA = D.2 t := Option.some.inj (f1.symm.trans g4)
  have hz : H.size = sz h := hR.1
  rw [arrV_new, hcA]
  have key := k (H.push (arrV (D.2 t) n.toNatClampNeg (fun _ => Value.null))) (hR.new hbz (by simp) (fun b hb => by rw [Array.getElem?_push, if_neg (Nat.ne_of_lt hb)]) ?_) (S_new hS0 (by simp) (fun b hb => by rw [Array.getElem?_push, if_neg (Nat.ne_of_lt hb)]))
  · rw [← hz] at key
    exact key
  · rw [cellOk_arr (by omega)]
    refine ⟨_, hak, ?_⟩
    rw [← hz, Array.getElem?_push, if_pos rfl]
    congr 2
    funext j
    have a3 : ∀ x, aq (nw h x n.toNatClampNeg) (sz h) j = none := fun x => by rw [aq_nw, if_pos rfl]
    have e : av t (nw h (.inr (t, n.toNatClampNeg)) n.toNatClampNeg) H.size j = tR (aq (nw h (.inr (t, n.toNatClampNeg)) n.toNatClampNeg) H.size j) := by
      unfold av
      split
      · omega
      · omega
      · omega
      · omega
      · omega
      · rfl
    rw [e, hz, a3]
    rfl
end SND
