/-! AN INTERPRETER OF THE BYTECODE, 4: arrays -/
theorem av_ge {t : Nat} (ht : 10 ≤ t) (h : Hp) (a j : Nat) : av t h a j = tR (aq h a j) := by
  unfold av
  split
  · omega
  · omega
  · omega
  · omega
  · omega
  · rfl
theorem aLd_inv {ok : Nat → Bool} {st : List TV} {h : Hp} {q : List TV × Hp} (hq : aLd ok st h = some q) : ∃ (j : Int32) (a t n : Nat) (r : List TV), st = tI j :: tR (some a) :: r ∧ tg h a = some (.inr (t, n)) ∧ ok t = true ∧ ¬ (j < 0 ∨ n ≤ j.toNatClampNeg) ∧ q = (av t h a j.toNatClampNeg :: r, h) := by
  unfold aLd at hq
  split at hq
  · split at hq
    · rename_i ht
      split at hq
      · rename_i h0
        cases hq
        exact ⟨_, _, _, _, _, rfl, ht, h0.1, h0.2, rfl⟩
      · cases hq
    · cases hq
  · cases hq
theorem aLen_inv {st : List TV} {h : Hp} {q : List TV × Hp} (hq : aLen st h = some q) : ∃ (a t n : Nat) (r : List TV), st = tR (some a) :: r ∧ tg h a = some (.inr (t, n)) ∧ q = (tI (Int32.ofNat n) :: r, h) := by
  unfold aLen at hq
  split at hq
  · split at hq
    · rename_i ht
      cases hq
      exact ⟨_, _, _, _, rfl, ht, rfl⟩
    · cases hq
  · cases hq
theorem aSt_inv {ok : Nat → Bool} {st : List TV} {h : Hp} {q : List TV × Hp} (hq : aSt ok st h = some q) : ∃ (v : TV) (j : Int32) (a t n : Nat) (r : List TV) (h' : Hp), st = v :: tI j :: tR (some a) :: r ∧ tg h a = some (.inr (t, n)) ∧ ok t = true ∧ ¬ (j < 0 ∨ n ≤ j.toNatClampNeg) ∧ astV t h a j.toNatClampNeg v = some h' ∧ q = (r, h') := by
  unfold aSt at hq
  split at hq
  · split at hq
    · rename_i ht
      split at hq
      · rename_i h0
        split at hq
        · rename_i hv
          cases hq
          exact ⟨_, _, _, _, _, _, _, rfl, ht, h0.1, h0.2, hv, rfl⟩
        · cases hq
      · cases hq
    · cases hq
  · cases hq
section SND
variable {p : Program} {l : Launch} {e : Env} {R : Room} {s : State} {m : MethodId} {args : Array Value} {below : List Frame} {meth : Method} {c : Code} {H : Heap} {locs : List Loc} {cells slots : Nat} {Q : State → Prop} {cc : ByteArray} {pc : Nat} {ls : Array Slot}
variable {base : Nat} {D : Dt} {own : String} {isI : Bool} {h : Hp}
theorem aLen_ok (X : Cx D p s m args meth c cc own isI) {st : List TV} {q : List TV × Hp} (hq : aLen st h = some q) (hd : decode cc pc = .ok (.arraylength, 1)) (hR : Rep base D s H h) (k : q.2 = h → W p l e R s m args below meth c H locs cells slots Q (F0 m (pc + 1) ls (q.1.map tv))) : W p l e R s m args below meth c H locs cells slots Q (F0 m pc ls (st.map tv)) := by
  obtain ⟨hx, hb, hown, hts, hK, hI⟩ := X
  obtain ⟨a, t, n, r, rfl, ht, rfl⟩ := aLen_inv hq
  obtain ⟨-, -, hc⟩ := hR.2 a _ ht
  by_cases h9 : t = 9
  · subst h9
    obtain ⟨scr, h1, h2, h3, h4, h5⟩ := hc
    exact W.alen (n := Int32.ofNat n) hx hb h1 h2 (by rw [h4]) rfl rfl hd (k rfl)
  · rw [cellOk_arr h9] at hc
    obtain ⟨ty, hty, h1⟩ := hc
    exact W.alen (n := Int32.ofNat n) hx hb h1 ((hK.2.1 _ _ hty).1 n _) (by rw [arrV_size]) rfl rfl hd (k rfl)
theorem iald_ok (hA : akOk) (X : Cx D p s m args meth c cc own isI) {st : List TV} {q : List TV × Hp} (hq : aLd (fun t => t == 0 || t == 9) st h = some q) (hd : decode cc pc = .ok (.iaload, 1)) (hR : Rep base D s H h) (k : q.2 = h → W p l e R s m args below meth c H locs cells slots Q (F0 m (pc + 1) ls (q.1.map tv))) : W p l e R s m args below meth c H locs cells slots Q (F0 m pc ls (st.map tv)) := by
  obtain ⟨hx, hb, hown, hts, hK, hI⟩ := X
  obtain ⟨j, a, t, n, r, rfl, ht, hok, hin, rfl⟩ := aLd_inv hq
  obtain ⟨-, -, hc⟩ := hR.2 a _ ht
  have hlt : j.toNatClampNeg < n := Nat.not_le.mp fun q => hin (Or.inr q)
  by_cases h9 : t = 9
  · subst h9
    obtain ⟨scr, h1, h2, h3, h4, h5⟩ := hc
    exact W.iald hx hb h1 h2 h3 (by rw [h4]; exact hin) (h5 _ hlt) rfl rfl hd (k rfl)
  · have h0 : t = 0 := by
      have hok : (t == 0 || t == 9) = true := hok
      simp at hok
      omega
    subst h0
    rw [cellOk_arr h9] at hc
    obtain ⟨ty, hty, h1⟩ := hc
    have := hA.1 ty hty
    subst this
    exact W.iald hx hb h1 ((hK.2.1 _ _ hty).1 n _) (fun q => by cases q) (by rw [arrV_size]; exact hin) (arrV_read _ _ hlt) rfl rfl hd (k rfl)
theorem lald_ok (hA : akOk) (X : Cx D p s m args meth c cc own isI) {st : List TV} {q : List TV × Hp} (hq : aLd (fun t => t == 1) st h = some q) (hd : decode cc pc = .ok (.laload, 1)) (hR : Rep base D s H h) (k : q.2 = h → W p l e R s m args below meth c H locs cells slots Q (F0 m (pc + 1) ls (q.1.map tv))) : W p l e R s m args below meth c H locs cells slots Q (F0 m pc ls (st.map tv)) := by
  obtain ⟨hx, hb, hown, hts, hK, hI⟩ := X
  obtain ⟨j, a, t, n, r, rfl, ht, hok, hin, rfl⟩ := aLd_inv hq
  obtain ⟨-, -, hc⟩ := hR.2 a _ ht
  have hlt : j.toNatClampNeg < n := Nat.not_le.mp fun q => hin (Or.inr q)
  have h0 : t = 1 := by simpa using hok
  subst h0
  rw [cellOk_arr (by decide)] at hc
  obtain ⟨ty, hty, h1⟩ := hc
  have := hA.2.1 ty hty
  subst this
  exact W.lald hx hb h1 ((hK.2.1 _ _ hty).1 n _) (fun q => by cases q) (by rw [arrV_size]; exact hin) (arrV_read _ _ hlt) rfl rfl hd (k rfl)
theorem bald_ok (hA : akOk) (X : Cx D p s m args meth c cc own isI) {st : List TV} {q : List TV × Hp} (hq : aLd (fun t => t == 2 || t == 3) st h = some q) (hd : decode cc pc = .ok (.baload, 1)) (hR : Rep base D s H h) (k : q.2 = h → W p l e R s m args below meth c H locs cells slots Q (F0 m (pc + 1) ls (q.1.map tv))) : W p l e R s m args below meth c H locs cells slots Q (F0 m pc ls (st.map tv)) := by
  obtain ⟨hx, hb, hown, hts, hK, hI⟩ := X
  obtain ⟨j, a, t, n, r, rfl, ht, hok, hin, rfl⟩ := aLd_inv hq
  obtain ⟨-, -, hc⟩ := hR.2 a _ ht
  have hlt : j.toNatClampNeg < n := Nat.not_le.mp fun q => hin (Or.inr q)
  have h0 : t = 2 ∨ t = 3 := by
    have hok : (t == 2 || t == 3) = true := hok
    simpa using hok
  rw [cellOk_arr (by omega)] at hc
  obtain ⟨ty, hty, h1⟩ := hc
  rcases h0 with h0 | h0
  · subst h0
    have := hA.2.2.1 ty hty
    subst this
    exact W.bald hx hb h1 ((hK.2.1 _ _ hty).1 n _) (fun q => by cases q) (by rw [arrV_size]; exact hin) (arrV_read _ _ hlt) rfl rfl hd (k rfl)
  · subst h0
    have := hA.2.2.2.1 ty hty
    subst this
    exact W.zald hx hb h1 ((hK.2.1 _ _ hty).1 n _) (fun q => by cases q) (by rw [arrV_size]; exact hin) (arrV_read _ _ hlt) rfl rfl hd (k rfl)
theorem aald_ok (hA : akOk) (X : Cx D p s m args meth c cc own isI) {st : List TV} {q : List TV × Hp} (hq : aLd (fun t => decide (10 ≤ t)) st h = some q) (hd : decode cc pc = .ok (.aaload, 1)) (hR : Rep base D s H h) (k : q.2 = h → W p l e R s m args below meth c H locs cells slots Q (F0 m (pc + 1) ls (q.1.map tv))) : W p l e R s m args below meth c H locs cells slots Q (F0 m pc ls (st.map tv)) := by
  obtain ⟨hx, hb, hown, hts, hK, hI⟩ := X
  obtain ⟨j, a, t, n, r, rfl, ht, hok, hin, rfl⟩ := aLd_inv hq
  obtain ⟨-, -, hc⟩ := hR.2 a _ ht
  have hlt : j.toNatClampNeg < n := Nat.not_le.mp fun q => hin (Or.inr q)
  have h0 : 10 ≤ t := by simpa using hok
  rw [cellOk_arr (by omega)] at hc
  obtain ⟨ty, hty, h1⟩ := hc
  obtain ⟨q0, hq0, rfl⟩ := hA.2.2.2.2 t ty h0 hty
  exact W.aald (ty := .object q0.1) hx hb h1 ((hK.2.1 _ _ hty).1 n _) rfl (fun q => by cases q) (by rw [arrV_size]; exact hin) (arrV_read _ _ hlt) rfl rfl hd (k rfl)
/-- behind a store into an array -/
theorem arr_write {H' : Heap} {h' : Hp} {a t n j : Nat} {v : TV} (hR : Rep base D s H h) (ht : tg h a = some (.inr (t, n))) (h9 : t ≠ 9) {ty : FieldType} (hty : akT t = some ty) (hc : H[a]? = some (arrV (D.2 t) n (fun j => tv (av t h a j)))) (e1 : H'[a]? = some ((arrV (D.2 t) n (fun j => tv (av t h a j))).setSlot j (tv v))) (e2 : H'.size = H.size) (e3 : ∀ b : Nat, b ≠ a → H'[b]? = H[b]?) (g1 : tg h' = tg h) (g2 : sz h' = sz h) (g3 : ∀ b, b ≠ a → sameAt h h' b) (g4 : av t h' a j = v) (g5 : ∀ i, i ≠ j → av t h' a i = av t h a i) : Rep base D s H' h' := by
  refine hR.write e2 e3 g1 g2 g3 (fun x hx => ?_)
  cases ht.symm.trans hx
  rw [cellOk_arr h9]
  refine ⟨ty, hty, ?_⟩
  rw [e1, arrV_store]
  congr 2
  funext i
  by_cases hi : i = j
  · subst hi
    rw [g4]
    simp [updV]
  · rw [g5 i hi]
    simp [updV, hi]
theorem si_same {h : Hp} {a j : Nat} {x : Int32} : ∀ b, b ≠ a → sameAt h (si h a j x) b := fun b hb => ⟨fun _ => rfl, fun _ => rfl, fun _ => rfl, fun i => by rw [ai_si, if_neg (fun q => hb q.1)], fun _ => rfl, fun _ => rfl⟩
theorem sl_same {h : Hp} {a j : Nat} {x : Int64} : ∀ b, b ≠ a → sameAt h (sl h a j x) b := fun b hb => ⟨fun _ => rfl, fun _ => rfl, fun _ => rfl, fun _ => rfl, fun i => by rw [al_sl, if_neg (fun q => hb q.1)], fun _ => rfl⟩
theorem sq_same {h : Hp} {a j : Nat} {x : Option Nat} : ∀ b, b ≠ a → sameAt h (sq h a j x) b := fun b hb => ⟨fun _ => rfl, fun _ => rfl, fun _ => rfl, fun _ => rfl, fun _ => rfl, fun i => by rw [aq_sq, if_neg (fun q => hb q.1)]⟩
theorem Rep.base_of {a t n : Nat} (hR : Rep base D s H h) (ht : tg h a = some (.inr (t, n))) (h9 : t ≠ 9) : base ≤ a := by
  rcases (hR.2 a _ ht).2.1 with h1 | ⟨n, h1⟩
  · exact h1
  · cases h1
    exact absurd rfl h9
theorem iast_ok (hA : akOk) (X : Cx D p s m args meth c cc own isI) {st : List TV} {q : List TV × Hp} (hq : aSt (fun t => t == 0) st h = some q) (hd : decode cc pc = .ok (.iastore, 1)) (hR : Rep base D s H h) (hS0 : va_S (fun q => base ≤ q) s.heap H locs) (k : sz q.2 = sz h → us q.2 = us h → ∀ (H' : Heap) (locs' : List Loc), Rep base D s H' q.2 → va_S (fun q => base ≤ q) s.heap H' locs' → W p l e R s m args below meth c H' locs' cells slots Q (F0 m (pc + 1) ls (q.1.map tv))) : W p l e R s m args below meth c H locs cells slots Q (F0 m pc ls (st.map tv)) := by
  obtain ⟨hx, hb, hown, hts, hK, hI⟩ := X
  obtain ⟨v, j, a, t, n, r, h', rfl, ht, hok, hin, hv, rfl⟩ := aSt_inv hq
  have h0 : t = 0 := by simpa using hok
  subst h0
  rcases v with x | x | _ | x
  · cases hv
    obtain ⟨-, -, hc⟩ := hR.2 a _ ht
    have hlt : j.toNatClampNeg < n := Nat.not_le.mp fun q => hin (Or.inr q)
    rw [cellOk_arr (by decide)] at hc
    obtain ⟨ty, hty, h1⟩ := hc
    have := hA.1 ty hty
    subst this
    refine W.iast hx hb h1 ((hK.2.1 _ _ hty).1 n _) (fun q => by cases q) (by rw [arrV_size]; exact hin) rfl rfl hd fun H' e1 e2 e3 => ?_
    refine k rfl rfl H' _ (arr_write (v := tI x) hR ht (by decide) hty h1 e1 e2 e3 rfl rfl si_same ?_ ?_) (hS0.put e2 e3 (hR.base_of ht (by decide)))
    · show tI (ai (si h a _ x) a _) = _
      rw [ai_si, if_pos ⟨rfl, rfl⟩]
    · intro i hi
      show tI (ai (si h a _ x) a i) = tI (ai h a i)
      rw [ai_si, if_neg (fun q => hi q.2)]
  · cases hv
  · cases hv
  · cases hv
theorem bast_ok (hA : akOk) (X : Cx D p s m args meth c cc own isI) {st : List TV} {q : List TV × Hp} (hq : aSt (fun t => t == 2 || t == 3) st h = some q) (hd : decode cc pc = .ok (.bastore, 1)) (hR : Rep base D s H h) (hS0 : va_S (fun q => base ≤ q) s.heap H locs) (k : sz q.2 = sz h → us q.2 = us h → ∀ (H' : Heap) (locs' : List Loc), Rep base D s H' q.2 → va_S (fun q => base ≤ q) s.heap H' locs' → W p l e R s m args below meth c H' locs' cells slots Q (F0 m (pc + 1) ls (q.1.map tv))) : W p l e R s m args below meth c H locs cells slots Q (F0 m pc ls (st.map tv)) := by
  obtain ⟨hx, hb, hown, hts, hK, hI⟩ := X
  obtain ⟨v, j, a, t, n, r, h', rfl, ht, hok, hin, hv, rfl⟩ := aSt_inv hq
  have h0 : t = 2 ∨ t = 3 := by
    have hok : (t == 2 || t == 3) = true := hok
    simpa using hok
  obtain ⟨-, -, hc⟩ := hR.2 a _ ht
  have hlt : j.toNatClampNeg < n := Nat.not_le.mp fun q => hin (Or.inr q)
  rw [cellOk_arr (by omega)] at hc
  obtain ⟨ty, hty, h1⟩ := hc
  rcases h0 with h0 | h0
  · subst h0
    rcases v with x | x | _ | x
    · cases hv
      have := hA.2.2.1 ty hty
      subst this
      refine W.bast hx hb h1 ((hK.2.1 _ _ hty).1 n _) (fun q => by cases q) (by rw [arrV_size]; exact hin) rfl rfl hd fun H' e1 e2 e3 => ?_
      refine k rfl rfl H' _ (arr_write (v := tI x.toInt8.toInt32) hR ht (by decide) hty h1 e1 e2 e3 rfl rfl si_same ?_ ?_) (hS0.put e2 e3 (hR.base_of ht (by decide)))
      · show tI (ai (si h a _ _) a _) = _
        rw [ai_si, if_pos ⟨rfl, rfl⟩]
      · intro i hi
        show tI (ai (si h a _ _) a i) = tI (ai h a i)
        rw [ai_si, if_neg (fun q => hi q.2)]
    · cases hv
    · cases hv
    · cases hv
  · subst h0
    rcases v with x | x | _ | x
    · cases hv
      have := hA.2.2.2.1 ty hty
      subst this
      refine W.zast hx hb h1 ((hK.2.1 _ _ hty).1 n _) (fun q => by cases q) (by rw [arrV_size]; exact hin) rfl rfl hd fun H' e1 e2 e3 => ?_
      refine k rfl rfl H' _ (arr_write (v := tI (x &&& 1)) hR ht (by decide) hty h1 e1 e2 e3 rfl rfl si_same ?_ ?_) (hS0.put e2 e3 (hR.base_of ht (by decide)))
      · show tI (ai (si h a _ _) a _) = _
        rw [ai_si, if_pos ⟨rfl, rfl⟩]
      · intro i hi
        show tI (ai (si h a _ _) a i) = tI (ai h a i)
        rw [ai_si, if_neg (fun q => hi q.2)]
    · cases hv
    · cases hv
    · cases hv
theorem last_ok (hA : akOk) (X : Cx D p s m args meth c cc own isI) {st : List TV} {q : List TV × Hp} (hq : aSt (fun t => t == 1) st h = some q) (hd : decode cc pc = .ok (.lastore, 1)) (hR : Rep base D s H h) (hS0 : va_S (fun q => base ≤ q) s.heap H locs) (k : sz q.2 = sz h → us q.2 = us h → ∀ (H' : Heap) (locs' : List Loc), Rep base D s H' q.2 → va_S (fun q => base ≤ q) s.heap H' locs' → W p l e R s m args below meth c H' locs' cells slots Q (F0 m (pc + 1) ls (q.1.map tv))) : W p l e R s m args below meth c H locs cells slots Q (F0 m pc ls (st.map tv)) := by
  obtain ⟨hx, hb, hown, hts, hK, hI⟩ := X
  obtain ⟨v, j, a, t, n, r, h', rfl, ht, hok, hin, hv, rfl⟩ := aSt_inv hq
  have h0 : t = 1 := by simpa using hok
  subst h0
  rcases v with x | x | _ | x
  · cases hv
  · cases hv
    obtain ⟨-, -, hc⟩ := hR.2 a _ ht
    have hlt : j.toNatClampNeg < n := Nat.not_le.mp fun q => hin (Or.inr q)
    rw [cellOk_arr (by decide)] at hc
    obtain ⟨ty, hty, h1⟩ := hc
    have := hA.2.1 ty hty
    subst this
    refine W.last hx hb h1 ((hK.2.1 _ _ hty).1 n _) (fun q => by cases q) (by rw [arrV_size]; exact hin) rfl rfl hd fun H' e1 e2 e3 => ?_
    refine k rfl rfl H' _ (arr_write (v := tL x) hR ht (by decide) hty h1 e1 e2 e3 rfl rfl sl_same ?_ ?_) (hS0.put e2 e3 (hR.base_of ht (by decide)))
    · show tL (al (sl h a _ x) a _) = _
      rw [al_sl, if_pos ⟨rfl, rfl⟩]
    · intro i hi
      show tL (al (sl h a _ x) a i) = tL (al h a i)
      rw [al_sl, if_neg (fun q => hi q.2)]
  · cases hv
  · cases hv
theorem aast_ok (hA : akOk) (X : Cx D p s m args meth c cc own isI) {st : List TV} {q : List TV × Hp} (hq : aSt (fun t => decide (10 ≤ t)) st h = some q) (hd : decode cc pc = .ok (.aastore, 1)) (hR : Rep base D s H h) (hS0 : va_S (fun q => base ≤ q) s.heap H locs) (k : sz q.2 = sz h → us q.2 = us h → ∀ (H' : Heap) (locs' : List Loc), Rep base D s H' q.2 → va_S (fun q => base ≤ q) s.heap H' locs' → W p l e R s m args below meth c H' locs' cells slots Q (F0 m (pc + 1) ls (q.1.map tv))) : W p l e R s m args below meth c H locs cells slots Q (F0 m pc ls (st.map tv)) := by
  obtain ⟨hx, hb, hown, hts, hK, hI⟩ := X
  obtain ⟨v, j, a, t, n, r, h', rfl, ht, hok, hin, hv, rfl⟩ := aSt_inv hq
  have h0 : 10 ≤ t := by simpa using hok
  obtain ⟨-, -, hc⟩ := hR.2 a _ ht
  have hlt : j.toNatClampNeg < n := Nat.not_le.mp fun q => hin (Or.inr q)
  have hj0 : ¬ j < 0 := fun q => hin (Or.inl q)
  rw [cellOk_arr (by omega)] at hc
  obtain ⟨ty, hty, h1⟩ := hc
  obtain ⟨q0, hq0, rfl⟩ := hA.2.2.2.2 t ty h0 hty
  rcases v with x | x | _ | b
  · have hv : (if t = 0 then some (si h a j.toNatClampNeg x) else if t = 2 then some (si h a j.toNatClampNeg x.toInt8.toInt32) else if t = 3 then some (si h a j.toNatClampNeg (x &&& 1)) else none) = some h' := hv
    rw [if_neg (by omega), if_neg (by omega), if_neg (by omega)] at hv
    cases hv
  · have hv : (if t = 1 then some (sl h a j.toNatClampNeg x) else none) = some h' := hv
    rw [if_neg (by omega)] at hv
    cases hv
  · have hv : (if 10 ≤ t then some (sq h a j.toNatClampNeg none) else none) = some h' := hv
    rw [if_pos h0] at hv
    cases hv
    refine va_WaastN (C := q0.1) hx hb h1 ((hK.2.1 _ _ hty).1 n _) (fun h => by cases h) (by rw [arrV_size]; exact hin) rfl rfl hd fun H' e1 e2 e3 => ?_
    refine k rfl rfl H' _ (arr_write (v := tR none) hR ht (by omega) hty h1 e1 e2 e3 rfl rfl sq_same ?_ ?_) (hS0.put e2 e3 (hR.base_of ht (by omega)))
    · rw [av_ge h0, aq_sq, if_pos ⟨rfl, rfl⟩]
    · intro i hi
      rw [av_ge h0, av_ge h0, aq_sq, if_neg (fun q => hi q.2)]
  · have hv : (if 10 ≤ t ∧ tg h b = some (.inl (t - 10)) then some (sq h a j.toNatClampNeg (some b)) else none) = some h' := hv
    split at hv
    · rename_i hb2
      cases hv
      obtain ⟨-, -, r', hr', cellV, g1, g2, g3, -⟩ := hR.2 b _ hb2.2
      cases hr'.symm.trans hq0
      have hcls := (hK.1 _ _ hq0).2
      obtain ⟨kA, comp, k1, k2, k3, -⟩ := (hK.2.1 _ _ hty).2
      have hcomp : comp = D.1.1 (t - 10) := Option.some.inj (k3.symm.trans hcls.1)
      subst hcomp
      obtain ⟨kC, hkC, -⟩ := hcls.2
      refine W.aast hx hb h1 (fun q h => by cases h) (fun h => by cases h) k1 k2 rfl hkC ⟨hj0, by rw [arrV_size]; exact hlt⟩ g1 (fun q h => by rw [g3] at h; cases h) (by rw [g2]; exact hkC) (by rw [g2]; exact va_assign hcls) rfl rfl hd fun H' e1 e2 e3 => ?_
      refine k rfl rfl H' _ (arr_write (v := tR (some b)) hR ht (by omega) hty h1 e1 e2 e3 rfl rfl sq_same ?_ ?_) (hS0.put e2 e3 (hR.base_of ht (by omega)))
      · rw [av_ge h0, aq_sq, if_pos ⟨rfl, rfl⟩]
      · intro i hi
        rw [av_ge h0, av_ge h0, aq_sq, if_neg (fun q => hi q.2)]
    · cases hv
end SND
