/-! THE REFERENCE RUNS, 10: call and run -/
/-- what the reference holds of a state between calls -/
def RXs (P : List Fn) (m : Nat) (h : Hp) (s : RS) : Prop := gi h 668 m = s.1 ∧ gi h 669 m = s.2.1 ∧ PG m h s.2.2.2 ∧ (s.1 = 1 → ∃ f b i r, s.2.2.1 = (f, b, some i) :: r ∧ RLv P m h h ((f, b, some i) :: r) s.2.2.2 (pos0 P f + i)) ∧ (s.1 = 2 → gi h 680 m = nI s.2.2.2.1 ∧ ∀ j, j < s.2.2.2.1 → al h (m + 25) j = s.2.2.2.2.1 j)
theorem nI_surj (x : Int32) : ∃ A, x = nI A := ⟨x.toBitVec.toNat, by
  apply Int32.toBitVec_inj.mp
  show x.toBitVec = BitVec.ofNat 32 x.toBitVec.toNat
  simp⟩
section FF
variable {P : List Fn} {m : Nat} {h0 h : Hp} {fr r : List Fm} {w w0 : Wd} {A n p f b i : Nat} {q : Option Nat} {v : VV} {bb : Nat → Int32} {g : VV} {gf : Fn} {Q : Option TV → Hp → Prop} {tb : Nat → Option Nat} {s : RS}
theorem RLv.rb (H : RLv P m h0 h fr w A) : RLv P m h h fr w A := by
  obtain ⟨h1, h2, h3, h4, h5, h6, h7, h8, h9, h10, h11⟩ := H
  exact ⟨RW.rf _ _, ⟨rfl, rfl, rfl, rfl⟩, rfl, h4, h5, h6, h7, h8, h9, h10, h11⟩
/-- what is left of a state goes on -/
def KN (P : List Fn) (m : Nat) (h0 : Hp) (Q : Option TV → Hp → Prop) (s : RS) : Prop := ∀ h', RW m h0 h' → KE m h0 h' → RXs P m h' s → Q none h'
theorem KN.kp {tr : Int32} (ht : gi h0 669 m = tr) (hok : (lvF P fr w.1 w.2.1).1 = [] ∨ ∃ f b i r, (lvF P fr w.1 w.2.1).1 = (f, b, some i) :: r) (K : KN P m h0 Q (lvS P tr fr w)) : KP P m h0 fr w Q := by
  unfold lvS at K
  revert K hok
  unfold KP
  generalize lvF P fr w.1 w.2.1 = y
  intro hok K
  obtain ⟨fr2, n2, v2⟩ := y
  dsimp only at K hok ⊢
  refine ⟨fun e h' H => ?_, fun f2 b2 i2 r2 e h' H => ?_⟩
  · subst e
    rw [if_pos rfl] at K
    obtain ⟨e1, e2, e3, e4, e5, e6, e7⟩ := H
    refine K h' e1 e2 ⟨e4, e3.trans ht, e5, fun z => absurd (show (2 : Int32) = 1 from z) (by decide), fun _ => ⟨e6, e7⟩⟩
  · subst e
    rw [if_neg (List.cons_ne_nil _ _)] at K
    refine K h' H.1 H.2.1 ⟨H.2.2.2.1, H.2.2.1.trans ht, H.2.2.2.2.2.2.2.2.1, fun _ => ⟨f2, b2, i2, r2, rfl, H.rb⟩, fun z => absurd (show (1 : Int32) = 2 from z) (by decide)⟩
theorem KN.kx {tr : Int32} (ht : gi h0 669 m = tr) {x : Int32 ⊕ (List Fm × Wd)} (hok : ∀ y, x = .inr y → OKR P y.1 y.2) (K : KN P m h0 Q (afS P tr w x)) : KX P m h0 w Q x := by
  cases x with
  | inl c =>
    unfold afS at K
    unfold KX
    dsimp only at K ⊢
    by_cases hc : c = 0
    · rw [if_pos hc] at K ⊢
      intro h' H
      obtain ⟨e1, e2, e3, e4, e5⟩ := H
      exact K h' e1 e2 ⟨e3, e4.trans ht, e5, fun z => absurd (show (4 : Int32) = 1 from z) (by decide), fun z => absurd (show (4 : Int32) = 2 from z) (by decide)⟩
    · rw [if_neg hc] at K ⊢
      intro h' H
      obtain ⟨e1, e2, e3, e4, e5⟩ := H
      exact K h' e1 e2 ⟨e3, e4, e5, fun z => absurd (show (3 : Int32) = 1 from z) (by decide), fun z => absurd (show (3 : Int32) = 2 from z) (by decide)⟩
  | inr y =>
    have ho := hok y rfl
    obtain ⟨o1, o2, o3, o4, o5⟩ := ho
    exact KN.kp ht (lvF_ok o1 o3 o4 o2).2.2.2.1 K
/-- a step -/
theorem s_step (hm : MS h m) (hP : MP h m P) (hW : WhP P) (hT : ∀ j f2, tb j = some f2 → f2 < P.length) (hTB : TBm m h tb) (hO : OKS P s) (h1 : s.1 = 1) (H : RXs P m h s)
    (K : ∀ h', RW m h h' → ai h' (m + 17) = ai h (m + 17) → al h' (m + 20) = al h (m + 20) → gi h' 667 m = gi h 667 m → gi h' 670 m = gi h 670 m + 1 → RXs P m h' (stS P tb s) → Q none h') : tX11_step m h Q := by
  obtain ⟨st, tr, fr, w⟩ := s
  obtain ⟨x1, x2, x3, x4, x5⟩ := H
  obtain ⟨f, b, i, r, e, HL⟩ := x4 h1
  have e : fr = (f, b, some i) :: r := e
  subst e
  obtain ⟨o1, -⟩ := hO.2.2.1 h1
  obtain ⟨n, v, p, bb, g⟩ := w
  refine s_stA hm hP hW hT hTB o1 HL (fun h1 e1 => ?_)
  have ht : gi h1 669 m = tr := by rw [e1, gi_ne (by decide)]; exact x2
  refine KN.kx (tr := tr) ht (fun y hy => stA_ok hW hT o1 hy) ?_
  intro h' w' k' X
  refine K h' ?_ ?_ ?_ ?_ ?_ X
  · rw [e1] at w'
    exact (RW_pi _ _ (by omega)).tr w'
  · rw [k'.1, e1]; rfl
  · rw [k'.2.1, e1]; rfl
  · rw [k'.2.2.1, e1, gi_ne (by decide)]
  · rw [k'.2.2.2, e1, gi_eq]
theorem s_run14 (hW : WhP P) (hT : ∀ j f2, tb j = some f2 → f2 < P.length) {c : Nat} (hc : c ≤ 2000) : ∀ (t d : Nat) (s : RS) (h : Hp), t = c - d → d ≤ c → MS h m → MP h m P → TBm m h tb → OKS P s → RXs P m h s → (∀ h', RW m h h' → ai h' (m + 17) = ai h (m + 17) → al h' (m + 20) = al h (m + 20) → gi h' 667 m = gi h 667 m → gi h' 670 m = gi h 670 m + nI ((rnS P tb t d s).1 - d) → d ≤ (rnS P tb t d s).1 → OKS P (rnS P tb t d s).2 → RXs P m h' (rnS P tb t d s).2 → Q (some (tI (nI (rnS P tb t d s).1))) h') → tX11_run_14 m (nI c) (nI d) h Q := by
  intro t
  induction t with
  | zero =>
    intro d s h ht hd hm hP hTB hO H K
    have e : d = c := by omega
    subst e
    refine wX11_run_14 m _ _ h Q ?_
    rw [if_neg (nI_nlt (Nat.le_refl _) (by omega))]
    exact K h (RW.rf _ _) rfl rfl rfl (by show gi h 670 m = gi h 670 m + nI (d - d); rw [Nat.sub_self]; show _ = _ + 0; simp) (Nat.le_refl _) hO H
  | succ t ih =>
    intro d s h ht hd hm hP hTB hO H K
    refine wX11_run_14 m _ _ h Q ?_
    rw [if_pos (nI_lt (by omega) (by omega))]
    refine ⟨hm.1, ?_⟩
    have hst : gi h 668 m = s.1 := H.1
    rw [hst]
    by_cases h1 : s.1 = 1
    · rw [if_pos h1]
      have er : rnS P tb (t + 1) d s = rnS P tb t (d + 1) (stS P tb s) := by
        show (if s.1 = 1 then _ else _) = _
        rw [if_pos h1]
      rw [er] at K
      refine ⟨hm.1, s_step hm hP hW hT hTB hO h1 H (fun h' w1 w2 w3 w4 w5 X => rV_of ?_)⟩
      rw [← nI_succ]
      refine ih (d + 1) (stS P tb s) h' (by omega) (by omega) (w1.ms hm) (w1.mp hP) (fun j hj => by rw [w2]; exact hTB j hj) (stS_ok hW hT hO h1) X ?_
      intro h2 u1 u2 u3 u4 u5 u6 u7 u8
      refine K h2 (w1.tr u1) (u2.trans w2) (u3.trans w3) (u4.trans w4) ?_ (by omega) u7 u8
      rw [u5, w5, show (gi h 670 m + 1 : Int32) = gi h 670 m + nI 1 from rfl, Int32.add_assoc, nJ_add]
      congr 2
      omega
    · rw [if_neg h1]
      have er : rnS P tb (t + 1) d s = (d, s) := by
        show (if s.1 = 1 then _ else _) = _
        rw [if_neg h1]
      rw [er] at K
      exact K h (RW.rf _ _) rfl rfl rfl (by show gi h 670 m = gi h 670 m + nI (d - d); rw [Nat.sub_self]; show _ = _ + 0; simp) (Nat.le_refl _) hO H
/-- the values of a call -/
theorem s_call55 (hm : MS h0 m) {ac : Nat} (hac : ac ≤ 8) {x : Int32} {ar : VV} (ha : ∀ j, j < ac → al h0 (m + 20) j = ar j) (h67 : gi h0 667 m = nI ac) : ∀ (t i : Nat) (h : Hp), t = ac - i → i ≤ ac → RLv P m h0 h [] (i, ag v ar i, p, bb, g) A → (∀ h', RLv P m h0 h' [] (ac, ag v ar ac, p, bb, g) A → ob h' m 10 (∀ h_1, h_1 = pi h' 667 m 0 → ob h_1 m 10 (∀ h_2, h_2 = pi h_1 674 m 0 → ob h_2 m 10 (tX11_enter m x h_2 (rV (fun h_3 => ob h_3 m 10 (tX11_pass m h_3 (rV (fun h_5 => Q (some (tI 1)) h_5))))))))) → tX11_call_55 m x (nI i) h Q := by
  intro t
  induction t with
  | zero =>
    intro i h ht hi H K
    have e : i = ac := by omega
    subst e
    have hm1 := H.ms hm
    refine wX11_call_55 m _ _ h Q ⟨hm1.1, ?_⟩
    rw [H.2.1.2.2.1, h67, if_neg (nI_nlt (Nat.le_refl _) (by omega))]
    exact K h H
  | succ t ih =>
    intro i h ht hi H K
    have hm1 := H.ms hm
    refine wX11_call_55 m _ _ h Q ⟨hm1.1, ?_⟩
    rw [H.2.1.2.2.1, h67, if_pos (nI_lt (by omega) (by omega))]
    refine ⟨hm1.1, L_argument hm1 hm1 (by omega) ⟨hm1.1, ?_⟩⟩
    rw [nck (by omega), H.2.1.2.1, ha i (by omega), ← nI_succ]
    exact s_push hm H (by omega) (fun h4 H4 => rV_of (ih (i + 1) h4 (by omega) (by omega) H4 K))
end FF
