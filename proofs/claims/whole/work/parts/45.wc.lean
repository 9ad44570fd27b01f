/-! what must hold at the head of each method, and of each join in it: printed by a program out of the instructions -/
set_option maxHeartbeats 4000000 in
set_option maxRecDepth 20000 in
theorem wX8_init (a0 : Nat) (h : Hp) (Q : Option TV → Hp → Prop) (w :
∀ h_1 a_2, h_1 = nw h (.inr (12, 40)) 40 → a_2 = sz h →
ob h_1 a0 7 (∀ h_3, h_3 = pr h_1 448 a0 (some a_2) →
Q none h_3)) : tX8_init a0 h Q := by
  refine T_run (n := 1) (pc' := 1) (lv' := [some (tR (some a0))]) (st' := [tR (some a0)]) (h' := h) gX8_init rfl ?_
  refine T_oi gX8_init rfl (Nat.le_of_ble_eq_true rfl) ?_
  refine T_run (n := 1) (pc' := 5) (lv' := [some (tR (some a0))]) (st' := [tR (some a0)]) (h' := h) gX8_init rfl ?_
  refine T_kb (v := 40) gX8_init rfl (by decide) ?_
  refine T_nr (N := 40) gX8_init rfl (by decide) (by decide) (by decide) (fun h_1 a_2 he hz => ?_)
  replace w := w h_1 a_2 he hz
  obtain ⟨ho, w⟩ := w
  refine T_ps (pr h_1 448 a0 (some a_2)) gX8_init rfl rfl ⟨ho, fun h_3 he => ?_⟩
  replace w := w h_3 he
  exact T_rv gX8_init rfl rfl w
set_option maxHeartbeats 4000000 in
set_option maxRecDepth 20000 in
theorem wX6_init (a0 : Nat) (h : Hp) (Q : Option TV → Hp → Prop) (w :
∀ h_1 a_2, h_1 = nw h (.inr (2, 384)) 384 → a_2 = sz h →
ob h_1 a0 6 (∀ h_3, h_3 = pr h_1 384 a0 (some a_2) →
ob h_3 a0 6 (∀ h_4, h_4 = pi h_3 385 a0 1 →
Q none h_4))) : tX6_init a0 h Q := by
  refine T_run (n := 1) (pc' := 1) (lv' := [some (tR (some a0))]) (st' := [tR (some a0)]) (h' := h) gX6_init rfl ?_
  refine T_oi gX6_init rfl (Nat.le_of_ble_eq_true rfl) ?_
  refine T_run (n := 1) (pc' := 5) (lv' := [some (tR (some a0))]) (st' := [tR (some a0)]) (h' := h) gX6_init rfl ?_
  refine T_ks (v := 384) gX6_init rfl (by decide) ?_
  refine T_na (t := 2) (N := 384) gX6_init rfl rfl (by decide) (by decide) (by decide) (fun h_1 a_2 he hz => ?_)
  replace w := w h_1 a_2 he hz
  obtain ⟨ho, w⟩ := w
  refine T_ps (pr h_1 384 a0 (some a_2)) gX6_init rfl rfl ⟨ho, fun h_3 he => ?_⟩
  replace w := w h_3 he
  refine T_run (n := 1) (pc' := 14) (lv' := [some (tR (some a0))]) (st' := [tR (some a0)]) (h' := h_3) gX6_init rfl ?_
  refine T_kn (v := 1) gX6_init rfl (by decide) ?_
  obtain ⟨ho, w⟩ := w
  refine T_ps (pi h_3 385 a0 1) gX6_init rfl rfl ⟨ho, fun h_4 he => ?_⟩
  replace w := w h_4 he
  exact T_rv gX6_init rfl rfl w
set_option maxHeartbeats 4000000 in
set_option maxRecDepth 20000 in
theorem wX9_init (a0 : Nat) (h : Hp) (Q : Option TV → Hp → Prop) (w :
∀ h_1 a_2, h_1 = nw h (.inr (1, 220)) 220 → a_2 = sz h →
ob h_1 a0 8 (∀ h_3, h_3 = pr h_1 512 a0 (some a_2) →
Q none h_3)) : tX9_init a0 h Q := by
  refine T_run (n := 1) (pc' := 1) (lv' := [some (tR (some a0))]) (st' := [tR (some a0)]) (h' := h) gX9_init rfl ?_
  refine T_oi gX9_init rfl (Nat.le_of_ble_eq_true rfl) ?_
  refine T_run (n := 1) (pc' := 5) (lv' := [some (tR (some a0))]) (st' := [tR (some a0)]) (h' := h) gX9_init rfl ?_
  refine T_ks (v := 220) gX9_init rfl (by decide) ?_
  refine T_na (t := 1) (N := 220) gX9_init rfl rfl (by decide) (by decide) (by decide) (fun h_1 a_2 he hz => ?_)
  replace w := w h_1 a_2 he hz
  obtain ⟨ho, w⟩ := w
  refine T_ps (pr h_1 512 a0 (some a_2)) gX9_init rfl rfl ⟨ho, fun h_3 he => ?_⟩
  replace w := w h_3 he
  exact T_rv gX9_init rfl rfl w
set_option maxHeartbeats 4000000 in
set_option maxRecDepth 20000 in
theorem wX1_init (a0 : Nat) (h : Hp) (Q : Option TV → Hp → Prop) (w :
Q none h) : tX1_init a0 h Q := by
  refine T_run (n := 1) (pc' := 1) (lv' := [some (tR (some a0))]) (st' := [tR (some a0)]) (h' := h) gX1_init rfl ?_
  refine T_oi gX1_init rfl (Nat.le_of_ble_eq_true rfl) ?_
  exact T_rv gX1_init rfl rfl w
set_option maxHeartbeats 4000000 in
set_option maxRecDepth 20000 in
theorem wX5_init (a0 : Nat) (h : Hp) (Q : Option TV → Hp → Prop) (w :
∀ h_1 a_2, h_1 = nw h (.inr (12, 30)) 30 → a_2 = sz h →
ob h_1 a0 5 (∀ h_3, h_3 = pr h_1 320 a0 (some a_2) →
∀ h_4 a_5, h_4 = nw h_3 (.inr (1, 8)) 8 → a_5 = sz h_3 →
ob h_4 a0 5 (∀ h_6, h_6 = pr h_4 321 a0 (some a_5) →
∀ h_7 a_8, h_7 = nw h_6 (.inr (11, 30)) 30 → a_8 = sz h_6 →
ob h_7 a0 5 (∀ h_9, h_9 = pr h_7 322 a0 (some a_8) →
∀ h_10 a_11, h_10 = nw h_9 (.inl 6) 2 → a_11 = sz h_9 →
tX6_init a_11  h_10 (rV (fun h_12 =>
ob h_12 a0 5 (∀ h_14, h_14 = pr h_12 323 a0 (some a_11) →
∀ h_15 a_16, h_15 = nw h_14 (.inl 8) 2 → a_16 = sz h_14 →
tX9_init a_16  h_15 (rV (fun h_17 =>
ob h_17 a0 5 (∀ h_19, h_19 = pr h_17 324 a0 (some a_16) →
ob h_19 a0 5 (∀ h_20, h_20 = pi h_19 327 a0 0 →
tX5_init_59 a0 0 h_20 Q))))))))))) : tX5_init a0 h Q := by
  refine T_run (n := 1) (pc' := 1) (lv' := [some (tR (some a0)), none]) (st' := [tR (some a0)]) (h' := h) gX5_init rfl ?_
  refine T_oi gX5_init rfl (Nat.le_of_ble_eq_true rfl) ?_
  refine T_run (n := 1) (pc' := 5) (lv' := [some (tR (some a0)), none]) (st' := [tR (some a0)]) (h' := h) gX5_init rfl ?_
  refine T_kb (v := 30) gX5_init rfl (by decide) ?_
  refine T_nr (N := 30) gX5_init rfl (by decide) (by decide) (by decide) (fun h_1 a_2 he hz => ?_)
  replace w := w h_1 a_2 he hz
  obtain ⟨ho, w⟩ := w
  refine T_ps (pr h_1 320 a0 (some a_2)) gX5_init rfl rfl ⟨ho, fun h_3 he => ?_⟩
  replace w := w h_3 he
  refine T_run (n := 1) (pc' := 14) (lv' := [some (tR (some a0)), none]) (st' := [tR (some a0)]) (h' := h_3) gX5_init rfl ?_
  refine T_kb (v := 8) gX5_init rfl (by decide) ?_
  refine T_na (t := 1) (N := 8) gX5_init rfl rfl (by decide) (by decide) (by decide) (fun h_4 a_5 he hz => ?_)
  replace w := w h_4 a_5 he hz
  obtain ⟨ho, w⟩ := w
  refine T_ps (pr h_4 321 a0 (some a_5)) gX5_init rfl rfl ⟨ho, fun h_6 he => ?_⟩
  replace w := w h_6 he
  refine T_run (n := 1) (pc' := 22) (lv' := [some (tR (some a0)), none]) (st' := [tR (some a0)]) (h' := h_6) gX5_init rfl ?_
  refine T_kb (v := 30) gX5_init rfl (by decide) ?_
  refine T_nr (N := 30) gX5_init rfl (by decide) (by decide) (by decide) (fun h_7 a_8 he hz => ?_)
  replace w := w h_7 a_8 he hz
  obtain ⟨ho, w⟩ := w
  refine T_ps (pr h_7 322 a0 (some a_8)) gX5_init rfl rfl ⟨ho, fun h_9 he => ?_⟩
  replace w := w h_9 he
  refine T_run (n := 1) (pc' := 31) (lv' := [some (tR (some a0)), none]) (st' := [tR (some a0)]) (h' := h_9) gX5_init rfl ?_
  refine T_new gX5_init rfl (fun h_10 a_11 he hz => ?_)
  replace w := w h_10 a_11 he hz
  refine T_run (n := 1) (pc' := 35) (lv' := [some (tR (some a0)), none]) (st' := [tR (some a_11), tR (some a_11), tR (some a0)]) (h' := h_10) gX5_init rfl ?_
  refine T_ci (lv' := [some (tR (some a_11))]) gX5_init rfl rfl rfl rfl (Nat.le_of_ble_eq_true rfl) gX6_init (Nat.le_of_ble_eq_true rfl) rfl (T_kv ?_)
  refine T.mono w (fun rr h_12 hw => ?_)
  obtain ⟨hr, w⟩ := hw
  refine ⟨hr, ?_⟩
  obtain ⟨ho, w⟩ := w
  refine T_ps (pr h_12 323 a0 (some a_11)) gX5_init rfl rfl ⟨ho, fun h_14 he => ?_⟩
  replace w := w h_14 he
  refine T_run (n := 1) (pc' := 42) (lv' := [some (tR (some a0)), none]) (st' := [tR (some a0)]) (h' := h_14) gX5_init rfl ?_
  refine T_new gX5_init rfl (fun h_15 a_16 he hz => ?_)
  replace w := w h_15 a_16 he hz
  refine T_run (n := 1) (pc' := 46) (lv' := [some (tR (some a0)), none]) (st' := [tR (some a_16), tR (some a_16), tR (some a0)]) (h' := h_15) gX5_init rfl ?_
  refine T_ci (lv' := [some (tR (some a_16))]) gX5_init rfl rfl rfl rfl (Nat.le_of_ble_eq_true rfl) gX9_init (Nat.le_of_ble_eq_true rfl) rfl (T_kv ?_)
  refine T.mono w (fun rr h_17 hw => ?_)
  obtain ⟨hr, w⟩ := hw
  refine ⟨hr, ?_⟩
  obtain ⟨ho, w⟩ := w
  refine T_ps (pr h_17 324 a0 (some a_16)) gX5_init rfl rfl ⟨ho, fun h_19 he => ?_⟩
  replace w := w h_19 he
  refine T_run (n := 1) (pc' := 53) (lv' := [some (tR (some a0)), none]) (st' := [tR (some a0)]) (h' := h_19) gX5_init rfl ?_
  refine T_kn (v := 0) gX5_init rfl (by decide) ?_
  obtain ⟨ho, w⟩ := w
  refine T_ps (pi h_19 327 a0 0) gX5_init rfl rfl ⟨ho, fun h_20 he => ?_⟩
  replace w := w h_20 he
  refine T_kn (v := 0) gX5_init rfl (by decide) ?_
  refine T_run (n := 1) (pc' := 59) (lv' := [some (tR (some a0)), some (tI 0)]) (st' := []) (h' := h_20) gX5_init rfl ?_
  exact w
set_option maxHeartbeats 4000000 in
set_option maxRecDepth 20000 in
theorem wX5_init_59 (a0 : Nat) (x1 : Int32) (h : Hp) (Q : Option TV → Hp → Prop) (w :
ob h a0 5 (
dr (gr h 322 a0) (fun a_1 => al_ h a_1 (fun n_2 =>
(if x1 < (Int32.ofNat n_2) then
ob h a0 5 (
∀ h_3 a_4, h_3 = nw h (.inl 1) 3 → a_4 = sz h →
tX1_init a_4  h_3 (rV (fun h_5 =>
dr (gr h 322 a0) (fun a_7 => ixa h_5 a_7 x1 (some a_4) (∀ h_8, h_8 = sq h_5 a_7 x1.toNatClampNeg (some a_4) →
tX5_init_59 a0 (x1 + 1) h_8 Q)))))
else
Q none h))))) : tX5_init_59 a0 x1 h Q := by
  refine T_run (n := 2) (pc' := 61) (lv' := [some (tR (some a0)), some (tI x1)]) (st' := [tR (some a0), tI x1]) (h' := h) gX5_init rfl ?_
  obtain ⟨ho, w⟩ := w
  refine T_gs (tR (gr h 322 a0)) gX5_init rfl rfl ⟨ho, ?_⟩
  obtain ⟨a_1, hr, tt, n_2, ht, w⟩ := w
  refine T_len gX5_init rfl ⟨a_1, hr, tt, n_2, ht, ?_⟩
  replace w := c_ge w
  refine T_ic (tgt := 87) gX5_init rfl (by decide) (fun hc => ?_) (fun hc => ?_)
  · replace w := w.1 hc
    exact T_rv gX5_init rfl rfl w
  · replace w := w.2 hc
    refine T_run (n := 1) (pc' := 69) (lv' := [some (tR (some a0)), some (tI x1)]) (st' := [tR (some a0)]) (h' := h) gX5_init rfl ?_
    obtain ⟨ho, w⟩ := w
    refine T_gs (tR (gr h 322 a0)) gX5_init rfl rfl ⟨ho, ?_⟩
    refine T_run (n := 1) (pc' := 73) (lv' := [some (tR (some a0)), some (tI x1)]) (st' := [tI x1, tR (gr h 322 a0)]) (h' := h) gX5_init rfl ?_
    refine T_new gX5_init rfl (fun h_3 a_4 he hz => ?_)
    replace w := w h_3 a_4 he hz
    refine T_run (n := 1) (pc' := 77) (lv' := [some (tR (some a0)), some (tI x1)]) (st' := [tR (some a_4), tR (some a_4), tI x1, tR (gr h 322 a0)]) (h' := h_3) gX5_init rfl ?_
    refine T_ci (lv' := [some (tR (some a_4))]) gX5_init rfl rfl rfl rfl (Nat.le_of_ble_eq_true rfl) gX1_init (Nat.le_of_ble_eq_true rfl) rfl (T_kv ?_)
    refine T.mono w (fun rr h_5 hw => ?_)
    obtain ⟨hr, w⟩ := hw
    refine ⟨hr, ?_⟩
    obtain ⟨a_7, hr, tt, nn, ht, hk, hj, hv, w⟩ := w
    refine T_aas gX5_init rfl ⟨a_7, hr, tt, nn, ht, hk, hj, hv, fun h_8 he => ?_⟩
    replace w := w h_8 he
    refine T_inc (x := x1) (c := 1) (lv' := [some (tR (some a0)), some (tI (x1 + 1))]) gX5_init rfl rfl (by decide) rfl ?_
    refine T_goto (tgt := 59) gX5_init rfl (by decide) ?_
    exact w
set_option maxHeartbeats 4000000 in
set_option maxRecDepth 20000 in
theorem wX10_init (a0 : Nat) (h : Hp) (Q : Option TV → Hp → Prop) (w :
∀ h_1 a_2, h_1 = nw h (.inl 7) 3 → a_2 = sz h →
tX8_init a_2  h_1 (rV (fun h_3 =>
ob h_3 a0 9 (∀ h_5, h_5 = pr h_3 576 a0 (some a_2) →
∀ h_6 a_7, h_6 = nw h_5 (.inl 5) 10 → a_7 = sz h_5 →
tX5_init a_7  h_6 (rV (fun h_8 =>
ob h_8 a0 9 (∀ h_10, h_10 = pr h_8 577 a0 (some a_7) →
∀ h_11 a_12, h_11 = nw h_10 (.inr (1, 8)) 8 → a_12 = sz h_10 →
ob h_11 a0 9 (∀ h_13, h_13 = pr h_11 578 a0 (some a_12) →
Q none h_13)))))))) : tX10_init a0 h Q := by
  refine T_run (n := 1) (pc' := 1) (lv' := [some (tR (some a0))]) (st' := [tR (some a0)]) (h' := h) gX10_init rfl ?_
  refine T_oi gX10_init rfl (Nat.le_of_ble_eq_true rfl) ?_
  refine T_run (n := 1) (pc' := 5) (lv' := [some (tR (some a0))]) (st' := [tR (some a0)]) (h' := h) gX10_init rfl ?_
  refine T_new gX10_init rfl (fun h_1 a_2 he hz => ?_)
  replace w := w h_1 a_2 he hz
  refine T_run (n := 1) (pc' := 9) (lv' := [some (tR (some a0))]) (st' := [tR (some a_2), tR (some a_2), tR (some a0)]) (h' := h_1) gX10_init rfl ?_
  refine T_ci (lv' := [some (tR (some a_2))]) gX10_init rfl rfl rfl rfl (Nat.le_of_ble_eq_true rfl) gX8_init (Nat.le_of_ble_eq_true rfl) rfl (T_kv ?_)
  refine T.mono w (fun rr h_3 hw => ?_)
  obtain ⟨hr, w⟩ := hw
  refine ⟨hr, ?_⟩
  obtain ⟨ho, w⟩ := w
  refine T_ps (pr h_3 576 a0 (some a_2)) gX10_init rfl rfl ⟨ho, fun h_5 he => ?_⟩
  replace w := w h_5 he
  refine T_run (n := 1) (pc' := 16) (lv' := [some (tR (some a0))]) (st' := [tR (some a0)]) (h' := h_5) gX10_init rfl ?_
  refine T_new gX10_init rfl (fun h_6 a_7 he hz => ?_)
  replace w := w h_6 a_7 he hz
  refine T_run (n := 1) (pc' := 20) (lv' := [some (tR (some a0))]) (st' := [tR (some a_7), tR (some a_7), tR (some a0)]) (h' := h_6) gX10_init rfl ?_
  refine T_ci (lv' := [some (tR (some a_7)), none]) gX10_init rfl rfl rfl rfl (Nat.le_of_ble_eq_true rfl) gX5_init (Nat.le_of_ble_eq_true rfl) rfl (T_kv ?_)
  refine T.mono w (fun rr h_8 hw => ?_)
  obtain ⟨hr, w⟩ := hw
  refine ⟨hr, ?_⟩
  obtain ⟨ho, w⟩ := w
  refine T_ps (pr h_8 577 a0 (some a_7)) gX10_init rfl rfl ⟨ho, fun h_10 he => ?_⟩
  replace w := w h_10 he
  refine T_run (n := 1) (pc' := 27) (lv' := [some (tR (some a0))]) (st' := [tR (some a0)]) (h' := h_10) gX10_init rfl ?_
  refine T_kb (v := 8) gX10_init rfl (by decide) ?_
  refine T_na (t := 1) (N := 8) gX10_init rfl rfl (by decide) (by decide) (by decide) (fun h_11 a_12 he hz => ?_)
  replace w := w h_11 a_12 he hz
  obtain ⟨ho, w⟩ := w
  refine T_ps (pr h_11 578 a0 (some a_12)) gX10_init rfl rfl ⟨ho, fun h_13 he => ?_⟩
  replace w := w h_13 he
  exact T_rv gX10_init rfl rfl w
set_option maxHeartbeats 4000000 in
set_option maxRecDepth 20000 in
theorem wX10_isWithin (x0 : Int32) (x1 : Int32) (h : Hp) (Q : Option TV → Hp → Prop) (w :
(if x0 < 0 then
Q (some (tI 0)) h
else
(if x1 < x0 then
Q (some (tI 0)) h
else
Q (some (tI 1)) h))) : tX10_isWithin x0 x1 h Q := by
  refine T_run (n := 1) (pc' := 1) (lv' := [some (tI x0), some (tI x1)]) (st' := [tI x0]) (h' := h) gX10_isWithin rfl ?_
  replace w := c_lt w
  refine T_if (tgt := 13) gX10_isWithin rfl (by decide) (fun hc => ?_) (fun hc => ?_)
  · replace w := w.1 hc
    refine T_kn (v := 0) gX10_isWithin rfl (by decide) ?_
    exact T_rz gX10_isWithin rfl rfl (Or.inl rfl) w
  · replace w := w.2 hc
    refine T_run (n := 2) (pc' := 6) (lv' := [some (tI x0), some (tI x1)]) (st' := [tI x1, tI x0]) (h' := h) gX10_isWithin rfl ?_
    replace w := c_gt w
    refine T_ic (tgt := 13) gX10_isWithin rfl (by decide) (fun hc => ?_) (fun hc => ?_)
    · replace w := w.1 hc
      refine T_kn (v := 0) gX10_isWithin rfl (by decide) ?_
      exact T_rz gX10_isWithin rfl rfl (Or.inl rfl) w
    · replace w := w.2 hc
      refine T_kn (v := 1) gX10_isWithin rfl (by decide) ?_
      refine T_goto (tgt := 14) gX10_isWithin rfl (by decide) ?_
      exact T_rz gX10_isWithin rfl rfl (Or.inr rfl) w
set_option maxHeartbeats 4000000 in
set_option maxRecDepth 20000 in
theorem wX2_init (a0 : Nat) (x1 : Int32) (x2 : Int32) (x3 : Int32) (h : Hp) (Q : Option TV → Hp → Prop) (w :
ob h a0 2 (∀ h_1, h_1 = pi h 128 a0 x1 →
ob h_1 a0 2 (∀ h_2, h_2 = pi h_1 129 a0 x2 →
ob h_2 a0 2 (∀ h_3, h_3 = pi h_2 130 a0 x3 →
ob h_3 a0 2 (∀ h_4, h_4 = pi h_3 131 a0 (x1 + x3) →
Q none h_4))))) : tX2_init a0 x1 x2 x3 h Q := by
  refine T_run (n := 1) (pc' := 1) (lv' := [some (tR (some a0)), some (tI x1), some (tI x2), some (tI x3)]) (st' := [tR (some a0)]) (h' := h) gX2_init rfl ?_
  refine T_oi gX2_init rfl (Nat.le_of_ble_eq_true rfl) ?_
  refine T_run (n := 2) (pc' := 6) (lv' := [some (tR (some a0)), some (tI x1), some (tI x2), some (tI x3)]) (st' := [tI x1, tR (some a0)]) (h' := h) gX2_init rfl ?_
  obtain ⟨ho, w⟩ := w
  refine T_ps (pi h 128 a0 x1) gX2_init rfl rfl ⟨ho, fun h_1 he => ?_⟩
  replace w := w h_1 he
  refine T_run (n := 2) (pc' := 11) (lv' := [some (tR (some a0)), some (tI x1), some (tI x2), some (tI x3)]) (st' := [tI x2, tR (some a0)]) (h' := h_1) gX2_init rfl ?_
  obtain ⟨ho, w⟩ := w
  refine T_ps (pi h_1 129 a0 x2) gX2_init rfl rfl ⟨ho, fun h_2 he => ?_⟩
  replace w := w h_2 he
  refine T_run (n := 2) (pc' := 16) (lv' := [some (tR (some a0)), some (tI x1), some (tI x2), some (tI x3)]) (st' := [tI x3, tR (some a0)]) (h' := h_2) gX2_init rfl ?_
  obtain ⟨ho, w⟩ := w
  refine T_ps (pi h_2 130 a0 x3) gX2_init rfl rfl ⟨ho, fun h_3 he => ?_⟩
  replace w := w h_3 he
  refine T_run (n := 4) (pc' := 23) (lv' := [some (tR (some a0)), some (tI x1), some (tI x2), some (tI x3)]) (st' := [tI (x1 + x3), tR (some a0)]) (h' := h_3) gX2_init rfl ?_
  obtain ⟨ho, w⟩ := w
  refine T_ps (pi h_3 131 a0 (x1 + x3)) gX2_init rfl rfl ⟨ho, fun h_4 he => ?_⟩
  replace w := w h_4 he
  exact T_rv gX2_init rfl rfl w
set_option maxHeartbeats 4000000 in
set_option maxRecDepth 20000 in
theorem wX8_append (a0 : Nat) (r1 : Option Nat) (h : Hp) (Q : Option TV → Hp → Prop) (w :
ob h a0 7 (
ob h a0 7 (
dr (gr h 448 a0) (fun a_1 => al_ h a_1 (fun n_2 =>
(if (gi h 449 a0) < (Int32.ofNat n_2) then
ob h a0 7 (
ob h a0 7 (
dr (gr h 448 a0) (fun a_3 => ixa h a_3 (gi h 449 a0) r1 (∀ h_4, h_4 = sq h a_3 (gi h 449 a0).toNatClampNeg r1 →
ob h_4 a0 7 (
ob h_4 a0 7 (∀ h_5, h_5 = pi h_4 449 a0 ((gi h_4 449 a0) + 1) →
Q (some (tI 1)) h_5))))))
else
Q (some (tI 0)) h)))))) : tX8_append a0 r1 h Q := by
  refine T_run (n := 1) (pc' := 1) (lv' := [some (tR (some a0)), some (tR r1)]) (st' := [tR (some a0)]) (h' := h) gX8_append rfl ?_
  obtain ⟨ho, w⟩ := w
  refine T_gs (tI (gi h 449 a0)) gX8_append rfl rfl ⟨ho, ?_⟩
  refine T_run (n := 1) (pc' := 5) (lv' := [some (tR (some a0)), some (tR r1)]) (st' := [tR (some a0), tI (gi h 449 a0)]) (h' := h) gX8_append rfl ?_
  obtain ⟨ho, w⟩ := w
  refine T_gs (tR (gr h 448 a0)) gX8_append rfl rfl ⟨ho, ?_⟩
  obtain ⟨a_1, hr, tt, n_2, ht, w⟩ := w
  refine T_len gX8_append rfl ⟨a_1, hr, tt, n_2, ht, ?_⟩
  replace w := c_lt w
  refine T_ic (tgt := 14) gX8_append rfl (by decide) (fun hc => ?_) (fun hc => ?_)
  · replace w := w.1 hc
    refine T_run (n := 1) (pc' := 15) (lv' := [some (tR (some a0)), some (tR r1)]) (st' := [tR (some a0)]) (h' := h) gX8_append rfl ?_
    obtain ⟨ho, w⟩ := w
    refine T_gs (tR (gr h 448 a0)) gX8_append rfl rfl ⟨ho, ?_⟩
    refine T_run (n := 1) (pc' := 19) (lv' := [some (tR (some a0)), some (tR r1)]) (st' := [tR (some a0), tR (gr h 448 a0)]) (h' := h) gX8_append rfl ?_
    obtain ⟨ho, w⟩ := w
    refine T_gs (tI (gi h 449 a0)) gX8_append rfl rfl ⟨ho, ?_⟩
    refine T_run (n := 1) (pc' := 23) (lv' := [some (tR (some a0)), some (tR r1)]) (st' := [tR r1, tI (gi h 449 a0), tR (gr h 448 a0)]) (h' := h) gX8_append rfl ?_
    obtain ⟨a_3, hr, tt, nn, ht, hk, hj, hv, w⟩ := w
    refine T_aas gX8_append rfl ⟨a_3, hr, tt, nn, ht, hk, hj, hv, fun h_4 he => ?_⟩
    replace w := w h_4 he
    refine T_run (n := 2) (pc' := 26) (lv' := [some (tR (some a0)), some (tR r1)]) (st' := [tR (some a0), tR (some a0)]) (h' := h_4) gX8_append rfl ?_
    obtain ⟨ho, w⟩ := w
    refine T_gs (tI (gi h_4 449 a0)) gX8_append rfl rfl ⟨ho, ?_⟩
    refine T_kn (v := 1) gX8_append rfl (by decide) ?_
    refine T_run (n := 1) (pc' := 31) (lv' := [some (tR (some a0)), some (tR r1)]) (st' := [tI ((gi h_4 449 a0) + 1), tR (some a0)]) (h' := h_4) gX8_append rfl ?_
    obtain ⟨ho, w⟩ := w
    refine T_ps (pi h_4 449 a0 ((gi h_4 449 a0) + 1)) gX8_append rfl rfl ⟨ho, fun h_5 he => ?_⟩
    replace w := w h_5 he
    refine T_kn (v := 1) gX8_append rfl (by decide) ?_
    exact T_rz gX8_append rfl rfl (Or.inr rfl) w
  · replace w := w.2 hc
    refine T_kn (v := 0) gX8_append rfl (by decide) ?_
    exact T_rz gX8_append rfl rfl (Or.inl rfl) w
set_option maxHeartbeats 4000000 in
set_option maxRecDepth 20000 in
theorem wX4_init (a0 : Nat) (x1 : Int32) (x2 : Int32) (x3 : Int32) (x4 : Int32) (r5 : Option Nat) (h : Hp) (Q : Option TV → Hp → Prop) (w :
ob h a0 4 (∀ h_1, h_1 = pi h 256 a0 x1 →
ob h_1 a0 4 (∀ h_2, h_2 = pi h_1 257 a0 x2 →
ob h_2 a0 4 (∀ h_3, h_3 = pi h_2 258 a0 x3 →
ob h_3 a0 4 (∀ h_4, h_4 = pi h_3 259 a0 x4 →
ob h_4 a0 4 (∀ h_5, h_5 = pr h_4 260 a0 r5 →
Q none h_5)))))) : tX4_init a0 x1 x2 x3 x4 r5 h Q := by
  refine T_run (n := 1) (pc' := 1) (lv' := [some (tR (some a0)), some (tI x1), some (tI x2), some (tI x3), some (tI x4), some (tR r5)]) (st' := [tR (some a0)]) (h' := h) gX4_init rfl ?_
  refine T_oi gX4_init rfl (Nat.le_of_ble_eq_true rfl) ?_
  refine T_run (n := 2) (pc' := 6) (lv' := [some (tR (some a0)), some (tI x1), some (tI x2), some (tI x3), some (tI x4), some (tR r5)]) (st' := [tI x1, tR (some a0)]) (h' := h) gX4_init rfl ?_
  obtain ⟨ho, w⟩ := w
  refine T_ps (pi h 256 a0 x1) gX4_init rfl rfl ⟨ho, fun h_1 he => ?_⟩
  replace w := w h_1 he
  refine T_run (n := 2) (pc' := 11) (lv' := [some (tR (some a0)), some (tI x1), some (tI x2), some (tI x3), some (tI x4), some (tR r5)]) (st' := [tI x2, tR (some a0)]) (h' := h_1) gX4_init rfl ?_
  obtain ⟨ho, w⟩ := w
  refine T_ps (pi h_1 257 a0 x2) gX4_init rfl rfl ⟨ho, fun h_2 he => ?_⟩
  replace w := w h_2 he
  refine T_run (n := 2) (pc' := 16) (lv' := [some (tR (some a0)), some (tI x1), some (tI x2), some (tI x3), some (tI x4), some (tR r5)]) (st' := [tI x3, tR (some a0)]) (h' := h_2) gX4_init rfl ?_
  obtain ⟨ho, w⟩ := w
  refine T_ps (pi h_2 258 a0 x3) gX4_init rfl rfl ⟨ho, fun h_3 he => ?_⟩
  replace w := w h_3 he
  refine T_run (n := 2) (pc' := 22) (lv' := [some (tR (some a0)), some (tI x1), some (tI x2), some (tI x3), some (tI x4), some (tR r5)]) (st' := [tI x4, tR (some a0)]) (h' := h_3) gX4_init rfl ?_
  obtain ⟨ho, w⟩ := w
  refine T_ps (pi h_3 259 a0 x4) gX4_init rfl rfl ⟨ho, fun h_4 he => ?_⟩
  replace w := w h_4 he
  refine T_run (n := 2) (pc' := 28) (lv' := [some (tR (some a0)), some (tI x1), some (tI x2), some (tI x3), some (tI x4), some (tR r5)]) (st' := [tR r5, tR (some a0)]) (h' := h_4) gX4_init rfl ?_
  obtain ⟨ho, w⟩ := w
  refine T_ps (pr h_4 260 a0 r5) gX4_init rfl rfl ⟨ho, fun h_5 he => ?_⟩
  replace w := w h_5 he
  exact T_rv gX4_init rfl rfl w
set_option maxHeartbeats 4000000 in
set_option maxRecDepth 20000 in
theorem wX0_init (a0 : Nat) (r1 : Option Nat) (r2 : Option Nat) (h : Hp) (Q : Option TV → Hp → Prop) (w :
ob h a0 0 (∀ h_1, h_1 = pr h 0 a0 r1 →
ob h_1 a0 0 (∀ h_2, h_2 = pr h_1 1 a0 r2 →
∀ h_3 a_4, h_3 = nw h_2 (.inl 4) 9 → a_4 = sz h_2 →
dr r2 (fun a_5 => ob h_3 a_5 2 (
tX4_init a_4 2 0 (gi h_3 129 a_5) 0 none h_3 (rV (fun h_6 =>
ob h_6 a0 0 (∀ h_8, h_8 = pr h_6 3 a0 (some a_4) →
ob h_8 a0 0 (∀ h_9, h_9 = pi h_8 8 a0 1 →
Q none h_9))))))))) : tX0_init a0 r1 r2 h Q := by
  refine T_run (n := 1) (pc' := 1) (lv' := [some (tR (some a0)), some (tR r1), some (tR r2)]) (st' := [tR (some a0)]) (h' := h) gX0_init rfl ?_
  refine T_oi gX0_init rfl (Nat.le_of_ble_eq_true rfl) ?_
  refine T_run (n := 2) (pc' := 6) (lv' := [some (tR (some a0)), some (tR r1), some (tR r2)]) (st' := [tR r1, tR (some a0)]) (h' := h) gX0_init rfl ?_
  obtain ⟨ho, w⟩ := w
  refine T_ps (pr h 0 a0 r1) gX0_init rfl rfl ⟨ho, fun h_1 he => ?_⟩
  replace w := w h_1 he
  refine T_run (n := 2) (pc' := 11) (lv' := [some (tR (some a0)), some (tR r1), some (tR r2)]) (st' := [tR r2, tR (some a0)]) (h' := h_1) gX0_init rfl ?_
  obtain ⟨ho, w⟩ := w
  refine T_ps (pr h_1 1 a0 r2) gX0_init rfl rfl ⟨ho, fun h_2 he => ?_⟩
  replace w := w h_2 he
  refine T_run (n := 1) (pc' := 15) (lv' := [some (tR (some a0)), some (tR r1), some (tR r2)]) (st' := [tR (some a0)]) (h' := h_2) gX0_init rfl ?_
  refine T_new gX0_init rfl (fun h_3 a_4 he hz => ?_)
  replace w := w h_3 a_4 he hz
  refine T_run (n := 1) (pc' := 19) (lv' := [some (tR (some a0)), some (tR r1), some (tR r2)]) (st' := [tR (some a_4), tR (some a_4), tR (some a0)]) (h' := h_3) gX0_init rfl ?_
  refine T_kn (v := 2) gX0_init rfl (by decide) ?_
  refine T_kn (v := 0) gX0_init rfl (by decide) ?_
  refine T_run (n := 1) (pc' := 22) (lv' := [some (tR (some a0)), some (tR r1), some (tR r2)]) (st' := [tR r2, tI 0, tI 2, tR (some a_4), tR (some a_4), tR (some a0)]) (h' := h_3) gX0_init rfl ?_
  obtain ⟨a_5, he, ho, w⟩ := w
  refine T_gf (fun a_5 => tI (gi h_3 129 a_5)) gX0_init rfl (fun _ => rfl) ⟨a_5, he, ho, ?_⟩
  refine T_kn (v := 0) gX0_init rfl (by decide) ?_
  refine T_run (n := 1) (pc' := 27) (lv' := [some (tR (some a0)), some (tR r1), some (tR r2)]) (st' := [tR none, tI 0, tI (gi h_3 129 a_5), tI 0, tI 2, tR (some a_4), tR (some a_4), tR (some a0)]) (h' := h_3) gX0_init rfl ?_
  refine T_ci (lv' := [some (tR (some a_4)), some (tI 2), some (tI 0), some (tI (gi h_3 129 a_5)), some (tI 0), some (tR none)]) gX0_init rfl rfl rfl rfl (Nat.le_of_ble_eq_true rfl) gX4_init (Nat.le_of_ble_eq_true rfl) rfl (T_kv ?_)
  refine T.mono w (fun rr h_6 hw => ?_)
  obtain ⟨hr, w⟩ := hw
  refine ⟨hr, ?_⟩
  obtain ⟨ho, w⟩ := w
  refine T_ps (pr h_6 3 a0 (some a_4)) gX0_init rfl rfl ⟨ho, fun h_8 he => ?_⟩
  replace w := w h_8 he
  refine T_run (n := 1) (pc' := 34) (lv' := [some (tR (some a0)), some (tR r1), some (tR r2)]) (st' := [tR (some a0)]) (h' := h_8) gX0_init rfl ?_
  refine T_kn (v := 1) gX0_init rfl (by decide) ?_
  obtain ⟨ho, w⟩ := w
  refine T_ps (pi h_8 8 a0 1) gX0_init rfl rfl ⟨ho, fun h_9 he => ?_⟩
  replace w := w h_9 he
  exact T_rv gX0_init rfl rfl w
set_option maxHeartbeats 4000000 in
set_option maxRecDepth 20000 in
theorem wX10_function (a0 : Nat) (x1 : Int32) (x2 : Int32) (x3 : Int32) (h : Hp) (Q : Option TV → Hp → Prop) (w :
tX10_isWithin x1 8 h (rI (fun x_2 h_1 =>
(if x_2 = 0 then
tX10_function_31 a0 x1 x2 x3 h_1 Q
else
tX10_isWithin x2 8 h_1 (rI (fun x_4 h_3 =>
(if x_4 = 0 then
tX10_function_31 a0 x1 x2 x3 h_3 Q
else
tX10_isWithin x3 8 h_3 (rI (fun x_6 h_5 =>
(if x_6 = 0 then
tX10_function_31 a0 x1 x2 x3 h_5 Q
else
tX10_function_32 a0 x1 x2 x3 1 h_5 Q)))))))))) : tX10_function a0 x1 x2 x3 h Q := by
  refine T_run (n := 1) (pc' := 1) (lv' := [some (tR (some a0)), some (tI x1), some (tI x2), some (tI x3), none, none]) (st' := [tI x1]) (h' := h) gX10_function rfl ?_
  refine T_kb (v := 8) gX10_function rfl (by decide) ?_
  refine T_cs (lv' := [some (tI x1), some (tI 8)]) gX10_function rfl rfl rfl rfl (Nat.le_of_ble_eq_true rfl) gX10_isWithin (Nat.le_of_ble_eq_true rfl) rfl (T_ki ?_)
  refine T.mono w (fun rr h_1 hw => ?_)
  obtain ⟨x_2, hr, w⟩ := hw
  refine ⟨x_2, hr, ?_⟩
  replace w := c_eq w
  refine T_if (tgt := 31) gX10_function rfl (by decide) (fun hc => ?_) (fun hc => ?_)
  · replace w := w.1 hc
    exact w
  · replace w := w.2 hc
    refine T_run (n := 1) (pc' := 10) (lv' := [some (tR (some a0)), some (tI x1), some (tI x2), some (tI x3), none, none]) (st' := [tI x2]) (h' := h_1) gX10_function rfl ?_
    refine T_kb (v := 8) gX10_function rfl (by decide) ?_
    refine T_cs (lv' := [some (tI x2), some (tI 8)]) gX10_function rfl rfl rfl rfl (Nat.le_of_ble_eq_true rfl) gX10_isWithin (Nat.le_of_ble_eq_true rfl) rfl (T_ki ?_)
    refine T.mono w (fun rr h_3 hw => ?_)
    obtain ⟨x_4, hr, w⟩ := hw
    refine ⟨x_4, hr, ?_⟩
    replace w := c_eq w
    refine T_if (tgt := 31) gX10_function rfl (by decide) (fun hc => ?_) (fun hc => ?_)
    · replace w := w.1 hc
      exact w
    · replace w := w.2 hc
      refine T_run (n := 1) (pc' := 19) (lv' := [some (tR (some a0)), some (tI x1), some (tI x2), some (tI x3), none, none]) (st' := [tI x3]) (h' := h_3) gX10_function rfl ?_
      refine T_kb (v := 8) gX10_function rfl (by decide) ?_
      refine T_cs (lv' := [some (tI x3), some (tI 8)]) gX10_function rfl rfl rfl rfl (Nat.le_of_ble_eq_true rfl) gX10_isWithin (Nat.le_of_ble_eq_true rfl) rfl (T_ki ?_)
      refine T.mono w (fun rr h_5 hw => ?_)
      obtain ⟨x_6, hr, w⟩ := hw
      refine ⟨x_6, hr, ?_⟩
      replace w := c_eq w
      refine T_if (tgt := 31) gX10_function rfl (by decide) (fun hc => ?_) (fun hc => ?_)
      · replace w := w.1 hc
        exact w
      · replace w := w.2 hc
        refine T_kn (v := 1) gX10_function rfl (by decide) ?_
        refine T_goto (tgt := 32) gX10_function rfl (by decide) ?_
        exact w
set_option maxHeartbeats 4000000 in
set_option maxRecDepth 20000 in
theorem wX10_function_31 (a0 : Nat) (x1 : Int32) (x2 : Int32) (x3 : Int32) (h : Hp) (Q : Option TV → Hp → Prop) (w :
tX10_function_32 a0 x1 x2 x3 0 h Q) : tX10_function_31 a0 x1 x2 x3 h Q := by
  refine T_kn (v := 0) gX10_function rfl (by decide) ?_
  exact w
set_option maxHeartbeats 4000000 in
set_option maxRecDepth 20000 in
theorem wX10_function_32 (a0 : Nat) (x1 : Int32) (x2 : Int32) (x3 : Int32) (s0 : Int32) (h : Hp) (Q : Option TV → Hp → Prop) (w :
ob h a0 9 (
(if (gr h 580 a0) = none then
(if s0 = 0 then
Q (some (tI (-1))) h
else
∀ h_1 a_2, h_1 = nw h (.inl 2) 7 → a_2 = sz h →
tX2_init a_2 x1 x2 x3 h_1 (rV (fun h_3 =>
ob h_3 a0 9 (
dr (gr h_3 576 a0) (fun a_7 => ob h_3 a_7 7 (tX8_append a_7 (some a_2) h_3 (rI (fun x_6 h_5 =>
(if x_6 = 0 then
Q (some (tI (-1))) h_5
else
∀ h_8 a_9, h_8 = nw h_5 (.inl 0) 9 → a_9 = sz h_5 →
ob h_8 a0 9 (
tX0_init a_9 (gr h_8 576 a0) (some a_2) h_8 (rV (fun h_10 =>
ob h_10 a0 9 (∀ h_12, h_12 = pr h_10 580 a0 (some a_9) →
ob h_12 a0 9 (
dr (gr h_12 576 a0) (fun a_13 => ob h_12 a_13 7 (
Q (some (tI ((gi h_12 449 a_13) - 1))) h_12))))))))))))))))
else
Q (some (tI (-1))) h))) : tX10_function_32 a0 x1 x2 x3 s0 h Q := by
  refine T_run (n := 2) (pc' := 35) (lv' := [some (tR (some a0)), some (tI x1), some (tI x2), some (tI x3), some (tI s0), none]) (st' := [tR (some a0)]) (h' := h) gX10_function rfl ?_
  obtain ⟨ho, w⟩ := w
  refine T_gs (tR (gr h 580 a0)) gX10_function rfl rfl ⟨ho, ?_⟩
  refine T_nn2 (tgt := 46) gX10_function rfl (by decide) (fun hc => ?_) (fun hc => ?_)
  · rw [if_neg hc] at w
    refine T_kn (v := (-1)) gX10_function rfl (by decide) ?_
    exact T_ri gX10_function rfl rfl w
  · rw [if_pos hc] at w
    refine T_run (n := 1) (pc' := 43) (lv' := [some (tR (some a0)), some (tI x1), some (tI x2), some (tI x3), some (tI s0), none]) (st' := [tI s0]) (h' := h) gX10_function rfl ?_
    replace w := c_ne w
    refine T_if (tgt := 48) gX10_function rfl (by decide) (fun hc => ?_) (fun hc => ?_)
    · replace w := w.1 hc
      refine T_new gX10_function rfl (fun h_1 a_2 he hz => ?_)
      replace w := w h_1 a_2 he hz
      refine T_run (n := 4) (pc' := 55) (lv' := [some (tR (some a0)), some (tI x1), some (tI x2), some (tI x3), some (tI s0), none]) (st' := [tI x3, tI x2, tI x1, tR (some a_2), tR (some a_2)]) (h' := h_1) gX10_function rfl ?_
      refine T_ci (lv' := [some (tR (some a_2)), some (tI x1), some (tI x2), some (tI x3)]) gX10_function rfl rfl rfl rfl (Nat.le_of_ble_eq_true rfl) gX2_init (Nat.le_of_ble_eq_true rfl) rfl (T_kv ?_)
      refine T.mono w (fun rr h_3 hw => ?_)
      obtain ⟨hr, w⟩ := hw
      refine ⟨hr, ?_⟩
      refine T_run (n := 2) (pc' := 61) (lv' := [some (tR (some a0)), some (tI x1), some (tI x2), some (tI x3), some (tI s0), some (tR (some a_2))]) (st' := [tR (some a0)]) (h' := h_3) gX10_function rfl ?_
      obtain ⟨ho, w⟩ := w
      refine T_gs (tR (gr h_3 576 a0)) gX10_function rfl rfl ⟨ho, ?_⟩
      refine T_run (n := 1) (pc' := 66) (lv' := [some (tR (some a0)), some (tI x1), some (tI x2), some (tI x3), some (tI s0), some (tR (some a_2))]) (st' := [tR (some a_2), tR (gr h_3 576 a0)]) (h' := h_3) gX10_function rfl ?_
      obtain ⟨a_7, hr, ho, w⟩ := w
      refine T_cv (fun aa => [some (tR (some aa)), some (tR (some a_2))]) gX10_function rfl rfl rfl rfl (Nat.le_of_ble_eq_true rfl) gX8_append (fun _ => Nat.le_of_ble_eq_true rfl) (fun _ => rfl) ⟨a_7, hr, ho, T_ki ?_⟩
      refine T.mono w (fun rr h_5 hw => ?_)
      obtain ⟨x_6, hr, w⟩ := hw
      refine ⟨x_6, hr, ?_⟩
      replace w := c_ne w
      refine T_if (tgt := 74) gX10_function rfl (by decide) (fun hc => ?_) (fun hc => ?_)
      · replace w := w.1 hc
        refine T_run (n := 1) (pc' := 75) (lv' := [some (tR (some a0)), some (tI x1), some (tI x2), some (tI x3), some (tI s0), some (tR (some a_2))]) (st' := [tR (some a0)]) (h' := h_5) gX10_function rfl ?_
        refine T_new gX10_function rfl (fun h_8 a_9 he hz => ?_)
        replace w := w h_8 a_9 he hz
        refine T_run (n := 2) (pc' := 80) (lv' := [some (tR (some a0)), some (tI x1), some (tI x2), some (tI x3), some (tI s0), some (tR (some a_2))]) (st' := [tR (some a0), tR (some a_9), tR (some a_9), tR (some a0)]) (h' := h_8) gX10_function rfl ?_
        obtain ⟨ho, w⟩ := w
        refine T_gs (tR (gr h_8 576 a0)) gX10_function rfl rfl ⟨ho, ?_⟩
        refine T_run (n := 1) (pc' := 85) (lv' := [some (tR (some a0)), some (tI x1), some (tI x2), some (tI x3), some (tI s0), some (tR (some a_2))]) (st' := [tR (some a_2), tR (gr h_8 576 a0), tR (some a_9), tR (some a_9), tR (some a0)]) (h' := h_8) gX10_function rfl ?_
        refine T_ci (lv' := [some (tR (some a_9)), some (tR (gr h_8 576 a0)), some (tR (some a_2))]) gX10_function rfl rfl rfl rfl (Nat.le_of_ble_eq_true rfl) gX0_init (Nat.le_of_ble_eq_true rfl) rfl (T_kv ?_)
        refine T.mono w (fun rr h_10 hw => ?_)
        obtain ⟨hr, w⟩ := hw
        refine ⟨hr, ?_⟩
        obtain ⟨ho, w⟩ := w
        refine T_ps (pr h_10 580 a0 (some a_9)) gX10_function rfl rfl ⟨ho, fun h_12 he => ?_⟩
        replace w := w h_12 he
        refine T_run (n := 1) (pc' := 92) (lv' := [some (tR (some a0)), some (tI x1), some (tI x2), some (tI x3), some (tI s0), some (tR (some a_2))]) (st' := [tR (some a0)]) (h' := h_12) gX10_function rfl ?_
        obtain ⟨ho, w⟩ := w
        refine T_gs (tR (gr h_12 576 a0)) gX10_function rfl rfl ⟨ho, ?_⟩
        obtain ⟨a_13, he, ho, w⟩ := w
        refine T_gf (fun a_13 => tI (gi h_12 449 a_13)) gX10_function rfl (fun _ => rfl) ⟨a_13, he, ho, ?_⟩
        refine T_kn (v := 1) gX10_function rfl (by decide) ?_
        refine T_run (n := 1) (pc' := 100) (lv' := [some (tR (some a0)), some (tI x1), some (tI x2), some (tI x3), some (tI s0), some (tR (some a_2))]) (st' := [tI ((gi h_12 449 a_13) - 1)]) (h' := h_12) gX10_function rfl ?_
        exact T_ri gX10_function rfl rfl w
      · replace w := w.2 hc
        refine T_kn (v := (-1)) gX10_function rfl (by decide) ?_
        exact T_ri gX10_function rfl rfl w
    · replace w := w.2 hc
      refine T_kn (v := (-1)) gX10_function rfl (by decide) ?_
      exact T_ri gX10_function rfl rfl w
set_option maxHeartbeats 4000000 in
set_option maxRecDepth 20000 in
theorem wX10_instructionsInAll (a0 : Nat) (h : Hp) (Q : Option TV → Hp → Prop) (w :
ob h a0 9 (
dr (gr h 576 a0) (fun a_1 => ob h a_1 7 (
ob h a0 9 (
(if (gr h 580 a0) = none then
Q (some (tI ((gi h 450 a_1) + 0))) h
else
ob h a0 9 (
dr (gr h 580 a0) (fun a_2 => ob h a_2 0 (
Q (some (tI ((gi h 450 a_1) + (gi h 7 a_2)))) h))))))))) : tX10_instructionsInAll a0 h Q := by
  refine T_run (n := 1) (pc' := 1) (lv' := [some (tR (some a0))]) (st' := [tR (some a0)]) (h' := h) gX10_instructionsInAll rfl ?_
  obtain ⟨ho, w⟩ := w
  refine T_gs (tR (gr h 576 a0)) gX10_instructionsInAll rfl rfl ⟨ho, ?_⟩
  obtain ⟨a_1, he, ho, w⟩ := w
  refine T_gf (fun a_1 => tI (gi h 450 a_1)) gX10_instructionsInAll rfl (fun _ => rfl) ⟨a_1, he, ho, ?_⟩
  refine T_run (n := 1) (pc' := 8) (lv' := [some (tR (some a0))]) (st' := [tR (some a0), tI (gi h 450 a_1)]) (h' := h) gX10_instructionsInAll rfl ?_
  obtain ⟨ho, w⟩ := w
  refine T_gs (tR (gr h 580 a0)) gX10_instructionsInAll rfl rfl ⟨ho, ?_⟩
  refine T_nn2 (tgt := 18) gX10_instructionsInAll rfl (by decide) (fun hc => ?_) (fun hc => ?_)
  · rw [if_neg hc] at w
    refine T_run (n := 1) (pc' := 19) (lv' := [some (tR (some a0))]) (st' := [tR (some a0), tI (gi h 450 a_1)]) (h' := h) gX10_instructionsInAll rfl ?_
    obtain ⟨ho, w⟩ := w
    refine T_gs (tR (gr h 580 a0)) gX10_instructionsInAll rfl rfl ⟨ho, ?_⟩
    obtain ⟨a_2, he, ho, w⟩ := w
    refine T_gf (fun a_2 => tI (gi h 7 a_2)) gX10_instructionsInAll rfl (fun _ => rfl) ⟨a_2, he, ho, ?_⟩
    refine T_run (n := 1) (pc' := 26) (lv' := [some (tR (some a0))]) (st' := [tI ((gi h 450 a_1) + (gi h 7 a_2))]) (h' := h) gX10_instructionsInAll rfl ?_
    exact T_ri gX10_instructionsInAll rfl rfl w
  · rw [if_pos hc] at w
    refine T_kn (v := 0) gX10_instructionsInAll rfl (by decide) ?_
    refine T_goto (tgt := 25) gX10_instructionsInAll rfl (by decide) ?_
    refine T_run (n := 1) (pc' := 26) (lv' := [some (tR (some a0))]) (st' := [tI ((gi h 450 a_1) + 0)]) (h' := h) gX10_instructionsInAll rfl ?_
    exact T_ri gX10_instructionsInAll rfl rfl w
set_option maxHeartbeats 4000000 in
set_option maxRecDepth 20000 in
theorem wX3_init (a0 : Nat) (x1 : Int32) (x2 : Int32) (x3 : Int32) (r4 : Option Nat) (h : Hp) (Q : Option TV → Hp → Prop) (w :
ob h a0 3 (∀ h_1, h_1 = pi h 192 a0 x1 →
ob h_1 a0 3 (∀ h_2, h_2 = pi h_1 193 a0 x2 →
ob h_2 a0 3 (∀ h_3, h_3 = pi h_2 194 a0 x3 →
ob h_3 a0 3 (∀ h_4, h_4 = pr h_3 195 a0 r4 →
Q none h_4))))) : tX3_init a0 x1 x2 x3 r4 h Q := by
  refine T_run (n := 1) (pc' := 1) (lv' := [some (tR (some a0)), some (tI x1), some (tI x2), some (tI x3), some (tR r4)]) (st' := [tR (some a0)]) (h' := h) gX3_init rfl ?_
  refine T_oi gX3_init rfl (Nat.le_of_ble_eq_true rfl) ?_
  refine T_run (n := 2) (pc' := 6) (lv' := [some (tR (some a0)), some (tI x1), some (tI x2), some (tI x3), some (tR r4)]) (st' := [tI x1, tR (some a0)]) (h' := h) gX3_init rfl ?_
  obtain ⟨ho, w⟩ := w
  refine T_ps (pi h 192 a0 x1) gX3_init rfl rfl ⟨ho, fun h_1 he => ?_⟩
  replace w := w h_1 he
  refine T_run (n := 2) (pc' := 11) (lv' := [some (tR (some a0)), some (tI x1), some (tI x2), some (tI x3), some (tR r4)]) (st' := [tI x2, tR (some a0)]) (h' := h_1) gX3_init rfl ?_
  obtain ⟨ho, w⟩ := w
  refine T_ps (pi h_1 193 a0 x2) gX3_init rfl rfl ⟨ho, fun h_2 he => ?_⟩
  replace w := w h_2 he
  refine T_run (n := 2) (pc' := 16) (lv' := [some (tR (some a0)), some (tI x1), some (tI x2), some (tI x3), some (tR r4)]) (st' := [tI x3, tR (some a0)]) (h' := h_2) gX3_init rfl ?_
  obtain ⟨ho, w⟩ := w
  refine T_ps (pi h_2 194 a0 x3) gX3_init rfl rfl ⟨ho, fun h_3 he => ?_⟩
  replace w := w h_3 he
  refine T_run (n := 2) (pc' := 22) (lv' := [some (tR (some a0)), some (tI x1), some (tI x2), some (tI x3), some (tR r4)]) (st' := [tR r4, tR (some a0)]) (h' := h_3) gX3_init rfl ?_
  obtain ⟨ho, w⟩ := w
  refine T_ps (pr h_3 195 a0 r4) gX3_init rfl rfl ⟨ho, fun h_4 he => ?_⟩
  replace w := w h_4 he
  exact T_rv gX3_init rfl rfl w
set_option maxHeartbeats 4000000 in
set_option maxRecDepth 20000 in
theorem wX0_append (a0 : Nat) (x1 : Int32) (x2 : Int32) (x3 : Int32) (h : Hp) (Q : Option TV → Hp → Prop) (w :
∀ h_1 a_2, h_1 = nw h (.inl 3) 10 → a_2 = sz h →
ob h_1 a0 0 (
tX3_init a_2 x1 x2 x3 (gr h_1 2 a0) h_1 (rV (fun h_3 =>
ob h_3 a0 0 (∀ h_5, h_5 = pr h_3 2 a0 (some a_2) →
ob h_5 a0 0 (
ob h_5 a0 0 (∀ h_6, h_6 = pi h_5 7 a0 ((gi h_5 7 a0) + 1) →
ob h_6 a0 0 (
Q (some (tR (gr h_6 2 a0))) h_6)))))))) : tX0_append a0 x1 x2 x3 h Q := by
  refine T_run (n := 1) (pc' := 1) (lv' := [some (tR (some a0)), some (tI x1), some (tI x2), some (tI x3)]) (st' := [tR (some a0)]) (h' := h) gX0_append rfl ?_
  refine T_new gX0_append rfl (fun h_1 a_2 he hz => ?_)
  replace w := w h_1 a_2 he hz
  refine T_run (n := 5) (pc' := 9) (lv' := [some (tR (some a0)), some (tI x1), some (tI x2), some (tI x3)]) (st' := [tR (some a0), tI x3, tI x2, tI x1, tR (some a_2), tR (some a_2), tR (some a0)]) (h' := h_1) gX0_append rfl ?_
  obtain ⟨ho, w⟩ := w
  refine T_gs (tR (gr h_1 2 a0)) gX0_append rfl rfl ⟨ho, ?_⟩
  refine T_ci (lv' := [some (tR (some a_2)), some (tI x1), some (tI x2), some (tI x3), some (tR (gr h_1 2 a0))]) gX0_append rfl rfl rfl rfl (Nat.le_of_ble_eq_true rfl) gX3_init (Nat.le_of_ble_eq_true rfl) rfl (T_kv ?_)
  refine T.mono w (fun rr h_3 hw => ?_)
  obtain ⟨hr, w⟩ := hw
  refine ⟨hr, ?_⟩
  obtain ⟨ho, w⟩ := w
  refine T_ps (pr h_3 2 a0 (some a_2)) gX0_append rfl rfl ⟨ho, fun h_5 he => ?_⟩
  replace w := w h_5 he
  refine T_run (n := 2) (pc' := 20) (lv' := [some (tR (some a0)), some (tI x1), some (tI x2), some (tI x3)]) (st' := [tR (some a0), tR (some a0)]) (h' := h_5) gX0_append rfl ?_
  obtain ⟨ho, w⟩ := w
  refine T_gs (tI (gi h_5 7 a0)) gX0_append rfl rfl ⟨ho, ?_⟩
  refine T_kn (v := 1) gX0_append rfl (by decide) ?_
  refine T_run (n := 1) (pc' := 25) (lv' := [some (tR (some a0)), some (tI x1), some (tI x2), some (tI x3)]) (st' := [tI ((gi h_5 7 a0) + 1), tR (some a0)]) (h' := h_5) gX0_append rfl ?_
  obtain ⟨ho, w⟩ := w
  refine T_ps (pi h_5 7 a0 ((gi h_5 7 a0) + 1)) gX0_append rfl rfl ⟨ho, fun h_6 he => ?_⟩
  replace w := w h_6 he
  refine T_run (n := 1) (pc' := 29) (lv' := [some (tR (some a0)), some (tI x1), some (tI x2), some (tI x3)]) (st' := [tR (some a0)]) (h' := h_6) gX0_append rfl ?_
  obtain ⟨ho, w⟩ := w
  refine T_gs (tR (gr h_6 2 a0)) gX0_append rfl rfl ⟨ho, ?_⟩
  exact T_ra gX0_append rfl rfl w
set_option maxHeartbeats 4000000 in
set_option maxRecDepth 20000 in
theorem wX0_die (a0 : Nat) (h : Hp) (Q : Option TV → Hp → Prop) (w :
ob h a0 0 (
dr (gr h 3 a0) (fun a_1 => ob h a_1 4 (
ob h a0 0 (∀ h_2, h_2 = pi h 4 a0 (gi h 259 a_1) →
ob h_2 a0 0 (
dr (gr h_2 3 a0) (fun a_4 => ob h_2 a_4 4 (∀ h_3, h_3 = pi h_2 261 a_4 1 →
Q none h_3)))))))) : tX0_die a0 h Q := by
  refine T_run (n := 2) (pc' := 2) (lv' := [some (tR (some a0))]) (st' := [tR (some a0), tR (some a0)]) (h' := h) gX0_die rfl ?_
  obtain ⟨ho, w⟩ := w
  refine T_gs (tR (gr h 3 a0)) gX0_die rfl rfl ⟨ho, ?_⟩
  obtain ⟨a_1, he, ho, w⟩ := w
  refine T_gf (fun a_1 => tI (gi h 259 a_1)) gX0_die rfl (fun _ => rfl) ⟨a_1, he, ho, ?_⟩
  obtain ⟨ho, w⟩ := w
  refine T_ps (pi h 4 a0 (gi h 259 a_1)) gX0_die rfl rfl ⟨ho, fun h_2 he => ?_⟩
  replace w := w h_2 he
  refine T_run (n := 1) (pc' := 12) (lv' := [some (tR (some a0))]) (st' := [tR (some a0)]) (h' := h_2) gX0_die rfl ?_
  obtain ⟨ho, w⟩ := w
  refine T_gs (tR (gr h_2 3 a0)) gX0_die rfl rfl ⟨ho, ?_⟩
  refine T_kn (v := 1) gX0_die rfl (by decide) ?_
  obtain ⟨a_4, hr, ho, w⟩ := w
  refine T_pf (fun a_4 => pi h_2 261 a_4 1) gX0_die rfl (fun _ => (putZ (Or.inr rfl))) ⟨a_4, hr, ho, fun h_3 he => ?_⟩
  replace w := w h_3 he
  exact T_rv gX0_die rfl rfl w
set_option maxHeartbeats 4000000 in
set_option maxRecDepth 20000 in
theorem wX0_writeTrap (a0 : Nat) (x1 : Int32) (x2 : Int32) (h : Hp) (Q : Option TV → Hp → Prop) (w :
ob h a0 0 (tX0_append a0 0 x1 x2 h (rR (fun r_2 h_1 =>
ob h_1 a0 0 (tX0_die a0  h_1 (rV (fun h_3 =>
Q (some (tI 1)) h_3))))))) : tX0_writeTrap a0 x1 x2 h Q := by
  refine T_run (n := 1) (pc' := 1) (lv' := [some (tR (some a0)), some (tI x1), some (tI x2)]) (st' := [tR (some a0)]) (h' := h) gX0_writeTrap rfl ?_
  refine T_kn (v := 0) gX0_writeTrap rfl (by decide) ?_
  refine T_run (n := 2) (pc' := 4) (lv' := [some (tR (some a0)), some (tI x1), some (tI x2)]) (st' := [tI x2, tI x1, tI 0, tR (some a0)]) (h' := h) gX0_writeTrap rfl ?_
  obtain ⟨ho, w⟩ := w
  refine T_cv (fun aa => [some (tR (some aa)), some (tI 0), some (tI x1), some (tI x2)]) gX0_writeTrap rfl rfl rfl rfl (Nat.le_of_ble_eq_true rfl) gX0_append (fun _ => Nat.le_of_ble_eq_true rfl) (fun _ => rfl) ⟨a0, rfl, ho, T_kr ?_⟩
  refine T.mono w (fun rr h_1 hw => ?_)
  obtain ⟨r_2, hr, w⟩ := hw
  refine ⟨r_2, hr, ?_⟩
  refine T_run (n := 2) (pc' := 9) (lv' := [some (tR (some a0)), some (tI x1), some (tI x2)]) (st' := [tR (some a0)]) (h' := h_1) gX0_writeTrap rfl ?_
  obtain ⟨ho, w⟩ := w
  refine T_cv (fun aa => [some (tR (some aa))]) gX0_writeTrap rfl rfl rfl rfl (Nat.le_of_ble_eq_true rfl) gX0_die (fun _ => Nat.le_of_ble_eq_true rfl) (fun _ => rfl) ⟨a0, rfl, ho, T_kv ?_⟩
  refine T.mono w (fun rr h_3 hw => ?_)
  obtain ⟨hr, w⟩ := hw
  refine ⟨hr, ?_⟩
  refine T_kn (v := 1) gX0_writeTrap rfl (by decide) ?_
  exact T_rz gX0_writeTrap rfl rfl (Or.inr rfl) w
set_option maxHeartbeats 4000000 in
set_option maxRecDepth 20000 in
theorem wX0_ownOperands (a0 : Nat) (h : Hp) (Q : Option TV → Hp → Prop) (w :
ob h a0 0 (
(if (gr h 3 a0) = none then
Q (some (tI 0)) h
else
ob h a0 0 (
ob h a0 0 (
dr (gr h 3 a0) (fun a_1 => ob h a_1 4 (
Q (some (tI ((gi h 4 a0) - (gi h 259 a_1)))) h))))))) : tX0_ownOperands a0 h Q := by
  refine T_run (n := 1) (pc' := 1) (lv' := [some (tR (some a0))]) (st' := [tR (some a0)]) (h' := h) gX0_ownOperands rfl ?_
  obtain ⟨ho, w⟩ := w
  refine T_gs (tR (gr h 3 a0)) gX0_ownOperands rfl rfl ⟨ho, ?_⟩
  refine T_nn2 (tgt := 11) gX0_ownOperands rfl (by decide) (fun hc => ?_) (fun hc => ?_)
  · rw [if_neg hc] at w
    refine T_run (n := 1) (pc' := 12) (lv' := [some (tR (some a0))]) (st' := [tR (some a0)]) (h' := h) gX0_ownOperands rfl ?_
    obtain ⟨ho, w⟩ := w
    refine T_gs (tI (gi h 4 a0)) gX0_ownOperands rfl rfl ⟨ho, ?_⟩
    refine T_run (n := 1) (pc' := 16) (lv' := [some (tR (some a0))]) (st' := [tR (some a0), tI (gi h 4 a0)]) (h' := h) gX0_ownOperands rfl ?_
    obtain ⟨ho, w⟩ := w
    refine T_gs (tR (gr h 3 a0)) gX0_ownOperands rfl rfl ⟨ho, ?_⟩
    obtain ⟨a_1, he, ho, w⟩ := w
    refine T_gf (fun a_1 => tI (gi h 259 a_1)) gX0_ownOperands rfl (fun _ => rfl) ⟨a_1, he, ho, ?_⟩
    refine T_run (n := 1) (pc' := 23) (lv' := [some (tR (some a0))]) (st' := [tI ((gi h 4 a0) - (gi h 259 a_1))]) (h' := h) gX0_ownOperands rfl ?_
    exact T_ri gX0_ownOperands rfl rfl w
  · rw [if_pos hc] at w
    refine T_kn (v := 0) gX0_ownOperands rfl (by decide) ?_
    refine T_goto (tgt := 23) gX0_ownOperands rfl (by decide) ?_
    exact T_ri gX0_ownOperands rfl rfl w
set_option maxHeartbeats 4000000 in
set_option maxRecDepth 20000 in
theorem wX0_has (a0 : Nat) (x1 : Int32) (h : Hp) (Q : Option TV → Hp → Prop) (w :
ob h a0 0 (
dr (gr h 3 a0) (fun a_1 => ob h a_1 4 (
(if (gi h 261 a_1) = 0 then
ob h a0 0 (tX0_ownOperands a0  h (rI (fun x_3 h_2 =>
(if x_3 < x1 then
Q (some (tI 0)) h_2
else
Q (some (tI 1)) h_2))))
else
Q (some (tI 1)) h))))) : tX0_has a0 x1 h Q := by
  refine T_run (n := 1) (pc' := 1) (lv' := [some (tR (some a0)), some (tI x1)]) (st' := [tR (some a0)]) (h' := h) gX0_has rfl ?_
  obtain ⟨ho, w⟩ := w
  refine T_gs (tR (gr h 3 a0)) gX0_has rfl rfl ⟨ho, ?_⟩
  obtain ⟨a_1, he, ho, w⟩ := w
  refine T_gf (fun a_1 => tI (gi h 261 a_1)) gX0_has rfl (fun _ => rfl) ⟨a_1, he, ho, ?_⟩
  replace w := c_ne w
  refine T_if (tgt := 18) gX0_has rfl (by decide) (fun hc => ?_) (fun hc => ?_)
  · replace w := w.1 hc
    refine T_kn (v := 1) gX0_has rfl (by decide) ?_
    refine T_goto (tgt := 23) gX0_has rfl (by decide) ?_
    exact T_rz gX0_has rfl rfl (Or.inr rfl) w
  · replace w := w.2 hc
    refine T_run (n := 1) (pc' := 11) (lv' := [some (tR (some a0)), some (tI x1)]) (st' := [tR (some a0)]) (h' := h) gX0_has rfl ?_
    obtain ⟨ho, w⟩ := w
    refine T_cv (fun aa => [some (tR (some aa))]) gX0_has rfl rfl rfl rfl (Nat.le_of_ble_eq_true rfl) gX0_ownOperands (fun _ => Nat.le_of_ble_eq_true rfl) (fun _ => rfl) ⟨a0, rfl, ho, T_ki ?_⟩
    refine T.mono w (fun rr h_2 hw => ?_)
    obtain ⟨x_3, hr, w⟩ := hw
    refine ⟨x_3, hr, ?_⟩
    refine T_run (n := 1) (pc' := 15) (lv' := [some (tR (some a0)), some (tI x1)]) (st' := [tI x1, tI x_3]) (h' := h_2) gX0_has rfl ?_
    replace w := c_lt w
    refine T_ic (tgt := 22) gX0_has rfl (by decide) (fun hc => ?_) (fun hc => ?_)
    · replace w := w.1 hc
      refine T_kn (v := 0) gX0_has rfl (by decide) ?_
      exact T_rz gX0_has rfl rfl (Or.inl rfl) w
    · replace w := w.2 hc
      refine T_kn (v := 1) gX0_has rfl (by decide) ?_
      refine T_goto (tgt := 23) gX0_has rfl (by decide) ?_
      exact T_rz gX0_has rfl rfl (Or.inr rfl) w
set_option maxHeartbeats 4000000 in
set_option maxRecDepth 20000 in
theorem wX0_take (a0 : Nat) (x1 : Int32) (h : Hp) (Q : Option TV → Hp → Prop) (w :
ob h a0 0 (
dr (gr h 3 a0) (fun a_1 => ob h a_1 4 (
ob h a0 0 (
ob h a0 0 (∀ h_2, h_2 = pi h 4 a0 (if (gi h 259 a_1) < ((gi h 4 a0) - x1) then ((gi h 4 a0) - x1) else (gi h 259 a_1)) →
Q none h_2)))))) : tX0_take a0 x1 h Q := by
  refine T_run (n := 2) (pc' := 2) (lv' := [some (tR (some a0)), some (tI x1)]) (st' := [tR (some a0), tR (some a0)]) (h' := h) gX0_take rfl ?_
  obtain ⟨ho, w⟩ := w
  refine T_gs (tR (gr h 3 a0)) gX0_take rfl rfl ⟨ho, ?_⟩
  obtain ⟨a_1, he, ho, w⟩ := w
  refine T_gf (fun a_1 => tI (gi h 259 a_1)) gX0_take rfl (fun _ => rfl) ⟨a_1, he, ho, ?_⟩
  refine T_run (n := 1) (pc' := 9) (lv' := [some (tR (some a0)), some (tI x1)]) (st' := [tR (some a0), tI (gi h 259 a_1), tR (some a0)]) (h' := h) gX0_take rfl ?_
  obtain ⟨ho, w⟩ := w
  refine T_gs (tI (gi h 4 a0)) gX0_take rfl rfl ⟨ho, ?_⟩
  refine T_run (n := 2) (pc' := 14) (lv' := [some (tR (some a0)), some (tI x1)]) (st' := [tI ((gi h 4 a0) - x1), tI (gi h 259 a_1), tR (some a0)]) (h' := h) gX0_take rfl ?_
  refine T_max gX0_take rfl (Nat.le_of_ble_eq_true rfl) ?_
  obtain ⟨ho, w⟩ := w
  refine T_ps (pi h 4 a0 (if (gi h 259 a_1) < ((gi h 4 a0) - x1) then ((gi h 4 a0) - x1) else (gi h 259 a_1))) gX0_take rfl rfl ⟨ho, fun h_2 he => ?_⟩
  replace w := w h_2 he
  exact T_rv gX0_take rfl rfl w
set_option maxHeartbeats 4000000 in
set_option maxRecDepth 20000 in
theorem wX0_put (a0 : Nat) (x1 : Int32) (h : Hp) (Q : Option TV → Hp → Prop) (w :
ob h a0 0 (
ob h a0 0 (∀ h_1, h_1 = pi h 4 a0 ((gi h 4 a0) + x1) →
ob h_1 a0 0 (
ob h_1 a0 0 (
dr (gr h_1 1 a0) (fun a_2 => ob h_1 a_2 2 (
ob h_1 a0 0 (
dr (gr h_1 1 a0) (fun a_4 => ob h_1 a_4 2 (∀ h_3, h_3 = pi h_1 133 a_4 (if (gi h_1 133 a_2) < (gi h_1 4 a0) then (gi h_1 4 a0) else (gi h_1 133 a_2)) →
Q none h_3)))))))))) : tX0_put a0 x1 h Q := by
  refine T_run (n := 2) (pc' := 2) (lv' := [some (tR (some a0)), some (tI x1)]) (st' := [tR (some a0), tR (some a0)]) (h' := h) gX0_put rfl ?_
  obtain ⟨ho, w⟩ := w
  refine T_gs (tI (gi h 4 a0)) gX0_put rfl rfl ⟨ho, ?_⟩
  refine T_run (n := 2) (pc' := 7) (lv' := [some (tR (some a0)), some (tI x1)]) (st' := [tI ((gi h 4 a0) + x1), tR (some a0)]) (h' := h) gX0_put rfl ?_
  obtain ⟨ho, w⟩ := w
  refine T_ps (pi h 4 a0 ((gi h 4 a0) + x1)) gX0_put rfl rfl ⟨ho, fun h_1 he => ?_⟩
  replace w := w h_1 he
  refine T_run (n := 1) (pc' := 11) (lv' := [some (tR (some a0)), some (tI x1)]) (st' := [tR (some a0)]) (h' := h_1) gX0_put rfl ?_
  obtain ⟨ho, w⟩ := w
  refine T_gs (tR (gr h_1 1 a0)) gX0_put rfl rfl ⟨ho, ?_⟩
  refine T_run (n := 1) (pc' := 15) (lv' := [some (tR (some a0)), some (tI x1)]) (st' := [tR (some a0), tR (gr h_1 1 a0)]) (h' := h_1) gX0_put rfl ?_
  obtain ⟨ho, w⟩ := w
  refine T_gs (tR (gr h_1 1 a0)) gX0_put rfl rfl ⟨ho, ?_⟩
  obtain ⟨a_2, he, ho, w⟩ := w
  refine T_gf (fun a_2 => tI (gi h_1 133 a_2)) gX0_put rfl (fun _ => rfl) ⟨a_2, he, ho, ?_⟩
  refine T_run (n := 1) (pc' := 22) (lv' := [some (tR (some a0)), some (tI x1)]) (st' := [tR (some a0), tI (gi h_1 133 a_2), tR (gr h_1 1 a0)]) (h' := h_1) gX0_put rfl ?_
  obtain ⟨ho, w⟩ := w
  refine T_gs (tI (gi h_1 4 a0)) gX0_put rfl rfl ⟨ho, ?_⟩
  refine T_max gX0_put rfl (Nat.le_of_ble_eq_true rfl) ?_
  obtain ⟨a_4, hr, ho, w⟩ := w
  refine T_pf (fun a_4 => pi h_1 133 a_4 (if (gi h_1 133 a_2) < (gi h_1 4 a0) then (gi h_1 4 a0) else (gi h_1 133 a_2))) gX0_put rfl (fun _ => rfl) ⟨a_4, hr, ho, fun h_3 he => ?_⟩
  replace w := w h_3 he
  exact T_rv gX0_put rfl rfl w
set_option maxHeartbeats 4000000 in
set_option maxRecDepth 20000 in
theorem wX0_writeStart (a0 : Nat) (x1 : Int32) (x2 : Int32) (x3 : Int32) (h : Hp) (Q : Option TV → Hp → Prop) (w :
tX10_isWithin x2 4 h (rI (fun x_2 h_1 =>
(if x_2 = 0 then
Q (some (tI 0)) h_1
else
tX10_isWithin x3 4 h_1 (rI (fun x_4 h_3 =>
(if x_4 = 0 then
Q (some (tI 0)) h_3
else
(if x1 = 4 then
tX0_writeStart_30 a0 x1 x2 x3 (x2 + 1) h_3 Q
else
tX0_writeStart_30 a0 x1 x2 x3 x2 h_3 Q)))))))) : tX0_writeStart a0 x1 x2 x3 h Q := by
  refine T_run (n := 1) (pc' := 1) (lv' := [some (tR (some a0)), some (tI x1), some (tI x2), some (tI x3), none, none]) (st' := [tI x2]) (h' := h) gX0_writeStart rfl ?_
  refine T_kn (v := 4) gX0_writeStart rfl (by decide) ?_
  refine T_cs (lv' := [some (tI x2), some (tI 4)]) gX0_writeStart rfl rfl rfl rfl (Nat.le_of_ble_eq_true rfl) gX10_isWithin (Nat.le_of_ble_eq_true rfl) rfl (T_ki ?_)
  refine T.mono w (fun rr h_1 hw => ?_)
  obtain ⟨x_2, hr, w⟩ := hw
  refine ⟨x_2, hr, ?_⟩
  replace w := c_eq w
  refine T_if (tgt := 16) gX0_writeStart rfl (by decide) (fun hc => ?_) (fun hc => ?_)
  · replace w := w.1 hc
    refine T_kn (v := 0) gX0_writeStart rfl (by decide) ?_
    exact T_rz gX0_writeStart rfl rfl (Or.inl rfl) w
  · replace w := w.2 hc
    refine T_run (n := 1) (pc' := 9) (lv' := [some (tR (some a0)), some (tI x1), some (tI x2), some (tI x3), none, none]) (st' := [tI x3]) (h' := h_1) gX0_writeStart rfl ?_
    refine T_kn (v := 4) gX0_writeStart rfl (by decide) ?_
    refine T_cs (lv' := [some (tI x3), some (tI 4)]) gX0_writeStart rfl rfl rfl rfl (Nat.le_of_ble_eq_true rfl) gX10_isWithin (Nat.le_of_ble_eq_true rfl) rfl (T_ki ?_)
    refine T.mono w (fun rr h_3 hw => ?_)
    obtain ⟨x_4, hr, w⟩ := hw
    refine ⟨x_4, hr, ?_⟩
    replace w := c_ne w
    refine T_if (tgt := 18) gX0_writeStart rfl (by decide) (fun hc => ?_) (fun hc => ?_)
    · replace w := w.1 hc
      refine T_run (n := 1) (pc' := 19) (lv' := [some (tR (some a0)), some (tI x1), some (tI x2), some (tI x3), none, none]) (st' := [tI x1]) (h' := h_3) gX0_writeStart rfl ?_
      refine T_kn (v := 4) gX0_writeStart rfl (by decide) ?_
      replace w := c_ne w
      refine T_ic (tgt := 29) gX0_writeStart rfl (by decide) (fun hc => ?_) (fun hc => ?_)
      · replace w := w.1 hc
        refine T_run (n := 1) (pc' := 30) (lv' := [some (tR (some a0)), some (tI x1), some (tI x2), some (tI x3), none, none]) (st' := [tI x2]) (h' := h_3) gX0_writeStart rfl ?_
        exact w
      · replace w := w.2 hc
        refine T_run (n := 1) (pc' := 24) (lv' := [some (tR (some a0)), some (tI x1), some (tI x2), some (tI x3), none, none]) (st' := [tI x2]) (h' := h_3) gX0_writeStart rfl ?_
        refine T_kn (v := 1) gX0_writeStart rfl (by decide) ?_
        refine T_run (n := 1) (pc' := 26) (lv' := [some (tR (some a0)), some (tI x1), some (tI x2), some (tI x3), none, none]) (st' := [tI (x2 + 1)]) (h' := h_3) gX0_writeStart rfl ?_
        refine T_goto (tgt := 30) gX0_writeStart rfl (by decide) ?_
        exact w
    · replace w := w.2 hc
      refine T_kn (v := 0) gX0_writeStart rfl (by decide) ?_
      exact T_rz gX0_writeStart rfl rfl (Or.inl rfl) w
set_option maxHeartbeats 4000000 in
set_option maxRecDepth 20000 in
theorem wX0_writeStart_30 (a0 : Nat) (x1 : Int32) (x2 : Int32) (x3 : Int32) (s0 : Int32) (h : Hp) (Q : Option TV → Hp → Prop) (w :
ob h a0 0 (tX0_has a0 s0 h (rI (fun x_2 h_1 =>
(if x_2 = 0 then
Q (some (tI 0)) h_1
else
ob h_1 a0 0 (tX0_take a0 s0 h_1 (rV (fun h_3 =>
∀ h_5 a_6, h_5 = nw h_3 (.inl 4) 9 → a_6 = sz h_3 →
ob h_5 a0 0 (
ob h_5 a0 0 (
tX4_init a_6 x1 x2 x3 (gi h_5 4 a0) (gr h_5 3 a0) h_5 (rV (fun h_7 =>
ob h_7 a0 0 (tX0_append a0 x1 x2 x3 h_7 (rR (fun r_10 h_9 =>
ob h_9 a_6 4 (∀ h_11, h_11 = pr h_9 262 a_6 r_10 →
ob h_11 a_6 4 (
dr (gr h_11 262 a_6) (fun a_13 => ob h_11 a_13 3 (∀ h_12, h_12 = pr h_11 196 a_13 (some a_6) →
ob h_12 a0 0 (∀ h_14, h_14 = pr h_12 3 a0 (some a_6) →
ob h_14 a0 0 (
ob h_14 a0 0 (∀ h_15, h_15 = pi h_14 8 a0 ((gi h_14 8 a0) + 1) →
ob h_15 a0 0 (tX0_put a0 x2 h_15 (rV (fun h_16 =>
Q (some (tI 1)) h_16))))))))))))))))))))))))) : tX0_writeStart_30 a0 x1 x2 x3 s0 h Q := by
  refine T_run (n := 3) (pc' := 35) (lv' := [some (tR (some a0)), some (tI x1), some (tI x2), some (tI x3), some (tI s0), none]) (st' := [tI s0, tR (some a0)]) (h' := h) gX0_writeStart rfl ?_
  obtain ⟨ho, w⟩ := w
  refine T_cv (fun aa => [some (tR (some aa)), some (tI s0)]) gX0_writeStart rfl rfl rfl rfl (Nat.le_of_ble_eq_true rfl) gX0_has (fun _ => Nat.le_of_ble_eq_true rfl) (fun _ => rfl) ⟨a0, rfl, ho, T_ki ?_⟩
  refine T.mono w (fun rr h_1 hw => ?_)
  obtain ⟨x_2, hr, w⟩ := hw
  refine ⟨x_2, hr, ?_⟩
  replace w := c_ne w
  refine T_if (tgt := 43) gX0_writeStart rfl (by decide) (fun hc => ?_) (fun hc => ?_)
  · replace w := w.1 hc
    refine T_run (n := 2) (pc' := 46) (lv' := [some (tR (some a0)), some (tI x1), some (tI x2), some (tI x3), some (tI s0), none]) (st' := [tI s0, tR (some a0)]) (h' := h_1) gX0_writeStart rfl ?_
    obtain ⟨ho, w⟩ := w
    refine T_cv (fun aa => [some (tR (some aa)), some (tI s0)]) gX0_writeStart rfl rfl rfl rfl (Nat.le_of_ble_eq_true rfl) gX0_take (fun _ => Nat.le_of_ble_eq_true rfl) (fun _ => rfl) ⟨a0, rfl, ho, T_kv ?_⟩
    refine T.mono w (fun rr h_3 hw => ?_)
    obtain ⟨hr, w⟩ := hw
    refine ⟨hr, ?_⟩
    refine T_new gX0_writeStart rfl (fun h_5 a_6 he hz => ?_)
    replace w := w h_5 a_6 he hz
    refine T_run (n := 5) (pc' := 57) (lv' := [some (tR (some a0)), some (tI x1), some (tI x2), some (tI x3), some (tI s0), none]) (st' := [tR (some a0), tI x3, tI x2, tI x1, tR (some a_6), tR (some a_6)]) (h' := h_5) gX0_writeStart rfl ?_
    obtain ⟨ho, w⟩ := w
    refine T_gs (tI (gi h_5 4 a0)) gX0_writeStart rfl rfl ⟨ho, ?_⟩
    refine T_run (n := 1) (pc' := 61) (lv' := [some (tR (some a0)), some (tI x1), some (tI x2), some (tI x3), some (tI s0), none]) (st' := [tR (some a0), tI (gi h_5 4 a0), tI x3, tI x2, tI x1, tR (some a_6), tR (some a_6)]) (h' := h_5) gX0_writeStart rfl ?_
    obtain ⟨ho, w⟩ := w
    refine T_gs (tR (gr h_5 3 a0)) gX0_writeStart rfl rfl ⟨ho, ?_⟩
    refine T_ci (lv' := [some (tR (some a_6)), some (tI x1), some (tI x2), some (tI x3), some (tI (gi h_5 4 a0)), some (tR (gr h_5 3 a0))]) gX0_writeStart rfl rfl rfl rfl (Nat.le_of_ble_eq_true rfl) gX4_init (Nat.le_of_ble_eq_true rfl) rfl (T_kv ?_)
    refine T.mono w (fun rr h_7 hw => ?_)
    obtain ⟨hr, w⟩ := hw
    refine ⟨hr, ?_⟩
    refine T_run (n := 6) (pc' := 75) (lv' := [some (tR (some a0)), some (tI x1), some (tI x2), some (tI x3), some (tI s0), some (tR (some a_6))]) (st' := [tI x3, tI x2, tI x1, tR (some a0), tR (some a_6)]) (h' := h_7) gX0_writeStart rfl ?_
    obtain ⟨ho, w⟩ := w
    refine T_cv (fun aa => [some (tR (some aa)), some (tI x1), some (tI x2), some (tI x3)]) gX0_writeStart rfl rfl rfl rfl (Nat.le_of_ble_eq_true rfl) gX0_append (fun _ => Nat.le_of_ble_eq_true rfl) (fun _ => rfl) ⟨a0, rfl, ho, T_kr ?_⟩
    refine T.mono w (fun rr h_9 hw => ?_)
    obtain ⟨r_10, hr, w⟩ := hw
    refine ⟨r_10, hr, ?_⟩
    obtain ⟨ho, w⟩ := w
    refine T_ps (pr h_9 262 a_6 r_10) gX0_writeStart rfl rfl ⟨ho, fun h_11 he => ?_⟩
    replace w := w h_11 he
    refine T_run (n := 1) (pc' := 83) (lv' := [some (tR (some a0)), some (tI x1), some (tI x2), some (tI x3), some (tI s0), some (tR (some a_6))]) (st' := [tR (some a_6)]) (h' := h_11) gX0_writeStart rfl ?_
    obtain ⟨ho, w⟩ := w
    refine T_gs (tR (gr h_11 262 a_6)) gX0_writeStart rfl rfl ⟨ho, ?_⟩
    refine T_run (n := 1) (pc' := 88) (lv' := [some (tR (some a0)), some (tI x1), some (tI x2), some (tI x3), some (tI s0), some (tR (some a_6))]) (st' := [tR (some a_6), tR (gr h_11 262 a_6)]) (h' := h_11) gX0_writeStart rfl ?_
    obtain ⟨a_13, hr, ho, w⟩ := w
    refine T_pf (fun a_13 => pr h_11 196 a_13 (some a_6)) gX0_writeStart rfl (fun _ => rfl) ⟨a_13, hr, ho, fun h_12 he => ?_⟩
    replace w := w h_12 he
    refine T_run (n := 2) (pc' := 94) (lv' := [some (tR (some a0)), some (tI x1), some (tI x2), some (tI x3), some (tI s0), some (tR (some a_6))]) (st' := [tR (some a_6), tR (some a0)]) (h' := h_12) gX0_writeStart rfl ?_
    obtain ⟨ho, w⟩ := w
    refine T_ps (pr h_12 3 a0 (some a_6)) gX0_writeStart rfl rfl ⟨ho, fun h_14 he => ?_⟩
    replace w := w h_14 he
    refine T_run (n := 2) (pc' := 99) (lv' := [some (tR (some a0)), some (tI x1), some (tI x2), some (tI x3), some (tI s0), some (tR (some a_6))]) (st' := [tR (some a0), tR (some a0)]) (h' := h_14) gX0_writeStart rfl ?_
    obtain ⟨ho, w⟩ := w
    refine T_gs (tI (gi h_14 8 a0)) gX0_writeStart rfl rfl ⟨ho, ?_⟩
    refine T_kn (v := 1) gX0_writeStart rfl (by decide) ?_
    refine T_run (n := 1) (pc' := 104) (lv' := [some (tR (some a0)), some (tI x1), some (tI x2), some (tI x3), some (tI s0), some (tR (some a_6))]) (st' := [tI ((gi h_14 8 a0) + 1), tR (some a0)]) (h' := h_14) gX0_writeStart rfl ?_
    obtain ⟨ho, w⟩ := w
    refine T_ps (pi h_14 8 a0 ((gi h_14 8 a0) + 1)) gX0_writeStart rfl rfl ⟨ho, fun h_15 he => ?_⟩
    replace w := w h_15 he
    refine T_run (n := 2) (pc' := 109) (lv' := [some (tR (some a0)), some (tI x1), some (tI x2), some (tI x3), some (tI s0), some (tR (some a_6))]) (st' := [tI x2, tR (some a0)]) (h' := h_15) gX0_writeStart rfl ?_
    obtain ⟨ho, w⟩ := w
    refine T_cv (fun aa => [some (tR (some aa)), some (tI x2)]) gX0_writeStart rfl rfl rfl rfl (Nat.le_of_ble_eq_true rfl) gX0_put (fun _ => Nat.le_of_ble_eq_true rfl) (fun _ => rfl) ⟨a0, rfl, ho, T_kv ?_⟩
    refine T.mono w (fun rr h_16 hw => ?_)
    obtain ⟨hr, w⟩ := hw
    refine ⟨hr, ?_⟩
    refine T_kn (v := 1) gX0_writeStart rfl (by decide) ?_
    exact T_rz gX0_writeStart rfl rfl (Or.inr rfl) w
  · replace w := w.2 hc
    refine T_kn (v := 0) gX0_writeStart rfl (by decide) ?_
    exact T_rz gX0_writeStart rfl rfl (Or.inl rfl) w
set_option maxHeartbeats 4000000 in
set_option maxRecDepth 20000 in
theorem wX4_mayTurn (a0 : Nat) (h : Hp) (Q : Option TV → Hp → Prop) (w :
ob h a0 4 (
(if (gi h 256 a0) = 4 then
ob h a0 4 (
(if (gr h 263 a0) = none then
Q (some (tI 1)) h
else
Q (some (tI 0)) h))
else
Q (some (tI 0)) h))) : tX4_mayTurn a0 h Q := by
  refine T_run (n := 1) (pc' := 1) (lv' := [some (tR (some a0))]) (st' := [tR (some a0)]) (h' := h) gX4_mayTurn rfl ?_
  obtain ⟨ho, w⟩ := w
  refine T_gs (tI (gi h 256 a0)) gX4_mayTurn rfl rfl ⟨ho, ?_⟩
  refine T_kn (v := 4) gX4_mayTurn rfl (by decide) ?_
  replace w := c_ne w
  refine T_ic (tgt := 19) gX4_mayTurn rfl (by decide) (fun hc => ?_) (fun hc => ?_)
  · replace w := w.1 hc
    refine T_kn (v := 0) gX4_mayTurn rfl (by decide) ?_
    exact T_rz gX4_mayTurn rfl rfl (Or.inl rfl) w
  · replace w := w.2 hc
    refine T_run (n := 1) (pc' := 9) (lv' := [some (tR (some a0))]) (st' := [tR (some a0)]) (h' := h) gX4_mayTurn rfl ?_
    obtain ⟨ho, w⟩ := w
    refine T_gs (tR (gr h 263 a0)) gX4_mayTurn rfl rfl ⟨ho, ?_⟩
    refine T_nn2 (tgt := 19) gX4_mayTurn rfl (by decide) (fun hc => ?_) (fun hc => ?_)
    · rw [if_neg hc] at w
      refine T_kn (v := 0) gX4_mayTurn rfl (by decide) ?_
      exact T_rz gX4_mayTurn rfl rfl (Or.inl rfl) w
    · rw [if_pos hc] at w
      refine T_kn (v := 1) gX4_mayTurn rfl (by decide) ?_
      refine T_goto (tgt := 20) gX4_mayTurn rfl (by decide) ?_
      exact T_rz gX4_mayTurn rfl rfl (Or.inr rfl) w
set_option maxHeartbeats 4000000 in
set_option maxRecDepth 20000 in
theorem wX0_hasJustResults (a0 : Nat) (h : Hp) (Q : Option TV → Hp → Prop) (w :
ob h a0 0 (tX0_ownOperands a0  h (rI (fun x_2 h_1 =>
ob h_1 a0 0 (
dr (gr h_1 3 a0) (fun a_3 => ob h_1 a_3 4 (
(if x_2 = (gi h_1 258 a_3) then
Q (some (tI 1)) h_1
else
ob h_1 a0 0 (
dr (gr h_1 3 a0) (fun a_4 => ob h_1 a_4 4 (
(if (gi h_1 261 a_4) = 0 then
Q (some (tI 0)) h_1
else
ob h_1 a0 0 (
dr (gr h_1 3 a0) (fun a_5 => ob h_1 a_5 4 (
(if x_2 < (gi h_1 258 a_5) then
Q (some (tI 1)) h_1
else
Q (some (tI 0)) h_1)))))))))))))))) : tX0_hasJustResults a0 h Q := by
  refine T_run (n := 1) (pc' := 1) (lv' := [some (tR (some a0)), none]) (st' := [tR (some a0)]) (h' := h) gX0_hasJustResults rfl ?_
  obtain ⟨ho, w⟩ := w
  refine T_cv (fun aa => [some (tR (some aa))]) gX0_hasJustResults rfl rfl rfl rfl (Nat.le_of_ble_eq_true rfl) gX0_ownOperands (fun _ => Nat.le_of_ble_eq_true rfl) (fun _ => rfl) ⟨a0, rfl, ho, T_ki ?_⟩
  refine T.mono w (fun rr h_1 hw => ?_)
  obtain ⟨x_2, hr, w⟩ := hw
  refine ⟨x_2, hr, ?_⟩
  refine T_run (n := 3) (pc' := 7) (lv' := [some (tR (some a0)), some (tI x_2)]) (st' := [tR (some a0), tI x_2]) (h' := h_1) gX0_hasJustResults rfl ?_
  obtain ⟨ho, w⟩ := w
  refine T_gs (tR (gr h_1 3 a0)) gX0_hasJustResults rfl rfl ⟨ho, ?_⟩
  obtain ⟨a_3, he, ho, w⟩ := w
  refine T_gf (fun a_3 => tI (gi h_1 258 a_3)) gX0_hasJustResults rfl (fun _ => rfl) ⟨a_3, he, ho, ?_⟩
  replace w := c_eq w
  refine T_ic (tgt := 37) gX0_hasJustResults rfl (by decide) (fun hc => ?_) (fun hc => ?_)
  · replace w := w.1 hc
    refine T_kn (v := 1) gX0_hasJustResults rfl (by decide) ?_
    refine T_goto (tgt := 42) gX0_hasJustResults rfl (by decide) ?_
    exact T_rz gX0_hasJustResults rfl rfl (Or.inr rfl) w
  · replace w := w.2 hc
    refine T_run (n := 1) (pc' := 17) (lv' := [some (tR (some a0)), some (tI x_2)]) (st' := [tR (some a0)]) (h' := h_1) gX0_hasJustResults rfl ?_
    obtain ⟨ho, w⟩ := w
    refine T_gs (tR (gr h_1 3 a0)) gX0_hasJustResults rfl rfl ⟨ho, ?_⟩
    obtain ⟨a_4, he, ho, w⟩ := w
    refine T_gf (fun a_4 => tI (gi h_1 261 a_4)) gX0_hasJustResults rfl (fun _ => rfl) ⟨a_4, he, ho, ?_⟩
    replace w := c_eq w
    refine T_if (tgt := 41) gX0_hasJustResults rfl (by decide) (fun hc => ?_) (fun hc => ?_)
    · replace w := w.1 hc
      refine T_kn (v := 0) gX0_hasJustResults rfl (by decide) ?_
      exact T_rz gX0_hasJustResults rfl rfl (Or.inl rfl) w
    · replace w := w.2 hc
      refine T_run (n := 2) (pc' := 28) (lv' := [some (tR (some a0)), some (tI x_2)]) (st' := [tR (some a0), tI x_2]) (h' := h_1) gX0_hasJustResults rfl ?_
      obtain ⟨ho, w⟩ := w
      refine T_gs (tR (gr h_1 3 a0)) gX0_hasJustResults rfl rfl ⟨ho, ?_⟩
      obtain ⟨a_5, he, ho, w⟩ := w
      refine T_gf (fun a_5 => tI (gi h_1 258 a_5)) gX0_hasJustResults rfl (fun _ => rfl) ⟨a_5, he, ho, ?_⟩
      replace w := c_ge w
      refine T_ic (tgt := 41) gX0_hasJustResults rfl (by decide) (fun hc => ?_) (fun hc => ?_)
      · replace w := w.1 hc
        refine T_kn (v := 0) gX0_hasJustResults rfl (by decide) ?_
        exact T_rz gX0_hasJustResults rfl rfl (Or.inl rfl) w
      · replace w := w.2 hc
        refine T_kn (v := 1) gX0_hasJustResults rfl (by decide) ?_
        refine T_goto (tgt := 42) gX0_hasJustResults rfl (by decide) ?_
        exact T_rz gX0_hasJustResults rfl rfl (Or.inr rfl) w
set_option maxHeartbeats 4000000 in
set_option maxRecDepth 20000 in
theorem wX0_writeElse (a0 : Nat) (x1 : Int32) (x2 : Int32) (h : Hp) (Q : Option TV → Hp → Prop) (w :
ob h a0 0 (
dr (gr h 3 a0) (fun a_3 => ob h a_3 4 (tX4_mayTurn a_3  h (rI (fun x_2 h_1 =>
(if x_2 = 0 then
Q (some (tI 0)) h_1
else
ob h_1 a0 0 (tX0_hasJustResults a0  h_1 (rI (fun x_5 h_4 =>
(if x_5 = 0 then
Q (some (tI 0)) h_4
else
ob h_4 a0 0 (
ob h_4 a0 0 (tX0_append a0 5 x1 x2 h_4 (rR (fun r_7 h_6 =>
dr (gr h_4 3 a0) (fun a_9 => ob h_6 a_9 4 (∀ h_8, h_8 = pr h_6 263 a_9 r_7 →
ob h_8 a0 0 (
dr (gr h_8 3 a0) (fun a_10 => ob h_8 a_10 4 (
ob h_8 a0 0 (
dr (gr h_8 263 a_10) (fun a_12 => ob h_8 a_12 3 (∀ h_11, h_11 = pr h_8 196 a_12 (gr h_8 3 a0) →
ob h_11 a0 0 (
dr (gr h_11 3 a0) (fun a_14 => ob h_11 a_14 4 (∀ h_13, h_13 = pi h_11 261 a_14 0 →
ob h_13 a0 0 (
dr (gr h_13 3 a0) (fun a_15 => ob h_13 a_15 4 (
ob h_13 a0 0 (∀ h_16, h_16 = pi h_13 4 a0 (gi h_13 259 a_15) →
ob h_16 a0 0 (
dr (gr h_16 3 a0) (fun a_17 => ob h_16 a_17 4 (
ob h_16 a0 0 (tX0_put a0 (gi h_16 257 a_17) h_16 (rV (fun h_18 =>
Q (some (tI 1)) h_18)))))))))))))))))))))))))))))))))))) : tX0_writeElse a0 x1 x2 h Q := by
  refine T_run (n := 1) (pc' := 1) (lv' := [some (tR (some a0)), some (tI x1), some (tI x2)]) (st' := [tR (some a0)]) (h' := h) gX0_writeElse rfl ?_
  obtain ⟨ho, w⟩ := w
  refine T_gs (tR (gr h 3 a0)) gX0_writeElse rfl rfl ⟨ho, ?_⟩
  obtain ⟨a_3, hr, ho, w⟩ := w
  refine T_cv (fun aa => [some (tR (some aa))]) gX0_writeElse rfl rfl rfl rfl (Nat.le_of_ble_eq_true rfl) gX4_mayTurn (fun _ => Nat.le_of_ble_eq_true rfl) (fun _ => rfl) ⟨a_3, hr, ho, T_ki ?_⟩
  refine T.mono w (fun rr h_1 hw => ?_)
  obtain ⟨x_2, hr, w⟩ := hw
  refine ⟨x_2, hr, ?_⟩
  replace w := c_eq w
  refine T_if (tgt := 17) gX0_writeElse rfl (by decide) (fun hc => ?_) (fun hc => ?_)
  · replace w := w.1 hc
    refine T_kn (v := 0) gX0_writeElse rfl (by decide) ?_
    exact T_rz gX0_writeElse rfl rfl (Or.inl rfl) w
  · replace w := w.2 hc
    refine T_run (n := 1) (pc' := 11) (lv' := [some (tR (some a0)), some (tI x1), some (tI x2)]) (st' := [tR (some a0)]) (h' := h_1) gX0_writeElse rfl ?_
    obtain ⟨ho, w⟩ := w
    refine T_cv (fun aa => [some (tR (some aa)), none]) gX0_writeElse rfl rfl rfl rfl (Nat.le_of_ble_eq_true rfl) gX0_hasJustResults (fun _ => Nat.le_of_ble_eq_true rfl) (fun _ => rfl) ⟨a0, rfl, ho, T_ki ?_⟩
    refine T.mono w (fun rr h_4 hw => ?_)
    obtain ⟨x_5, hr, w⟩ := hw
    refine ⟨x_5, hr, ?_⟩
    replace w := c_ne w
    refine T_if (tgt := 19) gX0_writeElse rfl (by decide) (fun hc => ?_) (fun hc => ?_)
    · replace w := w.1 hc
      refine T_run (n := 1) (pc' := 20) (lv' := [some (tR (some a0)), some (tI x1), some (tI x2)]) (st' := [tR (some a0)]) (h' := h_4) gX0_writeElse rfl ?_
      obtain ⟨ho, w⟩ := w
      refine T_gs (tR (gr h_4 3 a0)) gX0_writeElse rfl rfl ⟨ho, ?_⟩
      refine T_run (n := 1) (pc' := 24) (lv' := [some (tR (some a0)), some (tI x1), some (tI x2)]) (st' := [tR (some a0), tR (gr h_4 3 a0)]) (h' := h_4) gX0_writeElse rfl ?_
      refine T_kn (v := 5) gX0_writeElse rfl (by decide) ?_
      refine T_run (n := 2) (pc' := 27) (lv' := [some (tR (some a0)), some (tI x1), some (tI x2)]) (st' := [tI x2, tI x1, tI 5, tR (some a0), tR (gr h_4 3 a0)]) (h' := h_4) gX0_writeElse rfl ?_
      obtain ⟨ho, w⟩ := w
      refine T_cv (fun aa => [some (tR (some aa)), some (tI 5), some (tI x1), some (tI x2)]) gX0_writeElse rfl rfl rfl rfl (Nat.le_of_ble_eq_true rfl) gX0_append (fun _ => Nat.le_of_ble_eq_true rfl) (fun _ => rfl) ⟨a0, rfl, ho, T_kr ?_⟩
      refine T.mono w (fun rr h_6 hw => ?_)
      obtain ⟨r_7, hr, w⟩ := hw
      refine ⟨r_7, hr, ?_⟩
      obtain ⟨a_9, hr, ho, w⟩ := w
      refine T_pf (fun a_9 => pr h_6 263 a_9 r_7) gX0_writeElse rfl (fun _ => rfl) ⟨a_9, hr, ho, fun h_8 he => ?_⟩
      replace w := w h_8 he
      refine T_run (n := 1) (pc' := 34) (lv' := [some (tR (some a0)), some (tI x1), some (tI x2)]) (st' := [tR (some a0)]) (h' := h_8) gX0_writeElse rfl ?_
      obtain ⟨ho, w⟩ := w
      refine T_gs (tR (gr h_8 3 a0)) gX0_writeElse rfl rfl ⟨ho, ?_⟩
      obtain ⟨a_10, he, ho, w⟩ := w
      refine T_gf (fun a_10 => tR (gr h_8 263 a_10)) gX0_writeElse rfl (fun _ => rfl) ⟨a_10, he, ho, ?_⟩
      refine T_run (n := 1) (pc' := 41) (lv' := [some (tR (some a0)), some (tI x1), some (tI x2)]) (st' := [tR (some a0), tR (gr h_8 263 a_10)]) (h' := h_8) gX0_writeElse rfl ?_
      obtain ⟨ho, w⟩ := w
      refine T_gs (tR (gr h_8 3 a0)) gX0_writeElse rfl rfl ⟨ho, ?_⟩
      obtain ⟨a_12, hr, ho, w⟩ := w
      refine T_pf (fun a_12 => pr h_8 196 a_12 (gr h_8 3 a0)) gX0_writeElse rfl (fun _ => rfl) ⟨a_12, hr, ho, fun h_11 he => ?_⟩
      replace w := w h_11 he
      refine T_run (n := 1) (pc' := 48) (lv' := [some (tR (some a0)), some (tI x1), some (tI x2)]) (st' := [tR (some a0)]) (h' := h_11) gX0_writeElse rfl ?_
      obtain ⟨ho, w⟩ := w
      refine T_gs (tR (gr h_11 3 a0)) gX0_writeElse rfl rfl ⟨ho, ?_⟩
      refine T_kn (v := 0) gX0_writeElse rfl (by decide) ?_
      obtain ⟨a_14, hr, ho, w⟩ := w
      refine T_pf (fun a_14 => pi h_11 261 a_14 0) gX0_writeElse rfl (fun _ => (putZ (Or.inl rfl))) ⟨a_14, hr, ho, fun h_13 he => ?_⟩
      replace w := w h_13 he
      refine T_run (n := 2) (pc' := 57) (lv' := [some (tR (some a0)), some (tI x1), some (tI x2)]) (st' := [tR (some a0), tR (some a0)]) (h' := h_13) gX0_writeElse rfl ?_
      obtain ⟨ho, w⟩ := w
      refine T_gs (tR (gr h_13 3 a0)) gX0_writeElse rfl rfl ⟨ho, ?_⟩
      obtain ⟨a_15, he, ho, w⟩ := w
      refine T_gf (fun a_15 => tI (gi h_13 259 a_15)) gX0_writeElse rfl (fun _ => rfl) ⟨a_15, he, ho, ?_⟩
      obtain ⟨ho, w⟩ := w
      refine T_ps (pi h_13 4 a0 (gi h_13 259 a_15)) gX0_writeElse rfl rfl ⟨ho, fun h_16 he => ?_⟩
      replace w := w h_16 he
      refine T_run (n := 2) (pc' := 68) (lv' := [some (tR (some a0)), some (tI x1), some (tI x2)]) (st' := [tR (some a0), tR (some a0)]) (h' := h_16) gX0_writeElse rfl ?_
      obtain ⟨ho, w⟩ := w
      refine T_gs (tR (gr h_16 3 a0)) gX0_writeElse rfl rfl ⟨ho, ?_⟩
      obtain ⟨a_17, he, ho, w⟩ := w
      refine T_gf (fun a_17 => tI (gi h_16 257 a_17)) gX0_writeElse rfl (fun _ => rfl) ⟨a_17, he, ho, ?_⟩
      obtain ⟨ho, w⟩ := w
      refine T_cv (fun aa => [some (tR (some aa)), some (tI (gi h_16 257 a_17))]) gX0_writeElse rfl rfl rfl rfl (Nat.le_of_ble_eq_true rfl) gX0_put (fun _ => Nat.le_of_ble_eq_true rfl) (fun _ => rfl) ⟨a0, rfl, ho, T_kv ?_⟩
      refine T.mono w (fun rr h_18 hw => ?_)
      obtain ⟨hr, w⟩ := hw
      refine ⟨hr, ?_⟩
      refine T_kn (v := 1) gX0_writeElse rfl (by decide) ?_
      exact T_rz gX0_writeElse rfl rfl (Or.inr rfl) w
    · replace w := w.2 hc
      refine T_kn (v := 0) gX0_writeElse rfl (by decide) ?_
      exact T_rz gX0_writeElse rfl rfl (Or.inl rfl) w
set_option maxHeartbeats 4000000 in
set_option maxRecDepth 20000 in
theorem wX0_labelAt (a0 : Nat) (x1 : Int32) (h : Hp) (Q : Option TV → Hp → Prop) (w :
(if x1 < 0 then
Q (some (tR none)) h
else
ob h a0 0 (
(if x1 < (gi h 8 a0) then
ob h a0 0 (
tX0_labelAt_21 a0 x1 (gr h 3 a0) 0 h Q)
else
Q (some (tR none)) h)))) : tX0_labelAt a0 x1 h Q := by
  refine T_run (n := 1) (pc' := 1) (lv' := [some (tR (some a0)), some (tI x1), none, none]) (st' := [tI x1]) (h' := h) gX0_labelAt rfl ?_
  replace w := c_lt w
  refine T_if (tgt := 12) gX0_labelAt rfl (by decide) (fun hc => ?_) (fun hc => ?_)
  · replace w := w.1 hc
    refine T_run (n := 1) (pc' := 13) (lv' := [some (tR (some a0)), some (tI x1), none, none]) (st' := [tR none]) (h' := h) gX0_labelAt rfl ?_
    exact T_ra gX0_labelAt rfl rfl w
  · replace w := w.2 hc
    refine T_run (n := 2) (pc' := 6) (lv' := [some (tR (some a0)), some (tI x1), none, none]) (st' := [tR (some a0), tI x1]) (h' := h) gX0_labelAt rfl ?_
    obtain ⟨ho, w⟩ := w
    refine T_gs (tI (gi h 8 a0)) gX0_labelAt rfl rfl ⟨ho, ?_⟩
    replace w := c_lt w
    refine T_ic (tgt := 14) gX0_labelAt rfl (by decide) (fun hc => ?_) (fun hc => ?_)
    · replace w := w.1 hc
      refine T_run (n := 1) (pc' := 15) (lv' := [some (tR (some a0)), some (tI x1), none, none]) (st' := [tR (some a0)]) (h' := h) gX0_labelAt rfl ?_
      obtain ⟨ho, w⟩ := w
      refine T_gs (tR (gr h 3 a0)) gX0_labelAt rfl rfl ⟨ho, ?_⟩
      refine T_run (n := 1) (pc' := 19) (lv' := [some (tR (some a0)), some (tI x1), some (tR (gr h 3 a0)), none]) (st' := []) (h' := h) gX0_labelAt rfl ?_
      refine T_kn (v := 0) gX0_labelAt rfl (by decide) ?_
      refine T_run (n := 1) (pc' := 21) (lv' := [some (tR (some a0)), some (tI x1), some (tR (gr h 3 a0)), some (tI 0)]) (st' := []) (h' := h) gX0_labelAt rfl ?_
      exact w
    · replace w := w.2 hc
      refine T_run (n := 1) (pc' := 13) (lv' := [some (tR (some a0)), some (tI x1), none, none]) (st' := [tR none]) (h' := h) gX0_labelAt rfl ?_
      exact T_ra gX0_labelAt rfl rfl w
set_option maxHeartbeats 4000000 in
set_option maxRecDepth 20000 in
theorem wX0_labelAt_21 (a0 : Nat) (x1 : Int32) (r2 : Option Nat) (x3 : Int32) (h : Hp) (Q : Option TV → Hp → Prop) (w :
(if x3 < x1 then
(if r2 = none then
Q (some (tR r2)) h
else
dr r2 (fun a_1 => ob h a_1 4 (
tX0_labelAt_21 a0 x1 (gr h 260 a_1) (x3 + 1) h Q)))
else
Q (some (tR r2)) h)) : tX0_labelAt_21 a0 x1 r2 x3 h Q := by
  refine T_run (n := 2) (pc' := 23) (lv' := [some (tR (some a0)), some (tI x1), some (tR r2), some (tI x3)]) (st' := [tI x1, tI x3]) (h' := h) gX0_labelAt rfl ?_
  replace w := c_ge w
  refine T_ic (tgt := 41) gX0_labelAt rfl (by decide) (fun hc => ?_) (fun hc => ?_)
  · replace w := w.1 hc
    refine T_run (n := 1) (pc' := 42) (lv' := [some (tR (some a0)), some (tI x1), some (tR r2), some (tI x3)]) (st' := [tR r2]) (h' := h) gX0_labelAt rfl ?_
    exact T_ra gX0_labelAt rfl rfl w
  · replace w := w.2 hc
    refine T_run (n := 1) (pc' := 27) (lv' := [some (tR (some a0)), some (tI x1), some (tR r2), some (tI x3)]) (st' := [tR r2]) (h' := h) gX0_labelAt rfl ?_
    refine T_nu2 (tgt := 41) gX0_labelAt rfl (by decide) (fun hc => ?_) (fun hc => ?_)
    · rw [if_pos hc] at w
      refine T_run (n := 1) (pc' := 42) (lv' := [some (tR (some a0)), some (tI x1), some (tR r2), some (tI x3)]) (st' := [tR r2]) (h' := h) gX0_labelAt rfl ?_
      exact T_ra gX0_labelAt rfl rfl w
    · rw [if_neg hc] at w
      refine T_run (n := 1) (pc' := 31) (lv' := [some (tR (some a0)), some (tI x1), some (tR r2), some (tI x3)]) (st' := [tR r2]) (h' := h) gX0_labelAt rfl ?_
      obtain ⟨a_1, he, ho, w⟩ := w
      refine T_gf (fun a_1 => tR (gr h 260 a_1)) gX0_labelAt rfl (fun _ => rfl) ⟨a_1, he, ho, ?_⟩
      refine T_run (n := 1) (pc' := 35) (lv' := [some (tR (some a0)), some (tI x1), some (tR (gr h 260 a_1)), some (tI x3)]) (st' := []) (h' := h) gX0_labelAt rfl ?_
      refine T_inc (x := x3) (c := 1) (lv' := [some (tR (some a0)), some (tI x1), some (tR (gr h 260 a_1)), some (tI (x3 + 1))]) gX0_labelAt rfl rfl (by decide) rfl ?_
      refine T_goto (tgt := 21) gX0_labelAt rfl (by decide) ?_
      exact w
set_option maxHeartbeats 4000000 in
set_option maxRecDepth 20000 in
theorem wX4_wanted (a0 : Nat) (h : Hp) (Q : Option TV → Hp → Prop) (w :
ob h a0 4 (
(if (gi h 256 a0) = 3 then
ob h a0 4 (
Q (some (tI (gi h 257 a0))) h)
else
ob h a0 4 (
Q (some (tI (gi h 258 a0))) h)))) : tX4_wanted a0 h Q := by
  refine T_run (n := 1) (pc' := 1) (lv' := [some (tR (some a0))]) (st' := [tR (some a0)]) (h' := h) gX4_wanted rfl ?_
  obtain ⟨ho, w⟩ := w
  refine T_gs (tI (gi h 256 a0)) gX4_wanted rfl rfl ⟨ho, ?_⟩
  refine T_kn (v := 3) gX4_wanted rfl (by decide) ?_
  replace w := c_ne w
  refine T_ic (tgt := 15) gX4_wanted rfl (by decide) (fun hc => ?_) (fun hc => ?_)
  · replace w := w.1 hc
    refine T_run (n := 1) (pc' := 16) (lv' := [some (tR (some a0))]) (st' := [tR (some a0)]) (h' := h) gX4_wanted rfl ?_
    obtain ⟨ho, w⟩ := w
    refine T_gs (tI (gi h 258 a0)) gX4_wanted rfl rfl ⟨ho, ?_⟩
    exact T_ri gX4_wanted rfl rfl w
  · replace w := w.2 hc
    refine T_run (n := 1) (pc' := 9) (lv' := [some (tR (some a0))]) (st' := [tR (some a0)]) (h' := h) gX4_wanted rfl ?_
    obtain ⟨ho, w⟩ := w
    refine T_gs (tI (gi h 257 a0)) gX4_wanted rfl rfl ⟨ho, ?_⟩
    refine T_goto (tgt := 19) gX4_wanted rfl (by decide) ?_
    exact T_ri gX4_wanted rfl rfl w
set_option maxHeartbeats 4000000 in
set_option maxRecDepth 20000 in
theorem wX0_writeEntry (a0 : Nat) (x1 : Int32) (x2 : Int32) (h : Hp) (Q : Option TV → Hp → Prop) (w :
ob h a0 0 (tX0_labelAt a0 x1 h (rR (fun r_2 h_1 =>
ob h_1 a0 0 (
(if 0 < (gi h_1 5 a0) then
(if r_2 = none then
Q (some (tI 0)) h_1
else
dr r_2 (fun a_5 => ob h_1 a_5 4 (tX4_wanted a_5  h_1 (rI (fun x_4 h_3 =>
ob h_3 a0 0 (tX0_has a0 x_4 h_3 (rI (fun x_7 h_6 =>
(if x_7 = 0 then
Q (some (tI 0)) h_6
else
ob h_6 a0 0 (
(if (gi h_6 6 a0) < 0 then
tX0_writeEntry_50 a0 x1 x2 r_2 h_6 Q
else
dr r_2 (fun a_10 => ob h_6 a_10 4 (tX4_wanted a_10  h_6 (rI (fun x_9 h_8 =>
ob h_8 a0 0 (
(if x_9 = (gi h_8 6 a0) then
tX0_writeEntry_50 a0 x1 x2 r_2 h_8 Q
else
Q (some (tI 0)) h_8)))))))))))))))))
else
Q (some (tI 0)) h_1)))))) : tX0_writeEntry a0 x1 x2 h Q := by
  refine T_run (n := 2) (pc' := 2) (lv' := [some (tR (some a0)), some (tI x1), some (tI x2), none]) (st' := [tI x1, tR (some a0)]) (h' := h) gX0_writeEntry rfl ?_
  obtain ⟨ho, w⟩ := w
  refine T_cv (fun aa => [some (tR (some aa)), some (tI x1), none, none]) gX0_writeEntry rfl rfl rfl rfl (Nat.le_of_ble_eq_true rfl) gX0_labelAt (fun _ => Nat.le_of_ble_eq_true rfl) (fun _ => rfl) ⟨a0, rfl, ho, T_kr ?_⟩
  refine T.mono w (fun rr h_1 hw => ?_)
  obtain ⟨r_2, hr, w⟩ := hw
  refine ⟨r_2, hr, ?_⟩
  refine T_run (n := 2) (pc' := 7) (lv' := [some (tR (some a0)), some (tI x1), some (tI x2), some (tR r_2)]) (st' := [tR (some a0)]) (h' := h_1) gX0_writeEntry rfl ?_
  obtain ⟨ho, w⟩ := w
  refine T_gs (tI (gi h_1 5 a0)) gX0_writeEntry rfl rfl ⟨ho, ?_⟩
  replace w := c_le w
  refine T_if (tgt := 28) gX0_writeEntry rfl (by decide) (fun hc => ?_) (fun hc => ?_)
  · replace w := w.1 hc
    refine T_kn (v := 0) gX0_writeEntry rfl (by decide) ?_
    exact T_rz gX0_writeEntry rfl rfl (Or.inl rfl) w
  · replace w := w.2 hc
    refine T_run (n := 1) (pc' := 14) (lv' := [some (tR (some a0)), some (tI x1), some (tI x2), some (tR r_2)]) (st' := [tR r_2]) (h' := h_1) gX0_writeEntry rfl ?_
    refine T_nu2 (tgt := 28) gX0_writeEntry rfl (by decide) (fun hc => ?_) (fun hc => ?_)
    · rw [if_pos hc] at w
      refine T_kn (v := 0) gX0_writeEntry rfl (by decide) ?_
      exact T_rz gX0_writeEntry rfl rfl (Or.inl rfl) w
    · rw [if_neg hc] at w
      refine T_run (n := 2) (pc' := 19) (lv' := [some (tR (some a0)), some (tI x1), some (tI x2), some (tR r_2)]) (st' := [tR r_2, tR (some a0)]) (h' := h_1) gX0_writeEntry rfl ?_
      obtain ⟨a_5, hr, ho, w⟩ := w
      refine T_cv (fun aa => [some (tR (some aa))]) gX0_writeEntry rfl rfl rfl rfl (Nat.le_of_ble_eq_true rfl) gX4_wanted (fun _ => Nat.le_of_ble_eq_true rfl) (fun _ => rfl) ⟨a_5, hr, ho, T_ki ?_⟩
      refine T.mono w (fun rr h_3 hw => ?_)
      obtain ⟨x_4, hr, w⟩ := hw
      refine ⟨x_4, hr, ?_⟩
      obtain ⟨ho, w⟩ := w
      refine T_cv (fun aa => [some (tR (some aa)), some (tI x_4)]) gX0_writeEntry rfl rfl rfl rfl (Nat.le_of_ble_eq_true rfl) gX0_has (fun _ => Nat.le_of_ble_eq_true rfl) (fun _ => rfl) ⟨a0, rfl, ho, T_ki ?_⟩
      refine T.mono w (fun rr h_6 hw => ?_)
      obtain ⟨x_7, hr, w⟩ := hw
      refine ⟨x_7, hr, ?_⟩
      replace w := c_ne w
      refine T_if (tgt := 30) gX0_writeEntry rfl (by decide) (fun hc => ?_) (fun hc => ?_)
      · replace w := w.1 hc
        refine T_run (n := 1) (pc' := 31) (lv' := [some (tR (some a0)), some (tI x1), some (tI x2), some (tR r_2)]) (st' := [tR (some a0)]) (h' := h_6) gX0_writeEntry rfl ?_
        obtain ⟨ho, w⟩ := w
        refine T_gs (tI (gi h_6 6 a0)) gX0_writeEntry rfl rfl ⟨ho, ?_⟩
        replace w := c_lt w
        refine T_if (tgt := 50) gX0_writeEntry rfl (by decide) (fun hc => ?_) (fun hc => ?_)
        · replace w := w.1 hc
          exact w
        · replace w := w.2 hc
          refine T_run (n := 1) (pc' := 38) (lv' := [some (tR (some a0)), some (tI x1), some (tI x2), some (tR r_2)]) (st' := [tR r_2]) (h' := h_6) gX0_writeEntry rfl ?_
          obtain ⟨a_10, hr, ho, w⟩ := w
          refine T_cv (fun aa => [some (tR (some aa))]) gX0_writeEntry rfl rfl rfl rfl (Nat.le_of_ble_eq_true rfl) gX4_wanted (fun _ => Nat.le_of_ble_eq_true rfl) (fun _ => rfl) ⟨a_10, hr, ho, T_ki ?_⟩
          refine T.mono w (fun rr h_8 hw => ?_)
          obtain ⟨x_9, hr, w⟩ := hw
          refine ⟨x_9, hr, ?_⟩
          refine T_run (n := 1) (pc' := 42) (lv' := [some (tR (some a0)), some (tI x1), some (tI x2), some (tR r_2)]) (st' := [tR (some a0), tI x_9]) (h' := h_8) gX0_writeEntry rfl ?_
          obtain ⟨ho, w⟩ := w
          refine T_gs (tI (gi h_8 6 a0)) gX0_writeEntry rfl rfl ⟨ho, ?_⟩
          replace w := c_eq w
          refine T_ic (tgt := 50) gX0_writeEntry rfl (by decide) (fun hc => ?_) (fun hc => ?_)
          · replace w := w.1 hc
            exact w
          · replace w := w.2 hc
            refine T_kn (v := 0) gX0_writeEntry rfl (by decide) ?_
            exact T_rz gX0_writeEntry rfl rfl (Or.inl rfl) w
      · replace w := w.2 hc
        refine T_kn (v := 0) gX0_writeEntry rfl (by decide) ?_
        exact T_rz gX0_writeEntry rfl rfl (Or.inl rfl) w
set_option maxHeartbeats 4000000 in
set_option maxRecDepth 20000 in
theorem wX0_writeEntry_50 (a0 : Nat) (x1 : Int32) (x2 : Int32) (r3 : Option Nat) (h : Hp) (Q : Option TV → Hp → Prop) (w :
ob h a0 0 (tX0_append a0 6 x1 x2 h (rR (fun r_2 h_1 =>
dr r_2 (fun a_4 => ob h_1 a_4 3 (∀ h_3, h_3 = pr h_1 196 a_4 r3 →
dr r3 (fun a_7 => ob h_3 a_7 4 (tX4_wanted a_7  h_3 (rI (fun x_6 h_5 =>
ob h_5 a0 0 (∀ h_8, h_8 = pi h_5 6 a0 x_6 →
ob h_8 a0 0 (
ob h_8 a0 0 (∀ h_9, h_9 = pi h_8 5 a0 ((gi h_8 5 a0) - 1) →
ob h_9 a0 0 (
(if (gi h_9 5 a0) = 0 then
ob h_9 a0 0 (tX0_die a0  h_9 (rV (fun h_10 =>
Q (some (tI 1)) h_10)))
else
Q (some (tI 1)) h_9))))))))))))))) : tX0_writeEntry_50 a0 x1 x2 r3 h Q := by
  refine T_run (n := 1) (pc' := 51) (lv' := [some (tR (some a0)), some (tI x1), some (tI x2), some (tR r3)]) (st' := [tR (some a0)]) (h' := h) gX0_writeEntry rfl ?_
  refine T_kb (v := 6) gX0_writeEntry rfl (by decide) ?_
  refine T_run (n := 2) (pc' := 55) (lv' := [some (tR (some a0)), some (tI x1), some (tI x2), some (tR r3)]) (st' := [tI x2, tI x1, tI 6, tR (some a0)]) (h' := h) gX0_writeEntry rfl ?_
  obtain ⟨ho, w⟩ := w
  refine T_cv (fun aa => [some (tR (some aa)), some (tI 6), some (tI x1), some (tI x2)]) gX0_writeEntry rfl rfl rfl rfl (Nat.le_of_ble_eq_true rfl) gX0_append (fun _ => Nat.le_of_ble_eq_true rfl) (fun _ => rfl) ⟨a0, rfl, ho, T_kr ?_⟩
  refine T.mono w (fun rr h_1 hw => ?_)
  obtain ⟨r_2, hr, w⟩ := hw
  refine ⟨r_2, hr, ?_⟩
  refine T_run (n := 1) (pc' := 59) (lv' := [some (tR (some a0)), some (tI x1), some (tI x2), some (tR r3)]) (st' := [tR r3, tR r_2]) (h' := h_1) gX0_writeEntry rfl ?_
  obtain ⟨a_4, hr, ho, w⟩ := w
  refine T_pf (fun a_4 => pr h_1 196 a_4 r3) gX0_writeEntry rfl (fun _ => rfl) ⟨a_4, hr, ho, fun h_3 he => ?_⟩
  replace w := w h_3 he
  refine T_run (n := 2) (pc' := 64) (lv' := [some (tR (some a0)), some (tI x1), some (tI x2), some (tR r3)]) (st' := [tR r3, tR (some a0)]) (h' := h_3) gX0_writeEntry rfl ?_
  obtain ⟨a_7, hr, ho, w⟩ := w
  refine T_cv (fun aa => [some (tR (some aa))]) gX0_writeEntry rfl rfl rfl rfl (Nat.le_of_ble_eq_true rfl) gX4_wanted (fun _ => Nat.le_of_ble_eq_true rfl) (fun _ => rfl) ⟨a_7, hr, ho, T_ki ?_⟩
  refine T.mono w (fun rr h_5 hw => ?_)
  obtain ⟨x_6, hr, w⟩ := hw
  refine ⟨x_6, hr, ?_⟩
  obtain ⟨ho, w⟩ := w
  refine T_ps (pi h_5 6 a0 x_6) gX0_writeEntry rfl rfl ⟨ho, fun h_8 he => ?_⟩
  replace w := w h_8 he
  refine T_run (n := 2) (pc' := 72) (lv' := [some (tR (some a0)), some (tI x1), some (tI x2), some (tR r3)]) (st' := [tR (some a0), tR (some a0)]) (h' := h_8) gX0_writeEntry rfl ?_
  obtain ⟨ho, w⟩ := w
  refine T_gs (tI (gi h_8 5 a0)) gX0_writeEntry rfl rfl ⟨ho, ?_⟩
  refine T_kn (v := 1) gX0_writeEntry rfl (by decide) ?_
  refine T_run (n := 1) (pc' := 77) (lv' := [some (tR (some a0)), some (tI x1), some (tI x2), some (tR r3)]) (st' := [tI ((gi h_8 5 a0) - 1), tR (some a0)]) (h' := h_8) gX0_writeEntry rfl ?_
  obtain ⟨ho, w⟩ := w
  refine T_ps (pi h_8 5 a0 ((gi h_8 5 a0) - 1)) gX0_writeEntry rfl rfl ⟨ho, fun h_9 he => ?_⟩
  replace w := w h_9 he
  refine T_run (n := 1) (pc' := 81) (lv' := [some (tR (some a0)), some (tI x1), some (tI x2), some (tR r3)]) (st' := [tR (some a0)]) (h' := h_9) gX0_writeEntry rfl ?_
  obtain ⟨ho, w⟩ := w
  refine T_gs (tI (gi h_9 5 a0)) gX0_writeEntry rfl rfl ⟨ho, ?_⟩
  replace w := c_ne w
  refine T_if (tgt := 91) gX0_writeEntry rfl (by decide) (fun hc => ?_) (fun hc => ?_)
  · replace w := w.1 hc
    refine T_kn (v := 1) gX0_writeEntry rfl (by decide) ?_
    exact T_rz gX0_writeEntry rfl rfl (Or.inr rfl) w
  · replace w := w.2 hc
    refine T_run (n := 1) (pc' := 88) (lv' := [some (tR (some a0)), some (tI x1), some (tI x2), some (tR r3)]) (st' := [tR (some a0)]) (h' := h_9) gX0_writeEntry rfl ?_
    obtain ⟨ho, w⟩ := w
    refine T_cv (fun aa => [some (tR (some aa))]) gX0_writeEntry rfl rfl rfl rfl (Nat.le_of_ble_eq_true rfl) gX0_die (fun _ => Nat.le_of_ble_eq_true rfl) (fun _ => rfl) ⟨a0, rfl, ho, T_kv ?_⟩
    refine T.mono w (fun rr h_10 hw => ?_)
    obtain ⟨hr, w⟩ := hw
    refine ⟨hr, ?_⟩
    refine T_kn (v := 1) gX0_writeEntry rfl (by decide) ?_
    exact T_rz gX0_writeEntry rfl rfl (Or.inr rfl) w
set_option maxHeartbeats 4000000 in
set_option maxRecDepth 20000 in
theorem wX4_stepBehind (a0 : Nat) (h : Hp) (Q : Option TV → Hp → Prop) (w :
ob h a0 4 (
(if (gr h 264 a0) = none then
Q (some (tR none)) h
else
ob h a0 4 (
dr (gr h 264 a0) (fun a_1 => ob h a_1 3 (
Q (some (tR (gr h 198 a_1))) h)))))) : tX4_stepBehind a0 h Q := by
  refine T_run (n := 1) (pc' := 1) (lv' := [some (tR (some a0))]) (st' := [tR (some a0)]) (h' := h) gX4_stepBehind rfl ?_
  obtain ⟨ho, w⟩ := w
  refine T_gs (tR (gr h 264 a0)) gX4_stepBehind rfl rfl ⟨ho, ?_⟩
  refine T_nn2 (tgt := 11) gX4_stepBehind rfl (by decide) (fun hc => ?_) (fun hc => ?_)
  · rw [if_neg hc] at w
    refine T_run (n := 1) (pc' := 12) (lv' := [some (tR (some a0))]) (st' := [tR (some a0)]) (h' := h) gX4_stepBehind rfl ?_
    obtain ⟨ho, w⟩ := w
    refine T_gs (tR (gr h 264 a0)) gX4_stepBehind rfl rfl ⟨ho, ?_⟩
    obtain ⟨a_1, he, ho, w⟩ := w
    refine T_gf (fun a_1 => tR (gr h 198 a_1)) gX4_stepBehind rfl (fun _ => rfl) ⟨a_1, he, ho, ?_⟩
    exact T_ra gX4_stepBehind rfl rfl w
  · rw [if_pos hc] at w
    refine T_run (n := 1) (pc' := 8) (lv' := [some (tR (some a0))]) (st' := [tR none]) (h' := h) gX4_stepBehind rfl ?_
    refine T_goto (tgt := 18) gX4_stepBehind rfl (by decide) ?_
    exact T_ra gX4_stepBehind rfl rfl w
set_option maxHeartbeats 4000000 in
set_option maxRecDepth 20000 in
theorem wX3_settled (a0 : Nat) (h : Hp) (Q : Option TV → Hp → Prop) (w :
ob h a0 3 (
(if (gi h 192 a0) = 2 then
ob h a0 3 (
Q (some (tR (gr h 198 a0))) h)
else
(if (gi h 192 a0) = 3 then
ob h a0 3 (
Q (some (tR (gr h 198 a0))) h)
else
(if (gi h 192 a0) = 5 then
ob h a0 3 (
(if (gr h 196 a0) = none then
Q (some (tR none)) h
else
ob h a0 3 (
dr (gr h 196 a0) (fun a_3 => ob h a_3 4 (tX4_stepBehind a_3  h (rR (fun r_2 h_1 =>
Q (some (tR r_2)) h_1)))))))
else
(if (gi h 192 a0) = 11 then
ob h a0 3 (
Q (some (tR (gr h 198 a0))) h)
else
Q (some (tR (some a0))) h)))))) : tX3_settled a0 h Q := by
  refine T_run (n := 1) (pc' := 1) (lv' := [some (tR (some a0))]) (st' := [tR (some a0)]) (h' := h) gX3_settled rfl ?_
  obtain ⟨ho, w⟩ := w
  refine T_gs (tI (gi h 192 a0)) gX3_settled rfl rfl ⟨ho, ?_⟩
  refine T_tsw (dt := 84) (cs := [(2, 60), (3, 60), (5, 65), (11, 60)]) gX3_settled rfl (by decide) ?_
  refine sw_cons (fun hc => ?_) (fun hc => ?_)
  · rw [if_pos hc] at w
    refine T_run (n := 1) (pc' := 61) (lv' := [some (tR (some a0))]) (st' := [tR (some a0)]) (h' := h) gX3_settled rfl ?_
    obtain ⟨ho, w⟩ := w
    refine T_gs (tR (gr h 198 a0)) gX3_settled rfl rfl ⟨ho, ?_⟩
    exact T_ra gX3_settled rfl rfl w
  rw [if_neg hc] at w
  refine sw_cons (fun hc => ?_) (fun hc => ?_)
  · rw [if_pos hc] at w
    refine T_run (n := 1) (pc' := 61) (lv' := [some (tR (some a0))]) (st' := [tR (some a0)]) (h' := h) gX3_settled rfl ?_
    obtain ⟨ho, w⟩ := w
    refine T_gs (tR (gr h 198 a0)) gX3_settled rfl rfl ⟨ho, ?_⟩
    exact T_ra gX3_settled rfl rfl w
  rw [if_neg hc] at w
  refine sw_cons (fun hc => ?_) (fun hc => ?_)
  · rw [if_pos hc] at w
    refine T_run (n := 1) (pc' := 66) (lv' := [some (tR (some a0))]) (st' := [tR (some a0)]) (h' := h) gX3_settled rfl ?_
    obtain ⟨ho, w⟩ := w
    refine T_gs (tR (gr h 196 a0)) gX3_settled rfl rfl ⟨ho, ?_⟩
    refine T_nn2 (tgt := 76) gX3_settled rfl (by decide) (fun hc => ?_) (fun hc => ?_)
    · rw [if_neg hc] at w
      refine T_run (n := 1) (pc' := 77) (lv' := [some (tR (some a0))]) (st' := [tR (some a0)]) (h' := h) gX3_settled rfl ?_
      obtain ⟨ho, w⟩ := w
      refine T_gs (tR (gr h 196 a0)) gX3_settled rfl rfl ⟨ho, ?_⟩
      obtain ⟨a_3, hr, ho, w⟩ := w
      refine T_cv (fun aa => [some (tR (some aa))]) gX3_settled rfl rfl rfl rfl (Nat.le_of_ble_eq_true rfl) gX4_stepBehind (fun _ => Nat.le_of_ble_eq_true rfl) (fun _ => rfl) ⟨a_3, hr, ho, T_kr ?_⟩
      refine T.mono w (fun rr h_1 hw => ?_)
      obtain ⟨r_2, hr, w⟩ := hw
      refine ⟨r_2, hr, ?_⟩
      exact T_ra gX3_settled rfl rfl w
    · rw [if_pos hc] at w
      refine T_run (n := 1) (pc' := 73) (lv' := [some (tR (some a0))]) (st' := [tR none]) (h' := h) gX3_settled rfl ?_
      refine T_goto (tgt := 83) gX3_settled rfl (by decide) ?_
      exact T_ra gX3_settled rfl rfl w
  rw [if_neg hc] at w
  refine sw_cons (fun hc => ?_) (fun hc => ?_)
  · rw [if_pos hc] at w
    refine T_run (n := 1) (pc' := 61) (lv' := [some (tR (some a0))]) (st' := [tR (some a0)]) (h' := h) gX3_settled rfl ?_
    obtain ⟨ho, w⟩ := w
    refine T_gs (tR (gr h 198 a0)) gX3_settled rfl rfl ⟨ho, ?_⟩
    exact T_ra gX3_settled rfl rfl w
  rw [if_neg hc] at w
  refine T_run (n := 1) (pc' := 85) (lv' := [some (tR (some a0))]) (st' := [tR (some a0)]) (h' := h) gX3_settled rfl ?_
  exact T_ra gX3_settled rfl rfl w
set_option maxHeartbeats 4000000 in
set_option maxRecDepth 20000 in
theorem wX4_stepOtherwise (a0 : Nat) (h : Hp) (Q : Option TV → Hp → Prop) (w :
ob h a0 4 (
(if (gr h 263 a0) = none then
ob h a0 4 (tX4_stepBehind a0  h (rR (fun r_3 h_2 =>
Q (some (tR r_3)) h_2)))
else
ob h a0 4 (
dr (gr h 263 a0) (fun a_1 => ob h a_1 3 (
Q (some (tR (gr h 198 a_1))) h)))))) : tX4_stepOtherwise a0 h Q := by
  refine T_run (n := 1) (pc' := 1) (lv' := [some (tR (some a0))]) (st' := [tR (some a0)]) (h' := h) gX4_stepOtherwise rfl ?_
  obtain ⟨ho, w⟩ := w
  refine T_gs (tR (gr h 263 a0)) gX4_stepOtherwise rfl rfl ⟨ho, ?_⟩
  refine T_nn2 (tgt := 14) gX4_stepOtherwise rfl (by decide) (fun hc => ?_) (fun hc => ?_)
  · rw [if_neg hc] at w
    refine T_run (n := 1) (pc' := 15) (lv' := [some (tR (some a0))]) (st' := [tR (some a0)]) (h' := h) gX4_stepOtherwise rfl ?_
    obtain ⟨ho, w⟩ := w
    refine T_gs (tR (gr h 263 a0)) gX4_stepOtherwise rfl rfl ⟨ho, ?_⟩
    obtain ⟨a_1, he, ho, w⟩ := w
    refine T_gf (fun a_1 => tR (gr h 198 a_1)) gX4_stepOtherwise rfl (fun _ => rfl) ⟨a_1, he, ho, ?_⟩
    exact T_ra gX4_stepOtherwise rfl rfl w
  · rw [if_pos hc] at w
    refine T_run (n := 1) (pc' := 8) (lv' := [some (tR (some a0))]) (st' := [tR (some a0)]) (h' := h) gX4_stepOtherwise rfl ?_
    obtain ⟨ho, w⟩ := w
    refine T_cv (fun aa => [some (tR (some aa))]) gX4_stepOtherwise rfl rfl rfl rfl (Nat.le_of_ble_eq_true rfl) gX4_stepBehind (fun _ => Nat.le_of_ble_eq_true rfl) (fun _ => rfl) ⟨a0, rfl, ho, T_kr ?_⟩
    refine T.mono w (fun rr h_2 hw => ?_)
    obtain ⟨r_3, hr, w⟩ := hw
    refine ⟨r_3, hr, ?_⟩
    refine T_goto (tgt := 21) gX4_stepOtherwise rfl (by decide) ?_
    exact T_ra gX4_stepOtherwise rfl rfl w
set_option maxHeartbeats 4000000 in
set_option maxRecDepth 20000 in
theorem wX4_stepOfBranch (a0 : Nat) (h : Hp) (Q : Option TV → Hp → Prop) (w :
ob h a0 4 (
(if (gi h 256 a0) = 3 then
ob h a0 4 (
(if (gr h 262 a0) = none then
tX4_stepOfBranch_25 a0 h Q
else
ob h a0 4 (
dr (gr h 262 a0) (fun a_1 => ob h a_1 3 (
Q (some (tR (gr h 198 a_1))) h)))))
else
tX4_stepOfBranch_25 a0 h Q))) : tX4_stepOfBranch a0 h Q := by
  refine T_run (n := 1) (pc' := 1) (lv' := [some (tR (some a0))]) (st' := [tR (some a0)]) (h' := h) gX4_stepOfBranch rfl ?_
  obtain ⟨ho, w⟩ := w
  refine T_gs (tI (gi h 256 a0)) gX4_stepOfBranch rfl rfl ⟨ho, ?_⟩
  refine T_kn (v := 3) gX4_stepOfBranch rfl (by decide) ?_
  replace w := c_ne w
  refine T_ic (tgt := 25) gX4_stepOfBranch rfl (by decide) (fun hc => ?_) (fun hc => ?_)
  · replace w := w.1 hc
    exact w
  · replace w := w.2 hc
    refine T_run (n := 1) (pc' := 9) (lv' := [some (tR (some a0))]) (st' := [tR (some a0)]) (h' := h) gX4_stepOfBranch rfl ?_
    obtain ⟨ho, w⟩ := w
    refine T_gs (tR (gr h 262 a0)) gX4_stepOfBranch rfl rfl ⟨ho, ?_⟩
    refine T_nu2 (tgt := 25) gX4_stepOfBranch rfl (by decide) (fun hc => ?_) (fun hc => ?_)
    · rw [if_pos hc] at w
      exact w
    · rw [if_neg hc] at w
      refine T_run (n := 1) (pc' := 16) (lv' := [some (tR (some a0))]) (st' := [tR (some a0)]) (h' := h) gX4_stepOfBranch rfl ?_
      obtain ⟨ho, w⟩ := w
      refine T_gs (tR (gr h 262 a0)) gX4_stepOfBranch rfl rfl ⟨ho, ?_⟩
      obtain ⟨a_1, he, ho, w⟩ := w
      refine T_gf (fun a_1 => tR (gr h 198 a_1)) gX4_stepOfBranch rfl (fun _ => rfl) ⟨a_1, he, ho, ?_⟩
      refine T_goto (tgt := 29) gX4_stepOfBranch rfl (by decide) ?_
      exact T_ra gX4_stepOfBranch rfl rfl w
set_option maxHeartbeats 4000000 in
set_option maxRecDepth 20000 in
theorem wX4_stepOfBranch_25 (a0 : Nat) (h : Hp) (Q : Option TV → Hp → Prop) (w :
ob h a0 4 (tX4_stepBehind a0  h (rR (fun r_2 h_1 =>
Q (some (tR r_2)) h_1)))) : tX4_stepOfBranch_25 a0 h Q := by
  refine T_run (n := 1) (pc' := 26) (lv' := [some (tR (some a0))]) (st' := [tR (some a0)]) (h' := h) gX4_stepOfBranch rfl ?_
  obtain ⟨ho, w⟩ := w
  refine T_cv (fun aa => [some (tR (some aa))]) gX4_stepOfBranch rfl rfl rfl rfl (Nat.le_of_ble_eq_true rfl) gX4_stepBehind (fun _ => Nat.le_of_ble_eq_true rfl) (fun _ => rfl) ⟨a0, rfl, ho, T_kr ?_⟩
  refine T.mono w (fun rr h_1 hw => ?_)
  obtain ⟨r_2, hr, w⟩ := hw
  refine ⟨r_2, hr, ?_⟩
  exact T_ra gX4_stepOfBranch rfl rfl w
set_option maxHeartbeats 4000000 in
set_option maxRecDepth 20000 in
theorem wX3_aim (a0 : Nat) (h : Hp) (Q : Option TV → Hp → Prop) (w :
ob h a0 3 (
(if (gr h 196 a0) = none then
Q none h
else
ob h a0 3 (
(if (gi h 192 a0) = 4 then
ob h a0 3 (
dr (gr h 196 a0) (fun a_6 => ob h a_6 4 (tX4_stepOtherwise a_6  h (rR (fun r_5 h_4 =>
tX3_aim_34 a0 r_5 (some a0) h_4 Q)))))
else
ob h a0 3 (
dr (gr h 196 a0) (fun a_3 => ob h a_3 4 (tX4_stepOfBranch a_3  h (rR (fun r_2 h_1 =>
tX3_aim_34 a0 r_2 (some a0) h_1 Q)))))))))) : tX3_aim a0 h Q := by
  refine T_run (n := 1) (pc' := 1) (lv' := [some (tR (some a0))]) (st' := [tR (some a0)]) (h' := h) gX3_aim rfl ?_
  obtain ⟨ho, w⟩ := w
  refine T_gs (tR (gr h 196 a0)) gX3_aim rfl rfl ⟨ho, ?_⟩
  refine T_nn2 (tgt := 8) gX3_aim rfl (by decide) (fun hc => ?_) (fun hc => ?_)
  · rw [if_neg hc] at w
    refine T_run (n := 2) (pc' := 10) (lv' := [some (tR (some a0))]) (st' := [tR (some a0), tR (some a0)]) (h' := h) gX3_aim rfl ?_
    obtain ⟨ho, w⟩ := w
    refine T_gs (tI (gi h 192 a0)) gX3_aim rfl rfl ⟨ho, ?_⟩
    refine T_kn (v := 4) gX3_aim rfl (by decide) ?_
    replace w := c_ne w
    refine T_ic (tgt := 27) gX3_aim rfl (by decide) (fun hc => ?_) (fun hc => ?_)
    · replace w := w.1 hc
      refine T_run (n := 1) (pc' := 28) (lv' := [some (tR (some a0))]) (st' := [tR (some a0), tR (some a0)]) (h' := h) gX3_aim rfl ?_
      obtain ⟨ho, w⟩ := w
      refine T_gs (tR (gr h 196 a0)) gX3_aim rfl rfl ⟨ho, ?_⟩
      obtain ⟨a_3, hr, ho, w⟩ := w
      refine T_cv (fun aa => [some (tR (some aa))]) gX3_aim rfl rfl rfl rfl (Nat.le_of_ble_eq_true rfl) gX4_stepOfBranch (fun _ => Nat.le_of_ble_eq_true rfl) (fun _ => rfl) ⟨a_3, hr, ho, T_kr ?_⟩
      refine T.mono w (fun rr h_1 hw => ?_)
      obtain ⟨r_2, hr, w⟩ := hw
      refine ⟨r_2, hr, ?_⟩
      exact w
    · replace w := w.2 hc
      refine T_run (n := 1) (pc' := 18) (lv' := [some (tR (some a0))]) (st' := [tR (some a0), tR (some a0)]) (h' := h) gX3_aim rfl ?_
      obtain ⟨ho, w⟩ := w
      refine T_gs (tR (gr h 196 a0)) gX3_aim rfl rfl ⟨ho, ?_⟩
      obtain ⟨a_6, hr, ho, w⟩ := w
      refine T_cv (fun aa => [some (tR (some aa))]) gX3_aim rfl rfl rfl rfl (Nat.le_of_ble_eq_true rfl) gX4_stepOtherwise (fun _ => Nat.le_of_ble_eq_true rfl) (fun _ => rfl) ⟨a_6, hr, ho, T_kr ?_⟩
      refine T.mono w (fun rr h_4 hw => ?_)
      obtain ⟨r_5, hr, w⟩ := hw
      refine ⟨r_5, hr, ?_⟩
      refine T_goto (tgt := 34) gX3_aim rfl (by decide) ?_
      exact w
  · rw [if_pos hc] at w
    exact T_rv gX3_aim rfl rfl w
set_option maxHeartbeats 4000000 in
set_option maxRecDepth 20000 in
theorem wX3_aim_34 (a0 : Nat) (s0 : Option Nat) (s1 : Option Nat) (h : Hp) (Q : Option TV → Hp → Prop) (w :
dr s1 (fun a_2 => ob h a_2 3 (∀ h_1, h_1 = pr h 199 a_2 s0 →
ob h_1 a0 3 (
dr (gr h_1 196 a0) (fun a_5 => ob h_1 a_5 4 (tX4_wanted a_5  h_1 (rI (fun x_4 h_3 =>
ob h_3 a0 3 (∀ h_6, h_6 = pi h_3 200 a0 x_4 →
ob h_6 a0 3 (
dr (gr h_6 196 a0) (fun a_7 => ob h_6 a_7 4 (
ob h_6 a0 3 (∀ h_8, h_8 = pi h_6 201 a0 (gi h_6 259 a_7) →
Q none h_8))))))))))))) : tX3_aim_34 a0 s0 s1 h Q := by
  obtain ⟨a_2, hr, ho, w⟩ := w
  refine T_pf (fun a_2 => pr h 199 a_2 s0) gX3_aim rfl (fun _ => rfl) ⟨a_2, hr, ho, fun h_1 he => ?_⟩
  replace w := w h_1 he
  refine T_run (n := 2) (pc' := 39) (lv' := [some (tR (some a0))]) (st' := [tR (some a0), tR (some a0)]) (h' := h_1) gX3_aim rfl ?_
  obtain ⟨ho, w⟩ := w
  refine T_gs (tR (gr h_1 196 a0)) gX3_aim rfl rfl ⟨ho, ?_⟩
  obtain ⟨a_5, hr, ho, w⟩ := w
  refine T_cv (fun aa => [some (tR (some aa))]) gX3_aim rfl rfl rfl rfl (Nat.le_of_ble_eq_true rfl) gX4_wanted (fun _ => Nat.le_of_ble_eq_true rfl) (fun _ => rfl) ⟨a_5, hr, ho, T_ki ?_⟩
  refine T.mono w (fun rr h_3 hw => ?_)
  obtain ⟨x_4, hr, w⟩ := hw
  refine ⟨x_4, hr, ?_⟩
  obtain ⟨ho, w⟩ := w
  refine T_ps (pi h_3 200 a0 x_4) gX3_aim rfl rfl ⟨ho, fun h_6 he => ?_⟩
  replace w := w h_6 he
  refine T_run (n := 2) (pc' := 50) (lv' := [some (tR (some a0))]) (st' := [tR (some a0), tR (some a0)]) (h' := h_6) gX3_aim rfl ?_
  obtain ⟨ho, w⟩ := w
  refine T_gs (tR (gr h_6 196 a0)) gX3_aim rfl rfl ⟨ho, ?_⟩
  obtain ⟨a_7, he, ho, w⟩ := w
  refine T_gf (fun a_7 => tI (gi h_6 259 a_7)) gX3_aim rfl (fun _ => rfl) ⟨a_7, he, ho, ?_⟩
  obtain ⟨ho, w⟩ := w
  refine T_ps (pi h_6 201 a0 (gi h_6 259 a_7)) gX3_aim rfl rfl ⟨ho, fun h_8 he => ?_⟩
  replace w := w h_8 he
  exact T_rv gX3_aim rfl rfl w
set_option maxHeartbeats 4000000 in
set_option maxRecDepth 20000 in
theorem wX0_flatten (a0 : Nat) (h : Hp) (Q : Option TV → Hp → Prop) (w :
ob h a0 0 (
tX0_flatten_7 a0 none (gr h 2 a0) h Q)) : tX0_flatten a0 h Q := by
  refine T_run (n := 3) (pc' := 3) (lv' := [some (tR (some a0)), some (tR none), none]) (st' := [tR (some a0)]) (h' := h) gX0_flatten rfl ?_
  obtain ⟨ho, w⟩ := w
  refine T_gs (tR (gr h 2 a0)) gX0_flatten rfl rfl ⟨ho, ?_⟩
  refine T_run (n := 1) (pc' := 7) (lv' := [some (tR (some a0)), some (tR none), some (tR (gr h 2 a0))]) (st' := []) (h' := h) gX0_flatten rfl ?_
  exact w
set_option maxHeartbeats 4000000 in
set_option maxRecDepth 20000 in
theorem wX0_flatten_7 (a0 : Nat) (r1 : Option Nat) (r2 : Option Nat) (h : Hp) (Q : Option TV → Hp → Prop) (w :
(if r2 = none then
ob h a0 0 (
tX0_flatten_42 a0 r1 (gr h 2 a0) h Q)
else
(if r1 = none then
tX0_flatten_24 a0 r2 none r2 h Q
else
dr r1 (fun a_3 => ob h a_3 3 (tX3_settled a_3  h (rR (fun r_2 h_1 =>
tX0_flatten_24 a0 r2 r_2 r2 h_1 Q))))))) : tX0_flatten_7 a0 r1 r2 h Q := by
  refine T_run (n := 1) (pc' := 8) (lv' := [some (tR (some a0)), some (tR r1), some (tR r2)]) (st' := [tR r2]) (h' := h) gX0_flatten rfl ?_
  refine T_nu2 (tgt := 37) gX0_flatten rfl (by decide) (fun hc => ?_) (fun hc => ?_)
  · rw [if_pos hc] at w
    refine T_run (n := 1) (pc' := 38) (lv' := [some (tR (some a0)), some (tR r1), some (tR r2)]) (st' := [tR (some a0)]) (h' := h) gX0_flatten rfl ?_
    obtain ⟨ho, w⟩ := w
    refine T_gs (tR (gr h 2 a0)) gX0_flatten rfl rfl ⟨ho, ?_⟩
    refine T_run (n := 1) (pc' := 42) (lv' := [some (tR (some a0)), some (tR r1), some (tR (gr h 2 a0))]) (st' := []) (h' := h) gX0_flatten rfl ?_
    exact w
  · rw [if_neg hc] at w
    refine T_run (n := 2) (pc' := 13) (lv' := [some (tR (some a0)), some (tR r1), some (tR r2)]) (st' := [tR r1, tR r2]) (h' := h) gX0_flatten rfl ?_
    refine T_nn2 (tgt := 20) gX0_flatten rfl (by decide) (fun hc => ?_) (fun hc => ?_)
    · rw [if_neg hc] at w
      refine T_run (n := 1) (pc' := 21) (lv' := [some (tR (some a0)), some (tR r1), some (tR r2)]) (st' := [tR r1, tR r2]) (h' := h) gX0_flatten rfl ?_
      obtain ⟨a_3, hr, ho, w⟩ := w
      refine T_cv (fun aa => [some (tR (some aa))]) gX0_flatten rfl rfl rfl rfl (Nat.le_of_ble_eq_true rfl) gX3_settled (fun _ => Nat.le_of_ble_eq_true rfl) (fun _ => rfl) ⟨a_3, hr, ho, T_kr ?_⟩
      refine T.mono w (fun rr h_1 hw => ?_)
      obtain ⟨r_2, hr, w⟩ := hw
      refine ⟨r_2, hr, ?_⟩
      exact T_wk w (leE (leN (leE le0)))
    · rw [if_pos hc] at w
      refine T_run (n := 1) (pc' := 17) (lv' := [some (tR (some a0)), some (tR r1), some (tR r2)]) (st' := [tR none, tR r2]) (h' := h) gX0_flatten rfl ?_
      refine T_goto (tgt := 24) gX0_flatten rfl (by decide) ?_
      exact T_wk w (leE (leN (leE le0)))
set_option maxHeartbeats 4000000 in
set_option maxRecDepth 20000 in
theorem wX0_flatten_24 (a0 : Nat) (r2 : Option Nat) (s0 : Option Nat) (s1 : Option Nat) (h : Hp) (Q : Option TV → Hp → Prop) (w :
dr s1 (fun a_2 => ob h a_2 3 (∀ h_1, h_1 = pr h 198 a_2 s0 →
dr r2 (fun a_3 => ob h_1 a_3 3 (
tX0_flatten_7 a0 r2 (gr h_1 195 a_3) h_1 Q))))) : tX0_flatten_24 a0 r2 s0 s1 h Q := by
  obtain ⟨a_2, hr, ho, w⟩ := w
  refine T_pf (fun a_2 => pr h 198 a_2 s0) gX0_flatten rfl (fun _ => rfl) ⟨a_2, hr, ho, fun h_1 he => ?_⟩
  replace w := w h_1 he
  refine T_run (n := 3) (pc' := 30) (lv' := [some (tR (some a0)), some (tR r2), some (tR r2)]) (st' := [tR r2]) (h' := h_1) gX0_flatten rfl ?_
  obtain ⟨a_3, he, ho, w⟩ := w
  refine T_gf (fun a_3 => tR (gr h_1 195 a_3)) gX0_flatten rfl (fun _ => rfl) ⟨a_3, he, ho, ?_⟩
  refine T_run (n := 1) (pc' := 34) (lv' := [some (tR (some a0)), some (tR r2), some (tR (gr h_1 195 a_3))]) (st' := []) (h' := h_1) gX0_flatten rfl ?_
  refine T_goto (tgt := 7) gX0_flatten rfl (by decide) ?_
  exact w
set_option maxHeartbeats 4000000 in
set_option maxRecDepth 20000 in
theorem wX0_flatten_42 (a0 : Nat) (r1 : Option Nat) (r2 : Option Nat) (h : Hp) (Q : Option TV → Hp → Prop) (w :
(if r2 = none then
ob h a0 0 (
(if r1 = none then
dr (gr h 1 a0) (fun a_9 => ob h a_9 2 (∀ h_8, h_8 = pr h 134 a_9 none →
ob h_8 a0 0 (
dr (gr h_8 1 a0) (fun a_11 => ob h_8 a_11 2 (∀ h_10, h_10 = pi h_8 132 a_11 1 →
Q none h_10)))))
else
dr r1 (fun a_3 => ob h a_3 3 (tX3_settled a_3  h (rR (fun r_2 h_1 =>
dr (gr h 1 a0) (fun a_5 => ob h_1 a_5 2 (∀ h_4, h_4 = pr h_1 134 a_5 r_2 →
ob h_4 a0 0 (
dr (gr h_4 1 a0) (fun a_7 => ob h_4 a_7 2 (∀ h_6, h_6 = pi h_4 132 a_7 1 →
Q none h_6)))))))))))
else
dr r2 (fun a_14 => ob h a_14 3 (tX3_aim a_14  h (rV (fun h_12 =>
dr r2 (fun a_15 => ob h_12 a_15 3 (
tX0_flatten_42 a0 r1 (gr h_12 195 a_15) h_12 Q)))))))) : tX0_flatten_42 a0 r1 r2 h Q := by
  refine T_run (n := 1) (pc' := 43) (lv' := [some (tR (some a0)), some (tR r1), some (tR r2)]) (st' := [tR r2]) (h' := h) gX0_flatten rfl ?_
  refine T_nu2 (tgt := 58) gX0_flatten rfl (by decide) (fun hc => ?_) (fun hc => ?_)
  · rw [if_pos hc] at w
    refine T_run (n := 1) (pc' := 59) (lv' := [some (tR (some a0)), some (tR r1), some (tR r2)]) (st' := [tR (some a0)]) (h' := h) gX0_flatten rfl ?_
    obtain ⟨ho, w⟩ := w
    refine T_gs (tR (gr h 1 a0)) gX0_flatten rfl rfl ⟨ho, ?_⟩
    refine T_run (n := 1) (pc' := 63) (lv' := [some (tR (some a0)), some (tR r1), some (tR r2)]) (st' := [tR r1, tR (gr h 1 a0)]) (h' := h) gX0_flatten rfl ?_
    refine T_nn2 (tgt := 70) gX0_flatten rfl (by decide) (fun hc => ?_) (fun hc => ?_)
    · rw [if_neg hc] at w
      refine T_run (n := 1) (pc' := 71) (lv' := [some (tR (some a0)), some (tR r1), some (tR r2)]) (st' := [tR r1, tR (gr h 1 a0)]) (h' := h) gX0_flatten rfl ?_
      obtain ⟨a_3, hr, ho, w⟩ := w
      refine T_cv (fun aa => [some (tR (some aa))]) gX0_flatten rfl rfl rfl rfl (Nat.le_of_ble_eq_true rfl) gX3_settled (fun _ => Nat.le_of_ble_eq_true rfl) (fun _ => rfl) ⟨a_3, hr, ho, T_kr ?_⟩
      refine T.mono w (fun rr h_1 hw => ?_)
      obtain ⟨r_2, hr, w⟩ := hw
      refine ⟨r_2, hr, ?_⟩
      obtain ⟨a_5, hr, ho, w⟩ := w
      refine T_pf (fun a_5 => pr h_1 134 a_5 r_2) gX0_flatten rfl (fun _ => rfl) ⟨a_5, hr, ho, fun h_4 he => ?_⟩
      replace w := w h_4 he
      refine T_run (n := 1) (pc' := 78) (lv' := [some (tR (some a0)), some (tR r1), some (tR r2)]) (st' := [tR (some a0)]) (h' := h_4) gX0_flatten rfl ?_
      obtain ⟨ho, w⟩ := w
      refine T_gs (tR (gr h_4 1 a0)) gX0_flatten rfl rfl ⟨ho, ?_⟩
      refine T_kn (v := 1) gX0_flatten rfl (by decide) ?_
      obtain ⟨a_7, hr, ho, w⟩ := w
      refine T_pf (fun a_7 => pi h_4 132 a_7 1) gX0_flatten rfl (fun _ => (putZ (Or.inr rfl))) ⟨a_7, hr, ho, fun h_6 he => ?_⟩
      replace w := w h_6 he
      exact T_rv gX0_flatten rfl rfl w
    · rw [if_pos hc] at w
      refine T_run (n := 1) (pc' := 67) (lv' := [some (tR (some a0)), some (tR r1), some (tR r2)]) (st' := [tR none, tR (gr h 1 a0)]) (h' := h) gX0_flatten rfl ?_
      refine T_goto (tgt := 74) gX0_flatten rfl (by decide) ?_
      obtain ⟨a_9, hr, ho, w⟩ := w
      refine T_pf (fun a_9 => pr h 134 a_9 none) gX0_flatten rfl (fun _ => rfl) ⟨a_9, hr, ho, fun h_8 he => ?_⟩
      replace w := w h_8 he
      refine T_run (n := 1) (pc' := 78) (lv' := [some (tR (some a0)), some (tR r1), some (tR r2)]) (st' := [tR (some a0)]) (h' := h_8) gX0_flatten rfl ?_
      obtain ⟨ho, w⟩ := w
      refine T_gs (tR (gr h_8 1 a0)) gX0_flatten rfl rfl ⟨ho, ?_⟩
      refine T_kn (v := 1) gX0_flatten rfl (by decide) ?_
      obtain ⟨a_11, hr, ho, w⟩ := w
      refine T_pf (fun a_11 => pi h_8 132 a_11 1) gX0_flatten rfl (fun _ => (putZ (Or.inr rfl))) ⟨a_11, hr, ho, fun h_10 he => ?_⟩
      replace w := w h_10 he
      exact T_rv gX0_flatten rfl rfl w
  · rw [if_neg hc] at w
    refine T_run (n := 1) (pc' := 47) (lv' := [some (tR (some a0)), some (tR r1), some (tR r2)]) (st' := [tR r2]) (h' := h) gX0_flatten rfl ?_
    obtain ⟨a_14, hr, ho, w⟩ := w
    refine T_cv (fun aa => [some (tR (some aa))]) gX0_flatten rfl rfl rfl rfl (Nat.le_of_ble_eq_true rfl) gX3_aim (fun _ => Nat.le_of_ble_eq_true rfl) (fun _ => rfl) ⟨a_14, hr, ho, T_kv ?_⟩
    refine T.mono w (fun rr h_12 hw => ?_)
    obtain ⟨hr, w⟩ := hw
    refine ⟨hr, ?_⟩
    refine T_run (n := 1) (pc' := 51) (lv' := [some (tR (some a0)), some (tR r1), some (tR r2)]) (st' := [tR r2]) (h' := h_12) gX0_flatten rfl ?_
    obtain ⟨a_15, he, ho, w⟩ := w
    refine T_gf (fun a_15 => tR (gr h_12 195 a_15)) gX0_flatten rfl (fun _ => rfl) ⟨a_15, he, ho, ?_⟩
    refine T_run (n := 1) (pc' := 55) (lv' := [some (tR (some a0)), some (tR r1), some (tR (gr h_12 195 a_15))]) (st' := []) (h' := h_12) gX0_flatten rfl ?_
    refine T_goto (tgt := 42) gX0_flatten rfl (by decide) ?_
    exact w
set_option maxHeartbeats 4000000 in
set_option maxRecDepth 20000 in
theorem wX0_writeEnd (a0 : Nat) (x1 : Int32) (x2 : Int32) (h : Hp) (Q : Option TV → Hp → Prop) (w :
ob h a0 0 (tX0_hasJustResults a0  h (rI (fun x_2 h_1 =>
(if x_2 = 0 then
Q (some (tI 0)) h_1
else
ob h_1 a0 0 (
dr (gr h_1 3 a0) (fun a_5 => ob h_1 a_5 4 (tX4_mayTurn a_5  h_1 (rI (fun x_4 h_3 =>
(if x_4 = 0 then
tX0_writeEnd_38 a0 x1 x2 h_3 Q
else
ob h_3 a0 0 (
dr (gr h_3 3 a0) (fun a_6 => ob h_3 a_6 4 (
ob h_3 a0 0 (
dr (gr h_3 3 a0) (fun a_7 => ob h_3 a_7 4 (
(if (gi h_3 257 a_6) = (gi h_3 258 a_7) then
tX0_writeEnd_38 a0 x1 x2 h_3 Q
else
Q (some (tI 0)) h_3)))))))))))))))))) : tX0_writeEnd a0 x1 x2 h Q := by
  refine T_run (n := 1) (pc' := 1) (lv' := [some (tR (some a0)), some (tI x1), some (tI x2), none]) (st' := [tR (some a0)]) (h' := h) gX0_writeEnd rfl ?_
  obtain ⟨ho, w⟩ := w
  refine T_cv (fun aa => [some (tR (some aa)), none]) gX0_writeEnd rfl rfl rfl rfl (Nat.le_of_ble_eq_true rfl) gX0_hasJustResults (fun _ => Nat.le_of_ble_eq_true rfl) (fun _ => rfl) ⟨a0, rfl, ho, T_ki ?_⟩
  refine T.mono w (fun rr h_1 hw => ?_)
  obtain ⟨x_2, hr, w⟩ := hw
  refine ⟨x_2, hr, ?_⟩
  replace w := c_ne w
  refine T_if (tgt := 9) gX0_writeEnd rfl (by decide) (fun hc => ?_) (fun hc => ?_)
  · replace w := w.1 hc
    refine T_run (n := 1) (pc' := 10) (lv' := [some (tR (some a0)), some (tI x1), some (tI x2), none]) (st' := [tR (some a0)]) (h' := h_1) gX0_writeEnd rfl ?_
    obtain ⟨ho, w⟩ := w
    refine T_gs (tR (gr h_1 3 a0)) gX0_writeEnd rfl rfl ⟨ho, ?_⟩
    obtain ⟨a_5, hr, ho, w⟩ := w
    refine T_cv (fun aa => [some (tR (some aa))]) gX0_writeEnd rfl rfl rfl rfl (Nat.le_of_ble_eq_true rfl) gX4_mayTurn (fun _ => Nat.le_of_ble_eq_true rfl) (fun _ => rfl) ⟨a_5, hr, ho, T_ki ?_⟩
    refine T.mono w (fun rr h_3 hw => ?_)
    obtain ⟨x_4, hr, w⟩ := hw
    refine ⟨x_4, hr, ?_⟩
    replace w := c_eq w
    refine T_if (tgt := 38) gX0_writeEnd rfl (by decide) (fun hc => ?_) (fun hc => ?_)
    · replace w := w.1 hc
      exact w
    · replace w := w.2 hc
      refine T_run (n := 1) (pc' := 20) (lv' := [some (tR (some a0)), some (tI x1), some (tI x2), none]) (st' := [tR (some a0)]) (h' := h_3) gX0_writeEnd rfl ?_
      obtain ⟨ho, w⟩ := w
      refine T_gs (tR (gr h_3 3 a0)) gX0_writeEnd rfl rfl ⟨ho, ?_⟩
      obtain ⟨a_6, he, ho, w⟩ := w
      refine T_gf (fun a_6 => tI (gi h_3 257 a_6)) gX0_writeEnd rfl (fun _ => rfl) ⟨a_6, he, ho, ?_⟩
      refine T_run (n := 1) (pc' := 27) (lv' := [some (tR (some a0)), some (tI x1), some (tI x2), none]) (st' := [tR (some a0), tI (gi h_3 257 a_6)]) (h' := h_3) gX0_writeEnd rfl ?_
      obtain ⟨ho, w⟩ := w
      refine T_gs (tR (gr h_3 3 a0)) gX0_writeEnd rfl rfl ⟨ho, ?_⟩
      obtain ⟨a_7, he, ho, w⟩ := w
      refine T_gf (fun a_7 => tI (gi h_3 258 a_7)) gX0_writeEnd rfl (fun _ => rfl) ⟨a_7, he, ho, ?_⟩
      replace w := c_eq w
      refine T_ic (tgt := 38) gX0_writeEnd rfl (by decide) (fun hc => ?_) (fun hc => ?_)
      · replace w := w.1 hc
        exact w
      · replace w := w.2 hc
        refine T_kn (v := 0) gX0_writeEnd rfl (by decide) ?_
        exact T_rz gX0_writeEnd rfl rfl (Or.inl rfl) w
  · replace w := w.2 hc
    refine T_kn (v := 0) gX0_writeEnd rfl (by decide) ?_
    exact T_rz gX0_writeEnd rfl rfl (Or.inl rfl) w
set_option maxHeartbeats 4000000 in
set_option maxRecDepth 20000 in
theorem wX0_writeEnd_38 (a0 : Nat) (x1 : Int32) (x2 : Int32) (h : Hp) (Q : Option TV → Hp → Prop) (w :
ob h a0 0 (
ob h a0 0 (tX0_append a0 11 x1 x2 h (rR (fun r_2 h_1 =>
dr (gr h 3 a0) (fun a_4 => ob h_1 a_4 4 (∀ h_3, h_3 = pr h_1 264 a_4 r_2 →
dr (gr h 3 a0) (fun a_5 => ob h_3 a_5 4 (
ob h_3 a0 0 (∀ h_6, h_6 = pi h_3 4 a0 (gi h_3 259 a_5) →
dr (gr h 3 a0) (fun a_7 => ob h_6 a_7 4 (
ob h_6 a0 0 (∀ h_8, h_8 = pr h_6 3 a0 (gr h_6 260 a_7) →
ob h_8 a0 0 (
ob h_8 a0 0 (∀ h_9, h_9 = pi h_8 8 a0 ((gi h_8 8 a0) - 1) →
ob h_9 a0 0 (
(if (gr h_9 3 a0) = none then
ob h_9 a0 0 (tX0_flatten a0  h_9 (rV (fun h_13 =>
Q (some (tI 1)) h_13)))
else
dr (gr h 3 a0) (fun a_10 => ob h_9 a_10 4 (
ob h_9 a0 0 (tX0_put a0 (gi h_9 258 a_10) h_9 (rV (fun h_11 =>
Q (some (tI 1)) h_11)))))))))))))))))))))) : tX0_writeEnd_38 a0 x1 x2 h Q := by
  refine T_run (n := 1) (pc' := 39) (lv' := [some (tR (some a0)), some (tI x1), some (tI x2), none]) (st' := [tR (some a0)]) (h' := h) gX0_writeEnd rfl ?_
  obtain ⟨ho, w⟩ := w
  refine T_gs (tR (gr h 3 a0)) gX0_writeEnd rfl rfl ⟨ho, ?_⟩
  refine T_run (n := 3) (pc' := 45) (lv' := [some (tR (some a0)), some (tI x1), some (tI x2), some (tR (gr h 3 a0))]) (st' := [tR (some a0), tR (gr h 3 a0)]) (h' := h) gX0_writeEnd rfl ?_
  refine T_kb (v := 11) gX0_writeEnd rfl (by decide) ?_
  refine T_run (n := 2) (pc' := 49) (lv' := [some (tR (some a0)), some (tI x1), some (tI x2), some (tR (gr h 3 a0))]) (st' := [tI x2, tI x1, tI 11, tR (some a0), tR (gr h 3 a0)]) (h' := h) gX0_writeEnd rfl ?_
  obtain ⟨ho, w⟩ := w
  refine T_cv (fun aa => [some (tR (some aa)), some (tI 11), some (tI x1), some (tI x2)]) gX0_writeEnd rfl rfl rfl rfl (Nat.le_of_ble_eq_true rfl) gX0_append (fun _ => Nat.le_of_ble_eq_true rfl) (fun _ => rfl) ⟨a0, rfl, ho, T_kr ?_⟩
  refine T.mono w (fun rr h_1 hw => ?_)
  obtain ⟨r_2, hr, w⟩ := hw
  refine ⟨r_2, hr, ?_⟩
  obtain ⟨a_4, hr, ho, w⟩ := w
  refine T_pf (fun a_4 => pr h_1 264 a_4 r_2) gX0_writeEnd rfl (fun _ => rfl) ⟨a_4, hr, ho, fun h_3 he => ?_⟩
  replace w := w h_3 he
  refine T_run (n := 2) (pc' := 57) (lv' := [some (tR (some a0)), some (tI x1), some (tI x2), some (tR (gr h 3 a0))]) (st' := [tR (gr h 3 a0), tR (some a0)]) (h' := h_3) gX0_writeEnd rfl ?_
  obtain ⟨a_5, he, ho, w⟩ := w
  refine T_gf (fun a_5 => tI (gi h_3 259 a_5)) gX0_writeEnd rfl (fun _ => rfl) ⟨a_5, he, ho, ?_⟩
  obtain ⟨ho, w⟩ := w
  refine T_ps (pi h_3 4 a0 (gi h_3 259 a_5)) gX0_writeEnd rfl rfl ⟨ho, fun h_6 he => ?_⟩
  replace w := w h_6 he
  refine T_run (n := 2) (pc' := 65) (lv' := [some (tR (some a0)), some (tI x1), some (tI x2), some (tR (gr h 3 a0))]) (st' := [tR (gr h 3 a0), tR (some a0)]) (h' := h_6) gX0_writeEnd rfl ?_
  obtain ⟨a_7, he, ho, w⟩ := w
  refine T_gf (fun a_7 => tR (gr h_6 260 a_7)) gX0_writeEnd rfl (fun _ => rfl) ⟨a_7, he, ho, ?_⟩
  obtain ⟨ho, w⟩ := w
  refine T_ps (pr h_6 3 a0 (gr h_6 260 a_7)) gX0_writeEnd rfl rfl ⟨ho, fun h_8 he => ?_⟩
  replace w := w h_8 he
  refine T_run (n := 2) (pc' := 73) (lv' := [some (tR (some a0)), some (tI x1), some (tI x2), some (tR (gr h 3 a0))]) (st' := [tR (some a0), tR (some a0)]) (h' := h_8) gX0_writeEnd rfl ?_
  obtain ⟨ho, w⟩ := w
  refine T_gs (tI (gi h_8 8 a0)) gX0_writeEnd rfl rfl ⟨ho, ?_⟩
  refine T_kn (v := 1) gX0_writeEnd rfl (by decide) ?_
  refine T_run (n := 1) (pc' := 78) (lv' := [some (tR (some a0)), some (tI x1), some (tI x2), some (tR (gr h 3 a0))]) (st' := [tI ((gi h_8 8 a0) - 1), tR (some a0)]) (h' := h_8) gX0_writeEnd rfl ?_
  obtain ⟨ho, w⟩ := w
  refine T_ps (pi h_8 8 a0 ((gi h_8 8 a0) - 1)) gX0_writeEnd rfl rfl ⟨ho, fun h_9 he => ?_⟩
  replace w := w h_9 he
  refine T_run (n := 1) (pc' := 82) (lv' := [some (tR (some a0)), some (tI x1), some (tI x2), some (tR (gr h 3 a0))]) (st' := [tR (some a0)]) (h' := h_9) gX0_writeEnd rfl ?_
  obtain ⟨ho, w⟩ := w
  refine T_gs (tR (gr h_9 3 a0)) gX0_writeEnd rfl rfl ⟨ho, ?_⟩
  refine T_nn2 (tgt := 95) gX0_writeEnd rfl (by decide) (fun hc => ?_) (fun hc => ?_)
  · rw [if_neg hc] at w
    refine T_run (n := 2) (pc' := 97) (lv' := [some (tR (some a0)), some (tI x1), some (tI x2), some (tR (gr h 3 a0))]) (st' := [tR (gr h 3 a0), tR (some a0)]) (h' := h_9) gX0_writeEnd rfl ?_
    obtain ⟨a_10, he, ho, w⟩ := w
    refine T_gf (fun a_10 => tI (gi h_9 258 a_10)) gX0_writeEnd rfl (fun _ => rfl) ⟨a_10, he, ho, ?_⟩
    obtain ⟨ho, w⟩ := w
    refine T_cv (fun aa => [some (tR (some aa)), some (tI (gi h_9 258 a_10))]) gX0_writeEnd rfl rfl rfl rfl (Nat.le_of_ble_eq_true rfl) gX0_put (fun _ => Nat.le_of_ble_eq_true rfl) (fun _ => rfl) ⟨a0, rfl, ho, T_kv ?_⟩
    refine T.mono w (fun rr h_11 hw => ?_)
    obtain ⟨hr, w⟩ := hw
    refine ⟨hr, ?_⟩
    refine T_kn (v := 1) gX0_writeEnd rfl (by decide) ?_
    exact T_rz gX0_writeEnd rfl rfl (Or.inr rfl) w
  · rw [if_pos hc] at w
    refine T_run (n := 1) (pc' := 89) (lv' := [some (tR (some a0)), some (tI x1), some (tI x2), some (tR (gr h 3 a0))]) (st' := [tR (some a0)]) (h' := h_9) gX0_writeEnd rfl ?_
    obtain ⟨ho, w⟩ := w
    refine T_cv (fun aa => [some (tR (some aa)), none, none]) gX0_writeEnd rfl rfl rfl rfl (Nat.le_of_ble_eq_true rfl) gX0_flatten (fun _ => Nat.le_of_ble_eq_true rfl) (fun _ => rfl) ⟨a0, rfl, ho, T_kv ?_⟩
    refine T.mono w (fun rr h_13 hw => ?_)
    obtain ⟨hr, w⟩ := hw
    refine ⟨hr, ?_⟩
    refine T_goto (tgt := 103) gX0_writeEnd rfl (by decide) ?_
    refine T_kn (v := 1) gX0_writeEnd rfl (by decide) ?_
    exact T_rz gX0_writeEnd rfl rfl (Or.inr rfl) w
set_option maxHeartbeats 4000000 in
set_option maxRecDepth 20000 in
theorem wX0_writeBranch (a0 : Nat) (x1 : Int32) (x2 : Int32) (x3 : Int32) (r4 : Option Nat) (h : Hp) (Q : Option TV → Hp → Prop) (w :
(if r4 = none then
Q (some (tI 0)) h
else
dr r4 (fun a_3 => ob h a_3 4 (tX4_wanted a_3  h (rI (fun x_2 h_1 =>
ob h_1 a0 0 (tX0_has a0 x_2 h_1 (rI (fun x_5 h_4 =>
(if x_5 = 0 then
Q (some (tI 0)) h_4
else
ob h_4 a0 0 (tX0_append a0 x1 x2 x3 h_4 (rR (fun r_7 h_6 =>
dr r_7 (fun a_9 => ob h_6 a_9 3 (∀ h_8, h_8 = pr h_6 196 a_9 r4 →
ob h_8 a0 0 (tX0_die a0  h_8 (rV (fun h_10 =>
Q (some (tI 1)) h_10)))))))))))))))))) : tX0_writeBranch a0 x1 x2 x3 r4 h Q := by
  refine T_run (n := 1) (pc' := 2) (lv' := [some (tR (some a0)), some (tI x1), some (tI x2), some (tI x3), some (tR r4)]) (st' := [tR r4]) (h' := h) gX0_writeBranch rfl ?_
  refine T_nu2 (tgt := 17) gX0_writeBranch rfl (by decide) (fun hc => ?_) (fun hc => ?_)
  · rw [if_pos hc] at w
    refine T_kn (v := 0) gX0_writeBranch rfl (by decide) ?_
    exact T_rz gX0_writeBranch rfl rfl (Or.inl rfl) w
  · rw [if_neg hc] at w
    refine T_run (n := 2) (pc' := 8) (lv' := [some (tR (some a0)), some (tI x1), some (tI x2), some (tI x3), some (tR r4)]) (st' := [tR r4, tR (some a0)]) (h' := h) gX0_writeBranch rfl ?_
    obtain ⟨a_3, hr, ho, w⟩ := w
    refine T_cv (fun aa => [some (tR (some aa))]) gX0_writeBranch rfl rfl rfl rfl (Nat.le_of_ble_eq_true rfl) gX4_wanted (fun _ => Nat.le_of_ble_eq_true rfl) (fun _ => rfl) ⟨a_3, hr, ho, T_ki ?_⟩
    refine T.mono w (fun rr h_1 hw => ?_)
    obtain ⟨x_2, hr, w⟩ := hw
    refine ⟨x_2, hr, ?_⟩
    obtain ⟨ho, w⟩ := w
    refine T_cv (fun aa => [some (tR (some aa)), some (tI x_2)]) gX0_writeBranch rfl rfl rfl rfl (Nat.le_of_ble_eq_true rfl) gX0_has (fun _ => Nat.le_of_ble_eq_true rfl) (fun _ => rfl) ⟨a0, rfl, ho, T_ki ?_⟩
    refine T.mono w (fun rr h_4 hw => ?_)
    obtain ⟨x_5, hr, w⟩ := hw
    refine ⟨x_5, hr, ?_⟩
    replace w := c_ne w
    refine T_if (tgt := 19) gX0_writeBranch rfl (by decide) (fun hc => ?_) (fun hc => ?_)
    · replace w := w.1 hc
      refine T_run (n := 4) (pc' := 23) (lv' := [some (tR (some a0)), some (tI x1), some (tI x2), some (tI x3), some (tR r4)]) (st' := [tI x3, tI x2, tI x1, tR (some a0)]) (h' := h_4) gX0_writeBranch rfl ?_
      obtain ⟨ho, w⟩ := w
      refine T_cv (fun aa => [some (tR (some aa)), some (tI x1), some (tI x2), some (tI x3)]) gX0_writeBranch rfl rfl rfl rfl (Nat.le_of_ble_eq_true rfl) gX0_append (fun _ => Nat.le_of_ble_eq_true rfl) (fun _ => rfl) ⟨a0, rfl, ho, T_kr ?_⟩
      refine T.mono w (fun rr h_6 hw => ?_)
      obtain ⟨r_7, hr, w⟩ := hw
      refine ⟨r_7, hr, ?_⟩
      refine T_run (n := 1) (pc' := 28) (lv' := [some (tR (some a0)), some (tI x1), some (tI x2), some (tI x3), some (tR r4)]) (st' := [tR r4, tR r_7]) (h' := h_6) gX0_writeBranch rfl ?_
      obtain ⟨a_9, hr, ho, w⟩ := w
      refine T_pf (fun a_9 => pr h_6 196 a_9 r4) gX0_writeBranch rfl (fun _ => rfl) ⟨a_9, hr, ho, fun h_8 he => ?_⟩
      replace w := w h_8 he
      refine T_run (n := 1) (pc' := 32) (lv' := [some (tR (some a0)), some (tI x1), some (tI x2), some (tI x3), some (tR r4)]) (st' := [tR (some a0)]) (h' := h_8) gX0_writeBranch rfl ?_
      obtain ⟨ho, w⟩ := w
      refine T_cv (fun aa => [some (tR (some aa))]) gX0_writeBranch rfl rfl rfl rfl (Nat.le_of_ble_eq_true rfl) gX0_die (fun _ => Nat.le_of_ble_eq_true rfl) (fun _ => rfl) ⟨a0, rfl, ho, T_kv ?_⟩
      refine T.mono w (fun rr h_10 hw => ?_)
      obtain ⟨hr, w⟩ := hw
      refine ⟨hr, ?_⟩
      refine T_kn (v := 1) gX0_writeBranch rfl (by decide) ?_
      exact T_rz gX0_writeBranch rfl rfl (Or.inr rfl) w
    · replace w := w.2 hc
      refine T_kn (v := 0) gX0_writeBranch rfl (by decide) ?_
      exact T_rz gX0_writeBranch rfl rfl (Or.inl rfl) w
set_option maxHeartbeats 4000000 in
set_option maxRecDepth 20000 in
theorem wX0_writeBranchIf (a0 : Nat) (x1 : Int32) (x2 : Int32) (h : Hp) (Q : Option TV → Hp → Prop) (w :
ob h a0 0 (tX0_labelAt a0 x1 h (rR (fun r_2 h_1 =>
(if r_2 = none then
Q (some (tI 0)) h_1
else
dr r_2 (fun a_5 => ob h_1 a_5 4 (tX4_wanted a_5  h_1 (rI (fun x_4 h_3 =>
ob h_3 a0 0 (tX0_has a0 (x_4 + 1) h_3 (rI (fun x_7 h_6 =>
(if x_7 = 0 then
Q (some (tI 0)) h_6
else
ob h_6 a0 0 (tX0_append a0 13 x1 x2 h_6 (rR (fun r_9 h_8 =>
dr r_9 (fun a_11 => ob h_8 a_11 3 (∀ h_10, h_10 = pr h_8 196 a_11 r_2 →
dr r_2 (fun a_14 => ob h_10 a_14 4 (tX4_wanted a_14  h_10 (rI (fun x_13 h_12 =>
ob h_12 a0 0 (tX0_take a0 (x_13 + 1) h_12 (rV (fun h_15 =>
dr r_2 (fun a_19 => ob h_15 a_19 4 (tX4_wanted a_19  h_15 (rI (fun x_18 h_17 =>
ob h_17 a0 0 (tX0_put a0 x_18 h_17 (rV (fun h_20 =>
Q (some (tI 1)) h_20)))))))))))))))))))))))))))))))) : tX0_writeBranchIf a0 x1 x2 h Q := by
  refine T_run (n := 2) (pc' := 2) (lv' := [some (tR (some a0)), some (tI x1), some (tI x2), none]) (st' := [tI x1, tR (some a0)]) (h' := h) gX0_writeBranchIf rfl ?_
  obtain ⟨ho, w⟩ := w
  refine T_cv (fun aa => [some (tR (some aa)), some (tI x1), none, none]) gX0_writeBranchIf rfl rfl rfl rfl (Nat.le_of_ble_eq_true rfl) gX0_labelAt (fun _ => Nat.le_of_ble_eq_true rfl) (fun _ => rfl) ⟨a0, rfl, ho, T_kr ?_⟩
  refine T.mono w (fun rr h_1 hw => ?_)
  obtain ⟨r_2, hr, w⟩ := hw
  refine ⟨r_2, hr, ?_⟩
  refine T_run (n := 2) (pc' := 7) (lv' := [some (tR (some a0)), some (tI x1), some (tI x2), some (tR r_2)]) (st' := [tR r_2]) (h' := h_1) gX0_writeBranchIf rfl ?_
  refine T_nu2 (tgt := 23) gX0_writeBranchIf rfl (by decide) (fun hc => ?_) (fun hc => ?_)
  · rw [if_pos hc] at w
    refine T_kn (v := 0) gX0_writeBranchIf rfl (by decide) ?_
    exact T_rz gX0_writeBranchIf rfl rfl (Or.inl rfl) w
  · rw [if_neg hc] at w
    refine T_run (n := 2) (pc' := 12) (lv' := [some (tR (some a0)), some (tI x1), some (tI x2), some (tR r_2)]) (st' := [tR r_2, tR (some a0)]) (h' := h_1) gX0_writeBranchIf rfl ?_
    obtain ⟨a_5, hr, ho, w⟩ := w
    refine T_cv (fun aa => [some (tR (some aa))]) gX0_writeBranchIf rfl rfl rfl rfl (Nat.le_of_ble_eq_true rfl) gX4_wanted (fun _ => Nat.le_of_ble_eq_true rfl) (fun _ => rfl) ⟨a_5, hr, ho, T_ki ?_⟩
    refine T.mono w (fun rr h_3 hw => ?_)
    obtain ⟨x_4, hr, w⟩ := hw
    refine ⟨x_4, hr, ?_⟩
    refine T_kn (v := 1) gX0_writeBranchIf rfl (by decide) ?_
    refine T_run (n := 1) (pc' := 17) (lv' := [some (tR (some a0)), some (tI x1), some (tI x2), some (tR r_2)]) (st' := [tI (x_4 + 1), tR (some a0)]) (h' := h_3) gX0_writeBranchIf rfl ?_
    obtain ⟨ho, w⟩ := w
    refine T_cv (fun aa => [some (tR (some aa)), some (tI (x_4 + 1))]) gX0_writeBranchIf rfl rfl rfl rfl (Nat.le_of_ble_eq_true rfl) gX0_has (fun _ => Nat.le_of_ble_eq_true rfl) (fun _ => rfl) ⟨a0, rfl, ho, T_ki ?_⟩
    refine T.mono w (fun rr h_6 hw => ?_)
    obtain ⟨x_7, hr, w⟩ := hw
    refine ⟨x_7, hr, ?_⟩
    replace w := c_ne w
    refine T_if (tgt := 25) gX0_writeBranchIf rfl (by decide) (fun hc => ?_) (fun hc => ?_)
    · replace w := w.1 hc
      refine T_run (n := 1) (pc' := 26) (lv' := [some (tR (some a0)), some (tI x1), some (tI x2), some (tR r_2)]) (st' := [tR (some a0)]) (h' := h_6) gX0_writeBranchIf rfl ?_
      refine T_kb (v := 13) gX0_writeBranchIf rfl (by decide) ?_
      refine T_run (n := 2) (pc' := 30) (lv' := [some (tR (some a0)), some (tI x1), some (tI x2), some (tR r_2)]) (st' := [tI x2, tI x1, tI 13, tR (some a0)]) (h' := h_6) gX0_writeBranchIf rfl ?_
      obtain ⟨ho, w⟩ := w
      refine T_cv (fun aa => [some (tR (some aa)), some (tI 13), some (tI x1), some (tI x2)]) gX0_writeBranchIf rfl rfl rfl rfl (Nat.le_of_ble_eq_true rfl) gX0_append (fun _ => Nat.le_of_ble_eq_true rfl) (fun _ => rfl) ⟨a0, rfl, ho, T_kr ?_⟩
      refine T.mono w (fun rr h_8 hw => ?_)
      obtain ⟨r_9, hr, w⟩ := hw
      refine ⟨r_9, hr, ?_⟩
      refine T_run (n := 1) (pc' := 34) (lv' := [some (tR (some a0)), some (tI x1), some (tI x2), some (tR r_2)]) (st' := [tR r_2, tR r_9]) (h' := h_8) gX0_writeBranchIf rfl ?_
      obtain ⟨a_11, hr, ho, w⟩ := w
      refine T_pf (fun a_11 => pr h_8 196 a_11 r_2) gX0_writeBranchIf rfl (fun _ => rfl) ⟨a_11, hr, ho, fun h_10 he => ?_⟩
      replace w := w h_10 he
      refine T_run (n := 2) (pc' := 39) (lv' := [some (tR (some a0)), some (tI x1), some (tI x2), some (tR r_2)]) (st' := [tR r_2, tR (some a0)]) (h' := h_10) gX0_writeBranchIf rfl ?_
      obtain ⟨a_14, hr, ho, w⟩ := w
      refine T_cv (fun aa => [some (tR (some aa))]) gX0_writeBranchIf rfl rfl rfl rfl (Nat.le_of_ble_eq_true rfl) gX4_wanted (fun _ => Nat.le_of_ble_eq_true rfl) (fun _ => rfl) ⟨a_14, hr, ho, T_ki ?_⟩
      refine T.mono w (fun rr h_12 hw => ?_)
      obtain ⟨x_13, hr, w⟩ := hw
      refine ⟨x_13, hr, ?_⟩
      refine T_kn (v := 1) gX0_writeBranchIf rfl (by decide) ?_
      refine T_run (n := 1) (pc' := 44) (lv' := [some (tR (some a0)), some (tI x1), some (tI x2), some (tR r_2)]) (st' := [tI (x_13 + 1), tR (some a0)]) (h' := h_12) gX0_writeBranchIf rfl ?_
      obtain ⟨ho, w⟩ := w
      refine T_cv (fun aa => [some (tR (some aa)), some (tI (x_13 + 1))]) gX0_writeBranchIf rfl rfl rfl rfl (Nat.le_of_ble_eq_true rfl) gX0_take (fun _ => Nat.le_of_ble_eq_true rfl) (fun _ => rfl) ⟨a0, rfl, ho, T_kv ?_⟩
      refine T.mono w (fun rr h_15 hw => ?_)
      obtain ⟨hr, w⟩ := hw
      refine ⟨hr, ?_⟩
      refine T_run (n := 2) (pc' := 49) (lv' := [some (tR (some a0)), some (tI x1), some (tI x2), some (tR r_2)]) (st' := [tR r_2, tR (some a0)]) (h' := h_15) gX0_writeBranchIf rfl ?_
      obtain ⟨a_19, hr, ho, w⟩ := w
      refine T_cv (fun aa => [some (tR (some aa))]) gX0_writeBranchIf rfl rfl rfl rfl (Nat.le_of_ble_eq_true rfl) gX4_wanted (fun _ => Nat.le_of_ble_eq_true rfl) (fun _ => rfl) ⟨a_19, hr, ho, T_ki ?_⟩
      refine T.mono w (fun rr h_17 hw => ?_)
      obtain ⟨x_18, hr, w⟩ := hw
      refine ⟨x_18, hr, ?_⟩
      obtain ⟨ho, w⟩ := w
      refine T_cv (fun aa => [some (tR (some aa)), some (tI x_18)]) gX0_writeBranchIf rfl rfl rfl rfl (Nat.le_of_ble_eq_true rfl) gX0_put (fun _ => Nat.le_of_ble_eq_true rfl) (fun _ => rfl) ⟨a0, rfl, ho, T_kv ?_⟩
      refine T.mono w (fun rr h_20 hw => ?_)
      obtain ⟨hr, w⟩ := hw
      refine ⟨hr, ?_⟩
      refine T_kn (v := 1) gX0_writeBranchIf rfl (by decide) ?_
      exact T_rz gX0_writeBranchIf rfl rfl (Or.inr rfl) w
    · replace w := w.2 hc
      refine T_kn (v := 0) gX0_writeBranchIf rfl (by decide) ?_
      exact T_rz gX0_writeBranchIf rfl rfl (Or.inl rfl) w
set_option maxHeartbeats 4000000 in
set_option maxRecDepth 20000 in
theorem wX0_writeTable (a0 : Nat) (x1 : Int32) (x2 : Int32) (h : Hp) (Q : Option TV → Hp → Prop) (w :
tX10_isWithin x1 20 h (rI (fun x_2 h_1 =>
(if x_2 = 0 then
Q (some (tI 0)) h_1
else
ob h_1 a0 0 (tX0_has a0 1 h_1 (rI (fun x_4 h_3 =>
(if x_4 = 0 then
Q (some (tI 0)) h_3
else
ob h_3 a0 0 (tX0_append a0 14 x1 x2 h_3 (rR (fun r_6 h_5 =>
ob h_5 a0 0 (tX0_take a0 1 h_5 (rV (fun h_7 =>
ob h_7 a0 0 (∀ h_9, h_9 = pi h_7 5 a0 (x1 + 1) →
ob h_9 a0 0 (∀ h_10, h_10 = pi h_9 6 a0 (-1) →
Q (some (tI 1)) h_10)))))))))))))))) : tX0_writeTable a0 x1 x2 h Q := by
  refine T_run (n := 1) (pc' := 1) (lv' := [some (tR (some a0)), some (tI x1), some (tI x2)]) (st' := [tI x1]) (h' := h) gX0_writeTable rfl ?_
  refine T_kb (v := 20) gX0_writeTable rfl (by decide) ?_
  refine T_cs (lv' := [some (tI x1), some (tI 20)]) gX0_writeTable rfl rfl rfl rfl (Nat.le_of_ble_eq_true rfl) gX10_isWithin (Nat.le_of_ble_eq_true rfl) rfl (T_ki ?_)
  refine T.mono w (fun rr h_1 hw => ?_)
  obtain ⟨x_2, hr, w⟩ := hw
  refine ⟨x_2, hr, ?_⟩
  replace w := c_eq w
  refine T_if (tgt := 17) gX0_writeTable rfl (by decide) (fun hc => ?_) (fun hc => ?_)
  · replace w := w.1 hc
    refine T_kn (v := 0) gX0_writeTable rfl (by decide) ?_
    exact T_rz gX0_writeTable rfl rfl (Or.inl rfl) w
  · replace w := w.2 hc
    refine T_run (n := 1) (pc' := 10) (lv' := [some (tR (some a0)), some (tI x1), some (tI x2)]) (st' := [tR (some a0)]) (h' := h_1) gX0_writeTable rfl ?_
    refine T_kn (v := 1) gX0_writeTable rfl (by decide) ?_
    obtain ⟨ho, w⟩ := w
    refine T_cv (fun aa => [some (tR (some aa)), some (tI 1)]) gX0_writeTable rfl rfl rfl rfl (Nat.le_of_ble_eq_true rfl) gX0_has (fun _ => Nat.le_of_ble_eq_true rfl) (fun _ => rfl) ⟨a0, rfl, ho, T_ki ?_⟩
    refine T.mono w (fun rr h_3 hw => ?_)
    obtain ⟨x_4, hr, w⟩ := hw
    refine ⟨x_4, hr, ?_⟩
    replace w := c_ne w
    refine T_if (tgt := 19) gX0_writeTable rfl (by decide) (fun hc => ?_) (fun hc => ?_)
    · replace w := w.1 hc
      refine T_run (n := 1) (pc' := 20) (lv' := [some (tR (some a0)), some (tI x1), some (tI x2)]) (st' := [tR (some a0)]) (h' := h_3) gX0_writeTable rfl ?_
      refine T_kb (v := 14) gX0_writeTable rfl (by decide) ?_
      refine T_run (n := 2) (pc' := 24) (lv' := [some (tR (some a0)), some (tI x1), some (tI x2)]) (st' := [tI x2, tI x1, tI 14, tR (some a0)]) (h' := h_3) gX0_writeTable rfl ?_
      obtain ⟨ho, w⟩ := w
      refine T_cv (fun aa => [some (tR (some aa)), some (tI 14), some (tI x1), some (tI x2)]) gX0_writeTable rfl rfl rfl rfl (Nat.le_of_ble_eq_true rfl) gX0_append (fun _ => Nat.le_of_ble_eq_true rfl) (fun _ => rfl) ⟨a0, rfl, ho, T_kr ?_⟩
      refine T.mono w (fun rr h_5 hw => ?_)
      obtain ⟨r_6, hr, w⟩ := hw
      refine ⟨r_6, hr, ?_⟩
      refine T_run (n := 2) (pc' := 29) (lv' := [some (tR (some a0)), some (tI x1), some (tI x2)]) (st' := [tR (some a0)]) (h' := h_5) gX0_writeTable rfl ?_
      refine T_kn (v := 1) gX0_writeTable rfl (by decide) ?_
      obtain ⟨ho, w⟩ := w
      refine T_cv (fun aa => [some (tR (some aa)), some (tI 1)]) gX0_writeTable rfl rfl rfl rfl (Nat.le_of_ble_eq_true rfl) gX0_take (fun _ => Nat.le_of_ble_eq_true rfl) (fun _ => rfl) ⟨a0, rfl, ho, T_kv ?_⟩
      refine T.mono w (fun rr h_7 hw => ?_)
      obtain ⟨hr, w⟩ := hw
      refine ⟨hr, ?_⟩
      refine T_run (n := 2) (pc' := 35) (lv' := [some (tR (some a0)), some (tI x1), some (tI x2)]) (st' := [tI x1, tR (some a0)]) (h' := h_7) gX0_writeTable rfl ?_
      refine T_kn (v := 1) gX0_writeTable rfl (by decide) ?_
      refine T_run (n := 1) (pc' := 37) (lv' := [some (tR (some a0)), some (tI x1), some (tI x2)]) (st' := [tI (x1 + 1), tR (some a0)]) (h' := h_7) gX0_writeTable rfl ?_
      obtain ⟨ho, w⟩ := w
      refine T_ps (pi h_7 5 a0 (x1 + 1)) gX0_writeTable rfl rfl ⟨ho, fun h_9 he => ?_⟩
      replace w := w h_9 he
      refine T_run (n := 1) (pc' := 41) (lv' := [some (tR (some a0)), some (tI x1), some (tI x2)]) (st' := [tR (some a0)]) (h' := h_9) gX0_writeTable rfl ?_
      refine T_kn (v := (-1)) gX0_writeTable rfl (by decide) ?_
      obtain ⟨ho, w⟩ := w
      refine T_ps (pi h_9 6 a0 (-1)) gX0_writeTable rfl rfl ⟨ho, fun h_10 he => ?_⟩
      replace w := w h_10 he
      refine T_kn (v := 1) gX0_writeTable rfl (by decide) ?_
      exact T_rz gX0_writeTable rfl rfl (Or.inr rfl) w
    · replace w := w.2 hc
      refine T_kn (v := 0) gX0_writeTable rfl (by decide) ?_
      exact T_rz gX0_writeTable rfl rfl (Or.inl rfl) w
set_option maxHeartbeats 4000000 in
set_option maxRecDepth 20000 in
theorem wX8_find (a0 : Nat) (x1 : Int32) (h : Hp) (Q : Option TV → Hp → Prop) (w :
(if x1 < 0 then
Q (some (tR none)) h
else
ob h a0 7 (
(if x1 < (gi h 449 a0) then
ob h a0 7 (
dr (gr h 448 a0) (fun a_1 => al_ h a_1 (fun n_2 =>
(if x1 < (Int32.ofNat n_2) then
ob h a0 7 (
dr (gr h 448 a0) (fun a_3 => ix h kA a_3 x1 (
Q (some (tR (aq h a_3 x1.toNatClampNeg))) h)))
else
Q (some (tR none)) h))))
else
Q (some (tR none)) h)))) : tX8_find a0 x1 h Q := by
  refine T_run (n := 1) (pc' := 1) (lv' := [some (tR (some a0)), some (tI x1)]) (st' := [tI x1]) (h' := h) gX8_find rfl ?_
  replace w := c_lt w
  refine T_if (tgt := 21) gX8_find rfl (by decide) (fun hc => ?_) (fun hc => ?_)
  · replace w := w.1 hc
    refine T_run (n := 1) (pc' := 22) (lv' := [some (tR (some a0)), some (tI x1)]) (st' := [tR none]) (h' := h) gX8_find rfl ?_
    exact T_ra gX8_find rfl rfl w
  · replace w := w.2 hc
    refine T_run (n := 2) (pc' := 6) (lv' := [some (tR (some a0)), some (tI x1)]) (st' := [tR (some a0), tI x1]) (h' := h) gX8_find rfl ?_
    obtain ⟨ho, w⟩ := w
    refine T_gs (tI (gi h 449 a0)) gX8_find rfl rfl ⟨ho, ?_⟩
    replace w := c_ge w
    refine T_ic (tgt := 21) gX8_find rfl (by decide) (fun hc => ?_) (fun hc => ?_)
    · replace w := w.1 hc
      refine T_run (n := 1) (pc' := 22) (lv' := [some (tR (some a0)), some (tI x1)]) (st' := [tR none]) (h' := h) gX8_find rfl ?_
      exact T_ra gX8_find rfl rfl w
    · replace w := w.2 hc
      refine T_run (n := 2) (pc' := 14) (lv' := [some (tR (some a0)), some (tI x1)]) (st' := [tR (some a0), tI x1]) (h' := h) gX8_find rfl ?_
      obtain ⟨ho, w⟩ := w
      refine T_gs (tR (gr h 448 a0)) gX8_find rfl rfl ⟨ho, ?_⟩
      obtain ⟨a_1, hr, tt, n_2, ht, w⟩ := w
      refine T_len gX8_find rfl ⟨a_1, hr, tt, n_2, ht, ?_⟩
      replace w := c_lt w
      refine T_ic (tgt := 23) gX8_find rfl (by decide) (fun hc => ?_) (fun hc => ?_)
      · replace w := w.1 hc
        refine T_run (n := 1) (pc' := 24) (lv' := [some (tR (some a0)), some (tI x1)]) (st' := [tR (some a0)]) (h' := h) gX8_find rfl ?_
        obtain ⟨ho, w⟩ := w
        refine T_gs (tR (gr h 448 a0)) gX8_find rfl rfl ⟨ho, ?_⟩
        refine T_run (n := 1) (pc' := 28) (lv' := [some (tR (some a0)), some (tI x1)]) (st' := [tI x1, tR (gr h 448 a0)]) (h' := h) gX8_find rfl ?_
        obtain ⟨a_3, hr, tt, nn, ht, hk, hj, w⟩ := w
        refine T_aal gX8_find rfl ⟨a_3, hr, tt, nn, ht, hk, hj, ?_⟩
        exact T_ra gX8_find rfl rfl w
      · replace w := w.2 hc
        refine T_run (n := 1) (pc' := 22) (lv' := [some (tR (some a0)), some (tI x1)]) (st' := [tR none]) (h' := h) gX8_find rfl ?_
        exact T_ra gX8_find rfl rfl w
set_option maxHeartbeats 4000000 in
set_option maxRecDepth 20000 in
theorem wX0_writeCall (a0 : Nat) (x1 : Int32) (x2 : Int32) (h : Hp) (Q : Option TV → Hp → Prop) (w :
ob h a0 0 (
dr (gr h 0 a0) (fun a_3 => ob h a_3 7 (tX8_find a_3 x1 h (rR (fun r_2 h_1 =>
(if r_2 = none then
Q (some (tI 0)) h_1
else
dr r_2 (fun a_4 => ob h_1 a_4 2 (
ob h_1 a0 0 (tX0_has a0 (gi h_1 128 a_4) h_1 (rI (fun x_6 h_5 =>
(if x_6 = 0 then
Q (some (tI 0)) h_5
else
ob h_5 a0 0 (tX0_append a0 16 x1 x2 h_5 (rR (fun r_8 h_7 =>
dr r_8 (fun a_10 => ob h_7 a_10 3 (∀ h_9, h_9 = pr h_7 197 a_10 r_2 →
dr r_2 (fun a_11 => ob h_9 a_11 2 (
ob h_9 a0 0 (tX0_take a0 (gi h_9 128 a_11) h_9 (rV (fun h_12 =>
dr r_2 (fun a_14 => ob h_12 a_14 2 (
ob h_12 a0 0 (tX0_put a0 (gi h_12 129 a_14) h_12 (rV (fun h_15 =>
Q (some (tI 1)) h_15)))))))))))))))))))))))))))) : tX0_writeCall a0 x1 x2 h Q := by
  refine T_run (n := 1) (pc' := 1) (lv' := [some (tR (some a0)), some (tI x1), some (tI x2), none]) (st' := [tR (some a0)]) (h' := h) gX0_writeCall rfl ?_
  obtain ⟨ho, w⟩ := w
  refine T_gs (tR (gr h 0 a0)) gX0_writeCall rfl rfl ⟨ho, ?_⟩
  refine T_run (n := 1) (pc' := 5) (lv' := [some (tR (some a0)), some (tI x1), some (tI x2), none]) (st' := [tI x1, tR (gr h 0 a0)]) (h' := h) gX0_writeCall rfl ?_
  obtain ⟨a_3, hr, ho, w⟩ := w
  refine T_cv (fun aa => [some (tR (some aa)), some (tI x1)]) gX0_writeCall rfl rfl rfl rfl (Nat.le_of_ble_eq_true rfl) gX8_find (fun _ => Nat.le_of_ble_eq_true rfl) (fun _ => rfl) ⟨a_3, hr, ho, T_kr ?_⟩
  refine T.mono w (fun rr h_1 hw => ?_)
  obtain ⟨r_2, hr, w⟩ := hw
  refine ⟨r_2, hr, ?_⟩
  refine T_run (n := 2) (pc' := 10) (lv' := [some (tR (some a0)), some (tI x1), some (tI x2), some (tR r_2)]) (st' := [tR r_2]) (h' := h_1) gX0_writeCall rfl ?_
  refine T_nu2 (tgt := 24) gX0_writeCall rfl (by decide) (fun hc => ?_) (fun hc => ?_)
  · rw [if_pos hc] at w
    refine T_kn (v := 0) gX0_writeCall rfl (by decide) ?_
    exact T_rz gX0_writeCall rfl rfl (Or.inl rfl) w
  · rw [if_neg hc] at w
    refine T_run (n := 2) (pc' := 15) (lv' := [some (tR (some a0)), some (tI x1), some (tI x2), some (tR r_2)]) (st' := [tR r_2, tR (some a0)]) (h' := h_1) gX0_writeCall rfl ?_
    obtain ⟨a_4, he, ho, w⟩ := w
    refine T_gf (fun a_4 => tI (gi h_1 128 a_4)) gX0_writeCall rfl (fun _ => rfl) ⟨a_4, he, ho, ?_⟩
    obtain ⟨ho, w⟩ := w
    refine T_cv (fun aa => [some (tR (some aa)), some (tI (gi h_1 128 a_4))]) gX0_writeCall rfl rfl rfl rfl (Nat.le_of_ble_eq_true rfl) gX0_has (fun _ => Nat.le_of_ble_eq_true rfl) (fun _ => rfl) ⟨a0, rfl, ho, T_ki ?_⟩
    refine T.mono w (fun rr h_5 hw => ?_)
    obtain ⟨x_6, hr, w⟩ := hw
    refine ⟨x_6, hr, ?_⟩
    replace w := c_ne w
    refine T_if (tgt := 26) gX0_writeCall rfl (by decide) (fun hc => ?_) (fun hc => ?_)
    · replace w := w.1 hc
      refine T_run (n := 1) (pc' := 27) (lv' := [some (tR (some a0)), some (tI x1), some (tI x2), some (tR r_2)]) (st' := [tR (some a0)]) (h' := h_5) gX0_writeCall rfl ?_
      refine T_kb (v := 16) gX0_writeCall rfl (by decide) ?_
      refine T_run (n := 2) (pc' := 31) (lv' := [some (tR (some a0)), some (tI x1), some (tI x2), some (tR r_2)]) (st' := [tI x2, tI x1, tI 16, tR (some a0)]) (h' := h_5) gX0_writeCall rfl ?_
      obtain ⟨ho, w⟩ := w
      refine T_cv (fun aa => [some (tR (some aa)), some (tI 16), some (tI x1), some (tI x2)]) gX0_writeCall rfl rfl rfl rfl (Nat.le_of_ble_eq_true rfl) gX0_append (fun _ => Nat.le_of_ble_eq_true rfl) (fun _ => rfl) ⟨a0, rfl, ho, T_kr ?_⟩
      refine T.mono w (fun rr h_7 hw => ?_)
      obtain ⟨r_8, hr, w⟩ := hw
      refine ⟨r_8, hr, ?_⟩
      refine T_run (n := 1) (pc' := 35) (lv' := [some (tR (some a0)), some (tI x1), some (tI x2), some (tR r_2)]) (st' := [tR r_2, tR r_8]) (h' := h_7) gX0_writeCall rfl ?_
      obtain ⟨a_10, hr, ho, w⟩ := w
      refine T_pf (fun a_10 => pr h_7 197 a_10 r_2) gX0_writeCall rfl (fun _ => rfl) ⟨a_10, hr, ho, fun h_9 he => ?_⟩
      replace w := w h_9 he
      refine T_run (n := 2) (pc' := 40) (lv' := [some (tR (some a0)), some (tI x1), some (tI x2), some (tR r_2)]) (st' := [tR r_2, tR (some a0)]) (h' := h_9) gX0_writeCall rfl ?_
      obtain ⟨a_11, he, ho, w⟩ := w
      refine T_gf (fun a_11 => tI (gi h_9 128 a_11)) gX0_writeCall rfl (fun _ => rfl) ⟨a_11, he, ho, ?_⟩
      obtain ⟨ho, w⟩ := w
      refine T_cv (fun aa => [some (tR (some aa)), some (tI (gi h_9 128 a_11))]) gX0_writeCall rfl rfl rfl rfl (Nat.le_of_ble_eq_true rfl) gX0_take (fun _ => Nat.le_of_ble_eq_true rfl) (fun _ => rfl) ⟨a0, rfl, ho, T_kv ?_⟩
      refine T.mono w (fun rr h_12 hw => ?_)
      obtain ⟨hr, w⟩ := hw
      refine ⟨hr, ?_⟩
      refine T_run (n := 2) (pc' := 48) (lv' := [some (tR (some a0)), some (tI x1), some (tI x2), some (tR r_2)]) (st' := [tR r_2, tR (some a0)]) (h' := h_12) gX0_writeCall rfl ?_
      obtain ⟨a_14, he, ho, w⟩ := w
      refine T_gf (fun a_14 => tI (gi h_12 129 a_14)) gX0_writeCall rfl (fun _ => rfl) ⟨a_14, he, ho, ?_⟩
      obtain ⟨ho, w⟩ := w
      refine T_cv (fun aa => [some (tR (some aa)), some (tI (gi h_12 129 a_14))]) gX0_writeCall rfl rfl rfl rfl (Nat.le_of_ble_eq_true rfl) gX0_put (fun _ => Nat.le_of_ble_eq_true rfl) (fun _ => rfl) ⟨a0, rfl, ho, T_kv ?_⟩
      refine T.mono w (fun rr h_15 hw => ?_)
      obtain ⟨hr, w⟩ := hw
      refine ⟨hr, ?_⟩
      refine T_kn (v := 1) gX0_writeCall rfl (by decide) ?_
      exact T_rz gX0_writeCall rfl rfl (Or.inr rfl) w
    · replace w := w.2 hc
      refine T_kn (v := 0) gX0_writeCall rfl (by decide) ?_
      exact T_rz gX0_writeCall rfl rfl (Or.inl rfl) w
set_option maxHeartbeats 4000000 in
set_option maxRecDepth 20000 in
theorem wX0_writeCallByTable (a0 : Nat) (x1 : Int32) (x2 : Int32) (h : Hp) (Q : Option TV → Hp → Prop) (w :
tX10_isWithin x1 8 h (rI (fun x_2 h_1 =>
(if x_2 = 0 then
Q (some (tI 0)) h_1
else
tX10_isWithin x2 8 h_1 (rI (fun x_4 h_3 =>
(if x_4 = 0 then
Q (some (tI 0)) h_3
else
ob h_3 a0 0 (tX0_has a0 (x1 + 1) h_3 (rI (fun x_6 h_5 =>
(if x_6 = 0 then
Q (some (tI 0)) h_5
else
ob h_5 a0 0 (tX0_append a0 17 x1 x2 h_5 (rR (fun r_8 h_7 =>
ob h_7 a0 0 (tX0_take a0 (x1 + 1) h_7 (rV (fun h_9 =>
ob h_9 a0 0 (tX0_put a0 x2 h_9 (rV (fun h_11 =>
Q (some (tI 1)) h_11)))))))))))))))))))) : tX0_writeCallByTable a0 x1 x2 h Q := by
  refine T_run (n := 1) (pc' := 1) (lv' := [some (tR (some a0)), some (tI x1), some (tI x2)]) (st' := [tI x1]) (h' := h) gX0_writeCallByTable rfl ?_
  refine T_kb (v := 8) gX0_writeCallByTable rfl (by decide) ?_
  refine T_cs (lv' := [some (tI x1), some (tI 8)]) gX0_writeCallByTable rfl rfl rfl rfl (Nat.le_of_ble_eq_true rfl) gX10_isWithin (Nat.le_of_ble_eq_true rfl) rfl (T_ki ?_)
  refine T.mono w (fun rr h_1 hw => ?_)
  obtain ⟨x_2, hr, w⟩ := hw
  refine ⟨x_2, hr, ?_⟩
  replace w := c_eq w
  refine T_if (tgt := 18) gX0_writeCallByTable rfl (by decide) (fun hc => ?_) (fun hc => ?_)
  · replace w := w.1 hc
    refine T_kn (v := 0) gX0_writeCallByTable rfl (by decide) ?_
    exact T_rz gX0_writeCallByTable rfl rfl (Or.inl rfl) w
  · replace w := w.2 hc
    refine T_run (n := 1) (pc' := 10) (lv' := [some (tR (some a0)), some (tI x1), some (tI x2)]) (st' := [tI x2]) (h' := h_1) gX0_writeCallByTable rfl ?_
    refine T_kb (v := 8) gX0_writeCallByTable rfl (by decide) ?_
    refine T_cs (lv' := [some (tI x2), some (tI 8)]) gX0_writeCallByTable rfl rfl rfl rfl (Nat.le_of_ble_eq_true rfl) gX10_isWithin (Nat.le_of_ble_eq_true rfl) rfl (T_ki ?_)
    refine T.mono w (fun rr h_3 hw => ?_)
    obtain ⟨x_4, hr, w⟩ := hw
    refine ⟨x_4, hr, ?_⟩
    replace w := c_ne w
    refine T_if (tgt := 20) gX0_writeCallByTable rfl (by decide) (fun hc => ?_) (fun hc => ?_)
    · replace w := w.1 hc
      refine T_run (n := 2) (pc' := 22) (lv' := [some (tR (some a0)), some (tI x1), some (tI x2)]) (st' := [tI x1, tR (some a0)]) (h' := h_3) gX0_writeCallByTable rfl ?_
      refine T_kn (v := 1) gX0_writeCallByTable rfl (by decide) ?_
      refine T_run (n := 1) (pc' := 24) (lv' := [some (tR (some a0)), some (tI x1), some (tI x2)]) (st' := [tI (x1 + 1), tR (some a0)]) (h' := h_3) gX0_writeCallByTable rfl ?_
      obtain ⟨ho, w⟩ := w
      refine T_cv (fun aa => [some (tR (some aa)), some (tI (x1 + 1))]) gX0_writeCallByTable rfl rfl rfl rfl (Nat.le_of_ble_eq_true rfl) gX0_has (fun _ => Nat.le_of_ble_eq_true rfl) (fun _ => rfl) ⟨a0, rfl, ho, T_ki ?_⟩
      refine T.mono w (fun rr h_5 hw => ?_)
      obtain ⟨x_6, hr, w⟩ := hw
      refine ⟨x_6, hr, ?_⟩
      replace w := c_ne w
      refine T_if (tgt := 32) gX0_writeCallByTable rfl (by decide) (fun hc => ?_) (fun hc => ?_)
      · replace w := w.1 hc
        refine T_run (n := 1) (pc' := 33) (lv' := [some (tR (some a0)), some (tI x1), some (tI x2)]) (st' := [tR (some a0)]) (h' := h_5) gX0_writeCallByTable rfl ?_
        refine T_kb (v := 17) gX0_writeCallByTable rfl (by decide) ?_
        refine T_run (n := 2) (pc' := 37) (lv' := [some (tR (some a0)), some (tI x1), some (tI x2)]) (st' := [tI x2, tI x1, tI 17, tR (some a0)]) (h' := h_5) gX0_writeCallByTable rfl ?_
        obtain ⟨ho, w⟩ := w
        refine T_cv (fun aa => [some (tR (some aa)), some (tI 17), some (tI x1), some (tI x2)]) gX0_writeCallByTable rfl rfl rfl rfl (Nat.le_of_ble_eq_true rfl) gX0_append (fun _ => Nat.le_of_ble_eq_true rfl) (fun _ => rfl) ⟨a0, rfl, ho, T_kr ?_⟩
        refine T.mono w (fun rr h_7 hw => ?_)
        obtain ⟨r_8, hr, w⟩ := hw
        refine ⟨r_8, hr, ?_⟩
        refine T_run (n := 3) (pc' := 43) (lv' := [some (tR (some a0)), some (tI x1), some (tI x2)]) (st' := [tI x1, tR (some a0)]) (h' := h_7) gX0_writeCallByTable rfl ?_
        refine T_kn (v := 1) gX0_writeCallByTable rfl (by decide) ?_
        refine T_run (n := 1) (pc' := 45) (lv' := [some (tR (some a0)), some (tI x1), some (tI x2)]) (st' := [tI (x1 + 1), tR (some a0)]) (h' := h_7) gX0_writeCallByTable rfl ?_
        obtain ⟨ho, w⟩ := w
        refine T_cv (fun aa => [some (tR (some aa)), some (tI (x1 + 1))]) gX0_writeCallByTable rfl rfl rfl rfl (Nat.le_of_ble_eq_true rfl) gX0_take (fun _ => Nat.le_of_ble_eq_true rfl) (fun _ => rfl) ⟨a0, rfl, ho, T_kv ?_⟩
        refine T.mono w (fun rr h_9 hw => ?_)
        obtain ⟨hr, w⟩ := hw
        refine ⟨hr, ?_⟩
        refine T_run (n := 2) (pc' := 50) (lv' := [some (tR (some a0)), some (tI x1), some (tI x2)]) (st' := [tI x2, tR (some a0)]) (h' := h_9) gX0_writeCallByTable rfl ?_
        obtain ⟨ho, w⟩ := w
        refine T_cv (fun aa => [some (tR (some aa)), some (tI x2)]) gX0_writeCallByTable rfl rfl rfl rfl (Nat.le_of_ble_eq_true rfl) gX0_put (fun _ => Nat.le_of_ble_eq_true rfl) (fun _ => rfl) ⟨a0, rfl, ho, T_kv ?_⟩
        refine T.mono w (fun rr h_11 hw => ?_)
        obtain ⟨hr, w⟩ := hw
        refine ⟨hr, ?_⟩
        refine T_kn (v := 1) gX0_writeCallByTable rfl (by decide) ?_
        exact T_rz gX0_writeCallByTable rfl rfl (Or.inr rfl) w
      · replace w := w.2 hc
        refine T_kn (v := 0) gX0_writeCallByTable rfl (by decide) ?_
        exact T_rz gX0_writeCallByTable rfl rfl (Or.inl rfl) w
    · replace w := w.2 hc
      refine T_kn (v := 0) gX0_writeCallByTable rfl (by decide) ?_
      exact T_rz gX0_writeCallByTable rfl rfl (Or.inl rfl) w
set_option maxHeartbeats 4000000 in
set_option maxRecDepth 20000 in
theorem wX7_takenBy (x0 : Int32) (h : Hp) (Q : Option TV → Hp → Prop) (w :
(if x0 < 40 then
tX7_takenBy_14 x0 h Q
else
(if x0 < 54 then
Q (some (tI 1)) h
else
tX7_takenBy_14 x0 h Q))) : tX7_takenBy x0 h Q := by
  refine T_run (n := 1) (pc' := 1) (lv' := [some (tI x0)]) (st' := [tI x0]) (h' := h) gX7_takenBy rfl ?_
  refine T_kb (v := 40) gX7_takenBy rfl (by decide) ?_
  replace w := c_lt w
  refine T_ic (tgt := 14) gX7_takenBy rfl (by decide) (fun hc => ?_) (fun hc => ?_)
  · replace w := w.1 hc
    exact w
  · replace w := w.2 hc
    refine T_run (n := 1) (pc' := 7) (lv' := [some (tI x0)]) (st' := [tI x0]) (h' := h) gX7_takenBy rfl ?_
    refine T_kb (v := 54) gX7_takenBy rfl (by decide) ?_
    replace w := c_ge w
    refine T_ic (tgt := 14) gX7_takenBy rfl (by decide) (fun hc => ?_) (fun hc => ?_)
    · replace w := w.1 hc
      exact w
    · replace w := w.2 hc
      refine T_kn (v := 1) gX7_takenBy rfl (by decide) ?_
      exact T_ri gX7_takenBy rfl rfl w
set_option maxHeartbeats 4000000 in
set_option maxRecDepth 20000 in
theorem wX7_takenBy_14 (x0 : Int32) (h : Hp) (Q : Option TV → Hp → Prop) (w :
(if x0 < 54 then
tX7_takenBy_28 x0 h Q
else
(if 62 < x0 then
tX7_takenBy_28 x0 h Q
else
Q (some (tI 2)) h))) : tX7_takenBy_14 x0 h Q := by
  refine T_run (n := 1) (pc' := 15) (lv' := [some (tI x0)]) (st' := [tI x0]) (h' := h) gX7_takenBy rfl ?_
  refine T_kb (v := 54) gX7_takenBy rfl (by decide) ?_
  replace w := c_lt w
  refine T_ic (tgt := 28) gX7_takenBy rfl (by decide) (fun hc => ?_) (fun hc => ?_)
  · replace w := w.1 hc
    exact w
  · replace w := w.2 hc
    refine T_run (n := 1) (pc' := 21) (lv' := [some (tI x0)]) (st' := [tI x0]) (h' := h) gX7_takenBy rfl ?_
    refine T_kb (v := 62) gX7_takenBy rfl (by decide) ?_
    replace w := c_gt w
    refine T_ic (tgt := 28) gX7_takenBy rfl (by decide) (fun hc => ?_) (fun hc => ?_)
    · replace w := w.1 hc
      exact w
    · replace w := w.2 hc
      refine T_kn (v := 2) gX7_takenBy rfl (by decide) ?_
      exact T_ri gX7_takenBy rfl rfl w
set_option maxHeartbeats 4000000 in
set_option maxRecDepth 20000 in
theorem wX7_takenBy_28 (x0 : Int32) (h : Hp) (Q : Option TV → Hp → Prop) (w :
(if x0 = 1 then
Q (some (tI 0)) h
else
(if x0 = 26 then
Q (some (tI 1)) h
else
(if x0 = 27 then
Q (some (tI 3)) h
else
(if x0 = 32 then
Q (some (tI 0)) h
else
(if x0 = 33 then
Q (some (tI 1)) h
else
(if x0 = 34 then
Q (some (tI 1)) h
else
(if x0 = 35 then
Q (some (tI 0)) h
else
(if x0 = 36 then
Q (some (tI 1)) h
else
(if x0 = 63 then
Q (some (tI 0)) h
else
(if x0 = 64 then
Q (some (tI 1)) h
else
(if x0 = 65 then
Q (some (tI 0)) h
else
(if x0 = 66 then
Q (some (tI 0)) h
else
(if x0 = 69 then
Q (some (tI 1)) h
else
(if x0 = 70 then
Q (some (tI 2)) h
else
(if x0 = 71 then
Q (some (tI 2)) h
else
(if x0 = 72 then
Q (some (tI 2)) h
else
(if x0 = 73 then
Q (some (tI 2)) h
else
(if x0 = 80 then
Q (some (tI 1)) h
else
(if x0 = 81 then
Q (some (tI 2)) h
else
(if x0 = 83 then
Q (some (tI 2)) h
else
(if x0 = 106 then
Q (some (tI 2)) h
else
(if x0 = 107 then
Q (some (tI 2)) h
else
(if x0 = 108 then
Q (some (tI 2)) h
else
(if x0 = 110 then
Q (some (tI 2)) h
else
(if x0 = 113 then
Q (some (tI 2)) h
else
(if x0 = 116 then
Q (some (tI 2)) h
else
(if x0 = 124 then
Q (some (tI 2)) h
else
(if x0 = 125 then
Q (some (tI 2)) h
else
(if x0 = 126 then
Q (some (tI 2)) h
else
(if x0 = 167 then
Q (some (tI 1)) h
else
(if x0 = 173 then
Q (some (tI 1)) h
else
Q (some (tI (-1))) h)))))))))))))))))))))))))))))))) : tX7_takenBy_28 x0 h Q := by
  refine T_run (n := 1) (pc' := 29) (lv' := [some (tI x0)]) (st' := [tI x0]) (h' := h) gX7_takenBy rfl ?_
  refine T_lsw (dt := 296) (cs := [(1, 288), (26, 290), (27, 294), (32, 288), (33, 290), (34, 290), (35, 288), (36, 290), (63, 288), (64, 290), (65, 288), (66, 288), (69, 290), (70, 292), (71, 292), (72, 292), (73, 292), (80, 290), (81, 292), (83, 292), (106, 292), (107, 292), (108, 292), (110, 292), (113, 292), (116, 292), (124, 292), (125, 292), (126, 292), (167, 290), (173, 290)]) gX7_takenBy rfl (by decide) (by decide) ?_
  refine sw_cons (fun hc => ?_) (fun hc => ?_)
  · rw [if_pos hc] at w
    refine T_kn (v := 0) gX7_takenBy rfl (by decide) ?_
    exact T_ri gX7_takenBy rfl rfl w
  rw [if_neg hc] at w
  refine sw_cons (fun hc => ?_) (fun hc => ?_)
  · rw [if_pos hc] at w
    refine T_kn (v := 1) gX7_takenBy rfl (by decide) ?_
    exact T_ri gX7_takenBy rfl rfl w
  rw [if_neg hc] at w
  refine sw_cons (fun hc => ?_) (fun hc => ?_)
  · rw [if_pos hc] at w
    refine T_kn (v := 3) gX7_takenBy rfl (by decide) ?_
    exact T_ri gX7_takenBy rfl rfl w
  rw [if_neg hc] at w
  refine sw_cons (fun hc => ?_) (fun hc => ?_)
  · rw [if_pos hc] at w
    refine T_kn (v := 0) gX7_takenBy rfl (by decide) ?_
    exact T_ri gX7_takenBy rfl rfl w
  rw [if_neg hc] at w
  refine sw_cons (fun hc => ?_) (fun hc => ?_)
  · rw [if_pos hc] at w
    refine T_kn (v := 1) gX7_takenBy rfl (by decide) ?_
    exact T_ri gX7_takenBy rfl rfl w
  rw [if_neg hc] at w
  refine sw_cons (fun hc => ?_) (fun hc => ?_)
  · rw [if_pos hc] at w
    refine T_kn (v := 1) gX7_takenBy rfl (by decide) ?_
    exact T_ri gX7_takenBy rfl rfl w
  rw [if_neg hc] at w
  refine sw_cons (fun hc => ?_) (fun hc => ?_)
  · rw [if_pos hc] at w
    refine T_kn (v := 0) gX7_takenBy rfl (by decide) ?_
    exact T_ri gX7_takenBy rfl rfl w
  rw [if_neg hc] at w
  refine sw_cons (fun hc => ?_) (fun hc => ?_)
  · rw [if_pos hc] at w
    refine T_kn (v := 1) gX7_takenBy rfl (by decide) ?_
    exact T_ri gX7_takenBy rfl rfl w
  rw [if_neg hc] at w
  refine sw_cons (fun hc => ?_) (fun hc => ?_)
  · rw [if_pos hc] at w
    refine T_kn (v := 0) gX7_takenBy rfl (by decide) ?_
    exact T_ri gX7_takenBy rfl rfl w
  rw [if_neg hc] at w
  refine sw_cons (fun hc => ?_) (fun hc => ?_)
  · rw [if_pos hc] at w
    refine T_kn (v := 1) gX7_takenBy rfl (by decide) ?_
    exact T_ri gX7_takenBy rfl rfl w
  rw [if_neg hc] at w
  refine sw_cons (fun hc => ?_) (fun hc => ?_)
  · rw [if_pos hc] at w
    refine T_kn (v := 0) gX7_takenBy rfl (by decide) ?_
    exact T_ri gX7_takenBy rfl rfl w
  rw [if_neg hc] at w
  refine sw_cons (fun hc => ?_) (fun hc => ?_)
  · rw [if_pos hc] at w
    refine T_kn (v := 0) gX7_takenBy rfl (by decide) ?_
    exact T_ri gX7_takenBy rfl rfl w
  rw [if_neg hc] at w
  refine sw_cons (fun hc => ?_) (fun hc => ?_)
  · rw [if_pos hc] at w
    refine T_kn (v := 1) gX7_takenBy rfl (by decide) ?_
    exact T_ri gX7_takenBy rfl rfl w
  rw [if_neg hc] at w
  refine sw_cons (fun hc => ?_) (fun hc => ?_)
  · rw [if_pos hc] at w
    refine T_kn (v := 2) gX7_takenBy rfl (by decide) ?_
    exact T_ri gX7_takenBy rfl rfl w
  rw [if_neg hc] at w
  refine sw_cons (fun hc => ?_) (fun hc => ?_)
  · rw [if_pos hc] at w
    refine T_kn (v := 2) gX7_takenBy rfl (by decide) ?_
    exact T_ri gX7_takenBy rfl rfl w
  rw [if_neg hc] at w
  refine sw_cons (fun hc => ?_) (fun hc => ?_)
  · rw [if_pos hc] at w
    refine T_kn (v := 2) gX7_takenBy rfl (by decide) ?_
    exact T_ri gX7_takenBy rfl rfl w
  rw [if_neg hc] at w
  refine sw_cons (fun hc => ?_) (fun hc => ?_)
  · rw [if_pos hc] at w
    refine T_kn (v := 2) gX7_takenBy rfl (by decide) ?_
    exact T_ri gX7_takenBy rfl rfl w
  rw [if_neg hc] at w
  refine sw_cons (fun hc => ?_) (fun hc => ?_)
  · rw [if_pos hc] at w
    refine T_kn (v := 1) gX7_takenBy rfl (by decide) ?_
    exact T_ri gX7_takenBy rfl rfl w
  rw [if_neg hc] at w
  refine sw_cons (fun hc => ?_) (fun hc => ?_)
  · rw [if_pos hc] at w
    refine T_kn (v := 2) gX7_takenBy rfl (by decide) ?_
    exact T_ri gX7_takenBy rfl rfl w
  rw [if_neg hc] at w
  refine sw_cons (fun hc => ?_) (fun hc => ?_)
  · rw [if_pos hc] at w
    refine T_kn (v := 2) gX7_takenBy rfl (by decide) ?_
    exact T_ri gX7_takenBy rfl rfl w
  rw [if_neg hc] at w
  refine sw_cons (fun hc => ?_) (fun hc => ?_)
  · rw [if_pos hc] at w
    refine T_kn (v := 2) gX7_takenBy rfl (by decide) ?_
    exact T_ri gX7_takenBy rfl rfl w
  rw [if_neg hc] at w
  refine sw_cons (fun hc => ?_) (fun hc => ?_)
  · rw [if_pos hc] at w
    refine T_kn (v := 2) gX7_takenBy rfl (by decide) ?_
    exact T_ri gX7_takenBy rfl rfl w
  rw [if_neg hc] at w
  refine sw_cons (fun hc => ?_) (fun hc => ?_)
  · rw [if_pos hc] at w
    refine T_kn (v := 2) gX7_takenBy rfl (by decide) ?_
    exact T_ri gX7_takenBy rfl rfl w
  rw [if_neg hc] at w
  refine sw_cons (fun hc => ?_) (fun hc => ?_)
  · rw [if_pos hc] at w
    refine T_kn (v := 2) gX7_takenBy rfl (by decide) ?_
    exact T_ri gX7_takenBy rfl rfl w
  rw [if_neg hc] at w
  refine sw_cons (fun hc => ?_) (fun hc => ?_)
  · rw [if_pos hc] at w
    refine T_kn (v := 2) gX7_takenBy rfl (by decide) ?_
    exact T_ri gX7_takenBy rfl rfl w
  rw [if_neg hc] at w
  refine sw_cons (fun hc => ?_) (fun hc => ?_)
  · rw [if_pos hc] at w
    refine T_kn (v := 2) gX7_takenBy rfl (by decide) ?_
    exact T_ri gX7_takenBy rfl rfl w
  rw [if_neg hc] at w
  refine sw_cons (fun hc => ?_) (fun hc => ?_)
  · rw [if_pos hc] at w
    refine T_kn (v := 2) gX7_takenBy rfl (by decide) ?_
    exact T_ri gX7_takenBy rfl rfl w
  rw [if_neg hc] at w
  refine sw_cons (fun hc => ?_) (fun hc => ?_)
  · rw [if_pos hc] at w
    refine T_kn (v := 2) gX7_takenBy rfl (by decide) ?_
    exact T_ri gX7_takenBy rfl rfl w
  rw [if_neg hc] at w
  refine sw_cons (fun hc => ?_) (fun hc => ?_)
  · rw [if_pos hc] at w
    refine T_kn (v := 2) gX7_takenBy rfl (by decide) ?_
    exact T_ri gX7_takenBy rfl rfl w
  rw [if_neg hc] at w
  refine sw_cons (fun hc => ?_) (fun hc => ?_)
  · rw [if_pos hc] at w
    refine T_kn (v := 1) gX7_takenBy rfl (by decide) ?_
    exact T_ri gX7_takenBy rfl rfl w
  rw [if_neg hc] at w
  refine sw_cons (fun hc => ?_) (fun hc => ?_)
  · rw [if_pos hc] at w
    refine T_kn (v := 1) gX7_takenBy rfl (by decide) ?_
    exact T_ri gX7_takenBy rfl rfl w
  rw [if_neg hc] at w
  refine T_kn (v := (-1)) gX7_takenBy rfl (by decide) ?_
  exact T_ri gX7_takenBy rfl rfl w
set_option maxHeartbeats 4000000 in
set_option maxRecDepth 20000 in
theorem wX0_isInPlace (a0 : Nat) (x1 : Int32) (x2 : Int32) (h : Hp) (Q : Option TV → Hp → Prop) (w :
(if x1 = 32 then
ob h a0 0 (
dr (gr h 1 a0) (fun a_1 => ob h a_1 2 (
tX10_isWithin x2 ((gi h 131 a_1) - 1) h (rI (fun x_3 h_2 =>
((x_3 = 0 ∨ x_3 = 1) ∧ Q (some (tI x_3)) h_2))))))
else
(if x1 = 33 then
ob h a0 0 (
dr (gr h 1 a0) (fun a_4 => ob h a_4 2 (
tX10_isWithin x2 ((gi h 131 a_4) - 1) h (rI (fun x_6 h_5 =>
((x_6 = 0 ∨ x_6 = 1) ∧ Q (some (tI x_6)) h_5))))))
else
(if x1 = 34 then
ob h a0 0 (
dr (gr h 1 a0) (fun a_7 => ob h a_7 2 (
tX10_isWithin x2 ((gi h 131 a_7) - 1) h (rI (fun x_9 h_8 =>
((x_9 = 0 ∨ x_9 = 1) ∧ Q (some (tI x_9)) h_8))))))
else
(if x1 = 35 then
tX10_isWithin x2 7 h (rI (fun x_11 h_10 =>
((x_11 = 0 ∨ x_11 = 1) ∧ Q (some (tI x_11)) h_10)))
else
(if x1 = 36 then
tX10_isWithin x2 7 h (rI (fun x_13 h_12 =>
((x_13 = 0 ∨ x_13 = 1) ∧ Q (some (tI x_13)) h_12)))
else
Q (some (tI 1)) h)))))) : tX0_isInPlace a0 x1 x2 h Q := by
  refine T_run (n := 1) (pc' := 1) (lv' := [some (tR (some a0)), some (tI x1), some (tI x2)]) (st' := [tI x1]) (h' := h) gX0_isInPlace rfl ?_
  refine T_tsw (dt := 57) (cs := [(32, 36), (33, 36), (34, 36), (35, 50), (36, 50)]) gX0_isInPlace rfl (by decide) ?_
  refine sw_cons (fun hc => ?_) (fun hc => ?_)
  · rw [if_pos hc] at w
    refine T_run (n := 2) (pc' := 38) (lv' := [some (tR (some a0)), some (tI x1), some (tI x2)]) (st' := [tR (some a0), tI x2]) (h' := h) gX0_isInPlace rfl ?_
    obtain ⟨ho, w⟩ := w
    refine T_gs (tR (gr h 1 a0)) gX0_isInPlace rfl rfl ⟨ho, ?_⟩
    obtain ⟨a_1, he, ho, w⟩ := w
    refine T_gf (fun a_1 => tI (gi h 131 a_1)) gX0_isInPlace rfl (fun _ => rfl) ⟨a_1, he, ho, ?_⟩
    refine T_kn (v := 1) gX0_isInPlace rfl (by decide) ?_
    refine T_run (n := 1) (pc' := 46) (lv' := [some (tR (some a0)), some (tI x1), some (tI x2)]) (st' := [tI ((gi h 131 a_1) - 1), tI x2]) (h' := h) gX0_isInPlace rfl ?_
    refine T_cs (lv' := [some (tI x2), some (tI ((gi h 131 a_1) - 1))]) gX0_isInPlace rfl rfl rfl rfl (Nat.le_of_ble_eq_true rfl) gX10_isWithin (Nat.le_of_ble_eq_true rfl) rfl (T_ki ?_)
    refine T.mono w (fun rr h_2 hw => ?_)
    obtain ⟨x_3, hr, w⟩ := hw
    refine ⟨x_3, hr, ?_⟩
    exact T_rz gX0_isInPlace rfl rfl w.1 w.2
  rw [if_neg hc] at w
  refine sw_cons (fun hc => ?_) (fun hc => ?_)
  · rw [if_pos hc] at w
    refine T_run (n := 2) (pc' := 38) (lv' := [some (tR (some a0)), some (tI x1), some (tI x2)]) (st' := [tR (some a0), tI x2]) (h' := h) gX0_isInPlace rfl ?_
    obtain ⟨ho, w⟩ := w
    refine T_gs (tR (gr h 1 a0)) gX0_isInPlace rfl rfl ⟨ho, ?_⟩
    obtain ⟨a_4, he, ho, w⟩ := w
    refine T_gf (fun a_4 => tI (gi h 131 a_4)) gX0_isInPlace rfl (fun _ => rfl) ⟨a_4, he, ho, ?_⟩
    refine T_kn (v := 1) gX0_isInPlace rfl (by decide) ?_
    refine T_run (n := 1) (pc' := 46) (lv' := [some (tR (some a0)), some (tI x1), some (tI x2)]) (st' := [tI ((gi h 131 a_4) - 1), tI x2]) (h' := h) gX0_isInPlace rfl ?_
    refine T_cs (lv' := [some (tI x2), some (tI ((gi h 131 a_4) - 1))]) gX0_isInPlace rfl rfl rfl rfl (Nat.le_of_ble_eq_true rfl) gX10_isWithin (Nat.le_of_ble_eq_true rfl) rfl (T_ki ?_)
    refine T.mono w (fun rr h_5 hw => ?_)
    obtain ⟨x_6, hr, w⟩ := hw
    refine ⟨x_6, hr, ?_⟩
    exact T_rz gX0_isInPlace rfl rfl w.1 w.2
  rw [if_neg hc] at w
  refine sw_cons (fun hc => ?_) (fun hc => ?_)
  · rw [if_pos hc] at w
    refine T_run (n := 2) (pc' := 38) (lv' := [some (tR (some a0)), some (tI x1), some (tI x2)]) (st' := [tR (some a0), tI x2]) (h' := h) gX0_isInPlace rfl ?_
    obtain ⟨ho, w⟩ := w
    refine T_gs (tR (gr h 1 a0)) gX0_isInPlace rfl rfl ⟨ho, ?_⟩
    obtain ⟨a_7, he, ho, w⟩ := w
    refine T_gf (fun a_7 => tI (gi h 131 a_7)) gX0_isInPlace rfl (fun _ => rfl) ⟨a_7, he, ho, ?_⟩
    refine T_kn (v := 1) gX0_isInPlace rfl (by decide) ?_
    refine T_run (n := 1) (pc' := 46) (lv' := [some (tR (some a0)), some (tI x1), some (tI x2)]) (st' := [tI ((gi h 131 a_7) - 1), tI x2]) (h' := h) gX0_isInPlace rfl ?_
    refine T_cs (lv' := [some (tI x2), some (tI ((gi h 131 a_7) - 1))]) gX0_isInPlace rfl rfl rfl rfl (Nat.le_of_ble_eq_true rfl) gX10_isWithin (Nat.le_of_ble_eq_true rfl) rfl (T_ki ?_)
    refine T.mono w (fun rr h_8 hw => ?_)
    obtain ⟨x_9, hr, w⟩ := hw
    refine ⟨x_9, hr, ?_⟩
    exact T_rz gX0_isInPlace rfl rfl w.1 w.2
  rw [if_neg hc] at w
  refine sw_cons (fun hc => ?_) (fun hc => ?_)
  · rw [if_pos hc] at w
    refine T_run (n := 1) (pc' := 51) (lv' := [some (tR (some a0)), some (tI x1), some (tI x2)]) (st' := [tI x2]) (h' := h) gX0_isInPlace rfl ?_
    refine T_kb (v := 7) gX0_isInPlace rfl (by decide) ?_
    refine T_cs (lv' := [some (tI x2), some (tI 7)]) gX0_isInPlace rfl rfl rfl rfl (Nat.le_of_ble_eq_true rfl) gX10_isWithin (Nat.le_of_ble_eq_true rfl) rfl (T_ki ?_)
    refine T.mono w (fun rr h_10 hw => ?_)
    obtain ⟨x_11, hr, w⟩ := hw
    refine ⟨x_11, hr, ?_⟩
    exact T_rz gX0_isInPlace rfl rfl w.1 w.2
  rw [if_neg hc] at w
  refine sw_cons (fun hc => ?_) (fun hc => ?_)
  · rw [if_pos hc] at w
    refine T_run (n := 1) (pc' := 51) (lv' := [some (tR (some a0)), some (tI x1), some (tI x2)]) (st' := [tI x2]) (h' := h) gX0_isInPlace rfl ?_
    refine T_kb (v := 7) gX0_isInPlace rfl (by decide) ?_
    refine T_cs (lv' := [some (tI x2), some (tI 7)]) gX0_isInPlace rfl rfl rfl rfl (Nat.le_of_ble_eq_true rfl) gX10_isWithin (Nat.le_of_ble_eq_true rfl) rfl (T_ki ?_)
    refine T.mono w (fun rr h_12 hw => ?_)
    obtain ⟨x_13, hr, w⟩ := hw
    refine ⟨x_13, hr, ?_⟩
    exact T_rz gX0_isInPlace rfl rfl w.1 w.2
  rw [if_neg hc] at w
  refine T_kn (v := 1) gX0_isInPlace rfl (by decide) ?_
  exact T_rz gX0_isInPlace rfl rfl (Or.inr rfl) w
set_option maxHeartbeats 4000000 in
set_option maxRecDepth 20000 in
theorem wX7_putBy (x0 : Int32) (h : Hp) (Q : Option TV → Hp → Prop) (w :
(if x0 < 54 then
tX7_putBy_14 x0 h Q
else
(if 62 < x0 then
tX7_putBy_14 x0 h Q
else
Q (some (tI 0)) h))) : tX7_putBy x0 h Q := by
  refine T_run (n := 1) (pc' := 1) (lv' := [some (tI x0)]) (st' := [tI x0]) (h' := h) gX7_putBy rfl ?_
  refine T_kb (v := 54) gX7_putBy rfl (by decide) ?_
  replace w := c_lt w
  refine T_ic (tgt := 14) gX7_putBy rfl (by decide) (fun hc => ?_) (fun hc => ?_)
  · replace w := w.1 hc
    exact w
  · replace w := w.2 hc
    refine T_run (n := 1) (pc' := 7) (lv' := [some (tI x0)]) (st' := [tI x0]) (h' := h) gX7_putBy rfl ?_
    refine T_kb (v := 62) gX7_putBy rfl (by decide) ?_
    replace w := c_gt w
    refine T_ic (tgt := 14) gX7_putBy rfl (by decide) (fun hc => ?_) (fun hc => ?_)
    · replace w := w.1 hc
      exact w
    · replace w := w.2 hc
      refine T_kn (v := 0) gX7_putBy rfl (by decide) ?_
      exact T_ri gX7_putBy rfl rfl w
set_option maxHeartbeats 4000000 in
set_option maxRecDepth 20000 in
theorem wX7_putBy_14 (x0 : Int32) (h : Hp) (Q : Option TV → Hp → Prop) (w :
(if x0 = 1 then
Q (some (tI 0)) h
else
(if x0 = 26 then
Q (some (tI 0)) h
else
(if x0 = 33 then
Q (some (tI 0)) h
else
(if x0 = 36 then
Q (some (tI 0)) h
else
Q (some (tI 1)) h))))) : tX7_putBy_14 x0 h Q := by
  refine T_run (n := 1) (pc' := 15) (lv' := [some (tI x0)]) (st' := [tI x0]) (h' := h) gX7_putBy rfl ?_
  refine T_lsw (dt := 58) (cs := [(1, 56), (26, 56), (33, 56), (36, 56)]) gX7_putBy rfl (by decide) (by decide) ?_
  refine sw_cons (fun hc => ?_) (fun hc => ?_)
  · rw [if_pos hc] at w
    refine T_kn (v := 0) gX7_putBy rfl (by decide) ?_
    exact T_ri gX7_putBy rfl rfl w
  rw [if_neg hc] at w
  refine sw_cons (fun hc => ?_) (fun hc => ?_)
  · rw [if_pos hc] at w
    refine T_kn (v := 0) gX7_putBy rfl (by decide) ?_
    exact T_ri gX7_putBy rfl rfl w
  rw [if_neg hc] at w
  refine sw_cons (fun hc => ?_) (fun hc => ?_)
  · rw [if_pos hc] at w
    refine T_kn (v := 0) gX7_putBy rfl (by decide) ?_
    exact T_ri gX7_putBy rfl rfl w
  rw [if_neg hc] at w
  refine sw_cons (fun hc => ?_) (fun hc => ?_)
  · rw [if_pos hc] at w
    refine T_kn (v := 0) gX7_putBy rfl (by decide) ?_
    exact T_ri gX7_putBy rfl rfl w
  rw [if_neg hc] at w
  refine T_kn (v := 1) gX7_putBy rfl (by decide) ?_
  exact T_ri gX7_putBy rfl rfl w
set_option maxHeartbeats 4000000 in
set_option maxRecDepth 20000 in
theorem wX0_writePlain (a0 : Nat) (x1 : Int32) (x2 : Int32) (x3 : Int32) (h : Hp) (Q : Option TV → Hp → Prop) (w :
tX7_takenBy x1 h (rI (fun x_2 h_1 =>
(if x_2 < 0 then
Q (some (tI 0)) h_1
else
ob h_1 a0 0 (tX0_has a0 x_2 h_1 (rI (fun x_4 h_3 =>
(if x_4 = 0 then
Q (some (tI 0)) h_3
else
ob h_3 a0 0 (tX0_isInPlace a0 x1 x2 h_3 (rI (fun x_6 h_5 =>
(if x_6 = 0 then
Q (some (tI 0)) h_5
else
ob h_5 a0 0 (tX0_append a0 x1 x2 x3 h_5 (rR (fun r_8 h_7 =>
ob h_7 a0 0 (tX0_take a0 x_2 h_7 (rV (fun h_9 =>
tX7_putBy x1 h_9 (rI (fun x_12 h_11 =>
ob h_11 a0 0 (tX0_put a0 x_12 h_11 (rV (fun h_13 =>
Q (some (tI 1)) h_13))))))))))))))))))))))) : tX0_writePlain a0 x1 x2 x3 h Q := by
  refine T_run (n := 1) (pc' := 1) (lv' := [some (tR (some a0)), some (tI x1), some (tI x2), some (tI x3), none]) (st' := [tI x1]) (h' := h) gX0_writePlain rfl ?_
  refine T_cs (lv' := [some (tI x1)]) gX0_writePlain rfl rfl rfl rfl (Nat.le_of_ble_eq_true rfl) gX7_takenBy (Nat.le_of_ble_eq_true rfl) rfl (T_ki ?_)
  refine T.mono w (fun rr h_1 hw => ?_)
  obtain ⟨x_2, hr, w⟩ := hw
  refine ⟨x_2, hr, ?_⟩
  refine T_run (n := 2) (pc' := 8) (lv' := [some (tR (some a0)), some (tI x1), some (tI x2), some (tI x3), some (tI x_2)]) (st' := [tI x_2]) (h' := h_1) gX0_writePlain rfl ?_
  replace w := c_lt w
  refine T_if (tgt := 29) gX0_writePlain rfl (by decide) (fun hc => ?_) (fun hc => ?_)
  · replace w := w.1 hc
    refine T_kn (v := 0) gX0_writePlain rfl (by decide) ?_
    exact T_rz gX0_writePlain rfl rfl (Or.inl rfl) w
  · replace w := w.2 hc
    refine T_run (n := 2) (pc' := 14) (lv' := [some (tR (some a0)), some (tI x1), some (tI x2), some (tI x3), some (tI x_2)]) (st' := [tI x_2, tR (some a0)]) (h' := h_1) gX0_writePlain rfl ?_
    obtain ⟨ho, w⟩ := w
    refine T_cv (fun aa => [some (tR (some aa)), some (tI x_2)]) gX0_writePlain rfl rfl rfl rfl (Nat.le_of_ble_eq_true rfl) gX0_has (fun _ => Nat.le_of_ble_eq_true rfl) (fun _ => rfl) ⟨a0, rfl, ho, T_ki ?_⟩
    refine T.mono w (fun rr h_3 hw => ?_)
    obtain ⟨x_4, hr, w⟩ := hw
    refine ⟨x_4, hr, ?_⟩
    replace w := c_eq w
    refine T_if (tgt := 29) gX0_writePlain rfl (by decide) (fun hc => ?_) (fun hc => ?_)
    · replace w := w.1 hc
      refine T_kn (v := 0) gX0_writePlain rfl (by decide) ?_
      exact T_rz gX0_writePlain rfl rfl (Or.inl rfl) w
    · replace w := w.2 hc
      refine T_run (n := 3) (pc' := 23) (lv' := [some (tR (some a0)), some (tI x1), some (tI x2), some (tI x3), some (tI x_2)]) (st' := [tI x2, tI x1, tR (some a0)]) (h' := h_3) gX0_writePlain rfl ?_
      obtain ⟨ho, w⟩ := w
      refine T_cv (fun aa => [some (tR (some aa)), some (tI x1), some (tI x2)]) gX0_writePlain rfl rfl rfl rfl (Nat.le_of_ble_eq_true rfl) gX0_isInPlace (fun _ => Nat.le_of_ble_eq_true rfl) (fun _ => rfl) ⟨a0, rfl, ho, T_ki ?_⟩
      refine T.mono w (fun rr h_5 hw => ?_)
      obtain ⟨x_6, hr, w⟩ := hw
      refine ⟨x_6, hr, ?_⟩
      replace w := c_ne w
      refine T_if (tgt := 31) gX0_writePlain rfl (by decide) (fun hc => ?_) (fun hc => ?_)
      · replace w := w.1 hc
        refine T_run (n := 4) (pc' := 35) (lv' := [some (tR (some a0)), some (tI x1), some (tI x2), some (tI x3), some (tI x_2)]) (st' := [tI x3, tI x2, tI x1, tR (some a0)]) (h' := h_5) gX0_writePlain rfl ?_
        obtain ⟨ho, w⟩ := w
        refine T_cv (fun aa => [some (tR (some aa)), some (tI x1), some (tI x2), some (tI x3)]) gX0_writePlain rfl rfl rfl rfl (Nat.le_of_ble_eq_true rfl) gX0_append (fun _ => Nat.le_of_ble_eq_true rfl) (fun _ => rfl) ⟨a0, rfl, ho, T_kr ?_⟩
        refine T.mono w (fun rr h_7 hw => ?_)
        obtain ⟨r_8, hr, w⟩ := hw
        refine ⟨r_8, hr, ?_⟩
        refine T_run (n := 3) (pc' := 42) (lv' := [some (tR (some a0)), some (tI x1), some (tI x2), some (tI x3), some (tI x_2)]) (st' := [tI x_2, tR (some a0)]) (h' := h_7) gX0_writePlain rfl ?_
        obtain ⟨ho, w⟩ := w
        refine T_cv (fun aa => [some (tR (some aa)), some (tI x_2)]) gX0_writePlain rfl rfl rfl rfl (Nat.le_of_ble_eq_true rfl) gX0_take (fun _ => Nat.le_of_ble_eq_true rfl) (fun _ => rfl) ⟨a0, rfl, ho, T_kv ?_⟩
        refine T.mono w (fun rr h_9 hw => ?_)
        obtain ⟨hr, w⟩ := hw
        refine ⟨hr, ?_⟩
        refine T_run (n := 2) (pc' := 47) (lv' := [some (tR (some a0)), some (tI x1), some (tI x2), some (tI x3), some (tI x_2)]) (st' := [tI x1, tR (some a0)]) (h' := h_9) gX0_writePlain rfl ?_
        refine T_cs (lv' := [some (tI x1)]) gX0_writePlain rfl rfl rfl rfl (Nat.le_of_ble_eq_true rfl) gX7_putBy (Nat.le_of_ble_eq_true rfl) rfl (T_ki ?_)
        refine T.mono w (fun rr h_11 hw => ?_)
        obtain ⟨x_12, hr, w⟩ := hw
        refine ⟨x_12, hr, ?_⟩
        obtain ⟨ho, w⟩ := w
        refine T_cv (fun aa => [some (tR (some aa)), some (tI x_12)]) gX0_writePlain rfl rfl rfl rfl (Nat.le_of_ble_eq_true rfl) gX0_put (fun _ => Nat.le_of_ble_eq_true rfl) (fun _ => rfl) ⟨a0, rfl, ho, T_kv ?_⟩
        refine T.mono w (fun rr h_13 hw => ?_)
        obtain ⟨hr, w⟩ := hw
        refine ⟨hr, ?_⟩
        refine T_kn (v := 1) gX0_writePlain rfl (by decide) ?_
        exact T_rz gX0_writePlain rfl rfl (Or.inr rfl) w
      · replace w := w.2 hc
        refine T_kn (v := 0) gX0_writePlain rfl (by decide) ?_
        exact T_rz gX0_writePlain rfl rfl (Or.inl rfl) w
set_option maxHeartbeats 4000000 in
set_option maxRecDepth 20000 in
theorem wX0_write (a0 : Nat) (x1 : Int32) (x2 : Int32) (x3 : Int32) (h : Hp) (Q : Option TV → Hp → Prop) (w :
ob h a0 0 (
(if (gr h 3 a0) = none then
Q (some (tI 0)) h
else
ob h a0 0 (
(if 0 < (gi h 5 a0) then
(if x1 = 6 then
tX0_write_22 a0 x1 x2 x3 h Q
else
Q (some (tI 0)) h)
else
tX0_write_22 a0 x1 x2 x3 h Q))))) : tX0_write a0 x1 x2 x3 h Q := by
  refine T_run (n := 1) (pc' := 1) (lv' := [some (tR (some a0)), some (tI x1), some (tI x2), some (tI x3)]) (st' := [tR (some a0)]) (h' := h) gX0_write rfl ?_
  obtain ⟨ho, w⟩ := w
  refine T_gs (tR (gr h 3 a0)) gX0_write rfl rfl ⟨ho, ?_⟩
  refine T_nu2 (tgt := 20) gX0_write rfl (by decide) (fun hc => ?_) (fun hc => ?_)
  · rw [if_pos hc] at w
    refine T_kn (v := 0) gX0_write rfl (by decide) ?_
    exact T_rz gX0_write rfl rfl (Or.inl rfl) w
  · rw [if_neg hc] at w
    refine T_run (n := 1) (pc' := 8) (lv' := [some (tR (some a0)), some (tI x1), some (tI x2), some (tI x3)]) (st' := [tR (some a0)]) (h' := h) gX0_write rfl ?_
    obtain ⟨ho, w⟩ := w
    refine T_gs (tI (gi h 5 a0)) gX0_write rfl rfl ⟨ho, ?_⟩
    replace w := c_le w
    refine T_if (tgt := 22) gX0_write rfl (by decide) (fun hc => ?_) (fun hc => ?_)
    · replace w := w.1 hc
      exact w
    · replace w := w.2 hc
      refine T_run (n := 1) (pc' := 15) (lv' := [some (tR (some a0)), some (tI x1), some (tI x2), some (tI x3)]) (st' := [tI x1]) (h' := h) gX0_write rfl ?_
      refine T_kb (v := 6) gX0_write rfl (by decide) ?_
      replace w := c_eq w
      refine T_ic (tgt := 22) gX0_write rfl (by decide) (fun hc => ?_) (fun hc => ?_)
      · replace w := w.1 hc
        exact w
      · replace w := w.2 hc
        refine T_kn (v := 0) gX0_write rfl (by decide) ?_
        exact T_rz gX0_write rfl rfl (Or.inl rfl) w
set_option maxHeartbeats 4000000 in
set_option maxRecDepth 20000 in
theorem wX0_write_22 (a0 : Nat) (x1 : Int32) (x2 : Int32) (x3 : Int32) (h : Hp) (Q : Option TV → Hp → Prop) (w :
(if x1 = 0 then
ob h a0 0 (tX0_writeTrap a0 x2 x3 h (rI (fun x_2 h_1 =>
((x_2 = 0 ∨ x_2 = 1) ∧ Q (some (tI x_2)) h_1))))
else
(if x1 = 2 then
ob h a0 0 (tX0_writeStart a0 x1 x2 x3 h (rI (fun x_4 h_3 =>
((x_4 = 0 ∨ x_4 = 1) ∧ Q (some (tI x_4)) h_3))))
else
(if x1 = 3 then
ob h a0 0 (tX0_writeStart a0 x1 x2 x3 h (rI (fun x_6 h_5 =>
((x_6 = 0 ∨ x_6 = 1) ∧ Q (some (tI x_6)) h_5))))
else
(if x1 = 4 then
ob h a0 0 (tX0_writeStart a0 x1 x2 x3 h (rI (fun x_8 h_7 =>
((x_8 = 0 ∨ x_8 = 1) ∧ Q (some (tI x_8)) h_7))))
else
(if x1 = 5 then
ob h a0 0 (tX0_writeElse a0 x2 x3 h (rI (fun x_10 h_9 =>
((x_10 = 0 ∨ x_10 = 1) ∧ Q (some (tI x_10)) h_9))))
else
(if x1 = 6 then
ob h a0 0 (tX0_writeEntry a0 x2 x3 h (rI (fun x_12 h_11 =>
((x_12 = 0 ∨ x_12 = 1) ∧ Q (some (tI x_12)) h_11))))
else
(if x1 = 11 then
ob h a0 0 (tX0_writeEnd a0 x2 x3 h (rI (fun x_14 h_13 =>
((x_14 = 0 ∨ x_14 = 1) ∧ Q (some (tI x_14)) h_13))))
else
(if x1 = 12 then
ob h a0 0 (tX0_labelAt a0 x2 h (rR (fun r_16 h_15 =>
ob h_15 a0 0 (tX0_writeBranch a0 12 x2 x3 r_16 h_15 (rI (fun x_18 h_17 =>
((x_18 = 0 ∨ x_18 = 1) ∧ Q (some (tI x_18)) h_17)))))))
else
(if x1 = 13 then
ob h a0 0 (tX0_writeBranchIf a0 x2 x3 h (rI (fun x_20 h_19 =>
((x_20 = 0 ∨ x_20 = 1) ∧ Q (some (tI x_20)) h_19))))
else
(if x1 = 14 then
ob h a0 0 (tX0_writeTable a0 x2 x3 h (rI (fun x_22 h_21 =>
((x_22 = 0 ∨ x_22 = 1) ∧ Q (some (tI x_22)) h_21))))
else
(if x1 = 15 then
ob h a0 0 (
ob h a0 0 (tX0_labelAt a0 ((gi h 8 a0) - 1) h (rR (fun r_24 h_23 =>
ob h_23 a0 0 (tX0_writeBranch a0 15 x2 x3 r_24 h_23 (rI (fun x_26 h_25 =>
((x_26 = 0 ∨ x_26 = 1) ∧ Q (some (tI x_26)) h_25))))))))
else
(if x1 = 16 then
ob h a0 0 (tX0_writeCall a0 x2 x3 h (rI (fun x_28 h_27 =>
((x_28 = 0 ∨ x_28 = 1) ∧ Q (some (tI x_28)) h_27))))
else
(if x1 = 17 then
ob h a0 0 (tX0_writeCallByTable a0 x2 x3 h (rI (fun x_30 h_29 =>
((x_30 = 0 ∨ x_30 = 1) ∧ Q (some (tI x_30)) h_29))))
else
ob h a0 0 (tX0_writePlain a0 x1 x2 x3 h (rI (fun x_32 h_31 =>
((x_32 = 0 ∨ x_32 = 1) ∧ Q (some (tI x_32)) h_31)))))))))))))))))) : tX0_write_22 a0 x1 x2 x3 h Q := by
  refine T_run (n := 1) (pc' := 23) (lv' := [some (tR (some a0)), some (tI x1), some (tI x2), some (tI x3)]) (st' := [tI x1]) (h' := h) gX0_write rfl ?_
  refine T_tsw (dt := 205) (cs := [(0, 108), (2, 115), (3, 115), (4, 115), (5, 123), (6, 130), (11, 137), (12, 144), (13, 158), (14, 165), (15, 172), (16, 191), (17, 198)]) gX0_write rfl (by decide) ?_
  refine sw_cons (fun hc => ?_) (fun hc => ?_)
  · rw [if_pos hc] at w
    refine T_run (n := 3) (pc' := 111) (lv' := [some (tR (some a0)), some (tI x1), some (tI x2), some (tI x3)]) (st' := [tI x3, tI x2, tR (some a0)]) (h' := h) gX0_write rfl ?_
    obtain ⟨ho, w⟩ := w
    refine T_cv (fun aa => [some (tR (some aa)), some (tI x2), some (tI x3)]) gX0_write rfl rfl rfl rfl (Nat.le_of_ble_eq_true rfl) gX0_writeTrap (fun _ => Nat.le_of_ble_eq_true rfl) (fun _ => rfl) ⟨a0, rfl, ho, T_ki ?_⟩
    refine T.mono w (fun rr h_1 hw => ?_)
    obtain ⟨x_2, hr, w⟩ := hw
    refine ⟨x_2, hr, ?_⟩
    exact T_rz gX0_write rfl rfl w.1 w.2
  rw [if_neg hc] at w
  refine sw_cons (fun hc => ?_) (fun hc => ?_)
  · rw [if_pos hc] at w
    refine T_run (n := 4) (pc' := 119) (lv' := [some (tR (some a0)), some (tI x1), some (tI x2), some (tI x3)]) (st' := [tI x3, tI x2, tI x1, tR (some a0)]) (h' := h) gX0_write rfl ?_
    obtain ⟨ho, w⟩ := w
    refine T_cv (fun aa => [some (tR (some aa)), some (tI x1), some (tI x2), some (tI x3), none, none]) gX0_write rfl rfl rfl rfl (Nat.le_of_ble_eq_true rfl) gX0_writeStart (fun _ => Nat.le_of_ble_eq_true rfl) (fun _ => rfl) ⟨a0, rfl, ho, T_ki ?_⟩
    refine T.mono w (fun rr h_3 hw => ?_)
    obtain ⟨x_4, hr, w⟩ := hw
    refine ⟨x_4, hr, ?_⟩
    exact T_rz gX0_write rfl rfl w.1 w.2
  rw [if_neg hc] at w
  refine sw_cons (fun hc => ?_) (fun hc => ?_)
  · rw [if_pos hc] at w
    refine T_run (n := 4) (pc' := 119) (lv' := [some (tR (some a0)), some (tI x1), some (tI x2), some (tI x3)]) (st' := [tI x3, tI x2, tI x1, tR (some a0)]) (h' := h) gX0_write rfl ?_
    obtain ⟨ho, w⟩ := w
    refine T_cv (fun aa => [some (tR (some aa)), some (tI x1), some (tI x2), some (tI x3), none, none]) gX0_write rfl rfl rfl rfl (Nat.le_of_ble_eq_true rfl) gX0_writeStart (fun _ => Nat.le_of_ble_eq_true rfl) (fun _ => rfl) ⟨a0, rfl, ho, T_ki ?_⟩
    refine T.mono w (fun rr h_5 hw => ?_)
    obtain ⟨x_6, hr, w⟩ := hw
    refine ⟨x_6, hr, ?_⟩
    exact T_rz gX0_write rfl rfl w.1 w.2
  rw [if_neg hc] at w
  refine sw_cons (fun hc => ?_) (fun hc => ?_)
  · rw [if_pos hc] at w
    refine T_run (n := 4) (pc' := 119) (lv' := [some (tR (some a0)), some (tI x1), some (tI x2), some (tI x3)]) (st' := [tI x3, tI x2, tI x1, tR (some a0)]) (h' := h) gX0_write rfl ?_
    obtain ⟨ho, w⟩ := w
    refine T_cv (fun aa => [some (tR (some aa)), some (tI x1), some (tI x2), some (tI x3), none, none]) gX0_write rfl rfl rfl rfl (Nat.le_of_ble_eq_true rfl) gX0_writeStart (fun _ => Nat.le_of_ble_eq_true rfl) (fun _ => rfl) ⟨a0, rfl, ho, T_ki ?_⟩
    refine T.mono w (fun rr h_7 hw => ?_)
    obtain ⟨x_8, hr, w⟩ := hw
    refine ⟨x_8, hr, ?_⟩
    exact T_rz gX0_write rfl rfl w.1 w.2
  rw [if_neg hc] at w
  refine sw_cons (fun hc => ?_) (fun hc => ?_)
  · rw [if_pos hc] at w
    refine T_run (n := 3) (pc' := 126) (lv' := [some (tR (some a0)), some (tI x1), some (tI x2), some (tI x3)]) (st' := [tI x3, tI x2, tR (some a0)]) (h' := h) gX0_write rfl ?_
    obtain ⟨ho, w⟩ := w
    refine T_cv (fun aa => [some (tR (some aa)), some (tI x2), some (tI x3)]) gX0_write rfl rfl rfl rfl (Nat.le_of_ble_eq_true rfl) gX0_writeElse (fun _ => Nat.le_of_ble_eq_true rfl) (fun _ => rfl) ⟨a0, rfl, ho, T_ki ?_⟩
    refine T.mono w (fun rr h_9 hw => ?_)
    obtain ⟨x_10, hr, w⟩ := hw
    refine ⟨x_10, hr, ?_⟩
    exact T_rz gX0_write rfl rfl w.1 w.2
  rw [if_neg hc] at w
  refine sw_cons (fun hc => ?_) (fun hc => ?_)
  · rw [if_pos hc] at w
    refine T_run (n := 3) (pc' := 133) (lv' := [some (tR (some a0)), some (tI x1), some (tI x2), some (tI x3)]) (st' := [tI x3, tI x2, tR (some a0)]) (h' := h) gX0_write rfl ?_
    obtain ⟨ho, w⟩ := w
    refine T_cv (fun aa => [some (tR (some aa)), some (tI x2), some (tI x3), none]) gX0_write rfl rfl rfl rfl (Nat.le_of_ble_eq_true rfl) gX0_writeEntry (fun _ => Nat.le_of_ble_eq_true rfl) (fun _ => rfl) ⟨a0, rfl, ho, T_ki ?_⟩
    refine T.mono w (fun rr h_11 hw => ?_)
    obtain ⟨x_12, hr, w⟩ := hw
    refine ⟨x_12, hr, ?_⟩
    exact T_rz gX0_write rfl rfl w.1 w.2
  rw [if_neg hc] at w
  refine sw_cons (fun hc => ?_) (fun hc => ?_)
  · rw [if_pos hc] at w
    refine T_run (n := 3) (pc' := 140) (lv' := [some (tR (some a0)), some (tI x1), some (tI x2), some (tI x3)]) (st' := [tI x3, tI x2, tR (some a0)]) (h' := h) gX0_write rfl ?_
    obtain ⟨ho, w⟩ := w
    refine T_cv (fun aa => [some (tR (some aa)), some (tI x2), some (tI x3), none]) gX0_write rfl rfl rfl rfl (Nat.le_of_ble_eq_true rfl) gX0_writeEnd (fun _ => Nat.le_of_ble_eq_true rfl) (fun _ => rfl) ⟨a0, rfl, ho, T_ki ?_⟩
    refine T.mono w (fun rr h_13 hw => ?_)
    obtain ⟨x_14, hr, w⟩ := hw
    refine ⟨x_14, hr, ?_⟩
    exact T_rz gX0_write rfl rfl w.1 w.2
  rw [if_neg hc] at w
  refine sw_cons (fun hc => ?_) (fun hc => ?_)
  · rw [if_pos hc] at w
    refine T_run (n := 1) (pc' := 145) (lv' := [some (tR (some a0)), some (tI x1), some (tI x2), some (tI x3)]) (st' := [tR (some a0)]) (h' := h) gX0_write rfl ?_
    refine T_kb (v := 12) gX0_write rfl (by decide) ?_
    refine T_run (n := 4) (pc' := 151) (lv' := [some (tR (some a0)), some (tI x1), some (tI x2), some (tI x3)]) (st' := [tI x2, tR (some a0), tI x3, tI x2, tI 12, tR (some a0)]) (h' := h) gX0_write rfl ?_
    obtain ⟨ho, w⟩ := w
    refine T_cv (fun aa => [some (tR (some aa)), some (tI x2), none, none]) gX0_write rfl rfl rfl rfl (Nat.le_of_ble_eq_true rfl) gX0_labelAt (fun _ => Nat.le_of_ble_eq_true rfl) (fun _ => rfl) ⟨a0, rfl, ho, T_kr ?_⟩
    refine T.mono w (fun rr h_15 hw => ?_)
    obtain ⟨r_16, hr, w⟩ := hw
    refine ⟨r_16, hr, ?_⟩
    obtain ⟨ho, w⟩ := w
    refine T_cv (fun aa => [some (tR (some aa)), some (tI 12), some (tI x2), some (tI x3), some (tR r_16)]) gX0_write rfl rfl rfl rfl (Nat.le_of_ble_eq_true rfl) gX0_writeBranch (fun _ => Nat.le_of_ble_eq_true rfl) (fun _ => rfl) ⟨a0, rfl, ho, T_ki ?_⟩
    refine T.mono w (fun rr h_17 hw => ?_)
    obtain ⟨x_18, hr, w⟩ := hw
    refine ⟨x_18, hr, ?_⟩
    exact T_rz gX0_write rfl rfl w.1 w.2
  rw [if_neg hc] at w
  refine sw_cons (fun hc => ?_) (fun hc => ?_)
  · rw [if_pos hc] at w
    refine T_run (n := 3) (pc' := 161) (lv' := [some (tR (some a0)), some (tI x1), some (tI x2), some (tI x3)]) (st' := [tI x3, tI x2, tR (some a0)]) (h' := h) gX0_write rfl ?_
    obtain ⟨ho, w⟩ := w
    refine T_cv (fun aa => [some (tR (some aa)), some (tI x2), some (tI x3), none]) gX0_write rfl rfl rfl rfl (Nat.le_of_ble_eq_true rfl) gX0_writeBranchIf (fun _ => Nat.le_of_ble_eq_true rfl) (fun _ => rfl) ⟨a0, rfl, ho, T_ki ?_⟩
    refine T.mono w (fun rr h_19 hw => ?_)
    obtain ⟨x_20, hr, w⟩ := hw
    refine ⟨x_20, hr, ?_⟩
    exact T_rz gX0_write rfl rfl w.1 w.2
  rw [if_neg hc] at w
  refine sw_cons (fun hc => ?_) (fun hc => ?_)
  · rw [if_pos hc] at w
    refine T_run (n := 3) (pc' := 168) (lv' := [some (tR (some a0)), some (tI x1), some (tI x2), some (tI x3)]) (st' := [tI x3, tI x2, tR (some a0)]) (h' := h) gX0_write rfl ?_
    obtain ⟨ho, w⟩ := w
    refine T_cv (fun aa => [some (tR (some aa)), some (tI x2), some (tI x3)]) gX0_write rfl rfl rfl rfl (Nat.le_of_ble_eq_true rfl) gX0_writeTable (fun _ => Nat.le_of_ble_eq_true rfl) (fun _ => rfl) ⟨a0, rfl, ho, T_ki ?_⟩
    refine T.mono w (fun rr h_21 hw => ?_)
    obtain ⟨x_22, hr, w⟩ := hw
    refine ⟨x_22, hr, ?_⟩
    exact T_rz gX0_write rfl rfl w.1 w.2
  rw [if_neg hc] at w
  refine sw_cons (fun hc => ?_) (fun hc => ?_)
  · rw [if_pos hc] at w
    refine T_run (n := 1) (pc' := 173) (lv' := [some (tR (some a0)), some (tI x1), some (tI x2), some (tI x3)]) (st' := [tR (some a0)]) (h' := h) gX0_write rfl ?_
    refine T_kb (v := 15) gX0_write rfl (by decide) ?_
    refine T_run (n := 4) (pc' := 179) (lv' := [some (tR (some a0)), some (tI x1), some (tI x2), some (tI x3)]) (st' := [tR (some a0), tR (some a0), tI x3, tI x2, tI 15, tR (some a0)]) (h' := h) gX0_write rfl ?_
    obtain ⟨ho, w⟩ := w
    refine T_gs (tI (gi h 8 a0)) gX0_write rfl rfl ⟨ho, ?_⟩
    refine T_kn (v := 1) gX0_write rfl (by decide) ?_
    refine T_run (n := 1) (pc' := 184) (lv' := [some (tR (some a0)), some (tI x1), some (tI x2), some (tI x3)]) (st' := [tI ((gi h 8 a0) - 1), tR (some a0), tI x3, tI x2, tI 15, tR (some a0)]) (h' := h) gX0_write rfl ?_
    obtain ⟨ho, w⟩ := w
    refine T_cv (fun aa => [some (tR (some aa)), some (tI ((gi h 8 a0) - 1)), none, none]) gX0_write rfl rfl rfl rfl (Nat.le_of_ble_eq_true rfl) gX0_labelAt (fun _ => Nat.le_of_ble_eq_true rfl) (fun _ => rfl) ⟨a0, rfl, ho, T_kr ?_⟩
    refine T.mono w (fun rr h_23 hw => ?_)
    obtain ⟨r_24, hr, w⟩ := hw
    refine ⟨r_24, hr, ?_⟩
    obtain ⟨ho, w⟩ := w
    refine T_cv (fun aa => [some (tR (some aa)), some (tI 15), some (tI x2), some (tI x3), some (tR r_24)]) gX0_write rfl rfl rfl rfl (Nat.le_of_ble_eq_true rfl) gX0_writeBranch (fun _ => Nat.le_of_ble_eq_true rfl) (fun _ => rfl) ⟨a0, rfl, ho, T_ki ?_⟩
    refine T.mono w (fun rr h_25 hw => ?_)
    obtain ⟨x_26, hr, w⟩ := hw
    refine ⟨x_26, hr, ?_⟩
    exact T_rz gX0_write rfl rfl w.1 w.2
  rw [if_neg hc] at w
  refine sw_cons (fun hc => ?_) (fun hc => ?_)
  · rw [if_pos hc] at w
    refine T_run (n := 3) (pc' := 194) (lv' := [some (tR (some a0)), some (tI x1), some (tI x2), some (tI x3)]) (st' := [tI x3, tI x2, tR (some a0)]) (h' := h) gX0_write rfl ?_
    obtain ⟨ho, w⟩ := w
    refine T_cv (fun aa => [some (tR (some aa)), some (tI x2), some (tI x3), none]) gX0_write rfl rfl rfl rfl (Nat.le_of_ble_eq_true rfl) gX0_writeCall (fun _ => Nat.le_of_ble_eq_true rfl) (fun _ => rfl) ⟨a0, rfl, ho, T_ki ?_⟩
    refine T.mono w (fun rr h_27 hw => ?_)
    obtain ⟨x_28, hr, w⟩ := hw
    refine ⟨x_28, hr, ?_⟩
    exact T_rz gX0_write rfl rfl w.1 w.2
  rw [if_neg hc] at w
  refine sw_cons (fun hc => ?_) (fun hc => ?_)
  · rw [if_pos hc] at w
    refine T_run (n := 3) (pc' := 201) (lv' := [some (tR (some a0)), some (tI x1), some (tI x2), some (tI x3)]) (st' := [tI x3, tI x2, tR (some a0)]) (h' := h) gX0_write rfl ?_
    obtain ⟨ho, w⟩ := w
    refine T_cv (fun aa => [some (tR (some aa)), some (tI x2), some (tI x3)]) gX0_write rfl rfl rfl rfl (Nat.le_of_ble_eq_true rfl) gX0_writeCallByTable (fun _ => Nat.le_of_ble_eq_true rfl) (fun _ => rfl) ⟨a0, rfl, ho, T_ki ?_⟩
    refine T.mono w (fun rr h_29 hw => ?_)
    obtain ⟨x_30, hr, w⟩ := hw
    refine ⟨x_30, hr, ?_⟩
    exact T_rz gX0_write rfl rfl w.1 w.2
  rw [if_neg hc] at w
  refine T_run (n := 4) (pc' := 209) (lv' := [some (tR (some a0)), some (tI x1), some (tI x2), some (tI x3)]) (st' := [tI x3, tI x2, tI x1, tR (some a0)]) (h' := h) gX0_write rfl ?_
  obtain ⟨ho, w⟩ := w
  refine T_cv (fun aa => [some (tR (some aa)), some (tI x1), some (tI x2), some (tI x3), none]) gX0_write rfl rfl rfl rfl (Nat.le_of_ble_eq_true rfl) gX0_writePlain (fun _ => Nat.le_of_ble_eq_true rfl) (fun _ => rfl) ⟨a0, rfl, ho, T_ki ?_⟩
  refine T.mono w (fun rr h_31 hw => ?_)
  obtain ⟨x_32, hr, w⟩ := hw
  refine ⟨x_32, hr, ?_⟩
  exact T_rz gX0_write rfl rfl w.1 w.2
set_option maxHeartbeats 4000000 in
set_option maxRecDepth 20000 in
theorem wX0_isFinished (a0 : Nat) (h : Hp) (Q : Option TV → Hp → Prop) (w :
ob h a0 0 (
(if (gr h 3 a0) = none then
Q (some (tI 1)) h
else
Q (some (tI 0)) h))) : tX0_isFinished a0 h Q := by
  refine T_run (n := 1) (pc' := 1) (lv' := [some (tR (some a0))]) (st' := [tR (some a0)]) (h' := h) gX0_isFinished rfl ?_
  obtain ⟨ho, w⟩ := w
  refine T_gs (tR (gr h 3 a0)) gX0_isFinished rfl rfl ⟨ho, ?_⟩
  refine T_nn2 (tgt := 11) gX0_isFinished rfl (by decide) (fun hc => ?_) (fun hc => ?_)
  · rw [if_neg hc] at w
    refine T_kn (v := 0) gX0_isFinished rfl (by decide) ?_
    exact T_rz gX0_isFinished rfl rfl (Or.inl rfl) w
  · rw [if_pos hc] at w
    refine T_kn (v := 1) gX0_isFinished rfl (by decide) ?_
    refine T_goto (tgt := 12) gX0_isFinished rfl (by decide) ?_
    exact T_rz gX0_isFinished rfl rfl (Or.inr rfl) w
set_option maxHeartbeats 4000000 in
set_option maxRecDepth 20000 in
theorem wX10_keepDraft (a0 : Nat) (h : Hp) (Q : Option TV → Hp → Prop) (w :
ob h a0 9 (
dr (gr h 576 a0) (fun a_1 => ob h a_1 7 (
ob h a0 9 (
dr (gr h 580 a0) (fun a_2 => ob h a_2 0 (
dr (gr h 576 a0) (fun a_4 => ob h a_4 7 (∀ h_3, h_3 = pi h 450 a_4 ((gi h 450 a_1) + (gi h 7 a_2)) →
ob h_3 a0 9 (∀ h_5, h_5 = pr h_3 580 a0 none →
Q none h_5)))))))))) : tX10_keepDraft a0 h Q := by
  refine T_run (n := 1) (pc' := 1) (lv' := [some (tR (some a0))]) (st' := [tR (some a0)]) (h' := h) gX10_keepDraft rfl ?_
  obtain ⟨ho, w⟩ := w
  refine T_gs (tR (gr h 576 a0)) gX10_keepDraft rfl rfl ⟨ho, ?_⟩
  refine T_run (n := 1) (pc' := 5) (lv' := [some (tR (some a0))]) (st' := [tR (gr h 576 a0), tR (gr h 576 a0)]) (h' := h) gX10_keepDraft rfl ?_
  obtain ⟨a_1, he, ho, w⟩ := w
  refine T_gf (fun a_1 => tI (gi h 450 a_1)) gX10_keepDraft rfl (fun _ => rfl) ⟨a_1, he, ho, ?_⟩
  refine T_run (n := 1) (pc' := 9) (lv' := [some (tR (some a0))]) (st' := [tR (some a0), tI (gi h 450 a_1), tR (gr h 576 a0)]) (h' := h) gX10_keepDraft rfl ?_
  obtain ⟨ho, w⟩ := w
  refine T_gs (tR (gr h 580 a0)) gX10_keepDraft rfl rfl ⟨ho, ?_⟩
  obtain ⟨a_2, he, ho, w⟩ := w
  refine T_gf (fun a_2 => tI (gi h 7 a_2)) gX10_keepDraft rfl (fun _ => rfl) ⟨a_2, he, ho, ?_⟩
  refine T_run (n := 1) (pc' := 16) (lv' := [some (tR (some a0))]) (st' := [tI ((gi h 450 a_1) + (gi h 7 a_2)), tR (gr h 576 a0)]) (h' := h) gX10_keepDraft rfl ?_
  obtain ⟨a_4, hr, ho, w⟩ := w
  refine T_pf (fun a_4 => pi h 450 a_4 ((gi h 450 a_1) + (gi h 7 a_2))) gX10_keepDraft rfl (fun _ => rfl) ⟨a_4, hr, ho, fun h_3 he => ?_⟩
  replace w := w h_3 he
  refine T_run (n := 2) (pc' := 21) (lv' := [some (tR (some a0))]) (st' := [tR none, tR (some a0)]) (h' := h_3) gX10_keepDraft rfl ?_
  obtain ⟨ho, w⟩ := w
  refine T_ps (pr h_3 580 a0 none) gX10_keepDraft rfl rfl ⟨ho, fun h_5 he => ?_⟩
  replace w := w h_5 he
  exact T_rv gX10_keepDraft rfl rfl w
set_option maxHeartbeats 4000000 in
set_option maxRecDepth 20000 in
theorem wX10_code (a0 : Nat) (x1 : Int32) (x2 : Int32) (x3 : Int32) (h : Hp) (Q : Option TV → Hp → Prop) (w :
ob h a0 9 (
(if (gr h 580 a0) = none then
Q (some (tI (-1))) h
else
ob h a0 9 (tX10_instructionsInAll a0  h (rI (fun x_2 h_1 =>
(if x_2 < 1500 then
ob h_1 a0 9 (
dr (gr h_1 580 a0) (fun a_5 => ob h_1 a_5 0 (tX0_write a_5 x1 x2 x3 h_1 (rI (fun x_4 h_3 =>
(if x_4 = 0 then
Q (some (tI (-1))) h_3
else
ob h_3 a0 9 (
dr (gr h_3 580 a0) (fun a_8 => ob h_3 a_8 0 (tX0_isFinished a_8  h_3 (rI (fun x_7 h_6 =>
(if x_7 = 0 then
tX10_code_48 a0 h_6 Q
else
ob h_6 a0 9 (tX10_keepDraft a0  h_6 (rV (fun h_9 =>
tX10_code_48 a0 h_9 Q)))))))))))))))
else
Q (some (tI (-1))) h_1))))))) : tX10_code a0 x1 x2 x3 h Q := by
  refine T_run (n := 1) (pc' := 1) (lv' := [some (tR (some a0)), some (tI x1), some (tI x2), some (tI x3)]) (st' := [tR (some a0)]) (h' := h) gX10_code rfl ?_
  obtain ⟨ho, w⟩ := w
  refine T_gs (tR (gr h 580 a0)) gX10_code rfl rfl ⟨ho, ?_⟩
  refine T_nu2 (tgt := 17) gX10_code rfl (by decide) (fun hc => ?_) (fun hc => ?_)
  · rw [if_pos hc] at w
    refine T_kn (v := (-1)) gX10_code rfl (by decide) ?_
    exact T_ri gX10_code rfl rfl w
  · rw [if_neg hc] at w
    refine T_run (n := 1) (pc' := 8) (lv' := [some (tR (some a0)), some (tI x1), some (tI x2), some (tI x3)]) (st' := [tR (some a0)]) (h' := h) gX10_code rfl ?_
    obtain ⟨ho, w⟩ := w
    refine T_cv (fun aa => [some (tR (some aa))]) gX10_code rfl rfl rfl rfl (Nat.le_of_ble_eq_true rfl) gX10_instructionsInAll (fun _ => Nat.le_of_ble_eq_true rfl) (fun _ => rfl) ⟨a0, rfl, ho, T_ki ?_⟩
    refine T.mono w (fun rr h_1 hw => ?_)
    obtain ⟨x_2, hr, w⟩ := hw
    refine ⟨x_2, hr, ?_⟩
    refine T_ks (v := 1500) gX10_code rfl (by decide) ?_
    replace w := c_lt w
    refine T_ic (tgt := 19) gX10_code rfl (by decide) (fun hc => ?_) (fun hc => ?_)
    · replace w := w.1 hc
      refine T_run (n := 1) (pc' := 20) (lv' := [some (tR (some a0)), some (tI x1), some (tI x2), some (tI x3)]) (st' := [tR (some a0)]) (h' := h_1) gX10_code rfl ?_
      obtain ⟨ho, w⟩ := w
      refine T_gs (tR (gr h_1 580 a0)) gX10_code rfl rfl ⟨ho, ?_⟩
      refine T_run (n := 3) (pc' := 26) (lv' := [some (tR (some a0)), some (tI x1), some (tI x2), some (tI x3)]) (st' := [tI x3, tI x2, tI x1, tR (gr h_1 580 a0)]) (h' := h_1) gX10_code rfl ?_
      obtain ⟨a_5, hr, ho, w⟩ := w
      refine T_cv (fun aa => [some (tR (some aa)), some (tI x1), some (tI x2), some (tI x3)]) gX10_code rfl rfl rfl rfl (Nat.le_of_ble_eq_true rfl) gX0_write (fun _ => Nat.le_of_ble_eq_true rfl) (fun _ => rfl) ⟨a_5, hr, ho, T_ki ?_⟩
      refine T.mono w (fun rr h_3 hw => ?_)
      obtain ⟨x_4, hr, w⟩ := hw
      refine ⟨x_4, hr, ?_⟩
      replace w := c_ne w
      refine T_if (tgt := 34) gX10_code rfl (by decide) (fun hc => ?_) (fun hc => ?_)
      · replace w := w.1 hc
        refine T_run (n := 1) (pc' := 35) (lv' := [some (tR (some a0)), some (tI x1), some (tI x2), some (tI x3)]) (st' := [tR (some a0)]) (h' := h_3) gX10_code rfl ?_
        obtain ⟨ho, w⟩ := w
        refine T_gs (tR (gr h_3 580 a0)) gX10_code rfl rfl ⟨ho, ?_⟩
        obtain ⟨a_8, hr, ho, w⟩ := w
        refine T_cv (fun aa => [some (tR (some aa))]) gX10_code rfl rfl rfl rfl (Nat.le_of_ble_eq_true rfl) gX0_isFinished (fun _ => Nat.le_of_ble_eq_true rfl) (fun _ => rfl) ⟨a_8, hr, ho, T_ki ?_⟩
        refine T.mono w (fun rr h_6 hw => ?_)
        obtain ⟨x_7, hr, w⟩ := hw
        refine ⟨x_7, hr, ?_⟩
        replace w := c_eq w
        refine T_if (tgt := 48) gX10_code rfl (by decide) (fun hc => ?_) (fun hc => ?_)
        · replace w := w.1 hc
          exact T_wk w (leE (leN (leN (leN le0))))
        · replace w := w.2 hc
          refine T_run (n := 1) (pc' := 45) (lv' := [some (tR (some a0)), some (tI x1), some (tI x2), some (tI x3)]) (st' := [tR (some a0)]) (h' := h_6) gX10_code rfl ?_
          obtain ⟨ho, w⟩ := w
          refine T_cv (fun aa => [some (tR (some aa))]) gX10_code rfl rfl rfl rfl (Nat.le_of_ble_eq_true rfl) gX10_keepDraft (fun _ => Nat.le_of_ble_eq_true rfl) (fun _ => rfl) ⟨a0, rfl, ho, T_kv ?_⟩
          refine T.mono w (fun rr h_9 hw => ?_)
          obtain ⟨hr, w⟩ := hw
          refine ⟨hr, ?_⟩
          exact T_wk w (leE (leN (leN (leN le0))))
      · replace w := w.2 hc
        refine T_kn (v := (-1)) gX10_code rfl (by decide) ?_
        exact T_ri gX10_code rfl rfl w
    · replace w := w.2 hc
      refine T_kn (v := (-1)) gX10_code rfl (by decide) ?_
      exact T_ri gX10_code rfl rfl w
set_option maxHeartbeats 4000000 in
set_option maxRecDepth 20000 in
theorem wX10_code_48 (a0 : Nat) (h : Hp) (Q : Option TV → Hp → Prop) (w :
ob h a0 9 (tX10_instructionsInAll a0  h (rI (fun x_2 h_1 =>
Q (some (tI x_2)) h_1)))) : tX10_code_48 a0 h Q := by
  refine T_run (n := 1) (pc' := 49) (lv' := [some (tR (some a0)), none, none, none]) (st' := [tR (some a0)]) (h' := h) gX10_code rfl ?_
  obtain ⟨ho, w⟩ := w
  refine T_cv (fun aa => [some (tR (some aa))]) gX10_code rfl rfl rfl rfl (Nat.le_of_ble_eq_true rfl) gX10_instructionsInAll (fun _ => Nat.le_of_ble_eq_true rfl) (fun _ => rfl) ⟨a0, rfl, ho, T_ki ?_⟩
  refine T.mono w (fun rr h_1 hw => ?_)
  obtain ⟨x_2, hr, w⟩ := hw
  refine ⟨x_2, hr, ?_⟩
  exact T_ri gX10_code rfl rfl w
set_option maxHeartbeats 4000000 in
set_option maxRecDepth 20000 in
theorem wX8_removeLast (a0 : Nat) (h : Hp) (Q : Option TV → Hp → Prop) (w :
ob h a0 7 (
(if 0 < (gi h 449 a0) then
ob h a0 7 (
ob h a0 7 (
dr (gr h 448 a0) (fun a_1 => al_ h a_1 (fun n_2 =>
(if (Int32.ofNat n_2) < (gi h 449 a0) then
Q none h
else
ob h a0 7 (
ob h a0 7 (∀ h_3, h_3 = pi h 449 a0 ((gi h 449 a0) - 1) →
ob h_3 a0 7 (
ob h_3 a0 7 (
dr (gr h_3 448 a0) (fun a_4 => ixa h_3 a_4 (gi h_3 449 a0) none (∀ h_5, h_5 = sq h_3 a_4 (gi h_3 449 a0).toNatClampNeg none →
Q none h_5)))))))))))
else
Q none h))) : tX8_removeLast a0 h Q := by
  refine T_run (n := 1) (pc' := 1) (lv' := [some (tR (some a0))]) (st' := [tR (some a0)]) (h' := h) gX8_removeLast rfl ?_
  obtain ⟨ho, w⟩ := w
  refine T_gs (tI (gi h 449 a0)) gX8_removeLast rfl rfl ⟨ho, ?_⟩
  replace w := c_le w
  refine T_if (tgt := 19) gX8_removeLast rfl (by decide) (fun hc => ?_) (fun hc => ?_)
  · replace w := w.1 hc
    exact T_rv gX8_removeLast rfl rfl w
  · replace w := w.2 hc
    refine T_run (n := 1) (pc' := 8) (lv' := [some (tR (some a0))]) (st' := [tR (some a0)]) (h' := h) gX8_removeLast rfl ?_
    obtain ⟨ho, w⟩ := w
    refine T_gs (tI (gi h 449 a0)) gX8_removeLast rfl rfl ⟨ho, ?_⟩
    refine T_run (n := 1) (pc' := 12) (lv' := [some (tR (some a0))]) (st' := [tR (some a0), tI (gi h 449 a0)]) (h' := h) gX8_removeLast rfl ?_
    obtain ⟨ho, w⟩ := w
    refine T_gs (tR (gr h 448 a0)) gX8_removeLast rfl rfl ⟨ho, ?_⟩
    obtain ⟨a_1, hr, tt, n_2, ht, w⟩ := w
    refine T_len gX8_removeLast rfl ⟨a_1, hr, tt, n_2, ht, ?_⟩
    replace w := c_le w
    refine T_ic (tgt := 20) gX8_removeLast rfl (by decide) (fun hc => ?_) (fun hc => ?_)
    · replace w := w.1 hc
      refine T_run (n := 2) (pc' := 22) (lv' := [some (tR (some a0))]) (st' := [tR (some a0), tR (some a0)]) (h' := h) gX8_removeLast rfl ?_
      obtain ⟨ho, w⟩ := w
      refine T_gs (tI (gi h 449 a0)) gX8_removeLast rfl rfl ⟨ho, ?_⟩
      refine T_kn (v := 1) gX8_removeLast rfl (by decide) ?_
      refine T_run (n := 1) (pc' := 27) (lv' := [some (tR (some a0))]) (st' := [tI ((gi h 449 a0) - 1), tR (some a0)]) (h' := h) gX8_removeLast rfl ?_
      obtain ⟨ho, w⟩ := w
      refine T_ps (pi h 449 a0 ((gi h 449 a0) - 1)) gX8_removeLast rfl rfl ⟨ho, fun h_3 he => ?_⟩
      replace w := w h_3 he
      refine T_run (n := 1) (pc' := 31) (lv' := [some (tR (some a0))]) (st' := [tR (some a0)]) (h' := h_3) gX8_removeLast rfl ?_
      obtain ⟨ho, w⟩ := w
      refine T_gs (tR (gr h_3 448 a0)) gX8_removeLast rfl rfl ⟨ho, ?_⟩
      refine T_run (n := 1) (pc' := 35) (lv' := [some (tR (some a0))]) (st' := [tR (some a0), tR (gr h_3 448 a0)]) (h' := h_3) gX8_removeLast rfl ?_
      obtain ⟨ho, w⟩ := w
      refine T_gs (tI (gi h_3 449 a0)) gX8_removeLast rfl rfl ⟨ho, ?_⟩
      refine T_run (n := 1) (pc' := 39) (lv' := [some (tR (some a0))]) (st' := [tR none, tI (gi h_3 449 a0), tR (gr h_3 448 a0)]) (h' := h_3) gX8_removeLast rfl ?_
      obtain ⟨a_4, hr, tt, nn, ht, hk, hj, hv, w⟩ := w
      refine T_aas gX8_removeLast rfl ⟨a_4, hr, tt, nn, ht, hk, hj, hv, fun h_5 he => ?_⟩
      replace w := w h_5 he
      exact T_rv gX8_removeLast rfl rfl w
    · replace w := w.2 hc
      exact T_rv gX8_removeLast rfl rfl w
set_option maxHeartbeats 4000000 in
set_option maxRecDepth 20000 in
theorem wX10_drop (a0 : Nat) (h : Hp) (Q : Option TV → Hp → Prop) (w :
ob h a0 9 (
(if (gr h 580 a0) = none then
Q (some (tI 0)) h
else
ob h a0 9 (
dr (gr h 576 a0) (fun a_3 => ob h a_3 7 (tX8_removeLast a_3  h (rV (fun h_1 =>
ob h_1 a0 9 (∀ h_4, h_4 = pr h_1 580 a0 none →
Q (some (tI 1)) h_4))))))))) : tX10_drop a0 h Q := by
  refine T_run (n := 1) (pc' := 1) (lv' := [some (tR (some a0))]) (st' := [tR (some a0)]) (h' := h) gX10_drop rfl ?_
  obtain ⟨ho, w⟩ := w
  refine T_gs (tR (gr h 580 a0)) gX10_drop rfl rfl ⟨ho, ?_⟩
  refine T_nn2 (tgt := 9) gX10_drop rfl (by decide) (fun hc => ?_) (fun hc => ?_)
  · rw [if_neg hc] at w
    refine T_run (n := 1) (pc' := 10) (lv' := [some (tR (some a0))]) (st' := [tR (some a0)]) (h' := h) gX10_drop rfl ?_
    obtain ⟨ho, w⟩ := w
    refine T_gs (tR (gr h 576 a0)) gX10_drop rfl rfl ⟨ho, ?_⟩
    obtain ⟨a_3, hr, ho, w⟩ := w
    refine T_cv (fun aa => [some (tR (some aa))]) gX10_drop rfl rfl rfl rfl (Nat.le_of_ble_eq_true rfl) gX8_removeLast (fun _ => Nat.le_of_ble_eq_true rfl) (fun _ => rfl) ⟨a_3, hr, ho, T_kv ?_⟩
    refine T.mono w (fun rr h_1 hw => ?_)
    obtain ⟨hr, w⟩ := hw
    refine ⟨hr, ?_⟩
    refine T_run (n := 2) (pc' := 18) (lv' := [some (tR (some a0))]) (st' := [tR none, tR (some a0)]) (h' := h_1) gX10_drop rfl ?_
    obtain ⟨ho, w⟩ := w
    refine T_ps (pr h_1 580 a0 none) gX10_drop rfl rfl ⟨ho, fun h_4 he => ?_⟩
    replace w := w h_4 he
    refine T_kn (v := 1) gX10_drop rfl (by decide) ?_
    exact T_rz gX10_drop rfl rfl (Or.inr rfl) w
  · rw [if_pos hc] at w
    refine T_kn (v := 0) gX10_drop rfl (by decide) ?_
    exact T_rz gX10_drop rfl rfl (Or.inl rfl) w
set_option maxHeartbeats 4000000 in
set_option maxRecDepth 20000 in
theorem wX5_setTable (a0 : Nat) (x1 : Int32) (r2 : Option Nat) (h : Hp) (Q : Option TV → Hp → Prop) (w :
(if x1 < 0 then
Q (some (tI 0)) h
else
ob h a0 5 (
dr (gr h 320 a0) (fun a_1 => al_ h a_1 (fun n_2 =>
(if x1 < (Int32.ofNat n_2) then
ob h a0 5 (
dr (gr h 320 a0) (fun a_3 => ixa h a_3 x1 r2 (∀ h_4, h_4 = sq h a_3 x1.toNatClampNeg r2 →
Q (some (tI 1)) h_4)))
else
Q (some (tI 0)) h)))))) : tX5_setTable a0 x1 r2 h Q := by
  refine T_run (n := 1) (pc' := 1) (lv' := [some (tR (some a0)), some (tI x1), some (tR r2)]) (st' := [tI x1]) (h' := h) gX5_setTable rfl ?_
  replace w := c_lt w
  refine T_if (tgt := 13) gX5_setTable rfl (by decide) (fun hc => ?_) (fun hc => ?_)
  · replace w := w.1 hc
    refine T_kn (v := 0) gX5_setTable rfl (by decide) ?_
    exact T_rz gX5_setTable rfl rfl (Or.inl rfl) w
  · replace w := w.2 hc
    refine T_run (n := 2) (pc' := 6) (lv' := [some (tR (some a0)), some (tI x1), some (tR r2)]) (st' := [tR (some a0), tI x1]) (h' := h) gX5_setTable rfl ?_
    obtain ⟨ho, w⟩ := w
    refine T_gs (tR (gr h 320 a0)) gX5_setTable rfl rfl ⟨ho, ?_⟩
    obtain ⟨a_1, hr, tt, n_2, ht, w⟩ := w
    refine T_len gX5_setTable rfl ⟨a_1, hr, tt, n_2, ht, ?_⟩
    replace w := c_lt w
    refine T_ic (tgt := 15) gX5_setTable rfl (by decide) (fun hc => ?_) (fun hc => ?_)
    · replace w := w.1 hc
      refine T_run (n := 1) (pc' := 16) (lv' := [some (tR (some a0)), some (tI x1), some (tR r2)]) (st' := [tR (some a0)]) (h' := h) gX5_setTable rfl ?_
      obtain ⟨ho, w⟩ := w
      refine T_gs (tR (gr h 320 a0)) gX5_setTable rfl rfl ⟨ho, ?_⟩
      refine T_run (n := 2) (pc' := 21) (lv' := [some (tR (some a0)), some (tI x1), some (tR r2)]) (st' := [tR r2, tI x1, tR (gr h 320 a0)]) (h' := h) gX5_setTable rfl ?_
      obtain ⟨a_3, hr, tt, nn, ht, hk, hj, hv, w⟩ := w
      refine T_aas gX5_setTable rfl ⟨a_3, hr, tt, nn, ht, hk, hj, hv, fun h_4 he => ?_⟩
      replace w := w h_4 he
      refine T_kn (v := 1) gX5_setTable rfl (by decide) ?_
      exact T_rz gX5_setTable rfl rfl (Or.inr rfl) w
    · replace w := w.2 hc
      refine T_kn (v := 0) gX5_setTable rfl (by decide) ?_
      exact T_rz gX5_setTable rfl rfl (Or.inl rfl) w
set_option maxHeartbeats 4000000 in
set_option maxRecDepth 20000 in
theorem wX8_findWhole (a0 : Nat) (x1 : Int32) (h : Hp) (Q : Option TV → Hp → Prop) (w :
ob h a0 7 (tX8_find a0 x1 h (rR (fun r_2 h_1 =>
(if r_2 = none then
Q (some (tR none)) h_1
else
dr r_2 (fun a_3 => ob h_1 a_3 2 (
(if (gi h_1 132 a_3) = 0 then
Q (some (tR none)) h_1
else
Q (some (tR r_2)) h_1)))))))) : tX8_findWhole a0 x1 h Q := by
  refine T_run (n := 2) (pc' := 2) (lv' := [some (tR (some a0)), some (tI x1), none]) (st' := [tI x1, tR (some a0)]) (h' := h) gX8_findWhole rfl ?_
  obtain ⟨ho, w⟩ := w
  refine T_cv (fun aa => [some (tR (some aa)), some (tI x1)]) gX8_findWhole rfl rfl rfl rfl (Nat.le_of_ble_eq_true rfl) gX8_find (fun _ => Nat.le_of_ble_eq_true rfl) (fun _ => rfl) ⟨a0, rfl, ho, T_kr ?_⟩
  refine T.mono w (fun rr h_1 hw => ?_)
  obtain ⟨r_2, hr, w⟩ := hw
  refine ⟨r_2, hr, ?_⟩
  refine T_run (n := 2) (pc' := 7) (lv' := [some (tR (some a0)), some (tI x1), some (tR r_2)]) (st' := [tR r_2]) (h' := h_1) gX8_findWhole rfl ?_
  refine T_nu2 (tgt := 21) gX8_findWhole rfl (by decide) (fun hc => ?_) (fun hc => ?_)
  · rw [if_pos hc] at w
    refine T_run (n := 1) (pc' := 22) (lv' := [some (tR (some a0)), some (tI x1), some (tR r_2)]) (st' := [tR none]) (h' := h_1) gX8_findWhole rfl ?_
    exact T_ra gX8_findWhole rfl rfl w
  · rw [if_neg hc] at w
    refine T_run (n := 1) (pc' := 11) (lv' := [some (tR (some a0)), some (tI x1), some (tR r_2)]) (st' := [tR r_2]) (h' := h_1) gX8_findWhole rfl ?_
    obtain ⟨a_3, he, ho, w⟩ := w
    refine T_gf (fun a_3 => tI (gi h_1 132 a_3)) gX8_findWhole rfl (fun _ => rfl) ⟨a_3, he, ho, ?_⟩
    replace w := c_eq w
    refine T_if (tgt := 21) gX8_findWhole rfl (by decide) (fun hc => ?_) (fun hc => ?_)
    · replace w := w.1 hc
      refine T_run (n := 1) (pc' := 22) (lv' := [some (tR (some a0)), some (tI x1), some (tR r_2)]) (st' := [tR none]) (h' := h_1) gX8_findWhole rfl ?_
      exact T_ra gX8_findWhole rfl rfl w
    · replace w := w.2 hc
      refine T_run (n := 1) (pc' := 18) (lv' := [some (tR (some a0)), some (tI x1), some (tR r_2)]) (st' := [tR r_2]) (h' := h_1) gX8_findWhole rfl ?_
      refine T_goto (tgt := 22) gX8_findWhole rfl (by decide) ?_
      exact T_ra gX8_findWhole rfl rfl w
set_option maxHeartbeats 4000000 in
set_option maxRecDepth 20000 in
theorem wX10_entry (a0 : Nat) (x1 : Int32) (x2 : Int32) (h : Hp) (Q : Option TV → Hp → Prop) (w :
(if x2 = (-1) then
ob h a0 9 (
dr (gr h 577 a0) (fun a_9 => ob h a_9 5 (tX5_setTable a_9 x1 none h (rI (fun x_8 h_7 =>
((x_8 = 0 ∨ x_8 = 1) ∧ Q (some (tI x_8)) h_7))))))
else
ob h a0 9 (
dr (gr h 576 a0) (fun a_3 => ob h a_3 7 (tX8_findWhole a_3 x2 h (rR (fun r_2 h_1 =>
(if r_2 = none then
Q (some (tI 0)) h_1
else
ob h_1 a0 9 (
dr (gr h_1 577 a0) (fun a_6 => ob h_1 a_6 5 (tX5_setTable a_6 x1 r_2 h_1 (rI (fun x_5 h_4 =>
(if x_5 = 0 then
Q (some (tI 0)) h_4
else
Q (some (tI 1)) h_4)))))))))))))) : tX10_entry a0 x1 x2 h Q := by
  refine T_run (n := 1) (pc' := 1) (lv' := [some (tR (some a0)), some (tI x1), some (tI x2), none]) (st' := [tI x2]) (h' := h) gX10_entry rfl ?_
  refine T_kn (v := (-1)) gX10_entry rfl (by decide) ?_
  replace w := c_ne w
  refine T_ic (tgt := 15) gX10_entry rfl (by decide) (fun hc => ?_) (fun hc => ?_)
  · replace w := w.1 hc
    refine T_run (n := 1) (pc' := 16) (lv' := [some (tR (some a0)), some (tI x1), some (tI x2), none]) (st' := [tR (some a0)]) (h' := h) gX10_entry rfl ?_
    obtain ⟨ho, w⟩ := w
    refine T_gs (tR (gr h 576 a0)) gX10_entry rfl rfl ⟨ho, ?_⟩
    refine T_run (n := 1) (pc' := 20) (lv' := [some (tR (some a0)), some (tI x1), some (tI x2), none]) (st' := [tI x2, tR (gr h 576 a0)]) (h' := h) gX10_entry rfl ?_
    obtain ⟨a_3, hr, ho, w⟩ := w
    refine T_cv (fun aa => [some (tR (some aa)), some (tI x2), none]) gX10_entry rfl rfl rfl rfl (Nat.le_of_ble_eq_true rfl) gX8_findWhole (fun _ => Nat.le_of_ble_eq_true rfl) (fun _ => rfl) ⟨a_3, hr, ho, T_kr ?_⟩
    refine T.mono w (fun rr h_1 hw => ?_)
    obtain ⟨r_2, hr, w⟩ := hw
    refine ⟨r_2, hr, ?_⟩
    refine T_run (n := 2) (pc' := 25) (lv' := [some (tR (some a0)), some (tI x1), some (tI x2), some (tR r_2)]) (st' := [tR r_2]) (h' := h_1) gX10_entry rfl ?_
    refine T_nu2 (tgt := 44) gX10_entry rfl (by decide) (fun hc => ?_) (fun hc => ?_)
    · rw [if_pos hc] at w
      refine T_kn (v := 0) gX10_entry rfl (by decide) ?_
      exact T_rz gX10_entry rfl rfl (Or.inl rfl) w
    · rw [if_neg hc] at w
      refine T_run (n := 1) (pc' := 29) (lv' := [some (tR (some a0)), some (tI x1), some (tI x2), some (tR r_2)]) (st' := [tR (some a0)]) (h' := h_1) gX10_entry rfl ?_
      obtain ⟨ho, w⟩ := w
      refine T_gs (tR (gr h_1 577 a0)) gX10_entry rfl rfl ⟨ho, ?_⟩
      refine T_run (n := 2) (pc' := 34) (lv' := [some (tR (some a0)), some (tI x1), some (tI x2), some (tR r_2)]) (st' := [tR r_2, tI x1, tR (gr h_1 577 a0)]) (h' := h_1) gX10_entry rfl ?_
      obtain ⟨a_6, hr, ho, w⟩ := w
      refine T_cv (fun aa => [some (tR (some aa)), some (tI x1), some (tR r_2)]) gX10_entry rfl rfl rfl rfl (Nat.le_of_ble_eq_true rfl) gX5_setTable (fun _ => Nat.le_of_ble_eq_true rfl) (fun _ => rfl) ⟨a_6, hr, ho, T_ki ?_⟩
      refine T.mono w (fun rr h_4 hw => ?_)
      obtain ⟨x_5, hr, w⟩ := hw
      refine ⟨x_5, hr, ?_⟩
      replace w := c_eq w
      refine T_if (tgt := 44) gX10_entry rfl (by decide) (fun hc => ?_) (fun hc => ?_)
      · replace w := w.1 hc
        refine T_kn (v := 0) gX10_entry rfl (by decide) ?_
        exact T_rz gX10_entry rfl rfl (Or.inl rfl) w
      · replace w := w.2 hc
        refine T_kn (v := 1) gX10_entry rfl (by decide) ?_
        refine T_goto (tgt := 45) gX10_entry rfl (by decide) ?_
        exact T_rz gX10_entry rfl rfl (Or.inr rfl) w
  · replace w := w.2 hc
    refine T_run (n := 1) (pc' := 6) (lv' := [some (tR (some a0)), some (tI x1), some (tI x2), none]) (st' := [tR (some a0)]) (h' := h) gX10_entry rfl ?_
    obtain ⟨ho, w⟩ := w
    refine T_gs (tR (gr h 577 a0)) gX10_entry rfl rfl ⟨ho, ?_⟩
    refine T_run (n := 2) (pc' := 11) (lv' := [some (tR (some a0)), some (tI x1), some (tI x2), none]) (st' := [tR none, tI x1, tR (gr h 577 a0)]) (h' := h) gX10_entry rfl ?_
    obtain ⟨a_9, hr, ho, w⟩ := w
    refine T_cv (fun aa => [some (tR (some aa)), some (tI x1), some (tR none)]) gX10_entry rfl rfl rfl rfl (Nat.le_of_ble_eq_true rfl) gX5_setTable (fun _ => Nat.le_of_ble_eq_true rfl) (fun _ => rfl) ⟨a_9, hr, ho, T_ki ?_⟩
    refine T.mono w (fun rr h_7 hw => ?_)
    obtain ⟨x_8, hr, w⟩ := hw
    refine ⟨x_8, hr, ?_⟩
    exact T_rz gX10_entry rfl rfl w.1 w.2
set_option maxHeartbeats 4000000 in
set_option maxRecDepth 20000 in
theorem wX10_argument (a0 : Nat) (y1 : Int64) (h : Hp) (Q : Option TV → Hp → Prop) (w :
ob h a0 9 (
ob h a0 9 (
dr (gr h 578 a0) (fun a_1 => al_ h a_1 (fun n_2 =>
(if (gi h 579 a0) < (Int32.ofNat n_2) then
ob h a0 9 (
ob h a0 9 (
dr (gr h 578 a0) (fun a_3 => ix h kJ a_3 (gi h 579 a0) (∀ h_4, h_4 = sl h a_3 (gi h 579 a0).toNatClampNeg y1 →
ob h_4 a0 9 (
ob h_4 a0 9 (∀ h_5, h_5 = pi h_4 579 a0 ((gi h_4 579 a0) + 1) →
ob h_5 a0 9 (
Q (some (tI (gi h_5 579 a0))) h_5)))))))
else
Q (some (tI (-1))) h)))))) : tX10_argument a0 y1 h Q := by
  refine T_run (n := 1) (pc' := 1) (lv' := [some (tR (some a0)), some (tL y1), none]) (st' := [tR (some a0)]) (h' := h) gX10_argument rfl ?_
  obtain ⟨ho, w⟩ := w
  refine T_gs (tI (gi h 579 a0)) gX10_argument rfl rfl ⟨ho, ?_⟩
  refine T_run (n := 1) (pc' := 5) (lv' := [some (tR (some a0)), some (tL y1), none]) (st' := [tR (some a0), tI (gi h 579 a0)]) (h' := h) gX10_argument rfl ?_
  obtain ⟨ho, w⟩ := w
  refine T_gs (tR (gr h 578 a0)) gX10_argument rfl rfl ⟨ho, ?_⟩
  obtain ⟨a_1, hr, tt, n_2, ht, w⟩ := w
  refine T_len gX10_argument rfl ⟨a_1, hr, tt, n_2, ht, ?_⟩
  replace w := c_lt w
  refine T_ic (tgt := 14) gX10_argument rfl (by decide) (fun hc => ?_) (fun hc => ?_)
  · replace w := w.1 hc
    refine T_run (n := 1) (pc' := 15) (lv' := [some (tR (some a0)), some (tL y1), none]) (st' := [tR (some a0)]) (h' := h) gX10_argument rfl ?_
    obtain ⟨ho, w⟩ := w
    refine T_gs (tR (gr h 578 a0)) gX10_argument rfl rfl ⟨ho, ?_⟩
    refine T_run (n := 1) (pc' := 19) (lv' := [some (tR (some a0)), some (tL y1), none]) (st' := [tR (some a0), tR (gr h 578 a0)]) (h' := h) gX10_argument rfl ?_
    obtain ⟨ho, w⟩ := w
    refine T_gs (tI (gi h 579 a0)) gX10_argument rfl rfl ⟨ho, ?_⟩
    refine T_run (n := 1) (pc' := 23) (lv' := [some (tR (some a0)), some (tL y1), none]) (st' := [tL y1, tI (gi h 579 a0), tR (gr h 578 a0)]) (h' := h) gX10_argument rfl ?_
    obtain ⟨a_3, hr, tt, nn, ht, hk, hj, w⟩ := w
    refine T_las gX10_argument rfl ⟨a_3, hr, tt, nn, ht, hk, hj, fun h_4 he => ?_⟩
    replace w := w h_4 he
    refine T_run (n := 2) (pc' := 26) (lv' := [some (tR (some a0)), some (tL y1), none]) (st' := [tR (some a0), tR (some a0)]) (h' := h_4) gX10_argument rfl ?_
    obtain ⟨ho, w⟩ := w
    refine T_gs (tI (gi h_4 579 a0)) gX10_argument rfl rfl ⟨ho, ?_⟩
    refine T_kn (v := 1) gX10_argument rfl (by decide) ?_
    refine T_run (n := 1) (pc' := 31) (lv' := [some (tR (some a0)), some (tL y1), none]) (st' := [tI ((gi h_4 579 a0) + 1), tR (some a0)]) (h' := h_4) gX10_argument rfl ?_
    obtain ⟨ho, w⟩ := w
    refine T_ps (pi h_4 579 a0 ((gi h_4 579 a0) + 1)) gX10_argument rfl rfl ⟨ho, fun h_5 he => ?_⟩
    replace w := w h_5 he
    refine T_run (n := 1) (pc' := 35) (lv' := [some (tR (some a0)), some (tL y1), none]) (st' := [tR (some a0)]) (h' := h_5) gX10_argument rfl ?_
    obtain ⟨ho, w⟩ := w
    refine T_gs (tI (gi h_5 579 a0)) gX10_argument rfl rfl ⟨ho, ?_⟩
    exact T_ri gX10_argument rfl rfl w
  · replace w := w.2 hc
    refine T_kn (v := (-1)) gX10_argument rfl (by decide) ?_
    exact T_ri gX10_argument rfl rfl w
set_option maxHeartbeats 4000000 in
set_option maxRecDepth 20000 in
theorem wX9_push (a0 : Nat) (y1 : Int64) (h : Hp) (Q : Option TV → Hp → Prop) (w :
ob h a0 8 (
(if (gi h 513 a0) < 0 then
Q none h
else
ob h a0 8 (
ob h a0 8 (
dr (gr h 512 a0) (fun a_1 => al_ h a_1 (fun n_2 =>
(if (gi h 513 a0) < (Int32.ofNat n_2) then
ob h a0 8 (
ob h a0 8 (
dr (gr h 512 a0) (fun a_3 => ix h kJ a_3 (gi h 513 a0) (∀ h_4, h_4 = sl h a_3 (gi h 513 a0).toNatClampNeg y1 →
ob h_4 a0 8 (
ob h_4 a0 8 (∀ h_5, h_5 = pi h_4 513 a0 ((gi h_4 513 a0) + 1) →
Q none h_5))))))
else
Q none h)))))))) : tX9_push a0 y1 h Q := by
  refine T_run (n := 1) (pc' := 1) (lv' := [some (tR (some a0)), some (tL y1), none]) (st' := [tR (some a0)]) (h' := h) gX9_push rfl ?_
  obtain ⟨ho, w⟩ := w
  refine T_gs (tI (gi h 513 a0)) gX9_push rfl rfl ⟨ho, ?_⟩
  replace w := c_lt w
  refine T_if (tgt := 19) gX9_push rfl (by decide) (fun hc => ?_) (fun hc => ?_)
  · replace w := w.1 hc
    exact T_rv gX9_push rfl rfl w
  · replace w := w.2 hc
    refine T_run (n := 1) (pc' := 8) (lv' := [some (tR (some a0)), some (tL y1), none]) (st' := [tR (some a0)]) (h' := h) gX9_push rfl ?_
    obtain ⟨ho, w⟩ := w
    refine T_gs (tI (gi h 513 a0)) gX9_push rfl rfl ⟨ho, ?_⟩
    refine T_run (n := 1) (pc' := 12) (lv' := [some (tR (some a0)), some (tL y1), none]) (st' := [tR (some a0), tI (gi h 513 a0)]) (h' := h) gX9_push rfl ?_
    obtain ⟨ho, w⟩ := w
    refine T_gs (tR (gr h 512 a0)) gX9_push rfl rfl ⟨ho, ?_⟩
    obtain ⟨a_1, hr, tt, n_2, ht, w⟩ := w
    refine T_len gX9_push rfl ⟨a_1, hr, tt, n_2, ht, ?_⟩
    replace w := c_lt w
    refine T_ic (tgt := 20) gX9_push rfl (by decide) (fun hc => ?_) (fun hc => ?_)
    · replace w := w.1 hc
      refine T_run (n := 1) (pc' := 21) (lv' := [some (tR (some a0)), some (tL y1), none]) (st' := [tR (some a0)]) (h' := h) gX9_push rfl ?_
      obtain ⟨ho, w⟩ := w
      refine T_gs (tR (gr h 512 a0)) gX9_push rfl rfl ⟨ho, ?_⟩
      refine T_run (n := 1) (pc' := 25) (lv' := [some (tR (some a0)), some (tL y1), none]) (st' := [tR (some a0), tR (gr h 512 a0)]) (h' := h) gX9_push rfl ?_
      obtain ⟨ho, w⟩ := w
      refine T_gs (tI (gi h 513 a0)) gX9_push rfl rfl ⟨ho, ?_⟩
      refine T_run (n := 1) (pc' := 29) (lv' := [some (tR (some a0)), some (tL y1), none]) (st' := [tL y1, tI (gi h 513 a0), tR (gr h 512 a0)]) (h' := h) gX9_push rfl ?_
      obtain ⟨a_3, hr, tt, nn, ht, hk, hj, w⟩ := w
      refine T_las gX9_push rfl ⟨a_3, hr, tt, nn, ht, hk, hj, fun h_4 he => ?_⟩
      replace w := w h_4 he
      refine T_run (n := 2) (pc' := 32) (lv' := [some (tR (some a0)), some (tL y1), none]) (st' := [tR (some a0), tR (some a0)]) (h' := h_4) gX9_push rfl ?_
      obtain ⟨ho, w⟩ := w
      refine T_gs (tI (gi h_4 513 a0)) gX9_push rfl rfl ⟨ho, ?_⟩
      refine T_kn (v := 1) gX9_push rfl (by decide) ?_
      refine T_run (n := 1) (pc' := 37) (lv' := [some (tR (some a0)), some (tL y1), none]) (st' := [tI ((gi h_4 513 a0) + 1), tR (some a0)]) (h' := h_4) gX9_push rfl ?_
      obtain ⟨ho, w⟩ := w
      refine T_ps (pi h_4 513 a0 ((gi h_4 513 a0) + 1)) gX9_push rfl rfl ⟨ho, fun h_5 he => ?_⟩
      replace w := w h_5 he
      exact T_rv gX9_push rfl rfl w
    · replace w := w.2 hc
      exact T_rv gX9_push rfl rfl w
set_option maxHeartbeats 4000000 in
set_option maxRecDepth 20000 in
theorem wX2_room (a0 : Nat) (h : Hp) (Q : Option TV → Hp → Prop) (w :
ob h a0 2 (
ob h a0 2 (
Q (some (tI ((gi h 131 a0) + (gi h 133 a0)))) h))) : tX2_room a0 h Q := by
  refine T_run (n := 1) (pc' := 1) (lv' := [some (tR (some a0))]) (st' := [tR (some a0)]) (h' := h) gX2_room rfl ?_
  obtain ⟨ho, w⟩ := w
  refine T_gs (tI (gi h 131 a0)) gX2_room rfl rfl ⟨ho, ?_⟩
  refine T_run (n := 1) (pc' := 5) (lv' := [some (tR (some a0))]) (st' := [tR (some a0), tI (gi h 131 a0)]) (h' := h) gX2_room rfl ?_
  obtain ⟨ho, w⟩ := w
  refine T_gs (tI (gi h 133 a0)) gX2_room rfl rfl ⟨ho, ?_⟩
  refine T_run (n := 1) (pc' := 9) (lv' := [some (tR (some a0))]) (st' := [tI ((gi h 131 a0) + (gi h 133 a0))]) (h' := h) gX2_room rfl ?_
  exact T_ri gX2_room rfl rfl w
set_option maxHeartbeats 4000000 in
set_option maxRecDepth 20000 in
theorem wX1_enter (a0 : Nat) (r1 : Option Nat) (x2 : Int32) (h : Hp) (Q : Option TV → Hp → Prop) (w :
ob h a0 1 (∀ h_1, h_1 = pr h 64 a0 r1 →
ob h_1 a0 1 (∀ h_2, h_2 = pi h_1 65 a0 x2 →
dr r1 (fun a_3 => ob h_2 a_3 2 (
ob h_2 a0 1 (∀ h_4, h_4 = pr h_2 66 a0 (gr h_2 134 a_3) →
Q none h_4)))))) : tX1_enter a0 r1 x2 h Q := by
  refine T_run (n := 2) (pc' := 2) (lv' := [some (tR (some a0)), some (tR r1), some (tI x2)]) (st' := [tR r1, tR (some a0)]) (h' := h) gX1_enter rfl ?_
  obtain ⟨ho, w⟩ := w
  refine T_ps (pr h 64 a0 r1) gX1_enter rfl rfl ⟨ho, fun h_1 he => ?_⟩
  replace w := w h_1 he
  refine T_run (n := 2) (pc' := 7) (lv' := [some (tR (some a0)), some (tR r1), some (tI x2)]) (st' := [tI x2, tR (some a0)]) (h' := h_1) gX1_enter rfl ?_
  obtain ⟨ho, w⟩ := w
  refine T_ps (pi h_1 65 a0 x2) gX1_enter rfl rfl ⟨ho, fun h_2 he => ?_⟩
  replace w := w h_2 he
  refine T_run (n := 2) (pc' := 12) (lv' := [some (tR (some a0)), some (tR r1), some (tI x2)]) (st' := [tR r1, tR (some a0)]) (h' := h_2) gX1_enter rfl ?_
  obtain ⟨a_3, he, ho, w⟩ := w
  refine T_gf (fun a_3 => tR (gr h_2 134 a_3)) gX1_enter rfl (fun _ => rfl) ⟨a_3, he, ho, ?_⟩
  obtain ⟨ho, w⟩ := w
  refine T_ps (pr h_2 66 a0 (gr h_2 134 a_3)) gX1_enter rfl rfl ⟨ho, fun h_4 he => ?_⟩
  replace w := w h_4 he
  exact T_rv gX1_enter rfl rfl w
set_option maxHeartbeats 4000000 in
set_option maxRecDepth 20000 in
theorem wX5_enter (a0 : Nat) (r1 : Option Nat) (h : Hp) (Q : Option TV → Hp → Prop) (w :
(if r1 = none then
tX5_enter_42 a0 r1 h Q
else
ob h a0 5 (
(if (gi h 326 a0) < 0 then
tX5_enter_42 a0 r1 h Q
else
ob h a0 5 (
ob h a0 5 (
dr (gr h 322 a0) (fun a_1 => al_ h a_1 (fun n_2 =>
(if (gi h 326 a0) < (Int32.ofNat n_2) then
ob h a0 5 (
dr r1 (fun a_5 => ob h a_5 2 (tX2_room a_5  h (rI (fun x_4 h_3 =>
(if 220 < ((gi h 325 a0) + x_4) then
tX5_enter_42 a0 r1 h_3 Q
else
tX5_enter_43 a0 r1 1 h_3 Q))))))
else
tX5_enter_42 a0 r1 h Q))))))))) : tX5_enter a0 r1 h Q := by
  refine T_run (n := 1) (pc' := 1) (lv' := [some (tR (some a0)), some (tR r1), none, none]) (st' := [tR r1]) (h' := h) gX5_enter rfl ?_
  refine T_nu2 (tgt := 42) gX5_enter rfl (by decide) (fun hc => ?_) (fun hc => ?_)
  · rw [if_pos hc] at w
    exact w
  · rw [if_neg hc] at w
    refine T_run (n := 1) (pc' := 5) (lv' := [some (tR (some a0)), some (tR r1), none, none]) (st' := [tR (some a0)]) (h' := h) gX5_enter rfl ?_
    obtain ⟨ho, w⟩ := w
    refine T_gs (tI (gi h 326 a0)) gX5_enter rfl rfl ⟨ho, ?_⟩
    replace w := c_lt w
    refine T_if (tgt := 42) gX5_enter rfl (by decide) (fun hc => ?_) (fun hc => ?_)
    · replace w := w.1 hc
      exact w
    · replace w := w.2 hc
      refine T_run (n := 1) (pc' := 12) (lv' := [some (tR (some a0)), some (tR r1), none, none]) (st' := [tR (some a0)]) (h' := h) gX5_enter rfl ?_
      obtain ⟨ho, w⟩ := w
      refine T_gs (tI (gi h 326 a0)) gX5_enter rfl rfl ⟨ho, ?_⟩
      refine T_run (n := 1) (pc' := 16) (lv' := [some (tR (some a0)), some (tR r1), none, none]) (st' := [tR (some a0), tI (gi h 326 a0)]) (h' := h) gX5_enter rfl ?_
      obtain ⟨ho, w⟩ := w
      refine T_gs (tR (gr h 322 a0)) gX5_enter rfl rfl ⟨ho, ?_⟩
      obtain ⟨a_1, hr, tt, n_2, ht, w⟩ := w
      refine T_len gX5_enter rfl ⟨a_1, hr, tt, n_2, ht, ?_⟩
      replace w := c_ge w
      refine T_ic (tgt := 42) gX5_enter rfl (by decide) (fun hc => ?_) (fun hc => ?_)
      · replace w := w.1 hc
        exact w
      · replace w := w.2 hc
        refine T_run (n := 1) (pc' := 24) (lv' := [some (tR (some a0)), some (tR r1), none, none]) (st' := [tR (some a0)]) (h' := h) gX5_enter rfl ?_
        obtain ⟨ho, w⟩ := w
        refine T_gs (tI (gi h 325 a0)) gX5_enter rfl rfl ⟨ho, ?_⟩
        refine T_run (n := 1) (pc' := 28) (lv' := [some (tR (some a0)), some (tR r1), none, none]) (st' := [tR r1, tI (gi h 325 a0)]) (h' := h) gX5_enter rfl ?_
        obtain ⟨a_5, hr, ho, w⟩ := w
        refine T_cv (fun aa => [some (tR (some aa))]) gX5_enter rfl rfl rfl rfl (Nat.le_of_ble_eq_true rfl) gX2_room (fun _ => Nat.le_of_ble_eq_true rfl) (fun _ => rfl) ⟨a_5, hr, ho, T_ki ?_⟩
        refine T.mono w (fun rr h_3 hw => ?_)
        obtain ⟨x_4, hr, w⟩ := hw
        refine ⟨x_4, hr, ?_⟩
        refine T_run (n := 1) (pc' := 32) (lv' := [some (tR (some a0)), some (tR r1), none, none]) (st' := [tI ((gi h 325 a0) + x_4)]) (h' := h_3) gX5_enter rfl ?_
        refine T_ks (v := 220) gX5_enter rfl (by decide) ?_
        replace w := c_gt w
        refine T_ic (tgt := 42) gX5_enter rfl (by decide) (fun hc => ?_) (fun hc => ?_)
        · replace w := w.1 hc
          exact w
        · replace w := w.2 hc
          refine T_kn (v := 1) gX5_enter rfl (by decide) ?_
          refine T_goto (tgt := 43) gX5_enter rfl (by decide) ?_
          exact w
set_option maxHeartbeats 4000000 in
set_option maxRecDepth 20000 in
theorem wX5_enter_42 (a0 : Nat) (r1 : Option Nat) (h : Hp) (Q : Option TV → Hp → Prop) (w :
tX5_enter_43 a0 r1 0 h Q) : tX5_enter_42 a0 r1 h Q := by
  refine T_kn (v := 0) gX5_enter rfl (by decide) ?_
  exact w
set_option maxHeartbeats 4000000 in
set_option maxRecDepth 20000 in
theorem wX5_enter_43 (a0 : Nat) (r1 : Option Nat) (s0 : Int32) (h : Hp) (Q : Option TV → Hp → Prop) (w :
(if s0 = 0 then
ob h a0 5 (∀ h_7, h_7 = pi h 327 a0 4 →
Q none h_7)
else
ob h a0 5 (
ob h a0 5 (
dr (gr h 322 a0) (fun a_1 => ix h kA a_1 (gi h 326 a0) (
ob h a0 5 (
dr (gr h 324 a0) (fun a_2 => ob h a_2 8 (
dr r1 (fun a_3 => ob h a_3 2 (
dr (aq h a_1 (gi h 326 a0).toNatClampNeg) (fun a_6 => ob h a_6 1 (tX1_enter a_6 r1 ((gi h 513 a_2) - (gi h 128 a_3)) h (rV (fun h_4 =>
tX5_enter_81 a0 r1 0 h_4 Q))))))))))))))) : tX5_enter_43 a0 r1 s0 h Q := by
  refine T_run (n := 2) (pc' := 45) (lv' := [some (tR (some a0)), some (tR r1), some (tI s0), none]) (st' := [tI s0]) (h' := h) gX5_enter rfl ?_
  replace w := c_ne w
  refine T_if (tgt := 54) gX5_enter rfl (by decide) (fun hc => ?_) (fun hc => ?_)
  · replace w := w.1 hc
    refine T_run (n := 1) (pc' := 55) (lv' := [some (tR (some a0)), some (tR r1), some (tI s0), none]) (st' := [tR (some a0)]) (h' := h) gX5_enter rfl ?_
    obtain ⟨ho, w⟩ := w
    refine T_gs (tR (gr h 322 a0)) gX5_enter rfl rfl ⟨ho, ?_⟩
    refine T_run (n := 1) (pc' := 59) (lv' := [some (tR (some a0)), some (tR r1), some (tI s0), none]) (st' := [tR (some a0), tR (gr h 322 a0)]) (h' := h) gX5_enter rfl ?_
    obtain ⟨ho, w⟩ := w
    refine T_gs (tI (gi h 326 a0)) gX5_enter rfl rfl ⟨ho, ?_⟩
    obtain ⟨a_1, hr, tt, nn, ht, hk, hj, w⟩ := w
    refine T_aal gX5_enter rfl ⟨a_1, hr, tt, nn, ht, hk, hj, ?_⟩
    refine T_run (n := 2) (pc' := 65) (lv' := [some (tR (some a0)), some (tR r1), some (tI s0), none]) (st' := [tR (some a0), tR r1, tR (aq h a_1 (gi h 326 a0).toNatClampNeg)]) (h' := h) gX5_enter rfl ?_
    obtain ⟨ho, w⟩ := w
    refine T_gs (tR (gr h 324 a0)) gX5_enter rfl rfl ⟨ho, ?_⟩
    obtain ⟨a_2, he, ho, w⟩ := w
    refine T_gf (fun a_2 => tI (gi h 513 a_2)) gX5_enter rfl (fun _ => rfl) ⟨a_2, he, ho, ?_⟩
    refine T_run (n := 1) (pc' := 72) (lv' := [some (tR (some a0)), some (tR r1), some (tI s0), none]) (st' := [tR r1, tI (gi h 513 a_2), tR r1, tR (aq h a_1 (gi h 326 a0).toNatClampNeg)]) (h' := h) gX5_enter rfl ?_
    obtain ⟨a_3, he, ho, w⟩ := w
    refine T_gf (fun a_3 => tI (gi h 128 a_3)) gX5_enter rfl (fun _ => rfl) ⟨a_3, he, ho, ?_⟩
    refine T_run (n := 1) (pc' := 76) (lv' := [some (tR (some a0)), some (tR r1), some (tI s0), none]) (st' := [tI ((gi h 513 a_2) - (gi h 128 a_3)), tR r1, tR (aq h a_1 (gi h 326 a0).toNatClampNeg)]) (h' := h) gX5_enter rfl ?_
    obtain ⟨a_6, hr, ho, w⟩ := w
    refine T_cv (fun aa => [some (tR (some aa)), some (tR r1), some (tI ((gi h 513 a_2) - (gi h 128 a_3)))]) gX5_enter rfl rfl rfl rfl (Nat.le_of_ble_eq_true rfl) gX1_enter (fun _ => Nat.le_of_ble_eq_true rfl) (fun _ => rfl) ⟨a_6, hr, ho, T_kv ?_⟩
    refine T.mono w (fun rr h_4 hw => ?_)
    obtain ⟨hr, w⟩ := hw
    refine ⟨hr, ?_⟩
    refine T_kn (v := 0) gX5_enter rfl (by decide) ?_
    refine T_run (n := 1) (pc' := 81) (lv' := [some (tR (some a0)), some (tR r1), some (tI s0), some (tI 0)]) (st' := []) (h' := h_4) gX5_enter rfl ?_
    exact T_wk w (leE (leE (leN (leE le0))))
  · replace w := w.2 hc
    refine T_run (n := 1) (pc' := 49) (lv' := [some (tR (some a0)), some (tR r1), some (tI s0), none]) (st' := [tR (some a0)]) (h' := h) gX5_enter rfl ?_
    refine T_kn (v := 4) gX5_enter rfl (by decide) ?_
    obtain ⟨ho, w⟩ := w
    refine T_ps (pi h 327 a0 4) gX5_enter rfl rfl ⟨ho, fun h_7 he => ?_⟩
    replace w := w h_7 he
    exact T_rv gX5_enter rfl rfl w
set_option maxHeartbeats 4000000 in
set_option maxRecDepth 20000 in
theorem wX5_enter_81 (a0 : Nat) (r1 : Option Nat) (x3 : Int32) (h : Hp) (Q : Option TV → Hp → Prop) (w :
dr r1 (fun a_1 => ob h a_1 2 (
(if x3 < (gi h 130 a_1) then
ob h a0 5 (
dr (gr h 324 a0) (fun a_9 => ob h a_9 8 (tX9_push a_9 0 h (rV (fun h_7 =>
tX5_enter_81 a0 r1 (x3 + 1) h_7 Q)))))
else
ob h a0 5 (
dr r1 (fun a_4 => ob h a_4 2 (tX2_room a_4  h (rI (fun x_3 h_2 =>
ob h_2 a0 5 (∀ h_5, h_5 = pi h_2 325 a0 ((gi h 325 a0) + x_3) →
ob h_5 a0 5 (
ob h_5 a0 5 (∀ h_6, h_6 = pi h_5 326 a0 ((gi h_5 326 a0) + 1) →
Q none h_6)))))))))))) : tX5_enter_81 a0 r1 x3 h Q := by
  refine T_run (n := 2) (pc' := 83) (lv' := [some (tR (some a0)), some (tR r1), none, some (tI x3)]) (st' := [tR r1, tI x3]) (h' := h) gX5_enter rfl ?_
  obtain ⟨a_1, he, ho, w⟩ := w
  refine T_gf (fun a_1 => tI (gi h 130 a_1)) gX5_enter rfl (fun _ => rfl) ⟨a_1, he, ho, ?_⟩
  replace w := c_ge w
  refine T_ic (tgt := 103) gX5_enter rfl (by decide) (fun hc => ?_) (fun hc => ?_)
  · replace w := w.1 hc
    refine T_run (n := 2) (pc' := 105) (lv' := [some (tR (some a0)), some (tR r1), none, some (tI x3)]) (st' := [tR (some a0), tR (some a0)]) (h' := h) gX5_enter rfl ?_
    obtain ⟨ho, w⟩ := w
    refine T_gs (tI (gi h 325 a0)) gX5_enter rfl rfl ⟨ho, ?_⟩
    refine T_run (n := 1) (pc' := 109) (lv' := [some (tR (some a0)), some (tR r1), none, some (tI x3)]) (st' := [tR r1, tI (gi h 325 a0), tR (some a0)]) (h' := h) gX5_enter rfl ?_
    obtain ⟨a_4, hr, ho, w⟩ := w
    refine T_cv (fun aa => [some (tR (some aa))]) gX5_enter rfl rfl rfl rfl (Nat.le_of_ble_eq_true rfl) gX2_room (fun _ => Nat.le_of_ble_eq_true rfl) (fun _ => rfl) ⟨a_4, hr, ho, T_ki ?_⟩
    refine T.mono w (fun rr h_2 hw => ?_)
    obtain ⟨x_3, hr, w⟩ := hw
    refine ⟨x_3, hr, ?_⟩
    refine T_run (n := 1) (pc' := 113) (lv' := [some (tR (some a0)), some (tR r1), none, some (tI x3)]) (st' := [tI ((gi h 325 a0) + x_3), tR (some a0)]) (h' := h_2) gX5_enter rfl ?_
    obtain ⟨ho, w⟩ := w
    refine T_ps (pi h_2 325 a0 ((gi h 325 a0) + x_3)) gX5_enter rfl rfl ⟨ho, fun h_5 he => ?_⟩
    replace w := w h_5 he
    refine T_run (n := 2) (pc' := 118) (lv' := [some (tR (some a0)), some (tR r1), none, some (tI x3)]) (st' := [tR (some a0), tR (some a0)]) (h' := h_5) gX5_enter rfl ?_
    obtain ⟨ho, w⟩ := w
    refine T_gs (tI (gi h_5 326 a0)) gX5_enter rfl rfl ⟨ho, ?_⟩
    refine T_kn (v := 1) gX5_enter rfl (by decide) ?_
    refine T_run (n := 1) (pc' := 123) (lv' := [some (tR (some a0)), some (tR r1), none, some (tI x3)]) (st' := [tI ((gi h_5 326 a0) + 1), tR (some a0)]) (h' := h_5) gX5_enter rfl ?_
    obtain ⟨ho, w⟩ := w
    refine T_ps (pi h_5 326 a0 ((gi h_5 326 a0) + 1)) gX5_enter rfl rfl ⟨ho, fun h_6 he => ?_⟩
    replace w := w h_6 he
    exact T_rv gX5_enter rfl rfl w
  · replace w := w.2 hc
    refine T_run (n := 1) (pc' := 90) (lv' := [some (tR (some a0)), some (tR r1), none, some (tI x3)]) (st' := [tR (some a0)]) (h' := h) gX5_enter rfl ?_
    obtain ⟨ho, w⟩ := w
    refine T_gs (tR (gr h 324 a0)) gX5_enter rfl rfl ⟨ho, ?_⟩
    refine T_kj (v := 0) gX5_enter rfl (by decide) ?_
    obtain ⟨a_9, hr, ho, w⟩ := w
    refine T_cv (fun aa => [some (tR (some aa)), some (tL 0), none]) gX5_enter rfl rfl rfl rfl (Nat.le_of_ble_eq_true rfl) gX9_push (fun _ => Nat.le_of_ble_eq_true rfl) (fun _ => rfl) ⟨a_9, hr, ho, T_kv ?_⟩
    refine T.mono w (fun rr h_7 hw => ?_)
    obtain ⟨hr, w⟩ := hw
    refine ⟨hr, ?_⟩
    refine T_inc (x := x3) (c := 1) (lv' := [some (tR (some a0)), some (tR r1), none, some (tI (x3 + 1))]) gX5_enter rfl rfl (by decide) rfl ?_
    refine T_goto (tgt := 81) gX5_enter rfl (by decide) ?_
    exact w
set_option maxHeartbeats 4000000 in
set_option maxRecDepth 20000 in
theorem wX5_isGoing (a0 : Nat) (h : Hp) (Q : Option TV → Hp → Prop) (w :
ob h a0 5 (
(if (gi h 327 a0) = 1 then
Q (some (tI 1)) h
else
Q (some (tI 0)) h))) : tX5_isGoing a0 h Q := by
  refine T_run (n := 1) (pc' := 1) (lv' := [some (tR (some a0))]) (st' := [tR (some a0)]) (h' := h) gX5_isGoing rfl ?_
  obtain ⟨ho, w⟩ := w
  refine T_gs (tI (gi h 327 a0)) gX5_isGoing rfl rfl ⟨ho, ?_⟩
  refine T_kn (v := 1) gX5_isGoing rfl (by decide) ?_
  replace w := c_ne w
  refine T_ic (tgt := 12) gX5_isGoing rfl (by decide) (fun hc => ?_) (fun hc => ?_)
  · replace w := w.1 hc
    refine T_kn (v := 0) gX5_isGoing rfl (by decide) ?_
    exact T_rz gX5_isGoing rfl rfl (Or.inl rfl) w
  · replace w := w.2 hc
    refine T_kn (v := 1) gX5_isGoing rfl (by decide) ?_
    refine T_goto (tgt := 13) gX5_isGoing rfl (by decide) ?_
    exact T_rz gX5_isGoing rfl rfl (Or.inr rfl) w
set_option maxHeartbeats 4000000 in
set_option maxRecDepth 20000 in
theorem wX5_innermost (a0 : Nat) (h : Hp) (Q : Option TV → Hp → Prop) (w :
ob h a0 5 (
(if 0 < (gi h 326 a0) then
ob h a0 5 (
ob h a0 5 (
dr (gr h 322 a0) (fun a_1 => al_ h a_1 (fun n_2 =>
(if (Int32.ofNat n_2) < (gi h 326 a0) then
Q (some (tR none)) h
else
ob h a0 5 (
ob h a0 5 (
dr (gr h 322 a0) (fun a_3 => ix h kA a_3 ((gi h 326 a0) - 1) (
Q (some (tR (aq h a_3 ((gi h 326 a0) - 1).toNatClampNeg))) h)))))))))
else
Q (some (tR none)) h))) : tX5_innermost a0 h Q := by
  refine T_run (n := 1) (pc' := 1) (lv' := [some (tR (some a0))]) (st' := [tR (some a0)]) (h' := h) gX5_innermost rfl ?_
  obtain ⟨ho, w⟩ := w
  refine T_gs (tI (gi h 326 a0)) gX5_innermost rfl rfl ⟨ho, ?_⟩
  replace w := c_le w
  refine T_if (tgt := 33) gX5_innermost rfl (by decide) (fun hc => ?_) (fun hc => ?_)
  · replace w := w.1 hc
    refine T_run (n := 1) (pc' := 34) (lv' := [some (tR (some a0))]) (st' := [tR none]) (h' := h) gX5_innermost rfl ?_
    exact T_ra gX5_innermost rfl rfl w
  · replace w := w.2 hc
    refine T_run (n := 1) (pc' := 8) (lv' := [some (tR (some a0))]) (st' := [tR (some a0)]) (h' := h) gX5_innermost rfl ?_
    obtain ⟨ho, w⟩ := w
    refine T_gs (tI (gi h 326 a0)) gX5_innermost rfl rfl ⟨ho, ?_⟩
    refine T_run (n := 1) (pc' := 12) (lv' := [some (tR (some a0))]) (st' := [tR (some a0), tI (gi h 326 a0)]) (h' := h) gX5_innermost rfl ?_
    obtain ⟨ho, w⟩ := w
    refine T_gs (tR (gr h 322 a0)) gX5_innermost rfl rfl ⟨ho, ?_⟩
    obtain ⟨a_1, hr, tt, n_2, ht, w⟩ := w
    refine T_len gX5_innermost rfl ⟨a_1, hr, tt, n_2, ht, ?_⟩
    replace w := c_gt w
    refine T_ic (tgt := 33) gX5_innermost rfl (by decide) (fun hc => ?_) (fun hc => ?_)
    · replace w := w.1 hc
      refine T_run (n := 1) (pc' := 34) (lv' := [some (tR (some a0))]) (st' := [tR none]) (h' := h) gX5_innermost rfl ?_
      exact T_ra gX5_innermost rfl rfl w
    · replace w := w.2 hc
      refine T_run (n := 1) (pc' := 20) (lv' := [some (tR (some a0))]) (st' := [tR (some a0)]) (h' := h) gX5_innermost rfl ?_
      obtain ⟨ho, w⟩ := w
      refine T_gs (tR (gr h 322 a0)) gX5_innermost rfl rfl ⟨ho, ?_⟩
      refine T_run (n := 1) (pc' := 24) (lv' := [some (tR (some a0))]) (st' := [tR (some a0), tR (gr h 322 a0)]) (h' := h) gX5_innermost rfl ?_
      obtain ⟨ho, w⟩ := w
      refine T_gs (tI (gi h 326 a0)) gX5_innermost rfl rfl ⟨ho, ?_⟩
      refine T_kn (v := 1) gX5_innermost rfl (by decide) ?_
      refine T_run (n := 1) (pc' := 29) (lv' := [some (tR (some a0))]) (st' := [tI ((gi h 326 a0) - 1), tR (gr h 322 a0)]) (h' := h) gX5_innermost rfl ?_
      obtain ⟨a_3, hr, tt, nn, ht, hk, hj, w⟩ := w
      refine T_aal gX5_innermost rfl ⟨a_3, hr, tt, nn, ht, hk, hj, ?_⟩
      refine T_goto (tgt := 34) gX5_innermost rfl (by decide) ?_
      exact T_ra gX5_innermost rfl rfl w
set_option maxHeartbeats 4000000 in
set_option maxRecDepth 20000 in
theorem wX9_at (a0 : Nat) (x1 : Int32) (h : Hp) (Q : Option TV → Hp → Prop) (w :
(if x1 < 0 then
Q (some (tL 0)) h
else
ob h a0 8 (
dr (gr h 512 a0) (fun a_1 => al_ h a_1 (fun n_2 =>
(if x1 < (Int32.ofNat n_2) then
ob h a0 8 (
dr (gr h 512 a0) (fun a_3 => ix h kJ a_3 x1 (
Q (some (tL (al h a_3 x1.toNatClampNeg))) h)))
else
Q (some (tL 0)) h)))))) : tX9_at a0 x1 h Q := by
  refine T_run (n := 1) (pc' := 1) (lv' := [some (tR (some a0)), some (tI x1)]) (st' := [tI x1]) (h' := h) gX9_at rfl ?_
  replace w := c_lt w
  refine T_if (tgt := 22) gX9_at rfl (by decide) (fun hc => ?_) (fun hc => ?_)
  · replace w := w.1 hc
    refine T_kj (v := 0) gX9_at rfl (by decide) ?_
    exact T_rl gX9_at rfl rfl w
  · replace w := w.2 hc
    refine T_run (n := 2) (pc' := 6) (lv' := [some (tR (some a0)), some (tI x1)]) (st' := [tR (some a0), tI x1]) (h' := h) gX9_at rfl ?_
    obtain ⟨ho, w⟩ := w
    refine T_gs (tR (gr h 512 a0)) gX9_at rfl rfl ⟨ho, ?_⟩
    obtain ⟨a_1, hr, tt, n_2, ht, w⟩ := w
    refine T_len gX9_at rfl ⟨a_1, hr, tt, n_2, ht, ?_⟩
    replace w := c_ge w
    refine T_ic (tgt := 22) gX9_at rfl (by decide) (fun hc => ?_) (fun hc => ?_)
    · replace w := w.1 hc
      refine T_kj (v := 0) gX9_at rfl (by decide) ?_
      exact T_rl gX9_at rfl rfl w
    · replace w := w.2 hc
      refine T_run (n := 1) (pc' := 14) (lv' := [some (tR (some a0)), some (tI x1)]) (st' := [tR (some a0)]) (h' := h) gX9_at rfl ?_
      obtain ⟨ho, w⟩ := w
      refine T_gs (tR (gr h 512 a0)) gX9_at rfl rfl ⟨ho, ?_⟩
      refine T_run (n := 1) (pc' := 18) (lv' := [some (tR (some a0)), some (tI x1)]) (st' := [tI x1, tR (gr h 512 a0)]) (h' := h) gX9_at rfl ?_
      obtain ⟨a_3, hr, tt, nn, ht, hk, hj, w⟩ := w
      refine T_lal gX9_at rfl ⟨a_3, hr, tt, nn, ht, hk, hj, ?_⟩
      refine T_goto (tgt := 23) gX9_at rfl (by decide) ?_
      exact T_rl gX9_at rfl rfl w
set_option maxHeartbeats 4000000 in
set_option maxRecDepth 20000 in
theorem wX9_set (a0 : Nat) (x1 : Int32) (y2 : Int64) (h : Hp) (Q : Option TV → Hp → Prop) (w :
(if x1 < 0 then
Q none h
else
ob h a0 8 (
dr (gr h 512 a0) (fun a_1 => al_ h a_1 (fun n_2 =>
(if x1 < (Int32.ofNat n_2) then
ob h a0 8 (
dr (gr h 512 a0) (fun a_3 => ix h kJ a_3 x1 (∀ h_4, h_4 = sl h a_3 x1.toNatClampNeg y2 →
Q none h_4)))
else
Q none h)))))) : tX9_set a0 x1 y2 h Q := by
  refine T_run (n := 1) (pc' := 1) (lv' := [some (tR (some a0)), some (tI x1), some (tL y2), none]) (st' := [tI x1]) (h' := h) gX9_set rfl ?_
  replace w := c_lt w
  refine T_if (tgt := 20) gX9_set rfl (by decide) (fun hc => ?_) (fun hc => ?_)
  · replace w := w.1 hc
    exact T_rv gX9_set rfl rfl w
  · replace w := w.2 hc
    refine T_run (n := 2) (pc' := 6) (lv' := [some (tR (some a0)), some (tI x1), some (tL y2), none]) (st' := [tR (some a0), tI x1]) (h' := h) gX9_set rfl ?_
    obtain ⟨ho, w⟩ := w
    refine T_gs (tR (gr h 512 a0)) gX9_set rfl rfl ⟨ho, ?_⟩
    obtain ⟨a_1, hr, tt, n_2, ht, w⟩ := w
    refine T_len gX9_set rfl ⟨a_1, hr, tt, n_2, ht, ?_⟩
    replace w := c_ge w
    refine T_ic (tgt := 20) gX9_set rfl (by decide) (fun hc => ?_) (fun hc => ?_)
    · replace w := w.1 hc
      exact T_rv gX9_set rfl rfl w
    · replace w := w.2 hc
      refine T_run (n := 1) (pc' := 14) (lv' := [some (tR (some a0)), some (tI x1), some (tL y2), none]) (st' := [tR (some a0)]) (h' := h) gX9_set rfl ?_
      obtain ⟨ho, w⟩ := w
      refine T_gs (tR (gr h 512 a0)) gX9_set rfl rfl ⟨ho, ?_⟩
      refine T_run (n := 2) (pc' := 19) (lv' := [some (tR (some a0)), some (tI x1), some (tL y2), none]) (st' := [tL y2, tI x1, tR (gr h 512 a0)]) (h' := h) gX9_set rfl ?_
      obtain ⟨a_3, hr, tt, nn, ht, hk, hj, w⟩ := w
      refine T_las gX9_set rfl ⟨a_3, hr, tt, nn, ht, hk, hj, fun h_4 he => ?_⟩
      replace w := w h_4 he
      exact T_rv gX9_set rfl rfl w
set_option maxHeartbeats 4000000 in
set_option maxRecDepth 20000 in
theorem wX9_keep (a0 : Nat) (x1 : Int32) (x2 : Int32) (h : Hp) (Q : Option TV → Hp → Prop) (w :
ob h a0 8 (
tX9_keep_10 a0 x1 x2 ((gi h 513 a0) - x1) 0 h Q)) : tX9_keep a0 x1 x2 h Q := by
  refine T_run (n := 1) (pc' := 1) (lv' := [some (tR (some a0)), some (tI x1), some (tI x2), none, none]) (st' := [tR (some a0)]) (h' := h) gX9_keep rfl ?_
  obtain ⟨ho, w⟩ := w
  refine T_gs (tI (gi h 513 a0)) gX9_keep rfl rfl ⟨ho, ?_⟩
  refine T_run (n := 3) (pc' := 7) (lv' := [some (tR (some a0)), some (tI x1), some (tI x2), some (tI ((gi h 513 a0) - x1)), none]) (st' := []) (h' := h) gX9_keep rfl ?_
  refine T_kn (v := 0) gX9_keep rfl (by decide) ?_
  refine T_run (n := 1) (pc' := 10) (lv' := [some (tR (some a0)), some (tI x1), some (tI x2), some (tI ((gi h 513 a0) - x1)), some (tI 0)]) (st' := []) (h' := h) gX9_keep rfl ?_
  exact w
set_option maxHeartbeats 4000000 in
set_option maxRecDepth 20000 in
theorem wX9_keep_10 (a0 : Nat) (x1 : Int32) (x2 : Int32) (x3 : Int32) (x4 : Int32) (h : Hp) (Q : Option TV → Hp → Prop) (w :
(if x4 < x1 then
ob h a0 8 (tX9_at a0 (x3 + x4) h (rL (fun y_3 h_2 =>
ob h_2 a0 8 (tX9_set a0 (x2 + x4) y_3 h_2 (rV (fun h_4 =>
tX9_keep_10 a0 x1 x2 x3 (x4 + 1) h_4 Q))))))
else
ob h a0 8 (∀ h_1, h_1 = pi h 513 a0 (x2 + x1) →
Q none h_1))) : tX9_keep_10 a0 x1 x2 x3 x4 h Q := by
  refine T_run (n := 2) (pc' := 13) (lv' := [some (tR (some a0)), some (tI x1), some (tI x2), some (tI x3), some (tI x4)]) (st' := [tI x1, tI x4]) (h' := h) gX9_keep rfl ?_
  replace w := c_ge w
  refine T_ic (tgt := 38) gX9_keep rfl (by decide) (fun hc => ?_) (fun hc => ?_)
  · replace w := w.1 hc
    refine T_run (n := 4) (pc' := 42) (lv' := [some (tR (some a0)), some (tI x1), some (tI x2), some (tI x3), some (tI x4)]) (st' := [tI (x2 + x1), tR (some a0)]) (h' := h) gX9_keep rfl ?_
    obtain ⟨ho, w⟩ := w
    refine T_ps (pi h 513 a0 (x2 + x1)) gX9_keep rfl rfl ⟨ho, fun h_1 he => ?_⟩
    replace w := w h_1 he
    exact T_rv gX9_keep rfl rfl w
  · replace w := w.2 hc
    refine T_run (n := 8) (pc' := 26) (lv' := [some (tR (some a0)), some (tI x1), some (tI x2), some (tI x3), some (tI x4)]) (st' := [tI (x3 + x4), tR (some a0), tI (x2 + x4), tR (some a0)]) (h' := h) gX9_keep rfl ?_
    obtain ⟨ho, w⟩ := w
    refine T_cv (fun aa => [some (tR (some aa)), some (tI (x3 + x4))]) gX9_keep rfl rfl rfl rfl (Nat.le_of_ble_eq_true rfl) gX9_at (fun _ => Nat.le_of_ble_eq_true rfl) (fun _ => rfl) ⟨a0, rfl, ho, T_kl ?_⟩
    refine T.mono w (fun rr h_2 hw => ?_)
    obtain ⟨y_3, hr, w⟩ := hw
    refine ⟨y_3, hr, ?_⟩
    obtain ⟨ho, w⟩ := w
    refine T_cv (fun aa => [some (tR (some aa)), some (tI (x2 + x4)), some (tL y_3), none]) gX9_keep rfl rfl rfl rfl (Nat.le_of_ble_eq_true rfl) gX9_set (fun _ => Nat.le_of_ble_eq_true rfl) (fun _ => rfl) ⟨a0, rfl, ho, T_kv ?_⟩
    refine T.mono w (fun rr h_4 hw => ?_)
    obtain ⟨hr, w⟩ := hw
    refine ⟨hr, ?_⟩
    refine T_inc (x := x4) (c := 1) (lv' := [some (tR (some a0)), some (tI x1), some (tI x2), some (tI x3), some (tI (x4 + 1))]) gX9_keep rfl rfl (by decide) rfl ?_
    refine T_goto (tgt := 10) gX9_keep rfl (by decide) ?_
    exact w
set_option maxHeartbeats 4000000 in
set_option maxRecDepth 20000 in
theorem wX5_leaveWhatIsOver (a0 : Nat) (h : Hp) (Q : Option TV → Hp → Prop) (w :
tX5_leaveWhatIsOver_2 a0 0 h Q) : tX5_leaveWhatIsOver a0 h Q := by
  refine T_kn (v := 0) gX5_leaveWhatIsOver rfl (by decide) ?_
  refine T_run (n := 1) (pc' := 2) (lv' := [some (tR (some a0)), some (tI 0), none]) (st' := []) (h' := h) gX5_leaveWhatIsOver rfl ?_
  exact w
set_option maxHeartbeats 4000000 in
set_option maxRecDepth 20000 in
theorem wX5_leaveWhatIsOver_2 (a0 : Nat) (x1 : Int32) (h : Hp) (Q : Option TV → Hp → Prop) (w :
(if x1 < 30 then
ob h a0 5 (tX5_isGoing a0  h (rI (fun x_2 h_1 =>
(if x_2 = 0 then
Q none h_1
else
ob h_1 a0 5 (tX5_innermost a0  h_1 (rR (fun r_4 h_3 =>
(if r_4 = none then
Q none h_3
else
dr r_4 (fun a_5 => ob h_3 a_5 1 (
(if (gr h_3 66 a_5) = none then
dr r_4 (fun a_6 => ob h_3 a_6 1 (
(if (gr h_3 64 a_6) = none then
Q none h_3
else
ob h_3 a0 5 (
dr r_4 (fun a_7 => ob h_3 a_7 1 (
dr (gr h_3 64 a_7) (fun a_8 => ob h_3 a_8 2 (
dr r_4 (fun a_9 => ob h_3 a_9 1 (
dr (gr h_3 324 a0) (fun a_12 => ob h_3 a_12 8 (tX9_keep a_12 (gi h_3 129 a_8) (gi h_3 65 a_9) h_3 (rV (fun h_10 =>
ob h_10 a0 5 (
dr r_4 (fun a_13 => ob h_10 a_13 1 (
dr (gr h_10 64 a_13) (fun a_16 => ob h_10 a_16 2 (tX2_room a_16  h_10 (rI (fun x_15 h_14 =>
ob h_14 a0 5 (∀ h_17, h_17 = pi h_14 325 a0 ((gi h_10 325 a0) - x_15) →
ob h_17 a0 5 (
ob h_17 a0 5 (∀ h_18, h_18 = pi h_17 326 a0 ((gi h_17 326 a0) - 1) →
ob h_18 a0 5 (
(if (gi h_18 326 a0) = 0 then
ob h_18 a0 5 (∀ h_19, h_19 = pi h_18 327 a0 2 →
tX5_leaveWhatIsOver_95 a0 x1 h_19 Q)
else
tX5_leaveWhatIsOver_95 a0 x1 h_18 Q))))))))))))))))))))))))))
else
Q none h_3)))))))))))
else
Q none h)) : tX5_leaveWhatIsOver_2 a0 x1 h Q := by
  refine T_run (n := 1) (pc' := 3) (lv' := [some (tR (some a0)), some (tI x1), none]) (st' := [tI x1]) (h' := h) gX5_leaveWhatIsOver rfl ?_
  refine T_kb (v := 30) gX5_leaveWhatIsOver rfl (by decide) ?_
  replace w := c_ge w
  refine T_ic (tgt := 101) gX5_leaveWhatIsOver rfl (by decide) (fun hc => ?_) (fun hc => ?_)
  · replace w := w.1 hc
    exact T_rv gX5_leaveWhatIsOver rfl rfl w
  · replace w := w.2 hc
    refine T_run (n := 1) (pc' := 9) (lv' := [some (tR (some a0)), some (tI x1), none]) (st' := [tR (some a0)]) (h' := h) gX5_leaveWhatIsOver rfl ?_
    obtain ⟨ho, w⟩ := w
    refine T_cv (fun aa => [some (tR (some aa))]) gX5_leaveWhatIsOver rfl rfl rfl rfl (Nat.le_of_ble_eq_true rfl) gX5_isGoing (fun _ => Nat.le_of_ble_eq_true rfl) (fun _ => rfl) ⟨a0, rfl, ho, T_ki ?_⟩
    refine T.mono w (fun rr h_1 hw => ?_)
    obtain ⟨x_2, hr, w⟩ := hw
    refine ⟨x_2, hr, ?_⟩
    replace w := c_eq w
    refine T_if (tgt := 101) gX5_leaveWhatIsOver rfl (by decide) (fun hc => ?_) (fun hc => ?_)
    · replace w := w.1 hc
      exact T_rv gX5_leaveWhatIsOver rfl rfl w
    · replace w := w.2 hc
      refine T_run (n := 1) (pc' := 16) (lv' := [some (tR (some a0)), some (tI x1), none]) (st' := [tR (some a0)]) (h' := h_1) gX5_leaveWhatIsOver rfl ?_
      obtain ⟨ho, w⟩ := w
      refine T_cv (fun aa => [some (tR (some aa))]) gX5_leaveWhatIsOver rfl rfl rfl rfl (Nat.le_of_ble_eq_true rfl) gX5_innermost (fun _ => Nat.le_of_ble_eq_true rfl) (fun _ => rfl) ⟨a0, rfl, ho, T_kr ?_⟩
      refine T.mono w (fun rr h_3 hw => ?_)
      obtain ⟨r_4, hr, w⟩ := hw
      refine ⟨r_4, hr, ?_⟩
      refine T_run (n := 2) (pc' := 21) (lv' := [some (tR (some a0)), some (tI x1), some (tR r_4)]) (st' := [tR r_4]) (h' := h_3) gX5_leaveWhatIsOver rfl ?_
      refine T_nu2 (tgt := 38) gX5_leaveWhatIsOver rfl (by decide) (fun hc => ?_) (fun hc => ?_)
      · rw [if_pos hc] at w
        exact T_rv gX5_leaveWhatIsOver rfl rfl w
      · rw [if_neg hc] at w
        refine T_run (n := 1) (pc' := 25) (lv' := [some (tR (some a0)), some (tI x1), some (tR r_4)]) (st' := [tR r_4]) (h' := h_3) gX5_leaveWhatIsOver rfl ?_
        obtain ⟨a_5, he, ho, w⟩ := w
        refine T_gf (fun a_5 => tR (gr h_3 66 a_5)) gX5_leaveWhatIsOver rfl (fun _ => rfl) ⟨a_5, he, ho, ?_⟩
        refine T_nn2 (tgt := 38) gX5_leaveWhatIsOver rfl (by decide) (fun hc => ?_) (fun hc => ?_)
        · rw [if_neg hc] at w
          exact T_rv gX5_leaveWhatIsOver rfl rfl w
        · rw [if_pos hc] at w
          refine T_run (n := 1) (pc' := 32) (lv' := [some (tR (some a0)), some (tI x1), some (tR r_4)]) (st' := [tR r_4]) (h' := h_3) gX5_leaveWhatIsOver rfl ?_
          obtain ⟨a_6, he, ho, w⟩ := w
          refine T_gf (fun a_6 => tR (gr h_3 64 a_6)) gX5_leaveWhatIsOver rfl (fun _ => rfl) ⟨a_6, he, ho, ?_⟩
          refine T_nn2 (tgt := 39) gX5_leaveWhatIsOver rfl (by decide) (fun hc => ?_) (fun hc => ?_)
          · rw [if_neg hc] at w
            refine T_run (n := 1) (pc' := 40) (lv' := [some (tR (some a0)), some (tI x1), some (tR r_4)]) (st' := [tR (some a0)]) (h' := h_3) gX5_leaveWhatIsOver rfl ?_
            obtain ⟨ho, w⟩ := w
            refine T_gs (tR (gr h_3 324 a0)) gX5_leaveWhatIsOver rfl rfl ⟨ho, ?_⟩
            refine T_run (n := 1) (pc' := 44) (lv' := [some (tR (some a0)), some (tI x1), some (tR r_4)]) (st' := [tR r_4, tR (gr h_3 324 a0)]) (h' := h_3) gX5_leaveWhatIsOver rfl ?_
            obtain ⟨a_7, he, ho, w⟩ := w
            refine T_gf (fun a_7 => tR (gr h_3 64 a_7)) gX5_leaveWhatIsOver rfl (fun _ => rfl) ⟨a_7, he, ho, ?_⟩
            obtain ⟨a_8, he, ho, w⟩ := w
            refine T_gf (fun a_8 => tI (gi h_3 129 a_8)) gX5_leaveWhatIsOver rfl (fun _ => rfl) ⟨a_8, he, ho, ?_⟩
            refine T_run (n := 1) (pc' := 51) (lv' := [some (tR (some a0)), some (tI x1), some (tR r_4)]) (st' := [tR r_4, tI (gi h_3 129 a_8), tR (gr h_3 324 a0)]) (h' := h_3) gX5_leaveWhatIsOver rfl ?_
            obtain ⟨a_9, he, ho, w⟩ := w
            refine T_gf (fun a_9 => tI (gi h_3 65 a_9)) gX5_leaveWhatIsOver rfl (fun _ => rfl) ⟨a_9, he, ho, ?_⟩
            obtain ⟨a_12, hr, ho, w⟩ := w
            refine T_cv (fun aa => [some (tR (some aa)), some (tI (gi h_3 129 a_8)), some (tI (gi h_3 65 a_9)), none, none]) gX5_leaveWhatIsOver rfl rfl rfl rfl (Nat.le_of_ble_eq_true rfl) gX9_keep (fun _ => Nat.le_of_ble_eq_true rfl) (fun _ => rfl) ⟨a_12, hr, ho, T_kv ?_⟩
            refine T.mono w (fun rr h_10 hw => ?_)
            obtain ⟨hr, w⟩ := hw
            refine ⟨hr, ?_⟩
            refine T_run (n := 2) (pc' := 59) (lv' := [some (tR (some a0)), some (tI x1), some (tR r_4)]) (st' := [tR (some a0), tR (some a0)]) (h' := h_10) gX5_leaveWhatIsOver rfl ?_
            obtain ⟨ho, w⟩ := w
            refine T_gs (tI (gi h_10 325 a0)) gX5_leaveWhatIsOver rfl rfl ⟨ho, ?_⟩
            refine T_run (n := 1) (pc' := 63) (lv' := [some (tR (some a0)), some (tI x1), some (tR r_4)]) (st' := [tR r_4, tI (gi h_10 325 a0), tR (some a0)]) (h' := h_10) gX5_leaveWhatIsOver rfl ?_
            obtain ⟨a_13, he, ho, w⟩ := w
            refine T_gf (fun a_13 => tR (gr h_10 64 a_13)) gX5_leaveWhatIsOver rfl (fun _ => rfl) ⟨a_13, he, ho, ?_⟩
            obtain ⟨a_16, hr, ho, w⟩ := w
            refine T_cv (fun aa => [some (tR (some aa))]) gX5_leaveWhatIsOver rfl rfl rfl rfl (Nat.le_of_ble_eq_true rfl) gX2_room (fun _ => Nat.le_of_ble_eq_true rfl) (fun _ => rfl) ⟨a_16, hr, ho, T_ki ?_⟩
            refine T.mono w (fun rr h_14 hw => ?_)
            obtain ⟨x_15, hr, w⟩ := hw
            refine ⟨x_15, hr, ?_⟩
            refine T_run (n := 1) (pc' := 70) (lv' := [some (tR (some a0)), some (tI x1), some (tR r_4)]) (st' := [tI ((gi h_10 325 a0) - x_15), tR (some a0)]) (h' := h_14) gX5_leaveWhatIsOver rfl ?_
            obtain ⟨ho, w⟩ := w
            refine T_ps (pi h_14 325 a0 ((gi h_10 325 a0) - x_15)) gX5_leaveWhatIsOver rfl rfl ⟨ho, fun h_17 he => ?_⟩
            replace w := w h_17 he
            refine T_run (n := 2) (pc' := 75) (lv' := [some (tR (some a0)), some (tI x1), some (tR r_4)]) (st' := [tR (some a0), tR (some a0)]) (h' := h_17) gX5_leaveWhatIsOver rfl ?_
            obtain ⟨ho, w⟩ := w
            refine T_gs (tI (gi h_17 326 a0)) gX5_leaveWhatIsOver rfl rfl ⟨ho, ?_⟩
            refine T_kn (v := 1) gX5_leaveWhatIsOver rfl (by decide) ?_
            refine T_run (n := 1) (pc' := 80) (lv' := [some (tR (some a0)), some (tI x1), some (tR r_4)]) (st' := [tI ((gi h_17 326 a0) - 1), tR (some a0)]) (h' := h_17) gX5_leaveWhatIsOver rfl ?_
            obtain ⟨ho, w⟩ := w
            refine T_ps (pi h_17 326 a0 ((gi h_17 326 a0) - 1)) gX5_leaveWhatIsOver rfl rfl ⟨ho, fun h_18 he => ?_⟩
            replace w := w h_18 he
            refine T_run (n := 1) (pc' := 84) (lv' := [some (tR (some a0)), some (tI x1), some (tR r_4)]) (st' := [tR (some a0)]) (h' := h_18) gX5_leaveWhatIsOver rfl ?_
            obtain ⟨ho, w⟩ := w
            refine T_gs (tI (gi h_18 326 a0)) gX5_leaveWhatIsOver rfl rfl ⟨ho, ?_⟩
            replace w := c_ne w
            refine T_if (tgt := 95) gX5_leaveWhatIsOver rfl (by decide) (fun hc => ?_) (fun hc => ?_)
            · replace w := w.1 hc
              exact T_wk w (leE (leE (leN le0)))
            · replace w := w.2 hc
              refine T_run (n := 1) (pc' := 91) (lv' := [some (tR (some a0)), some (tI x1), some (tR r_4)]) (st' := [tR (some a0)]) (h' := h_18) gX5_leaveWhatIsOver rfl ?_
              refine T_kn (v := 2) gX5_leaveWhatIsOver rfl (by decide) ?_
              obtain ⟨ho, w⟩ := w
              refine T_ps (pi h_18 327 a0 2) gX5_leaveWhatIsOver rfl rfl ⟨ho, fun h_19 he => ?_⟩
              replace w := w h_19 he
              exact T_wk w (leE (leE (leN le0)))
          · rw [if_pos hc] at w
            exact T_rv gX5_leaveWhatIsOver rfl rfl w
set_option maxHeartbeats 4000000 in
set_option maxRecDepth 20000 in
theorem wX5_leaveWhatIsOver_95 (a0 : Nat) (x1 : Int32) (h : Hp) (Q : Option TV → Hp → Prop) (w :
tX5_leaveWhatIsOver_2 a0 (x1 + 1) h Q) : tX5_leaveWhatIsOver_95 a0 x1 h Q := by
  refine T_inc (x := x1) (c := 1) (lv' := [some (tR (some a0)), some (tI (x1 + 1)), none]) gX5_leaveWhatIsOver rfl rfl (by decide) rfl ?_
  refine T_goto (tgt := 2) gX5_leaveWhatIsOver rfl (by decide) ?_
  exact w
set_option maxHeartbeats 4000000 in
set_option maxRecDepth 20000 in
theorem wX5_begin (a0 : Nat) (r1 : Option Nat) (r2 : Option Nat) (h : Hp) (Q : Option TV → Hp → Prop) (w :
ob h a0 5 (∀ h_1, h_1 = pi h 326 a0 0 →
ob h_1 a0 5 (∀ h_2, h_2 = pi h_1 325 a0 0 →
ob h_2 a0 5 (∀ h_3, h_3 = pi h_2 329 a0 0 →
ob h_3 a0 5 (
dr (gr h_3 324 a0) (fun a_5 => ob h_3 a_5 8 (∀ h_4, h_4 = pi h_3 513 a_5 0 →
ob h_4 a0 5 (∀ h_6, h_6 = pi h_4 327 a0 1 →
dr r1 (fun a_7 => ob h_6 a_7 2 (
dr r2 (fun a_8 => al_ h_6 a_8 (fun n_9 =>
tX5_begin_41 a0 r1 r2 (if (Int32.ofNat n_9) < (gi h_6 128 a_7) then (Int32.ofNat n_9) else (gi h_6 128 a_7)) 0 h_6 Q)))))))))))) : tX5_begin a0 r1 r2 h Q := by
  refine T_run (n := 1) (pc' := 1) (lv' := [some (tR (some a0)), some (tR r1), some (tR r2), none, none]) (st' := [tR (some a0)]) (h' := h) gX5_begin rfl ?_
  refine T_kn (v := 0) gX5_begin rfl (by decide) ?_
  obtain ⟨ho, w⟩ := w
  refine T_ps (pi h 326 a0 0) gX5_begin rfl rfl ⟨ho, fun h_1 he => ?_⟩
  replace w := w h_1 he
  refine T_run (n := 1) (pc' := 6) (lv' := [some (tR (some a0)), some (tR r1), some (tR r2), none, none]) (st' := [tR (some a0)]) (h' := h_1) gX5_begin rfl ?_
  refine T_kn (v := 0) gX5_begin rfl (by decide) ?_
  obtain ⟨ho, w⟩ := w
  refine T_ps (pi h_1 325 a0 0) gX5_begin rfl rfl ⟨ho, fun h_2 he => ?_⟩
  replace w := w h_2 he
  refine T_run (n := 1) (pc' := 11) (lv' := [some (tR (some a0)), some (tR r1), some (tR r2), none, none]) (st' := [tR (some a0)]) (h' := h_2) gX5_begin rfl ?_
  refine T_kn (v := 0) gX5_begin rfl (by decide) ?_
  obtain ⟨ho, w⟩ := w
  refine T_ps (pi h_2 329 a0 0) gX5_begin rfl rfl ⟨ho, fun h_3 he => ?_⟩
  replace w := w h_3 he
  refine T_run (n := 1) (pc' := 16) (lv' := [some (tR (some a0)), some (tR r1), some (tR r2), none, none]) (st' := [tR (some a0)]) (h' := h_3) gX5_begin rfl ?_
  obtain ⟨ho, w⟩ := w
  refine T_gs (tR (gr h_3 324 a0)) gX5_begin rfl rfl ⟨ho, ?_⟩
  refine T_kn (v := 0) gX5_begin rfl (by decide) ?_
  obtain ⟨a_5, hr, ho, w⟩ := w
  refine T_pf (fun a_5 => pi h_3 513 a_5 0) gX5_begin rfl (fun _ => rfl) ⟨a_5, hr, ho, fun h_4 he => ?_⟩
  replace w := w h_4 he
  refine T_run (n := 1) (pc' := 24) (lv' := [some (tR (some a0)), some (tR r1), some (tR r2), none, none]) (st' := [tR (some a0)]) (h' := h_4) gX5_begin rfl ?_
  refine T_kn (v := 1) gX5_begin rfl (by decide) ?_
  obtain ⟨ho, w⟩ := w
  refine T_ps (pi h_4 327 a0 1) gX5_begin rfl rfl ⟨ho, fun h_6 he => ?_⟩
  replace w := w h_6 he
  refine T_run (n := 1) (pc' := 29) (lv' := [some (tR (some a0)), some (tR r1), some (tR r2), none, none]) (st' := [tR r1]) (h' := h_6) gX5_begin rfl ?_
  obtain ⟨a_7, he, ho, w⟩ := w
  refine T_gf (fun a_7 => tI (gi h_6 128 a_7)) gX5_begin rfl (fun _ => rfl) ⟨a_7, he, ho, ?_⟩
  refine T_run (n := 1) (pc' := 33) (lv' := [some (tR (some a0)), some (tR r1), some (tR r2), none, none]) (st' := [tR r2, tI (gi h_6 128 a_7)]) (h' := h_6) gX5_begin rfl ?_
  obtain ⟨a_8, hr, tt, n_9, ht, w⟩ := w
  refine T_len gX5_begin rfl ⟨a_8, hr, tt, n_9, ht, ?_⟩
  refine T_min gX5_begin rfl (Nat.le_of_ble_eq_true rfl) ?_
  refine T_run (n := 1) (pc' := 38) (lv' := [some (tR (some a0)), some (tR r1), some (tR r2), some (tI (if (Int32.ofNat n_9) < (gi h_6 128 a_7) then (Int32.ofNat n_9) else (gi h_6 128 a_7))), none]) (st' := []) (h' := h_6) gX5_begin rfl ?_
  refine T_kn (v := 0) gX5_begin rfl (by decide) ?_
  refine T_run (n := 1) (pc' := 41) (lv' := [some (tR (some a0)), some (tR r1), some (tR r2), some (tI (if (Int32.ofNat n_9) < (gi h_6 128 a_7) then (Int32.ofNat n_9) else (gi h_6 128 a_7))), some (tI 0)]) (st' := []) (h' := h_6) gX5_begin rfl ?_
  exact w
set_option maxHeartbeats 4000000 in
set_option maxRecDepth 20000 in
theorem wX5_begin_41 (a0 : Nat) (r1 : Option Nat) (r2 : Option Nat) (x3 : Int32) (x4 : Int32) (h : Hp) (Q : Option TV → Hp → Prop) (w :
(if x4 < x3 then
ob h a0 5 (
dr r2 (fun a_5 => ix h kJ a_5 x4 (
dr (gr h 324 a0) (fun a_8 => ob h a_8 8 (tX9_push a_8 (al h a_5 x4.toNatClampNeg) h (rV (fun h_6 =>
tX5_begin_41 a0 r1 r2 x3 (x4 + 1) h_6 Q)))))))
else
ob h a0 5 (tX5_enter a0 r1 h (rV (fun h_1 =>
ob h_1 a0 5 (tX5_leaveWhatIsOver a0  h_1 (rV (fun h_3 =>
Q none h_3)))))))) : tX5_begin_41 a0 r1 r2 x3 x4 h Q := by
  refine T_run (n := 2) (pc' := 44) (lv' := [some (tR (some a0)), some (tR r1), some (tR r2), some (tI x3), some (tI x4)]) (st' := [tI x3, tI x4]) (h' := h) gX5_begin rfl ?_
  replace w := c_ge w
  refine T_ic (tgt := 64) gX5_begin rfl (by decide) (fun hc => ?_) (fun hc => ?_)
  · replace w := w.1 hc
    refine T_run (n := 2) (pc' := 66) (lv' := [some (tR (some a0)), some (tR r1), some (tR r2), some (tI x3), some (tI x4)]) (st' := [tR r1, tR (some a0)]) (h' := h) gX5_begin rfl ?_
    obtain ⟨ho, w⟩ := w
    refine T_cv (fun aa => [some (tR (some aa)), some (tR r1), none, none]) gX5_begin rfl rfl rfl rfl (Nat.le_of_ble_eq_true rfl) gX5_enter (fun _ => Nat.le_of_ble_eq_true rfl) (fun _ => rfl) ⟨a0, rfl, ho, T_kv ?_⟩
    refine T.mono w (fun rr h_1 hw => ?_)
    obtain ⟨hr, w⟩ := hw
    refine ⟨hr, ?_⟩
    refine T_run (n := 1) (pc' := 70) (lv' := [some (tR (some a0)), some (tR r1), some (tR r2), some (tI x3), some (tI x4)]) (st' := [tR (some a0)]) (h' := h_1) gX5_begin rfl ?_
    obtain ⟨ho, w⟩ := w
    refine T_cv (fun aa => [some (tR (some aa)), none, none]) gX5_begin rfl rfl rfl rfl (Nat.le_of_ble_eq_true rfl) gX5_leaveWhatIsOver (fun _ => Nat.le_of_ble_eq_true rfl) (fun _ => rfl) ⟨a0, rfl, ho, T_kv ?_⟩
    refine T.mono w (fun rr h_3 hw => ?_)
    obtain ⟨hr, w⟩ := hw
    refine ⟨hr, ?_⟩
    exact T_rv gX5_begin rfl rfl w
  · replace w := w.2 hc
    refine T_run (n := 1) (pc' := 48) (lv' := [some (tR (some a0)), some (tR r1), some (tR r2), some (tI x3), some (tI x4)]) (st' := [tR (some a0)]) (h' := h) gX5_begin rfl ?_
    obtain ⟨ho, w⟩ := w
    refine T_gs (tR (gr h 324 a0)) gX5_begin rfl rfl ⟨ho, ?_⟩
    refine T_run (n := 2) (pc' := 54) (lv' := [some (tR (some a0)), some (tR r1), some (tR r2), some (tI x3), some (tI x4)]) (st' := [tI x4, tR r2, tR (gr h 324 a0)]) (h' := h) gX5_begin rfl ?_
    obtain ⟨a_5, hr, tt, nn, ht, hk, hj, w⟩ := w
    refine T_lal gX5_begin rfl ⟨a_5, hr, tt, nn, ht, hk, hj, ?_⟩
    obtain ⟨a_8, hr, ho, w⟩ := w
    refine T_cv (fun aa => [some (tR (some aa)), some (tL (al h a_5 x4.toNatClampNeg)), none]) gX5_begin rfl rfl rfl rfl (Nat.le_of_ble_eq_true rfl) gX9_push (fun _ => Nat.le_of_ble_eq_true rfl) (fun _ => rfl) ⟨a_8, hr, ho, T_kv ?_⟩
    refine T.mono w (fun rr h_6 hw => ?_)
    obtain ⟨hr, w⟩ := hw
    refine ⟨hr, ?_⟩
    refine T_inc (x := x4) (c := 1) (lv' := [some (tR (some a0)), some (tR r1), some (tR r2), some (tI x3), some (tI (x4 + 1))]) gX5_begin rfl rfl (by decide) rfl ?_
    refine T_goto (tgt := 41) gX5_begin rfl (by decide) ?_
    exact w
set_option maxHeartbeats 4000000 in
set_option maxRecDepth 20000 in
theorem wX10_call (a0 : Nat) (x1 : Int32) (h : Hp) (Q : Option TV → Hp → Prop) (w :
ob h a0 9 (
dr (gr h 576 a0) (fun a_3 => ob h a_3 7 (tX8_findWhole a_3 x1 h (rR (fun r_2 h_1 =>
(if r_2 = none then
Q (some (tI 0)) h_1
else
dr r_2 (fun a_4 => ob h_1 a_4 2 (
ob h_1 a0 9 (
(if (gi h_1 128 a_4) = (gi h_1 579 a0) then
ob h_1 a0 9 (
ob h_1 a0 9 (
dr (gr h_1 577 a0) (fun a_7 => ob h_1 a_7 5 (tX5_begin a_7 r_2 (gr h_1 578 a0) h_1 (rV (fun h_5 =>
ob h_5 a0 9 (∀ h_8, h_8 = pi h_5 579 a0 0 →
Q (some (tI 1)) h_8)))))))
else
Q (some (tI 0)) h_1))))))))))) : tX10_call a0 x1 h Q := by
  refine T_run (n := 1) (pc' := 1) (lv' := [some (tR (some a0)), some (tI x1), none]) (st' := [tR (some a0)]) (h' := h) gX10_call rfl ?_
  obtain ⟨ho, w⟩ := w
  refine T_gs (tR (gr h 576 a0)) gX10_call rfl rfl ⟨ho, ?_⟩
  refine T_run (n := 1) (pc' := 5) (lv' := [some (tR (some a0)), some (tI x1), none]) (st' := [tI x1, tR (gr h 576 a0)]) (h' := h) gX10_call rfl ?_
  obtain ⟨a_3, hr, ho, w⟩ := w
  refine T_cv (fun aa => [some (tR (some aa)), some (tI x1), none]) gX10_call rfl rfl rfl rfl (Nat.le_of_ble_eq_true rfl) gX8_findWhole (fun _ => Nat.le_of_ble_eq_true rfl) (fun _ => rfl) ⟨a_3, hr, ho, T_kr ?_⟩
  refine T.mono w (fun rr h_1 hw => ?_)
  obtain ⟨r_2, hr, w⟩ := hw
  refine ⟨r_2, hr, ?_⟩
  refine T_run (n := 2) (pc' := 10) (lv' := [some (tR (some a0)), some (tI x1), some (tR r_2)]) (st' := [tR r_2]) (h' := h_1) gX10_call rfl ?_
  refine T_nu2 (tgt := 24) gX10_call rfl (by decide) (fun hc => ?_) (fun hc => ?_)
  · rw [if_pos hc] at w
    refine T_kn (v := 0) gX10_call rfl (by decide) ?_
    exact T_rz gX10_call rfl rfl (Or.inl rfl) w
  · rw [if_neg hc] at w
    refine T_run (n := 1) (pc' := 14) (lv' := [some (tR (some a0)), some (tI x1), some (tR r_2)]) (st' := [tR r_2]) (h' := h_1) gX10_call rfl ?_
    obtain ⟨a_4, he, ho, w⟩ := w
    refine T_gf (fun a_4 => tI (gi h_1 128 a_4)) gX10_call rfl (fun _ => rfl) ⟨a_4, he, ho, ?_⟩
    refine T_run (n := 1) (pc' := 18) (lv' := [some (tR (some a0)), some (tI x1), some (tR r_2)]) (st' := [tR (some a0), tI (gi h_1 128 a_4)]) (h' := h_1) gX10_call rfl ?_
    obtain ⟨ho, w⟩ := w
    refine T_gs (tI (gi h_1 579 a0)) gX10_call rfl rfl ⟨ho, ?_⟩
    replace w := c_eq w
    refine T_ic (tgt := 26) gX10_call rfl (by decide) (fun hc => ?_) (fun hc => ?_)
    · replace w := w.1 hc
      refine T_run (n := 1) (pc' := 27) (lv' := [some (tR (some a0)), some (tI x1), some (tR r_2)]) (st' := [tR (some a0)]) (h' := h_1) gX10_call rfl ?_
      obtain ⟨ho, w⟩ := w
      refine T_gs (tR (gr h_1 577 a0)) gX10_call rfl rfl ⟨ho, ?_⟩
      refine T_run (n := 2) (pc' := 32) (lv' := [some (tR (some a0)), some (tI x1), some (tR r_2)]) (st' := [tR (some a0), tR r_2, tR (gr h_1 577 a0)]) (h' := h_1) gX10_call rfl ?_
      obtain ⟨ho, w⟩ := w
      refine T_gs (tR (gr h_1 578 a0)) gX10_call rfl rfl ⟨ho, ?_⟩
      obtain ⟨a_7, hr, ho, w⟩ := w
      refine T_cv (fun aa => [some (tR (some aa)), some (tR r_2), some (tR (gr h_1 578 a0)), none, none]) gX10_call rfl rfl rfl rfl (Nat.le_of_ble_eq_true rfl) gX5_begin (fun _ => Nat.le_of_ble_eq_true rfl) (fun _ => rfl) ⟨a_7, hr, ho, T_kv ?_⟩
      refine T.mono w (fun rr h_5 hw => ?_)
      obtain ⟨hr, w⟩ := hw
      refine ⟨hr, ?_⟩
      refine T_run (n := 1) (pc' := 39) (lv' := [some (tR (some a0)), some (tI x1), some (tR r_2)]) (st' := [tR (some a0)]) (h' := h_5) gX10_call rfl ?_
      refine T_kn (v := 0) gX10_call rfl (by decide) ?_
      obtain ⟨ho, w⟩ := w
      refine T_ps (pi h_5 579 a0 0) gX10_call rfl rfl ⟨ho, fun h_8 he => ?_⟩
      replace w := w h_8 he
      refine T_kn (v := 1) gX10_call rfl (by decide) ?_
      exact T_rz gX10_call rfl rfl (Or.inr rfl) w
    · replace w := w.2 hc
      refine T_kn (v := 0) gX10_call rfl (by decide) ?_
      exact T_rz gX10_call rfl rfl (Or.inl rfl) w
set_option maxHeartbeats 4000000 in
set_option maxRecDepth 20000 in
theorem wX5_trap (a0 : Nat) (x1 : Int32) (h : Hp) (Q : Option TV → Hp → Prop) (w :
ob h a0 5 (∀ h_1, h_1 = pi h 327 a0 3 →
ob h_1 a0 5 (∀ h_2, h_2 = pi h_1 328 a0 x1 →
Q none h_2))) : tX5_trap a0 x1 h Q := by
  refine T_run (n := 1) (pc' := 1) (lv' := [some (tR (some a0)), some (tI x1)]) (st' := [tR (some a0)]) (h' := h) gX5_trap rfl ?_
  refine T_kn (v := 3) gX5_trap rfl (by decide) ?_
  obtain ⟨ho, w⟩ := w
  refine T_ps (pi h 327 a0 3) gX5_trap rfl rfl ⟨ho, fun h_1 he => ?_⟩
  replace w := w h_1 he
  refine T_run (n := 2) (pc' := 7) (lv' := [some (tR (some a0)), some (tI x1)]) (st' := [tI x1, tR (some a0)]) (h' := h_1) gX5_trap rfl ?_
  obtain ⟨ho, w⟩ := w
  refine T_ps (pi h_1 328 a0 x1) gX5_trap rfl rfl ⟨ho, fun h_2 he => ?_⟩
  replace w := w h_2 he
  exact T_rv gX5_trap rfl rfl w
set_option maxHeartbeats 4000000 in
set_option maxRecDepth 20000 in
theorem wX9_pop (a0 : Nat) (h : Hp) (Q : Option TV → Hp → Prop) (w :
ob h a0 8 (
(if 0 < (gi h 513 a0) then
ob h a0 8 (
ob h a0 8 (∀ h_1, h_1 = pi h 513 a0 ((gi h 513 a0) - 1) →
ob h_1 a0 8 (
ob h_1 a0 8 (tX9_at a0 (gi h_1 513 a0) h_1 (rL (fun y_3 h_2 =>
Q (some (tL y_3)) h_2))))))
else
Q (some (tL 0)) h))) : tX9_pop a0 h Q := by
  refine T_run (n := 1) (pc' := 1) (lv' := [some (tR (some a0))]) (st' := [tR (some a0)]) (h' := h) gX9_pop rfl ?_
  obtain ⟨ho, w⟩ := w
  refine T_gs (tI (gi h 513 a0)) gX9_pop rfl rfl ⟨ho, ?_⟩
  replace w := c_gt w
  refine T_if (tgt := 9) gX9_pop rfl (by decide) (fun hc => ?_) (fun hc => ?_)
  · replace w := w.1 hc
    refine T_run (n := 2) (pc' := 11) (lv' := [some (tR (some a0))]) (st' := [tR (some a0), tR (some a0)]) (h' := h) gX9_pop rfl ?_
    obtain ⟨ho, w⟩ := w
    refine T_gs (tI (gi h 513 a0)) gX9_pop rfl rfl ⟨ho, ?_⟩
    refine T_kn (v := 1) gX9_pop rfl (by decide) ?_
    refine T_run (n := 1) (pc' := 16) (lv' := [some (tR (some a0))]) (st' := [tI ((gi h 513 a0) - 1), tR (some a0)]) (h' := h) gX9_pop rfl ?_
    obtain ⟨ho, w⟩ := w
    refine T_ps (pi h 513 a0 ((gi h 513 a0) - 1)) gX9_pop rfl rfl ⟨ho, fun h_1 he => ?_⟩
    replace w := w h_1 he
    refine T_run (n := 2) (pc' := 21) (lv' := [some (tR (some a0))]) (st' := [tR (some a0), tR (some a0)]) (h' := h_1) gX9_pop rfl ?_
    obtain ⟨ho, w⟩ := w
    refine T_gs (tI (gi h_1 513 a0)) gX9_pop rfl rfl ⟨ho, ?_⟩
    obtain ⟨ho, w⟩ := w
    refine T_cv (fun aa => [some (tR (some aa)), some (tI (gi h_1 513 a0))]) gX9_pop rfl rfl rfl rfl (Nat.le_of_ble_eq_true rfl) gX9_at (fun _ => Nat.le_of_ble_eq_true rfl) (fun _ => rfl) ⟨a0, rfl, ho, T_kl ?_⟩
    refine T.mono w (fun rr h_2 hw => ?_)
    obtain ⟨y_3, hr, w⟩ := hw
    refine ⟨y_3, hr, ?_⟩
    exact T_rl gX9_pop rfl rfl w
  · replace w := w.2 hc
    refine T_kj (v := 0) gX9_pop rfl (by decide) ?_
    exact T_rl gX9_pop rfl rfl w
set_option maxHeartbeats 4000000 in
set_option maxRecDepth 20000 in
theorem wX7_isTrue (y0 : Int64) (h : Hp) (Q : Option TV → Hp → Prop) (w :
(if y0.toInt32 = 0 then
Q (some (tI 0)) h
else
Q (some (tI 1)) h)) : tX7_isTrue y0 h Q := by
  refine T_run (n := 2) (pc' := 2) (lv' := [some (tL y0), none]) (st' := [tI y0.toInt32]) (h' := h) gX7_isTrue rfl ?_
  replace w := c_eq w
  refine T_if (tgt := 9) gX7_isTrue rfl (by decide) (fun hc => ?_) (fun hc => ?_)
  · replace w := w.1 hc
    refine T_kn (v := 0) gX7_isTrue rfl (by decide) ?_
    exact T_rz gX7_isTrue rfl rfl (Or.inl rfl) w
  · replace w := w.2 hc
    refine T_kn (v := 1) gX7_isTrue rfl (by decide) ?_
    refine T_goto (tgt := 10) gX7_isTrue rfl (by decide) ?_
    exact T_rz gX7_isTrue rfl rfl (Or.inr rfl) w
set_option maxHeartbeats 4000000 in
set_option maxRecDepth 20000 in
theorem wX1_operandsFrom (a0 : Nat) (h : Hp) (Q : Option TV → Hp → Prop) (w :
ob h a0 1 (
(if (gr h 64 a0) = none then
ob h a0 1 (
Q (some (tI (gi h 65 a0))) h)
else
ob h a0 1 (
ob h a0 1 (
dr (gr h 64 a0) (fun a_1 => ob h a_1 2 (
Q (some (tI ((gi h 65 a0) + (gi h 131 a_1)))) h))))))) : tX1_operandsFrom a0 h Q := by
  refine T_run (n := 1) (pc' := 1) (lv' := [some (tR (some a0))]) (st' := [tR (some a0)]) (h' := h) gX1_operandsFrom rfl ?_
  obtain ⟨ho, w⟩ := w
  refine T_gs (tR (gr h 64 a0)) gX1_operandsFrom rfl rfl ⟨ho, ?_⟩
  refine T_nn2 (tgt := 14) gX1_operandsFrom rfl (by decide) (fun hc => ?_) (fun hc => ?_)
  · rw [if_neg hc] at w
    refine T_run (n := 1) (pc' := 15) (lv' := [some (tR (some a0))]) (st' := [tR (some a0)]) (h' := h) gX1_operandsFrom rfl ?_
    obtain ⟨ho, w⟩ := w
    refine T_gs (tI (gi h 65 a0)) gX1_operandsFrom rfl rfl ⟨ho, ?_⟩
    refine T_run (n := 1) (pc' := 19) (lv' := [some (tR (some a0))]) (st' := [tR (some a0), tI (gi h 65 a0)]) (h' := h) gX1_operandsFrom rfl ?_
    obtain ⟨ho, w⟩ := w
    refine T_gs (tR (gr h 64 a0)) gX1_operandsFrom rfl rfl ⟨ho, ?_⟩
    obtain ⟨a_1, he, ho, w⟩ := w
    refine T_gf (fun a_1 => tI (gi h 131 a_1)) gX1_operandsFrom rfl (fun _ => rfl) ⟨a_1, he, ho, ?_⟩
    refine T_run (n := 1) (pc' := 26) (lv' := [some (tR (some a0))]) (st' := [tI ((gi h 65 a0) + (gi h 131 a_1))]) (h' := h) gX1_operandsFrom rfl ?_
    exact T_ri gX1_operandsFrom rfl rfl w
  · rw [if_pos hc] at w
    refine T_run (n := 1) (pc' := 8) (lv' := [some (tR (some a0))]) (st' := [tR (some a0)]) (h' := h) gX1_operandsFrom rfl ?_
    obtain ⟨ho, w⟩ := w
    refine T_gs (tI (gi h 65 a0)) gX1_operandsFrom rfl rfl ⟨ho, ?_⟩
    refine T_goto (tgt := 26) gX1_operandsFrom rfl (by decide) ?_
    exact T_ri gX1_operandsFrom rfl rfl w
set_option maxHeartbeats 4000000 in
set_option maxRecDepth 20000 in
theorem wX5_branch (a0 : Nat) (r1 : Option Nat) (r2 : Option Nat) (h : Hp) (Q : Option TV → Hp → Prop) (w :
ob h a0 5 (
dr r2 (fun a_1 => ob h a_1 3 (
dr r1 (fun a_4 => ob h a_4 1 (tX1_operandsFrom a_4  h (rI (fun x_3 h_2 =>
dr r2 (fun a_5 => ob h_2 a_5 3 (
dr (gr h 324 a0) (fun a_8 => ob h_2 a_8 8 (tX9_keep a_8 (gi h 200 a_1) (x_3 + (gi h_2 201 a_5)) h_2 (rV (fun h_6 =>
dr r2 (fun a_9 => ob h_6 a_9 3 (
dr r1 (fun a_11 => ob h_6 a_11 1 (∀ h_10, h_10 = pr h_6 66 a_11 (gr h_6 199 a_9) →
Q none h_10)))))))))))))))))) : tX5_branch a0 r1 r2 h Q := by
  refine T_run (n := 1) (pc' := 1) (lv' := [some (tR (some a0)), some (tR r1), some (tR r2)]) (st' := [tR (some a0)]) (h' := h) gX5_branch rfl ?_
  obtain ⟨ho, w⟩ := w
  refine T_gs (tR (gr h 324 a0)) gX5_branch rfl rfl ⟨ho, ?_⟩
  refine T_run (n := 1) (pc' := 5) (lv' := [some (tR (some a0)), some (tR r1), some (tR r2)]) (st' := [tR r2, tR (gr h 324 a0)]) (h' := h) gX5_branch rfl ?_
  obtain ⟨a_1, he, ho, w⟩ := w
  refine T_gf (fun a_1 => tI (gi h 200 a_1)) gX5_branch rfl (fun _ => rfl) ⟨a_1, he, ho, ?_⟩
  refine T_run (n := 1) (pc' := 9) (lv' := [some (tR (some a0)), some (tR r1), some (tR r2)]) (st' := [tR r1, tI (gi h 200 a_1), tR (gr h 324 a0)]) (h' := h) gX5_branch rfl ?_
  obtain ⟨a_4, hr, ho, w⟩ := w
  refine T_cv (fun aa => [some (tR (some aa))]) gX5_branch rfl rfl rfl rfl (Nat.le_of_ble_eq_true rfl) gX1_operandsFrom (fun _ => Nat.le_of_ble_eq_true rfl) (fun _ => rfl) ⟨a_4, hr, ho, T_ki ?_⟩
  refine T.mono w (fun rr h_2 hw => ?_)
  obtain ⟨x_3, hr, w⟩ := hw
  refine ⟨x_3, hr, ?_⟩
  refine T_run (n := 1) (pc' := 13) (lv' := [some (tR (some a0)), some (tR r1), some (tR r2)]) (st' := [tR r2, tI x_3, tI (gi h 200 a_1), tR (gr h 324 a0)]) (h' := h_2) gX5_branch rfl ?_
  obtain ⟨a_5, he, ho, w⟩ := w
  refine T_gf (fun a_5 => tI (gi h_2 201 a_5)) gX5_branch rfl (fun _ => rfl) ⟨a_5, he, ho, ?_⟩
  refine T_run (n := 1) (pc' := 17) (lv' := [some (tR (some a0)), some (tR r1), some (tR r2)]) (st' := [tI (x_3 + (gi h_2 201 a_5)), tI (gi h 200 a_1), tR (gr h 324 a0)]) (h' := h_2) gX5_branch rfl ?_
  obtain ⟨a_8, hr, ho, w⟩ := w
  refine T_cv (fun aa => [some (tR (some aa)), some (tI (gi h 200 a_1)), some (tI (x_3 + (gi h_2 201 a_5))), none, none]) gX5_branch rfl rfl rfl rfl (Nat.le_of_ble_eq_true rfl) gX9_keep (fun _ => Nat.le_of_ble_eq_true rfl) (fun _ => rfl) ⟨a_8, hr, ho, T_kv ?_⟩
  refine T.mono w (fun rr h_6 hw => ?_)
  obtain ⟨hr, w⟩ := hw
  refine ⟨hr, ?_⟩
  refine T_run (n := 2) (pc' := 22) (lv' := [some (tR (some a0)), some (tR r1), some (tR r2)]) (st' := [tR r2, tR r1]) (h' := h_6) gX5_branch rfl ?_
  obtain ⟨a_9, he, ho, w⟩ := w
  refine T_gf (fun a_9 => tR (gr h_6 199 a_9)) gX5_branch rfl (fun _ => rfl) ⟨a_9, he, ho, ?_⟩
  obtain ⟨a_11, hr, ho, w⟩ := w
  refine T_pf (fun a_11 => pr h_6 66 a_11 (gr h_6 199 a_9)) gX5_branch rfl (fun _ => rfl) ⟨a_11, hr, ho, fun h_10 he => ?_⟩
  replace w := w h_10 he
  exact T_rv gX5_branch rfl rfl w
set_option maxHeartbeats 4000000 in
set_option maxRecDepth 20000 in
theorem wX5_chosenEntry (a0 : Nat) (r1 : Option Nat) (h : Hp) (Q : Option TV → Hp → Prop) (w :
ob h a0 5 (
dr (gr h 324 a0) (fun a_3 => ob h a_3 8 (tX9_pop a_3  h (rL (fun y_2 h_1 =>
dr r1 (fun a_4 => ob h_1 a_4 3 (
(if (gr h_1 198 a_4) = none then
tX5_chosenEntry_27 a0 r1 (y_2 &&& 4294967295) r1 h_1 Q
else
dr r1 (fun a_5 => ob h_1 a_5 3 (
tX5_chosenEntry_27 a0 r1 (y_2 &&& 4294967295) (gr h_1 198 a_5) h_1 Q))))))))))) : tX5_chosenEntry a0 r1 h Q := by
  refine T_run (n := 1) (pc' := 1) (lv' := [some (tR (some a0)), some (tR r1), none, none, none, none]) (st' := [tR (some a0)]) (h' := h) gX5_chosenEntry rfl ?_
  obtain ⟨ho, w⟩ := w
  refine T_gs (tR (gr h 324 a0)) gX5_chosenEntry rfl rfl ⟨ho, ?_⟩
  obtain ⟨a_3, hr, ho, w⟩ := w
  refine T_cv (fun aa => [some (tR (some aa))]) gX5_chosenEntry rfl rfl rfl rfl (Nat.le_of_ble_eq_true rfl) gX9_pop (fun _ => Nat.le_of_ble_eq_true rfl) (fun _ => rfl) ⟨a_3, hr, ho, T_kl ?_⟩
  refine T.mono w (fun rr h_1 hw => ?_)
  obtain ⟨y_2, hr, w⟩ := hw
  refine ⟨y_2, hr, ?_⟩
  refine T_kl2 (v := 4294967295) gX5_chosenEntry rfl (by decide) ?_
  refine T_run (n := 3) (pc' := 13) (lv' := [some (tR (some a0)), some (tR r1), some (tL (y_2 &&& 4294967295)), none, none, none]) (st' := [tR r1]) (h' := h_1) gX5_chosenEntry rfl ?_
  obtain ⟨a_4, he, ho, w⟩ := w
  refine T_gf (fun a_4 => tR (gr h_1 198 a_4)) gX5_chosenEntry rfl (fun _ => rfl) ⟨a_4, he, ho, ?_⟩
  refine T_nn2 (tgt := 23) gX5_chosenEntry rfl (by decide) (fun hc => ?_) (fun hc => ?_)
  · rw [if_neg hc] at w
    refine T_run (n := 1) (pc' := 24) (lv' := [some (tR (some a0)), some (tR r1), some (tL (y_2 &&& 4294967295)), none, none, none]) (st' := [tR r1]) (h' := h_1) gX5_chosenEntry rfl ?_
    obtain ⟨a_5, he, ho, w⟩ := w
    refine T_gf (fun a_5 => tR (gr h_1 198 a_5)) gX5_chosenEntry rfl (fun _ => rfl) ⟨a_5, he, ho, ?_⟩
    exact w
  · rw [if_pos hc] at w
    refine T_run (n := 1) (pc' := 20) (lv' := [some (tR (some a0)), some (tR r1), some (tL (y_2 &&& 4294967295)), none, none, none]) (st' := [tR r1]) (h' := h_1) gX5_chosenEntry rfl ?_
    refine T_goto (tgt := 27) gX5_chosenEntry rfl (by decide) ?_
    exact w
set_option maxHeartbeats 4000000 in
set_option maxRecDepth 20000 in
theorem wX5_chosenEntry_27 (a0 : Nat) (r1 : Option Nat) (y2 : Int64) (s0 : Option Nat) (h : Hp) (Q : Option TV → Hp → Prop) (w :
tX5_chosenEntry_32 a0 r1 y2 s0 0 h Q) : tX5_chosenEntry_27 a0 r1 y2 s0 h Q := by
  refine T_run (n := 1) (pc' := 29) (lv' := [some (tR (some a0)), some (tR r1), some (tL y2), none, some (tR s0), none]) (st' := []) (h' := h) gX5_chosenEntry rfl ?_
  refine T_kn (v := 0) gX5_chosenEntry rfl (by decide) ?_
  refine T_run (n := 1) (pc' := 32) (lv' := [some (tR (some a0)), some (tR r1), some (tL y2), none, some (tR s0), some (tI 0)]) (st' := []) (h' := h) gX5_chosenEntry rfl ?_
  exact w
set_option maxHeartbeats 4000000 in
set_option maxRecDepth 20000 in
theorem wX5_chosenEntry_32 (a0 : Nat) (r1 : Option Nat) (y2 : Int64) (r4 : Option Nat) (x5 : Int32) (h : Hp) (Q : Option TV → Hp → Prop) (w :
dr r1 (fun a_1 => ob h a_1 3 (
(if x5 < (gi h 193 a_1) then
(if x5.toInt64 < y2 then
dr r4 (fun a_2 => ob h a_2 3 (
(if (gr h 198 a_2) = none then
Q (some (tR r4)) h
else
dr r4 (fun a_3 => ob h a_3 3 (
tX5_chosenEntry_32 a0 r1 y2 (gr h 198 a_3) (x5 + 1) h Q)))))
else
Q (some (tR r4)) h)
else
Q (some (tR r4)) h)))) : tX5_chosenEntry_32 a0 r1 y2 r4 x5 h Q := by
  refine T_run (n := 2) (pc' := 35) (lv' := [some (tR (some a0)), some (tR r1), some (tL y2), none, some (tR r4), some (tI x5)]) (st' := [tR r1, tI x5]) (h' := h) gX5_chosenEntry rfl ?_
  obtain ⟨a_1, he, ho, w⟩ := w
  refine T_gf (fun a_1 => tI (gi h 193 a_1)) gX5_chosenEntry rfl (fun _ => rfl) ⟨a_1, he, ho, ?_⟩
  replace w := c_ge w
  refine T_ic (tgt := 70) gX5_chosenEntry rfl (by decide) (fun hc => ?_) (fun hc => ?_)
  · replace w := w.1 hc
    refine T_run (n := 1) (pc' := 72) (lv' := [some (tR (some a0)), some (tR r1), some (tL y2), none, some (tR r4), some (tI x5)]) (st' := [tR r4]) (h' := h) gX5_chosenEntry rfl ?_
    exact T_ra gX5_chosenEntry rfl rfl w
  · replace w := w.2 hc
    refine T_run (n := 4) (pc' := 46) (lv' := [some (tR (some a0)), some (tR r1), some (tL y2), none, some (tR r4), some (tI x5)]) (st' := [tI (lg_cmp x5.toInt64 y2)]) (h' := h) gX5_chosenEntry rfl ?_
    replace w := c_ge (if_iff (lg_lt x5.toInt64 y2) w)
    refine T_if (tgt := 70) gX5_chosenEntry rfl (by decide) (fun hc => ?_) (fun hc => ?_)
    · replace w := w.1 hc
      refine T_run (n := 1) (pc' := 72) (lv' := [some (tR (some a0)), some (tR r1), some (tL y2), none, some (tR r4), some (tI x5)]) (st' := [tR r4]) (h' := h) gX5_chosenEntry rfl ?_
      exact T_ra gX5_chosenEntry rfl rfl w
    · replace w := w.2 hc
      refine T_run (n := 1) (pc' := 51) (lv' := [some (tR (some a0)), some (tR r1), some (tL y2), none, some (tR r4), some (tI x5)]) (st' := [tR r4]) (h' := h) gX5_chosenEntry rfl ?_
      obtain ⟨a_2, he, ho, w⟩ := w
      refine T_gf (fun a_2 => tR (gr h 198 a_2)) gX5_chosenEntry rfl (fun _ => rfl) ⟨a_2, he, ho, ?_⟩
      refine T_nu2 (tgt := 70) gX5_chosenEntry rfl (by decide) (fun hc => ?_) (fun hc => ?_)
      · rw [if_pos hc] at w
        refine T_run (n := 1) (pc' := 72) (lv' := [some (tR (some a0)), some (tR r1), some (tL y2), none, some (tR r4), some (tI x5)]) (st' := [tR r4]) (h' := h) gX5_chosenEntry rfl ?_
        exact T_ra gX5_chosenEntry rfl rfl w
      · rw [if_neg hc] at w
        refine T_run (n := 1) (pc' := 59) (lv' := [some (tR (some a0)), some (tR r1), some (tL y2), none, some (tR r4), some (tI x5)]) (st' := [tR r4]) (h' := h) gX5_chosenEntry rfl ?_
        obtain ⟨a_3, he, ho, w⟩ := w
        refine T_gf (fun a_3 => tR (gr h 198 a_3)) gX5_chosenEntry rfl (fun _ => rfl) ⟨a_3, he, ho, ?_⟩
        refine T_run (n := 1) (pc' := 64) (lv' := [some (tR (some a0)), some (tR r1), some (tL y2), none, some (tR (gr h 198 a_3)), some (tI x5)]) (st' := []) (h' := h) gX5_chosenEntry rfl ?_
        refine T_inc (x := x5) (c := 1) (lv' := [some (tR (some a0)), some (tR r1), some (tL y2), none, some (tR (gr h 198 a_3)), some (tI (x5 + 1))]) gX5_chosenEntry rfl rfl (by decide) rfl ?_
        refine T_goto (tgt := 32) gX5_chosenEntry rfl (by decide) ?_
        exact w
set_option maxHeartbeats 4000000 in
set_option maxRecDepth 20000 in
theorem wX2_hasSignature (a0 : Nat) (x1 : Int32) (x2 : Int32) (h : Hp) (Q : Option TV → Hp → Prop) (w :
ob h a0 2 (
(if (gi h 128 a0) = x1 then
ob h a0 2 (
(if (gi h 129 a0) = x2 then
Q (some (tI 1)) h
else
Q (some (tI 0)) h))
else
Q (some (tI 0)) h))) : tX2_hasSignature a0 x1 x2 h Q := by
  refine T_run (n := 1) (pc' := 1) (lv' := [some (tR (some a0)), some (tI x1), some (tI x2)]) (st' := [tR (some a0)]) (h' := h) gX2_hasSignature rfl ?_
  obtain ⟨ho, w⟩ := w
  refine T_gs (tI (gi h 128 a0)) gX2_hasSignature rfl rfl ⟨ho, ?_⟩
  refine T_run (n := 1) (pc' := 5) (lv' := [some (tR (some a0)), some (tI x1), some (tI x2)]) (st' := [tI x1, tI (gi h 128 a0)]) (h' := h) gX2_hasSignature rfl ?_
  replace w := c_ne w
  refine T_ic (tgt := 20) gX2_hasSignature rfl (by decide) (fun hc => ?_) (fun hc => ?_)
  · replace w := w.1 hc
    refine T_kn (v := 0) gX2_hasSignature rfl (by decide) ?_
    exact T_rz gX2_hasSignature rfl rfl (Or.inl rfl) w
  · replace w := w.2 hc
    refine T_run (n := 1) (pc' := 9) (lv' := [some (tR (some a0)), some (tI x1), some (tI x2)]) (st' := [tR (some a0)]) (h' := h) gX2_hasSignature rfl ?_
    obtain ⟨ho, w⟩ := w
    refine T_gs (tI (gi h 129 a0)) gX2_hasSignature rfl rfl ⟨ho, ?_⟩
    refine T_run (n := 1) (pc' := 13) (lv' := [some (tR (some a0)), some (tI x1), some (tI x2)]) (st' := [tI x2, tI (gi h 129 a0)]) (h' := h) gX2_hasSignature rfl ?_
    replace w := c_ne w
    refine T_ic (tgt := 20) gX2_hasSignature rfl (by decide) (fun hc => ?_) (fun hc => ?_)
    · replace w := w.1 hc
      refine T_kn (v := 0) gX2_hasSignature rfl (by decide) ?_
      exact T_rz gX2_hasSignature rfl rfl (Or.inl rfl) w
    · replace w := w.2 hc
      refine T_kn (v := 1) gX2_hasSignature rfl (by decide) ?_
      refine T_goto (tgt := 21) gX2_hasSignature rfl (by decide) ?_
      exact T_rz gX2_hasSignature rfl rfl (Or.inr rfl) w
set_option maxHeartbeats 4000000 in
set_option maxRecDepth 20000 in
theorem wX5_enterByTable (a0 : Nat) (r1 : Option Nat) (h : Hp) (Q : Option TV → Hp → Prop) (w :
ob h a0 5 (
dr (gr h 324 a0) (fun a_3 => ob h a_3 8 (tX9_pop a_3  h (rL (fun y_2 h_1 =>
ob h_1 a0 5 (
dr (gr h_1 320 a0) (fun a_4 => al_ h_1 a_4 (fun n_5 =>
(if (y_2 &&& 4294967295) < ((Int32.ofNat n_5).toInt64) then
ob h_1 a0 5 (
dr (gr h_1 320 a0) (fun a_6 => ix h_1 kA a_6 ((y_2 &&& 4294967295).toInt32) (
(if (aq h_1 a_6 ((y_2 &&& 4294967295).toInt32).toNatClampNeg) = none then
ob h_1 a0 5 (tX5_trap a0 7 h_1 (rV (fun h_16 =>
Q none h_16)))
else
dr r1 (fun a_7 => ob h_1 a_7 3 (
dr r1 (fun a_8 => ob h_1 a_8 3 (
dr (aq h_1 a_6 ((y_2 &&& 4294967295).toInt32).toNatClampNeg) (fun a_11 => ob h_1 a_11 2 (tX2_hasSignature a_11 (gi h_1 193 a_7) (gi h_1 194 a_8) h_1 (rI (fun x_10 h_9 =>
(if x_10 = 0 then
ob h_9 a0 5 (tX5_trap a0 8 h_9 (rV (fun h_14 =>
Q none h_14)))
else
ob h_9 a0 5 (tX5_enter a0 (aq h_1 a_6 ((y_2 &&& 4294967295).toInt32).toNatClampNeg) h_9 (rV (fun h_12 =>
Q none h_12))))))))))))))))
else
ob h_1 a0 5 (tX5_trap a0 6 h_1 (rV (fun h_18 =>
Q none h_18))))))))))))) : tX5_enterByTable a0 r1 h Q := by
  refine T_run (n := 1) (pc' := 1) (lv' := [some (tR (some a0)), some (tR r1), none, none, none]) (st' := [tR (some a0)]) (h' := h) gX5_enterByTable rfl ?_
  obtain ⟨ho, w⟩ := w
  refine T_gs (tR (gr h 324 a0)) gX5_enterByTable rfl rfl ⟨ho, ?_⟩
  obtain ⟨a_3, hr, ho, w⟩ := w
  refine T_cv (fun aa => [some (tR (some aa))]) gX5_enterByTable rfl rfl rfl rfl (Nat.le_of_ble_eq_true rfl) gX9_pop (fun _ => Nat.le_of_ble_eq_true rfl) (fun _ => rfl) ⟨a_3, hr, ho, T_kl ?_⟩
  refine T.mono w (fun rr h_1 hw => ?_)
  obtain ⟨y_2, hr, w⟩ := hw
  refine ⟨y_2, hr, ?_⟩
  refine T_kl2 (v := 4294967295) gX5_enterByTable rfl (by decide) ?_
  refine T_run (n := 4) (pc' := 14) (lv' := [some (tR (some a0)), some (tR r1), some (tL (y_2 &&& 4294967295)), none, none]) (st' := [tR (some a0), tL (y_2 &&& 4294967295)]) (h' := h_1) gX5_enterByTable rfl ?_
  obtain ⟨ho, w⟩ := w
  refine T_gs (tR (gr h_1 320 a0)) gX5_enterByTable rfl rfl ⟨ho, ?_⟩
  obtain ⟨a_4, hr, tt, n_5, ht, w⟩ := w
  refine T_len gX5_enterByTable rfl ⟨a_4, hr, tt, n_5, ht, ?_⟩
  refine T_run (n := 2) (pc' := 20) (lv' := [some (tR (some a0)), some (tR r1), some (tL (y_2 &&& 4294967295)), none, none]) (st' := [tI (lg_cmp (y_2 &&& 4294967295) ((Int32.ofNat n_5).toInt64))]) (h' := h_1) gX5_enterByTable rfl ?_
  replace w := c_lt (if_iff (lg_lt (y_2 &&& 4294967295) ((Int32.ofNat n_5).toInt64)) w)
  refine T_if (tgt := 30) gX5_enterByTable rfl (by decide) (fun hc => ?_) (fun hc => ?_)
  · replace w := w.1 hc
    refine T_run (n := 1) (pc' := 31) (lv' := [some (tR (some a0)), some (tR r1), some (tL (y_2 &&& 4294967295)), none, none]) (st' := [tR (some a0)]) (h' := h_1) gX5_enterByTable rfl ?_
    obtain ⟨ho, w⟩ := w
    refine T_gs (tR (gr h_1 320 a0)) gX5_enterByTable rfl rfl ⟨ho, ?_⟩
    refine T_run (n := 2) (pc' := 36) (lv' := [some (tR (some a0)), some (tR r1), some (tL (y_2 &&& 4294967295)), none, none]) (st' := [tI ((y_2 &&& 4294967295).toInt32), tR (gr h_1 320 a0)]) (h' := h_1) gX5_enterByTable rfl ?_
    obtain ⟨a_6, hr, tt, nn, ht, hk, hj, w⟩ := w
    refine T_aal gX5_enterByTable rfl ⟨a_6, hr, tt, nn, ht, hk, hj, ?_⟩
    refine T_run (n := 2) (pc' := 41) (lv' := [some (tR (some a0)), some (tR r1), some (tL (y_2 &&& 4294967295)), none, some (tR (aq h_1 a_6 ((y_2 &&& 4294967295).toInt32).toNatClampNeg))]) (st' := [tR (aq h_1 a_6 ((y_2 &&& 4294967295).toInt32).toNatClampNeg)]) (h' := h_1) gX5_enterByTable rfl ?_
    refine T_nn2 (tgt := 53) gX5_enterByTable rfl (by decide) (fun hc => ?_) (fun hc => ?_)
    · rw [if_neg hc] at w
      refine T_run (n := 2) (pc' := 56) (lv' := [some (tR (some a0)), some (tR r1), some (tL (y_2 &&& 4294967295)), none, some (tR (aq h_1 a_6 ((y_2 &&& 4294967295).toInt32).toNatClampNeg))]) (st' := [tR r1, tR (aq h_1 a_6 ((y_2 &&& 4294967295).toInt32).toNatClampNeg)]) (h' := h_1) gX5_enterByTable rfl ?_
      obtain ⟨a_7, he, ho, w⟩ := w
      refine T_gf (fun a_7 => tI (gi h_1 193 a_7)) gX5_enterByTable rfl (fun _ => rfl) ⟨a_7, he, ho, ?_⟩
      refine T_run (n := 1) (pc' := 60) (lv' := [some (tR (some a0)), some (tR r1), some (tL (y_2 &&& 4294967295)), none, some (tR (aq h_1 a_6 ((y_2 &&& 4294967295).toInt32).toNatClampNeg))]) (st' := [tR r1, tI (gi h_1 193 a_7), tR (aq h_1 a_6 ((y_2 &&& 4294967295).toInt32).toNatClampNeg)]) (h' := h_1) gX5_enterByTable rfl ?_
      obtain ⟨a_8, he, ho, w⟩ := w
      refine T_gf (fun a_8 => tI (gi h_1 194 a_8)) gX5_enterByTable rfl (fun _ => rfl) ⟨a_8, he, ho, ?_⟩
      obtain ⟨a_11, hr, ho, w⟩ := w
      refine T_cv (fun aa => [some (tR (some aa)), some (tI (gi h_1 193 a_7)), some (tI (gi h_1 194 a_8))]) gX5_enterByTable rfl rfl rfl rfl (Nat.le_of_ble_eq_true rfl) gX2_hasSignature (fun _ => Nat.le_of_ble_eq_true rfl) (fun _ => rfl) ⟨a_11, hr, ho, T_ki ?_⟩
      refine T.mono w (fun rr h_9 hw => ?_)
      obtain ⟨x_10, hr, w⟩ := hw
      refine ⟨x_10, hr, ?_⟩
      replace w := c_ne w
      refine T_if (tgt := 78) gX5_enterByTable rfl (by decide) (fun hc => ?_) (fun hc => ?_)
      · replace w := w.1 hc
        refine T_run (n := 2) (pc' := 81) (lv' := [some (tR (some a0)), some (tR r1), some (tL (y_2 &&& 4294967295)), none, some (tR (aq h_1 a_6 ((y_2 &&& 4294967295).toInt32).toNatClampNeg))]) (st' := [tR (aq h_1 a_6 ((y_2 &&& 4294967295).toInt32).toNatClampNeg), tR (some a0)]) (h' := h_9) gX5_enterByTable rfl ?_
        obtain ⟨ho, w⟩ := w
        refine T_cv (fun aa => [some (tR (some aa)), some (tR (aq h_1 a_6 ((y_2 &&& 4294967295).toInt32).toNatClampNeg)), none, none]) gX5_enterByTable rfl rfl rfl rfl (Nat.le_of_ble_eq_true rfl) gX5_enter (fun _ => Nat.le_of_ble_eq_true rfl) (fun _ => rfl) ⟨a0, rfl, ho, T_kv ?_⟩
        refine T.mono w (fun rr h_12 hw => ?_)
        obtain ⟨hr, w⟩ := hw
        refine ⟨hr, ?_⟩
        exact T_rv gX5_enterByTable rfl rfl w
      · replace w := w.2 hc
        refine T_run (n := 1) (pc' := 70) (lv' := [some (tR (some a0)), some (tR r1), some (tL (y_2 &&& 4294967295)), none, some (tR (aq h_1 a_6 ((y_2 &&& 4294967295).toInt32).toNatClampNeg))]) (st' := [tR (some a0)]) (h' := h_9) gX5_enterByTable rfl ?_
        refine T_kb (v := 8) gX5_enterByTable rfl (by decide) ?_
        obtain ⟨ho, w⟩ := w
        refine T_cv (fun aa => [some (tR (some aa)), some (tI 8)]) gX5_enterByTable rfl rfl rfl rfl (Nat.le_of_ble_eq_true rfl) gX5_trap (fun _ => Nat.le_of_ble_eq_true rfl) (fun _ => rfl) ⟨a0, rfl, ho, T_kv ?_⟩
        refine T.mono w (fun rr h_14 hw => ?_)
        obtain ⟨hr, w⟩ := hw
        refine ⟨hr, ?_⟩
        refine T_goto (tgt := 84) gX5_enterByTable rfl (by decide) ?_
        exact T_rv gX5_enterByTable rfl rfl w
    · rw [if_pos hc] at w
      refine T_run (n := 1) (pc' := 45) (lv' := [some (tR (some a0)), some (tR r1), some (tL (y_2 &&& 4294967295)), none, some (tR (aq h_1 a_6 ((y_2 &&& 4294967295).toInt32).toNatClampNeg))]) (st' := [tR (some a0)]) (h' := h_1) gX5_enterByTable rfl ?_
      refine T_kb (v := 7) gX5_enterByTable rfl (by decide) ?_
      obtain ⟨ho, w⟩ := w
      refine T_cv (fun aa => [some (tR (some aa)), some (tI 7)]) gX5_enterByTable rfl rfl rfl rfl (Nat.le_of_ble_eq_true rfl) gX5_trap (fun _ => Nat.le_of_ble_eq_true rfl) (fun _ => rfl) ⟨a0, rfl, ho, T_kv ?_⟩
      refine T.mono w (fun rr h_16 hw => ?_)
      obtain ⟨hr, w⟩ := hw
      refine ⟨hr, ?_⟩
      refine T_goto (tgt := 84) gX5_enterByTable rfl (by decide) ?_
      exact T_rv gX5_enterByTable rfl rfl w
  · replace w := w.2 hc
    refine T_run (n := 1) (pc' := 24) (lv' := [some (tR (some a0)), some (tR r1), some (tL (y_2 &&& 4294967295)), none, none]) (st' := [tR (some a0)]) (h' := h_1) gX5_enterByTable rfl ?_
    refine T_kb (v := 6) gX5_enterByTable rfl (by decide) ?_
    obtain ⟨ho, w⟩ := w
    refine T_cv (fun aa => [some (tR (some aa)), some (tI 6)]) gX5_enterByTable rfl rfl rfl rfl (Nat.le_of_ble_eq_true rfl) gX5_trap (fun _ => Nat.le_of_ble_eq_true rfl) (fun _ => rfl) ⟨a0, rfl, ho, T_kv ?_⟩
    refine T.mono w (fun rr h_18 hw => ?_)
    obtain ⟨hr, w⟩ := hw
    refine ⟨hr, ?_⟩
    exact T_rv gX5_enterByTable rfl rfl w
set_option maxHeartbeats 4000000 in
set_option maxRecDepth 20000 in
theorem wX5_control (a0 : Nat) (r1 : Option Nat) (r2 : Option Nat) (h : Hp) (Q : Option TV → Hp → Prop) (w :
dr r2 (fun a_1 => ob h a_1 3 (
(if (gi h 192 a_1) = 0 then
ob h a0 5 (tX5_trap a0 1 h (rV (fun h_2 =>
Q none h_2)))
else
(if (gi h 192 a_1) = 4 then
ob h a0 5 (
dr (gr h 324 a0) (fun a_6 => ob h a_6 8 (tX9_pop a_6  h (rL (fun y_5 h_4 =>
tX7_isTrue y_5 h_4 (rI (fun x_8 h_7 =>
(if x_8 = 0 then
dr r2 (fun a_9 => ob h_7 a_9 3 (
dr r1 (fun a_11 => ob h_7 a_11 1 (∀ h_10, h_10 = pr h_7 66 a_11 (gr h_7 199 a_9) →
Q none h_10))))
else
Q none h_7))))))))
else
(if (gi h 192 a_1) = 12 then
ob h a0 5 (tX5_branch a0 r1 r2 h (rV (fun h_12 =>
Q none h_12)))
else
(if (gi h 192 a_1) = 13 then
ob h a0 5 (
dr (gr h 324 a0) (fun a_16 => ob h a_16 8 (tX9_pop a_16  h (rL (fun y_15 h_14 =>
tX7_isTrue y_15 h_14 (rI (fun x_18 h_17 =>
(if x_18 = 0 then
Q none h_17
else
ob h_17 a0 5 (tX5_branch a0 r1 r2 h_17 (rV (fun h_19 =>
Q none h_19)))))))))))
else
(if (gi h 192 a_1) = 14 then
ob h a0 5 (tX5_chosenEntry a0 r2 h (rR (fun r_22 h_21 =>
ob h_21 a0 5 (tX5_branch a0 r1 r_22 h_21 (rV (fun h_23 =>
Q none h_23))))))
else
(if (gi h 192 a_1) = 15 then
ob h a0 5 (tX5_branch a0 r1 r2 h (rV (fun h_25 =>
Q none h_25)))
else
(if (gi h 192 a_1) = 16 then
dr r2 (fun a_27 => ob h a_27 3 (
ob h a0 5 (tX5_enter a0 (gr h 197 a_27) h (rV (fun h_28 =>
Q none h_28)))))
else
(if (gi h 192 a_1) = 17 then
ob h a0 5 (tX5_enterByTable a0 r2 h (rV (fun h_30 =>
Q none h_30)))
else
Q none h))))))))))) : tX5_control a0 r1 r2 h Q := by
  refine T_run (n := 1) (pc' := 1) (lv' := [some (tR (some a0)), some (tR r1), some (tR r2)]) (st' := [tR r2]) (h' := h) gX5_control rfl ?_
  obtain ⟨a_1, he, ho, w⟩ := w
  refine T_gf (fun a_1 => tI (gi h 192 a_1)) gX5_control rfl (fun _ => rfl) ⟨a_1, he, ho, ?_⟩
  refine T_tsw (dt := 187) (cs := [(0, 92), (4, 100), (12, 124), (13, 133), (14, 155), (15, 124), (16, 168), (17, 179)]) gX5_control rfl (by decide) ?_
  refine sw_cons (fun hc => ?_) (fun hc => ?_)
  · rw [if_pos hc] at w
    refine T_run (n := 1) (pc' := 93) (lv' := [some (tR (some a0)), some (tR r1), some (tR r2)]) (st' := [tR (some a0)]) (h' := h) gX5_control rfl ?_
    refine T_kn (v := 1) gX5_control rfl (by decide) ?_
    obtain ⟨ho, w⟩ := w
    refine T_cv (fun aa => [some (tR (some aa)), some (tI 1)]) gX5_control rfl rfl rfl rfl (Nat.le_of_ble_eq_true rfl) gX5_trap (fun _ => Nat.le_of_ble_eq_true rfl) (fun _ => rfl) ⟨a0, rfl, ho, T_kv ?_⟩
    refine T.mono w (fun rr h_2 hw => ?_)
    obtain ⟨hr, w⟩ := hw
    refine ⟨hr, ?_⟩
    refine T_goto (tgt := 187) gX5_control rfl (by decide) ?_
    exact T_rv gX5_control rfl rfl w
  rw [if_neg hc] at w
  refine sw_cons (fun hc => ?_) (fun hc => ?_)
  · rw [if_pos hc] at w
    refine T_run (n := 1) (pc' := 101) (lv' := [some (tR (some a0)), some (tR r1), some (tR r2)]) (st' := [tR (some a0)]) (h' := h) gX5_control rfl ?_
    obtain ⟨ho, w⟩ := w
    refine T_gs (tR (gr h 324 a0)) gX5_control rfl rfl ⟨ho, ?_⟩
    obtain ⟨a_6, hr, ho, w⟩ := w
    refine T_cv (fun aa => [some (tR (some aa))]) gX5_control rfl rfl rfl rfl (Nat.le_of_ble_eq_true rfl) gX9_pop (fun _ => Nat.le_of_ble_eq_true rfl) (fun _ => rfl) ⟨a_6, hr, ho, T_kl ?_⟩
    refine T.mono w (fun rr h_4 hw => ?_)
    obtain ⟨y_5, hr, w⟩ := hw
    refine ⟨y_5, hr, ?_⟩
    refine T_cs (lv' := [some (tL y_5), none]) gX5_control rfl rfl rfl rfl (Nat.le_of_ble_eq_true rfl) gX7_isTrue (Nat.le_of_ble_eq_true rfl) rfl (T_ki ?_)
    refine T.mono w (fun rr h_7 hw => ?_)
    obtain ⟨x_8, hr, w⟩ := hw
    refine ⟨x_8, hr, ?_⟩
    replace w := c_ne w
    refine T_if (tgt := 187) gX5_control rfl (by decide) (fun hc => ?_) (fun hc => ?_)
    · replace w := w.1 hc
      exact T_rv gX5_control rfl rfl w
    · replace w := w.2 hc
      refine T_run (n := 2) (pc' := 115) (lv' := [some (tR (some a0)), some (tR r1), some (tR r2)]) (st' := [tR r2, tR r1]) (h' := h_7) gX5_control rfl ?_
      obtain ⟨a_9, he, ho, w⟩ := w
      refine T_gf (fun a_9 => tR (gr h_7 199 a_9)) gX5_control rfl (fun _ => rfl) ⟨a_9, he, ho, ?_⟩
      obtain ⟨a_11, hr, ho, w⟩ := w
      refine T_pf (fun a_11 => pr h_7 66 a_11 (gr h_7 199 a_9)) gX5_control rfl (fun _ => rfl) ⟨a_11, hr, ho, fun h_10 he => ?_⟩
      replace w := w h_10 he
      refine T_goto (tgt := 187) gX5_control rfl (by decide) ?_
      exact T_rv gX5_control rfl rfl w
  rw [if_neg hc] at w
  refine sw_cons (fun hc => ?_) (fun hc => ?_)
  · rw [if_pos hc] at w
    refine T_run (n := 3) (pc' := 127) (lv' := [some (tR (some a0)), some (tR r1), some (tR r2)]) (st' := [tR r2, tR r1, tR (some a0)]) (h' := h) gX5_control rfl ?_
    obtain ⟨ho, w⟩ := w
    refine T_cv (fun aa => [some (tR (some aa)), some (tR r1), some (tR r2)]) gX5_control rfl rfl rfl rfl (Nat.le_of_ble_eq_true rfl) gX5_branch (fun _ => Nat.le_of_ble_eq_true rfl) (fun _ => rfl) ⟨a0, rfl, ho, T_kv ?_⟩
    refine T.mono w (fun rr h_12 hw => ?_)
    obtain ⟨hr, w⟩ := hw
    refine ⟨hr, ?_⟩
    refine T_goto (tgt := 187) gX5_control rfl (by decide) ?_
    exact T_rv gX5_control rfl rfl w
  rw [if_neg hc] at w
  refine sw_cons (fun hc => ?_) (fun hc => ?_)
  · rw [if_pos hc] at w
    refine T_run (n := 1) (pc' := 134) (lv' := [some (tR (some a0)), some (tR r1), some (tR r2)]) (st' := [tR (some a0)]) (h' := h) gX5_control rfl ?_
    obtain ⟨ho, w⟩ := w
    refine T_gs (tR (gr h 324 a0)) gX5_control rfl rfl ⟨ho, ?_⟩
    obtain ⟨a_16, hr, ho, w⟩ := w
    refine T_cv (fun aa => [some (tR (some aa))]) gX5_control rfl rfl rfl rfl (Nat.le_of_ble_eq_true rfl) gX9_pop (fun _ => Nat.le_of_ble_eq_true rfl) (fun _ => rfl) ⟨a_16, hr, ho, T_kl ?_⟩
    refine T.mono w (fun rr h_14 hw => ?_)
    obtain ⟨y_15, hr, w⟩ := hw
    refine ⟨y_15, hr, ?_⟩
    refine T_cs (lv' := [some (tL y_15), none]) gX5_control rfl rfl rfl rfl (Nat.le_of_ble_eq_true rfl) gX7_isTrue (Nat.le_of_ble_eq_true rfl) rfl (T_ki ?_)
    refine T.mono w (fun rr h_17 hw => ?_)
    obtain ⟨x_18, hr, w⟩ := hw
    refine ⟨x_18, hr, ?_⟩
    replace w := c_eq w
    refine T_if (tgt := 187) gX5_control rfl (by decide) (fun hc => ?_) (fun hc => ?_)
    · replace w := w.1 hc
      exact T_rv gX5_control rfl rfl w
    · replace w := w.2 hc
      refine T_run (n := 3) (pc' := 149) (lv' := [some (tR (some a0)), some (tR r1), some (tR r2)]) (st' := [tR r2, tR r1, tR (some a0)]) (h' := h_17) gX5_control rfl ?_
      obtain ⟨ho, w⟩ := w
      refine T_cv (fun aa => [some (tR (some aa)), some (tR r1), some (tR r2)]) gX5_control rfl rfl rfl rfl (Nat.le_of_ble_eq_true rfl) gX5_branch (fun _ => Nat.le_of_ble_eq_true rfl) (fun _ => rfl) ⟨a0, rfl, ho, T_kv ?_⟩
      refine T.mono w (fun rr h_19 hw => ?_)
      obtain ⟨hr, w⟩ := hw
      refine ⟨hr, ?_⟩
      refine T_goto (tgt := 187) gX5_control rfl (by decide) ?_
      exact T_rv gX5_control rfl rfl w
  rw [if_neg hc] at w
  refine sw_cons (fun hc => ?_) (fun hc => ?_)
  · rw [if_pos hc] at w
    refine T_run (n := 4) (pc' := 159) (lv' := [some (tR (some a0)), some (tR r1), some (tR r2)]) (st' := [tR r2, tR (some a0), tR r1, tR (some a0)]) (h' := h) gX5_control rfl ?_
    obtain ⟨ho, w⟩ := w
    refine T_cv (fun aa => [some (tR (some aa)), some (tR r2), none, none, none, none]) gX5_control rfl rfl rfl rfl (Nat.le_of_ble_eq_true rfl) gX5_chosenEntry (fun _ => Nat.le_of_ble_eq_true rfl) (fun _ => rfl) ⟨a0, rfl, ho, T_kr ?_⟩
    refine T.mono w (fun rr h_21 hw => ?_)
    obtain ⟨r_22, hr, w⟩ := hw
    refine ⟨r_22, hr, ?_⟩
    obtain ⟨ho, w⟩ := w
    refine T_cv (fun aa => [some (tR (some aa)), some (tR r1), some (tR r_22)]) gX5_control rfl rfl rfl rfl (Nat.le_of_ble_eq_true rfl) gX5_branch (fun _ => Nat.le_of_ble_eq_true rfl) (fun _ => rfl) ⟨a0, rfl, ho, T_kv ?_⟩
    refine T.mono w (fun rr h_23 hw => ?_)
    obtain ⟨hr, w⟩ := hw
    refine ⟨hr, ?_⟩
    refine T_goto (tgt := 187) gX5_control rfl (by decide) ?_
    exact T_rv gX5_control rfl rfl w
  rw [if_neg hc] at w
  refine sw_cons (fun hc => ?_) (fun hc => ?_)
  · rw [if_pos hc] at w
    refine T_run (n := 3) (pc' := 127) (lv' := [some (tR (some a0)), some (tR r1), some (tR r2)]) (st' := [tR r2, tR r1, tR (some a0)]) (h' := h) gX5_control rfl ?_
    obtain ⟨ho, w⟩ := w
    refine T_cv (fun aa => [some (tR (some aa)), some (tR r1), some (tR r2)]) gX5_control rfl rfl rfl rfl (Nat.le_of_ble_eq_true rfl) gX5_branch (fun _ => Nat.le_of_ble_eq_true rfl) (fun _ => rfl) ⟨a0, rfl, ho, T_kv ?_⟩
    refine T.mono w (fun rr h_25 hw => ?_)
    obtain ⟨hr, w⟩ := hw
    refine ⟨hr, ?_⟩
    refine T_goto (tgt := 187) gX5_control rfl (by decide) ?_
    exact T_rv gX5_control rfl rfl w
  rw [if_neg hc] at w
  refine sw_cons (fun hc => ?_) (fun hc => ?_)
  · rw [if_pos hc] at w
    refine T_run (n := 2) (pc' := 170) (lv' := [some (tR (some a0)), some (tR r1), some (tR r2)]) (st' := [tR r2, tR (some a0)]) (h' := h) gX5_control rfl ?_
    obtain ⟨a_27, he, ho, w⟩ := w
    refine T_gf (fun a_27 => tR (gr h 197 a_27)) gX5_control rfl (fun _ => rfl) ⟨a_27, he, ho, ?_⟩
    obtain ⟨ho, w⟩ := w
    refine T_cv (fun aa => [some (tR (some aa)), some (tR (gr h 197 a_27)), none, none]) gX5_control rfl rfl rfl rfl (Nat.le_of_ble_eq_true rfl) gX5_enter (fun _ => Nat.le_of_ble_eq_true rfl) (fun _ => rfl) ⟨a0, rfl, ho, T_kv ?_⟩
    refine T.mono w (fun rr h_28 hw => ?_)
    obtain ⟨hr, w⟩ := hw
    refine ⟨hr, ?_⟩
    refine T_goto (tgt := 187) gX5_control rfl (by decide) ?_
    exact T_rv gX5_control rfl rfl w
  rw [if_neg hc] at w
  refine sw_cons (fun hc => ?_) (fun hc => ?_)
  · rw [if_pos hc] at w
    refine T_run (n := 2) (pc' := 181) (lv' := [some (tR (some a0)), some (tR r1), some (tR r2)]) (st' := [tR r2, tR (some a0)]) (h' := h) gX5_control rfl ?_
    obtain ⟨ho, w⟩ := w
    refine T_cv (fun aa => [some (tR (some aa)), some (tR r2), none, none, none]) gX5_control rfl rfl rfl rfl (Nat.le_of_ble_eq_true rfl) gX5_enterByTable (fun _ => Nat.le_of_ble_eq_true rfl) (fun _ => rfl) ⟨a0, rfl, ho, T_kv ?_⟩
    refine T.mono w (fun rr h_30 hw => ?_)
    obtain ⟨hr, w⟩ := hw
    refine ⟨hr, ?_⟩
    refine T_goto (tgt := 187) gX5_control rfl (by decide) ?_
    exact T_rv gX5_control rfl rfl w
  rw [if_neg hc] at w
  exact T_rv gX5_control rfl rfl w
set_option maxHeartbeats 4000000 in
set_option maxRecDepth 20000 in
theorem wX5_select (a0 : Nat) (h : Hp) (Q : Option TV → Hp → Prop) (w :
ob h a0 5 (
dr (gr h 324 a0) (fun a_3 => ob h a_3 8 (tX9_pop a_3  h (rL (fun y_2 h_1 =>
tX7_isTrue y_2 h_1 (rI (fun x_5 h_4 =>
ob h_4 a0 5 (
dr (gr h_4 324 a0) (fun a_8 => ob h_4 a_8 8 (tX9_pop a_8  h_4 (rL (fun y_7 h_6 =>
ob h_6 a0 5 (
dr (gr h_6 324 a0) (fun a_11 => ob h_6 a_11 8 (tX9_pop a_11  h_6 (rL (fun y_10 h_9 =>
ob h_9 a0 5 (
(if x_5 = 0 then
tX5_select_42 a0 y_7 (gr h_9 324 a0) h_9 Q
else
tX5_select_42 a0 y_10 (gr h_9 324 a0) h_9 Q)))))))))))))))))))) : tX5_select a0 h Q := by
  refine T_run (n := 1) (pc' := 1) (lv' := [some (tR (some a0)), none, none, none, none, none]) (st' := [tR (some a0)]) (h' := h) gX5_select rfl ?_
  obtain ⟨ho, w⟩ := w
  refine T_gs (tR (gr h 324 a0)) gX5_select rfl rfl ⟨ho, ?_⟩
  obtain ⟨a_3, hr, ho, w⟩ := w
  refine T_cv (fun aa => [some (tR (some aa))]) gX5_select rfl rfl rfl rfl (Nat.le_of_ble_eq_true rfl) gX9_pop (fun _ => Nat.le_of_ble_eq_true rfl) (fun _ => rfl) ⟨a_3, hr, ho, T_kl ?_⟩
  refine T.mono w (fun rr h_1 hw => ?_)
  obtain ⟨y_2, hr, w⟩ := hw
  refine ⟨y_2, hr, ?_⟩
  refine T_cs (lv' := [some (tL y_2), none]) gX5_select rfl rfl rfl rfl (Nat.le_of_ble_eq_true rfl) gX7_isTrue (Nat.le_of_ble_eq_true rfl) rfl (T_ki ?_)
  refine T.mono w (fun rr h_4 hw => ?_)
  obtain ⟨x_5, hr, w⟩ := hw
  refine ⟨x_5, hr, ?_⟩
  refine T_run (n := 2) (pc' := 12) (lv' := [some (tR (some a0)), some (tI x_5), none, none, none, none]) (st' := [tR (some a0)]) (h' := h_4) gX5_select rfl ?_
  obtain ⟨ho, w⟩ := w
  refine T_gs (tR (gr h_4 324 a0)) gX5_select rfl rfl ⟨ho, ?_⟩
  obtain ⟨a_8, hr, ho, w⟩ := w
  refine T_cv (fun aa => [some (tR (some aa))]) gX5_select rfl rfl rfl rfl (Nat.le_of_ble_eq_true rfl) gX9_pop (fun _ => Nat.le_of_ble_eq_true rfl) (fun _ => rfl) ⟨a_8, hr, ho, T_kl ?_⟩
  refine T.mono w (fun rr h_6 hw => ?_)
  obtain ⟨y_7, hr, w⟩ := hw
  refine ⟨y_7, hr, ?_⟩
  refine T_run (n := 2) (pc' := 20) (lv' := [some (tR (some a0)), some (tI x_5), some (tL y_7), none, none, none]) (st' := [tR (some a0)]) (h' := h_6) gX5_select rfl ?_
  obtain ⟨ho, w⟩ := w
  refine T_gs (tR (gr h_6 324 a0)) gX5_select rfl rfl ⟨ho, ?_⟩
  obtain ⟨a_11, hr, ho, w⟩ := w
  refine T_cv (fun aa => [some (tR (some aa))]) gX5_select rfl rfl rfl rfl (Nat.le_of_ble_eq_true rfl) gX9_pop (fun _ => Nat.le_of_ble_eq_true rfl) (fun _ => rfl) ⟨a_11, hr, ho, T_kl ?_⟩
  refine T.mono w (fun rr h_9 hw => ?_)
  obtain ⟨y_10, hr, w⟩ := hw
  refine ⟨y_10, hr, ?_⟩
  refine T_run (n := 2) (pc' := 29) (lv' := [some (tR (some a0)), some (tI x_5), some (tL y_7), none, some (tL y_10), none]) (st' := [tR (some a0)]) (h' := h_9) gX5_select rfl ?_
  obtain ⟨ho, w⟩ := w
  refine T_gs (tR (gr h_9 324 a0)) gX5_select rfl rfl ⟨ho, ?_⟩
  refine T_run (n := 1) (pc' := 33) (lv' := [some (tR (some a0)), some (tI x_5), some (tL y_7), none, some (tL y_10), none]) (st' := [tI x_5, tR (gr h_9 324 a0)]) (h' := h_9) gX5_select rfl ?_
  replace w := c_eq w
  refine T_if (tgt := 41) gX5_select rfl (by decide) (fun hc => ?_) (fun hc => ?_)
  · replace w := w.1 hc
    refine T_run (n := 1) (pc' := 42) (lv' := [some (tR (some a0)), some (tI x_5), some (tL y_7), none, some (tL y_10), none]) (st' := [tL y_7, tR (gr h_9 324 a0)]) (h' := h_9) gX5_select rfl ?_
    exact T_wk w (leE (leN (leN (leN (leN (leN le0))))))
  · replace w := w.2 hc
    refine T_run (n := 1) (pc' := 38) (lv' := [some (tR (some a0)), some (tI x_5), some (tL y_7), none, some (tL y_10), none]) (st' := [tL y_10, tR (gr h_9 324 a0)]) (h' := h_9) gX5_select rfl ?_
    refine T_goto (tgt := 42) gX5_select rfl (by decide) ?_
    exact T_wk w (leE (leN (leN (leN (leN (leN le0))))))
set_option maxHeartbeats 4000000 in
set_option maxRecDepth 20000 in
theorem wX5_select_42 (a0 : Nat) (s0 : Int64) (s1 : Option Nat) (h : Hp) (Q : Option TV → Hp → Prop) (w :
dr s1 (fun a_3 => ob h a_3 8 (tX9_push a_3 s0 h (rV (fun h_1 =>
Q none h_1))))) : tX5_select_42 a0 s0 s1 h Q := by
  obtain ⟨a_3, hr, ho, w⟩ := w
  refine T_cv (fun aa => [some (tR (some aa)), some (tL s0), none]) gX5_select rfl rfl rfl rfl (Nat.le_of_ble_eq_true rfl) gX9_push (fun _ => Nat.le_of_ble_eq_true rfl) (fun _ => rfl) ⟨a_3, hr, ho, T_kv ?_⟩
  refine T.mono w (fun rr h_1 hw => ?_)
  obtain ⟨hr, w⟩ := hw
  refine ⟨hr, ?_⟩
  exact T_rv gX5_select rfl rfl w
set_option maxHeartbeats 4000000 in
set_option maxRecDepth 20000 in
theorem wX5_globalAt (a0 : Nat) (x1 : Int32) (h : Hp) (Q : Option TV → Hp → Prop) (w :
(if x1 < 0 then
Q (some (tL 0)) h
else
ob h a0 5 (
dr (gr h 321 a0) (fun a_1 => al_ h a_1 (fun n_2 =>
(if x1 < (Int32.ofNat n_2) then
ob h a0 5 (
dr (gr h 321 a0) (fun a_3 => ix h kJ a_3 x1 (
Q (some (tL (al h a_3 x1.toNatClampNeg))) h)))
else
Q (some (tL 0)) h)))))) : tX5_globalAt a0 x1 h Q := by
  refine T_run (n := 1) (pc' := 1) (lv' := [some (tR (some a0)), some (tI x1)]) (st' := [tI x1]) (h' := h) gX5_globalAt rfl ?_
  replace w := c_lt w
  refine T_if (tgt := 22) gX5_globalAt rfl (by decide) (fun hc => ?_) (fun hc => ?_)
  · replace w := w.1 hc
    refine T_kj (v := 0) gX5_globalAt rfl (by decide) ?_
    exact T_rl gX5_globalAt rfl rfl w
  · replace w := w.2 hc
    refine T_run (n := 2) (pc' := 6) (lv' := [some (tR (some a0)), some (tI x1)]) (st' := [tR (some a0), tI x1]) (h' := h) gX5_globalAt rfl ?_
    obtain ⟨ho, w⟩ := w
    refine T_gs (tR (gr h 321 a0)) gX5_globalAt rfl rfl ⟨ho, ?_⟩
    obtain ⟨a_1, hr, tt, n_2, ht, w⟩ := w
    refine T_len gX5_globalAt rfl ⟨a_1, hr, tt, n_2, ht, ?_⟩
    replace w := c_ge w
    refine T_ic (tgt := 22) gX5_globalAt rfl (by decide) (fun hc => ?_) (fun hc => ?_)
    · replace w := w.1 hc
      refine T_kj (v := 0) gX5_globalAt rfl (by decide) ?_
      exact T_rl gX5_globalAt rfl rfl w
    · replace w := w.2 hc
      refine T_run (n := 1) (pc' := 14) (lv' := [some (tR (some a0)), some (tI x1)]) (st' := [tR (some a0)]) (h' := h) gX5_globalAt rfl ?_
      obtain ⟨ho, w⟩ := w
      refine T_gs (tR (gr h 321 a0)) gX5_globalAt rfl rfl ⟨ho, ?_⟩
      refine T_run (n := 1) (pc' := 18) (lv' := [some (tR (some a0)), some (tI x1)]) (st' := [tI x1, tR (gr h 321 a0)]) (h' := h) gX5_globalAt rfl ?_
      obtain ⟨a_3, hr, tt, nn, ht, hk, hj, w⟩ := w
      refine T_lal gX5_globalAt rfl ⟨a_3, hr, tt, nn, ht, hk, hj, ?_⟩
      refine T_goto (tgt := 23) gX5_globalAt rfl (by decide) ?_
      exact T_rl gX5_globalAt rfl rfl w
set_option maxHeartbeats 4000000 in
set_option maxRecDepth 20000 in
theorem wX5_setGlobal (a0 : Nat) (x1 : Int32) (y2 : Int64) (h : Hp) (Q : Option TV → Hp → Prop) (w :
(if x1 < 0 then
Q none h
else
ob h a0 5 (
dr (gr h 321 a0) (fun a_1 => al_ h a_1 (fun n_2 =>
(if x1 < (Int32.ofNat n_2) then
ob h a0 5 (
dr (gr h 321 a0) (fun a_3 => ix h kJ a_3 x1 (∀ h_4, h_4 = sl h a_3 x1.toNatClampNeg y2 →
Q none h_4)))
else
Q none h)))))) : tX5_setGlobal a0 x1 y2 h Q := by
  refine T_run (n := 1) (pc' := 1) (lv' := [some (tR (some a0)), some (tI x1), some (tL y2), none]) (st' := [tI x1]) (h' := h) gX5_setGlobal rfl ?_
  replace w := c_lt w
  refine T_if (tgt := 20) gX5_setGlobal rfl (by decide) (fun hc => ?_) (fun hc => ?_)
  · replace w := w.1 hc
    exact T_rv gX5_setGlobal rfl rfl w
  · replace w := w.2 hc
    refine T_run (n := 2) (pc' := 6) (lv' := [some (tR (some a0)), some (tI x1), some (tL y2), none]) (st' := [tR (some a0), tI x1]) (h' := h) gX5_setGlobal rfl ?_
    obtain ⟨ho, w⟩ := w
    refine T_gs (tR (gr h 321 a0)) gX5_setGlobal rfl rfl ⟨ho, ?_⟩
    obtain ⟨a_1, hr, tt, n_2, ht, w⟩ := w
    refine T_len gX5_setGlobal rfl ⟨a_1, hr, tt, n_2, ht, ?_⟩
    replace w := c_ge w
    refine T_ic (tgt := 20) gX5_setGlobal rfl (by decide) (fun hc => ?_) (fun hc => ?_)
    · replace w := w.1 hc
      exact T_rv gX5_setGlobal rfl rfl w
    · replace w := w.2 hc
      refine T_run (n := 1) (pc' := 14) (lv' := [some (tR (some a0)), some (tI x1), some (tL y2), none]) (st' := [tR (some a0)]) (h' := h) gX5_setGlobal rfl ?_
      obtain ⟨ho, w⟩ := w
      refine T_gs (tR (gr h 321 a0)) gX5_setGlobal rfl rfl ⟨ho, ?_⟩
      refine T_run (n := 2) (pc' := 19) (lv' := [some (tR (some a0)), some (tI x1), some (tL y2), none]) (st' := [tL y2, tI x1, tR (gr h 321 a0)]) (h' := h) gX5_setGlobal rfl ?_
      obtain ⟨a_3, hr, tt, nn, ht, hk, hj, w⟩ := w
      refine T_las gX5_setGlobal rfl ⟨a_3, hr, tt, nn, ht, hk, hj, fun h_4 he => ?_⟩
      replace w := w h_4 he
      exact T_rv gX5_setGlobal rfl rfl w
set_option maxHeartbeats 4000000 in
set_option maxRecDepth 20000 in
theorem wX5_move (a0 : Nat) (r1 : Option Nat) (r2 : Option Nat) (h : Hp) (Q : Option TV → Hp → Prop) (w :
dr r2 (fun a_1 => ob h a_1 3 (
(if (gi h 192 a_1) = 26 then
ob h a0 5 (
dr (gr h 324 a0) (fun a_4 => ob h a_4 8 (tX9_pop a_4  h (rL (fun y_3 h_2 =>
Q none h_2)))))
else
(if (gi h 192 a_1) = 27 then
ob h a0 5 (tX5_select a0  h (rV (fun h_5 =>
Q none h_5)))
else
(if (gi h 192 a_1) = 32 then
ob h a0 5 (
ob h a0 5 (
dr r1 (fun a_7 => ob h a_7 1 (
dr r2 (fun a_8 => ob h a_8 3 (
dr (gr h 324 a0) (fun a_11 => ob h a_11 8 (tX9_at a_11 ((gi h 65 a_7) + (gi h 193 a_8)) h (rL (fun y_10 h_9 =>
dr (gr h 324 a0) (fun a_14 => ob h_9 a_14 8 (tX9_push a_14 y_10 h_9 (rV (fun h_12 =>
Q none h_12))))))))))))))
else
(if (gi h 192 a_1) = 33 then
ob h a0 5 (
dr r1 (fun a_15 => ob h a_15 1 (
dr r2 (fun a_16 => ob h a_16 3 (
ob h a0 5 (
dr (gr h 324 a0) (fun a_19 => ob h a_19 8 (tX9_pop a_19  h (rL (fun y_18 h_17 =>
dr (gr h 324 a0) (fun a_22 => ob h_17 a_22 8 (tX9_set a_22 ((gi h 65 a_15) + (gi h 193 a_16)) y_18 h_17 (rV (fun h_20 =>
Q none h_20))))))))))))))
else
(if (gi h 192 a_1) = 34 then
ob h a0 5 (
dr r1 (fun a_23 => ob h a_23 1 (
dr r2 (fun a_24 => ob h a_24 3 (
ob h a0 5 (
ob h a0 5 (
dr (gr h 324 a0) (fun a_25 => ob h a_25 8 (
dr (gr h 324 a0) (fun a_28 => ob h a_28 8 (tX9_at a_28 ((gi h 513 a_25) - 1) h (rL (fun y_27 h_26 =>
dr (gr h 324 a0) (fun a_31 => ob h_26 a_31 8 (tX9_set a_31 ((gi h 65 a_23) + (gi h 193 a_24)) y_27 h_26 (rV (fun h_29 =>
Q none h_29)))))))))))))))))
else
(if (gi h 192 a_1) = 35 then
ob h a0 5 (
dr r2 (fun a_32 => ob h a_32 3 (
ob h a0 5 (tX5_globalAt a0 (gi h 193 a_32) h (rL (fun y_34 h_33 =>
dr (gr h 324 a0) (fun a_37 => ob h_33 a_37 8 (tX9_push a_37 y_34 h_33 (rV (fun h_35 =>
Q none h_35))))))))))
else
(if (gi h 192 a_1) = 36 then
dr r2 (fun a_38 => ob h a_38 3 (
ob h a0 5 (
dr (gr h 324 a0) (fun a_41 => ob h a_41 8 (tX9_pop a_41  h (rL (fun y_40 h_39 =>
ob h_39 a0 5 (tX5_setGlobal a0 (gi h 193 a_38) y_40 h_39 (rV (fun h_42 =>
Q none h_42))))))))))
else
Q none h)))))))))) : tX5_move a0 r1 r2 h Q := by
  refine T_run (n := 1) (pc' := 1) (lv' := [some (tR (some a0)), some (tR r1), some (tR r2)]) (st' := [tR r2]) (h' := h) gX5_move rfl ?_
  obtain ⟨a_1, he, ho, w⟩ := w
  refine T_gf (fun a_1 => tI (gi h 192 a_1)) gX5_move rfl (fun _ => rfl) ⟨a_1, he, ho, ?_⟩
  refine T_tsw (dt := 205) (cs := [(26, 64), (27, 75), (32, 82), (33, 108), (34, 134), (35, 169), (36, 187)]) gX5_move rfl (by decide) ?_
  refine sw_cons (fun hc => ?_) (fun hc => ?_)
  · rw [if_pos hc] at w
    refine T_run (n := 1) (pc' := 65) (lv' := [some (tR (some a0)), some (tR r1), some (tR r2)]) (st' := [tR (some a0)]) (h' := h) gX5_move rfl ?_
    obtain ⟨ho, w⟩ := w
    refine T_gs (tR (gr h 324 a0)) gX5_move rfl rfl ⟨ho, ?_⟩
    obtain ⟨a_4, hr, ho, w⟩ := w
    refine T_cv (fun aa => [some (tR (some aa))]) gX5_move rfl rfl rfl rfl (Nat.le_of_ble_eq_true rfl) gX9_pop (fun _ => Nat.le_of_ble_eq_true rfl) (fun _ => rfl) ⟨a_4, hr, ho, T_kl ?_⟩
    refine T.mono w (fun rr h_2 hw => ?_)
    obtain ⟨y_3, hr, w⟩ := hw
    refine ⟨y_3, hr, ?_⟩
    refine T_run (n := 1) (pc' := 72) (lv' := [some (tR (some a0)), some (tR r1), some (tR r2)]) (st' := []) (h' := h_2) gX5_move rfl ?_
    refine T_goto (tgt := 205) gX5_move rfl (by decide) ?_
    exact T_rv gX5_move rfl rfl w
  rw [if_neg hc] at w
  refine sw_cons (fun hc => ?_) (fun hc => ?_)
  · rw [if_pos hc] at w
    refine T_run (n := 1) (pc' := 76) (lv' := [some (tR (some a0)), some (tR r1), some (tR r2)]) (st' := [tR (some a0)]) (h' := h) gX5_move rfl ?_
    obtain ⟨ho, w⟩ := w
    refine T_cv (fun aa => [some (tR (some aa)), none, none, none, none, none]) gX5_move rfl rfl rfl rfl (Nat.le_of_ble_eq_true rfl) gX5_select (fun _ => Nat.le_of_ble_eq_true rfl) (fun _ => rfl) ⟨a0, rfl, ho, T_kv ?_⟩
    refine T.mono w (fun rr h_5 hw => ?_)
    obtain ⟨hr, w⟩ := hw
    refine ⟨hr, ?_⟩
    refine T_goto (tgt := 205) gX5_move rfl (by decide) ?_
    exact T_rv gX5_move rfl rfl w
  rw [if_neg hc] at w
  refine sw_cons (fun hc => ?_) (fun hc => ?_)
  · rw [if_pos hc] at w
    refine T_run (n := 1) (pc' := 83) (lv' := [some (tR (some a0)), some (tR r1), some (tR r2)]) (st' := [tR (some a0)]) (h' := h) gX5_move rfl ?_
    obtain ⟨ho, w⟩ := w
    refine T_gs (tR (gr h 324 a0)) gX5_move rfl rfl ⟨ho, ?_⟩
    refine T_run (n := 1) (pc' := 87) (lv' := [some (tR (some a0)), some (tR r1), some (tR r2)]) (st' := [tR (some a0), tR (gr h 324 a0)]) (h' := h) gX5_move rfl ?_
    obtain ⟨ho, w⟩ := w
    refine T_gs (tR (gr h 324 a0)) gX5_move rfl rfl ⟨ho, ?_⟩
    refine T_run (n := 1) (pc' := 91) (lv' := [some (tR (some a0)), some (tR r1), some (tR r2)]) (st' := [tR r1, tR (gr h 324 a0), tR (gr h 324 a0)]) (h' := h) gX5_move rfl ?_
    obtain ⟨a_7, he, ho, w⟩ := w
    refine T_gf (fun a_7 => tI (gi h 65 a_7)) gX5_move rfl (fun _ => rfl) ⟨a_7, he, ho, ?_⟩
    refine T_run (n := 1) (pc' := 95) (lv' := [some (tR (some a0)), some (tR r1), some (tR r2)]) (st' := [tR r2, tI (gi h 65 a_7), tR (gr h 324 a0), tR (gr h 324 a0)]) (h' := h) gX5_move rfl ?_
    obtain ⟨a_8, he, ho, w⟩ := w
    refine T_gf (fun a_8 => tI (gi h 193 a_8)) gX5_move rfl (fun _ => rfl) ⟨a_8, he, ho, ?_⟩
    refine T_run (n := 1) (pc' := 99) (lv' := [some (tR (some a0)), some (tR r1), some (tR r2)]) (st' := [tI ((gi h 65 a_7) + (gi h 193 a_8)), tR (gr h 324 a0), tR (gr h 324 a0)]) (h' := h) gX5_move rfl ?_
    obtain ⟨a_11, hr, ho, w⟩ := w
    refine T_cv (fun aa => [some (tR (some aa)), some (tI ((gi h 65 a_7) + (gi h 193 a_8)))]) gX5_move rfl rfl rfl rfl (Nat.le_of_ble_eq_true rfl) gX9_at (fun _ => Nat.le_of_ble_eq_true rfl) (fun _ => rfl) ⟨a_11, hr, ho, T_kl ?_⟩
    refine T.mono w (fun rr h_9 hw => ?_)
    obtain ⟨y_10, hr, w⟩ := hw
    refine ⟨y_10, hr, ?_⟩
    obtain ⟨a_14, hr, ho, w⟩ := w
    refine T_cv (fun aa => [some (tR (some aa)), some (tL y_10), none]) gX5_move rfl rfl rfl rfl (Nat.le_of_ble_eq_true rfl) gX9_push (fun _ => Nat.le_of_ble_eq_true rfl) (fun _ => rfl) ⟨a_14, hr, ho, T_kv ?_⟩
    refine T.mono w (fun rr h_12 hw => ?_)
    obtain ⟨hr, w⟩ := hw
    refine ⟨hr, ?_⟩
    refine T_goto (tgt := 205) gX5_move rfl (by decide) ?_
    exact T_rv gX5_move rfl rfl w
  rw [if_neg hc] at w
  refine sw_cons (fun hc => ?_) (fun hc => ?_)
  · rw [if_pos hc] at w
    refine T_run (n := 1) (pc' := 109) (lv' := [some (tR (some a0)), some (tR r1), some (tR r2)]) (st' := [tR (some a0)]) (h' := h) gX5_move rfl ?_
    obtain ⟨ho, w⟩ := w
    refine T_gs (tR (gr h 324 a0)) gX5_move rfl rfl ⟨ho, ?_⟩
    refine T_run (n := 1) (pc' := 113) (lv' := [some (tR (some a0)), some (tR r1), some (tR r2)]) (st' := [tR r1, tR (gr h 324 a0)]) (h' := h) gX5_move rfl ?_
    obtain ⟨a_15, he, ho, w⟩ := w
    refine T_gf (fun a_15 => tI (gi h 65 a_15)) gX5_move rfl (fun _ => rfl) ⟨a_15, he, ho, ?_⟩
    refine T_run (n := 1) (pc' := 117) (lv' := [some (tR (some a0)), some (tR r1), some (tR r2)]) (st' := [tR r2, tI (gi h 65 a_15), tR (gr h 324 a0)]) (h' := h) gX5_move rfl ?_
    obtain ⟨a_16, he, ho, w⟩ := w
    refine T_gf (fun a_16 => tI (gi h 193 a_16)) gX5_move rfl (fun _ => rfl) ⟨a_16, he, ho, ?_⟩
    refine T_run (n := 2) (pc' := 122) (lv' := [some (tR (some a0)), some (tR r1), some (tR r2)]) (st' := [tR (some a0), tI ((gi h 65 a_15) + (gi h 193 a_16)), tR (gr h 324 a0)]) (h' := h) gX5_move rfl ?_
    obtain ⟨ho, w⟩ := w
    refine T_gs (tR (gr h 324 a0)) gX5_move rfl rfl ⟨ho, ?_⟩
    obtain ⟨a_19, hr, ho, w⟩ := w
    refine T_cv (fun aa => [some (tR (some aa))]) gX5_move rfl rfl rfl rfl (Nat.le_of_ble_eq_true rfl) gX9_pop (fun _ => Nat.le_of_ble_eq_true rfl) (fun _ => rfl) ⟨a_19, hr, ho, T_kl ?_⟩
    refine T.mono w (fun rr h_17 hw => ?_)
    obtain ⟨y_18, hr, w⟩ := hw
    refine ⟨y_18, hr, ?_⟩
    obtain ⟨a_22, hr, ho, w⟩ := w
    refine T_cv (fun aa => [some (tR (some aa)), some (tI ((gi h 65 a_15) + (gi h 193 a_16))), some (tL y_18), none]) gX5_move rfl rfl rfl rfl (Nat.le_of_ble_eq_true rfl) gX9_set (fun _ => Nat.le_of_ble_eq_true rfl) (fun _ => rfl) ⟨a_22, hr, ho, T_kv ?_⟩
    refine T.mono w (fun rr h_20 hw => ?_)
    obtain ⟨hr, w⟩ := hw
    refine ⟨hr, ?_⟩
    refine T_goto (tgt := 205) gX5_move rfl (by decide) ?_
    exact T_rv gX5_move rfl rfl w
  rw [if_neg hc] at w
  refine sw_cons (fun hc => ?_) (fun hc => ?_)
  · rw [if_pos hc] at w
    refine T_run (n := 1) (pc' := 135) (lv' := [some (tR (some a0)), some (tR r1), some (tR r2)]) (st' := [tR (some a0)]) (h' := h) gX5_move rfl ?_
    obtain ⟨ho, w⟩ := w
    refine T_gs (tR (gr h 324 a0)) gX5_move rfl rfl ⟨ho, ?_⟩
    refine T_run (n := 1) (pc' := 139) (lv' := [some (tR (some a0)), some (tR r1), some (tR r2)]) (st' := [tR r1, tR (gr h 324 a0)]) (h' := h) gX5_move rfl ?_
    obtain ⟨a_23, he, ho, w⟩ := w
    refine T_gf (fun a_23 => tI (gi h 65 a_23)) gX5_move rfl (fun _ => rfl) ⟨a_23, he, ho, ?_⟩
    refine T_run (n := 1) (pc' := 143) (lv' := [some (tR (some a0)), some (tR r1), some (tR r2)]) (st' := [tR r2, tI (gi h 65 a_23), tR (gr h 324 a0)]) (h' := h) gX5_move rfl ?_
    obtain ⟨a_24, he, ho, w⟩ := w
    refine T_gf (fun a_24 => tI (gi h 193 a_24)) gX5_move rfl (fun _ => rfl) ⟨a_24, he, ho, ?_⟩
    refine T_run (n := 2) (pc' := 148) (lv' := [some (tR (some a0)), some (tR r1), some (tR r2)]) (st' := [tR (some a0), tI ((gi h 65 a_23) + (gi h 193 a_24)), tR (gr h 324 a0)]) (h' := h) gX5_move rfl ?_
    obtain ⟨ho, w⟩ := w
    refine T_gs (tR (gr h 324 a0)) gX5_move rfl rfl ⟨ho, ?_⟩
    refine T_run (n := 1) (pc' := 152) (lv' := [some (tR (some a0)), some (tR r1), some (tR r2)]) (st' := [tR (some a0), tR (gr h 324 a0), tI ((gi h 65 a_23) + (gi h 193 a_24)), tR (gr h 324 a0)]) (h' := h) gX5_move rfl ?_
    obtain ⟨ho, w⟩ := w
    refine T_gs (tR (gr h 324 a0)) gX5_move rfl rfl ⟨ho, ?_⟩
    obtain ⟨a_25, he, ho, w⟩ := w
    refine T_gf (fun a_25 => tI (gi h 513 a_25)) gX5_move rfl (fun _ => rfl) ⟨a_25, he, ho, ?_⟩
    refine T_kn (v := 1) gX5_move rfl (by decide) ?_
    refine T_run (n := 1) (pc' := 160) (lv' := [some (tR (some a0)), some (tR r1), some (tR r2)]) (st' := [tI ((gi h 513 a_25) - 1), tR (gr h 324 a0), tI ((gi h 65 a_23) + (gi h 193 a_24)), tR (gr h 324 a0)]) (h' := h) gX5_move rfl ?_
    obtain ⟨a_28, hr, ho, w⟩ := w
    refine T_cv (fun aa => [some (tR (some aa)), some (tI ((gi h 513 a_25) - 1))]) gX5_move rfl rfl rfl rfl (Nat.le_of_ble_eq_true rfl) gX9_at (fun _ => Nat.le_of_ble_eq_true rfl) (fun _ => rfl) ⟨a_28, hr, ho, T_kl ?_⟩
    refine T.mono w (fun rr h_26 hw => ?_)
    obtain ⟨y_27, hr, w⟩ := hw
    refine ⟨y_27, hr, ?_⟩
    obtain ⟨a_31, hr, ho, w⟩ := w
    refine T_cv (fun aa => [some (tR (some aa)), some (tI ((gi h 65 a_23) + (gi h 193 a_24))), some (tL y_27), none]) gX5_move rfl rfl rfl rfl (Nat.le_of_ble_eq_true rfl) gX9_set (fun _ => Nat.le_of_ble_eq_true rfl) (fun _ => rfl) ⟨a_31, hr, ho, T_kv ?_⟩
    refine T.mono w (fun rr h_29 hw => ?_)
    obtain ⟨hr, w⟩ := hw
    refine ⟨hr, ?_⟩
    refine T_goto (tgt := 205) gX5_move rfl (by decide) ?_
    exact T_rv gX5_move rfl rfl w
  rw [if_neg hc] at w
  refine sw_cons (fun hc => ?_) (fun hc => ?_)
  · rw [if_pos hc] at w
    refine T_run (n := 1) (pc' := 170) (lv' := [some (tR (some a0)), some (tR r1), some (tR r2)]) (st' := [tR (some a0)]) (h' := h) gX5_move rfl ?_
    obtain ⟨ho, w⟩ := w
    refine T_gs (tR (gr h 324 a0)) gX5_move rfl rfl ⟨ho, ?_⟩
    refine T_run (n := 2) (pc' := 175) (lv' := [some (tR (some a0)), some (tR r1), some (tR r2)]) (st' := [tR r2, tR (some a0), tR (gr h 324 a0)]) (h' := h) gX5_move rfl ?_
    obtain ⟨a_32, he, ho, w⟩ := w
    refine T_gf (fun a_32 => tI (gi h 193 a_32)) gX5_move rfl (fun _ => rfl) ⟨a_32, he, ho, ?_⟩
    obtain ⟨ho, w⟩ := w
    refine T_cv (fun aa => [some (tR (some aa)), some (tI (gi h 193 a_32))]) gX5_move rfl rfl rfl rfl (Nat.le_of_ble_eq_true rfl) gX5_globalAt (fun _ => Nat.le_of_ble_eq_true rfl) (fun _ => rfl) ⟨a0, rfl, ho, T_kl ?_⟩
    refine T.mono w (fun rr h_33 hw => ?_)
    obtain ⟨y_34, hr, w⟩ := hw
    refine ⟨y_34, hr, ?_⟩
    obtain ⟨a_37, hr, ho, w⟩ := w
    refine T_cv (fun aa => [some (tR (some aa)), some (tL y_34), none]) gX5_move rfl rfl rfl rfl (Nat.le_of_ble_eq_true rfl) gX9_push (fun _ => Nat.le_of_ble_eq_true rfl) (fun _ => rfl) ⟨a_37, hr, ho, T_kv ?_⟩
    refine T.mono w (fun rr h_35 hw => ?_)
    obtain ⟨hr, w⟩ := hw
    refine ⟨hr, ?_⟩
    refine T_goto (tgt := 205) gX5_move rfl (by decide) ?_
    exact T_rv gX5_move rfl rfl w
  rw [if_neg hc] at w
  refine sw_cons (fun hc => ?_) (fun hc => ?_)
  · rw [if_pos hc] at w
    refine T_run (n := 2) (pc' := 189) (lv' := [some (tR (some a0)), some (tR r1), some (tR r2)]) (st' := [tR r2, tR (some a0)]) (h' := h) gX5_move rfl ?_
    obtain ⟨a_38, he, ho, w⟩ := w
    refine T_gf (fun a_38 => tI (gi h 193 a_38)) gX5_move rfl (fun _ => rfl) ⟨a_38, he, ho, ?_⟩
    refine T_run (n := 1) (pc' := 193) (lv' := [some (tR (some a0)), some (tR r1), some (tR r2)]) (st' := [tR (some a0), tI (gi h 193 a_38), tR (some a0)]) (h' := h) gX5_move rfl ?_
    obtain ⟨ho, w⟩ := w
    refine T_gs (tR (gr h 324 a0)) gX5_move rfl rfl ⟨ho, ?_⟩
    obtain ⟨a_41, hr, ho, w⟩ := w
    refine T_cv (fun aa => [some (tR (some aa))]) gX5_move rfl rfl rfl rfl (Nat.le_of_ble_eq_true rfl) gX9_pop (fun _ => Nat.le_of_ble_eq_true rfl) (fun _ => rfl) ⟨a_41, hr, ho, T_kl ?_⟩
    refine T.mono w (fun rr h_39 hw => ?_)
    obtain ⟨y_40, hr, w⟩ := hw
    refine ⟨y_40, hr, ?_⟩
    obtain ⟨ho, w⟩ := w
    refine T_cv (fun aa => [some (tR (some aa)), some (tI (gi h 193 a_38)), some (tL y_40), none]) gX5_move rfl rfl rfl rfl (Nat.le_of_ble_eq_true rfl) gX5_setGlobal (fun _ => Nat.le_of_ble_eq_true rfl) (fun _ => rfl) ⟨a0, rfl, ho, T_kv ?_⟩
    refine T.mono w (fun rr h_42 hw => ?_)
    obtain ⟨hr, w⟩ := hw
    refine ⟨hr, ?_⟩
    refine T_goto (tgt := 205) gX5_move rfl (by decide) ?_
    exact T_rv gX5_move rfl rfl w
  rw [if_neg hc] at w
  exact T_rv gX5_move rfl rfl w
set_option maxHeartbeats 4000000 in
set_option maxRecDepth 20000 in
theorem wX7_sizeOf (x0 : Int32) (h : Hp) (Q : Option TV → Hp → Prop) (w :
(if x0 = 41 then
Q (some (tI 8)) h
else
(if x0 = 43 then
Q (some (tI 8)) h
else
(if x0 = 44 then
Q (some (tI 1)) h
else
(if x0 = 45 then
Q (some (tI 1)) h
else
(if x0 = 46 then
Q (some (tI 2)) h
else
(if x0 = 47 then
Q (some (tI 2)) h
else
(if x0 = 48 then
Q (some (tI 1)) h
else
(if x0 = 49 then
Q (some (tI 1)) h
else
(if x0 = 50 then
Q (some (tI 2)) h
else
(if x0 = 51 then
Q (some (tI 2)) h
else
(if x0 = 55 then
Q (some (tI 8)) h
else
(if x0 = 57 then
Q (some (tI 8)) h
else
(if x0 = 58 then
Q (some (tI 1)) h
else
(if x0 = 59 then
Q (some (tI 2)) h
else
(if x0 = 60 then
Q (some (tI 1)) h
else
(if x0 = 61 then
Q (some (tI 2)) h
else
Q (some (tI 4)) h))))))))))))))))) : tX7_sizeOf x0 h Q := by
  refine T_run (n := 1) (pc' := 1) (lv' := [some (tI x0)]) (st' := [tI x0]) (h' := h) gX7_sizeOf rfl ?_
  refine T_tsw (dt := 107) (cs := [(41, 104), (43, 104), (44, 100), (45, 100), (46, 102), (47, 102), (48, 100), (49, 100), (50, 102), (51, 102), (55, 104), (57, 104), (58, 100), (59, 102), (60, 100), (61, 102)]) gX7_sizeOf rfl (by decide) ?_
  refine sw_cons (fun hc => ?_) (fun hc => ?_)
  · rw [if_pos hc] at w
    refine T_kb (v := 8) gX7_sizeOf rfl (by decide) ?_
    exact T_ri gX7_sizeOf rfl rfl w
  rw [if_neg hc] at w
  refine sw_cons (fun hc => ?_) (fun hc => ?_)
  · rw [if_pos hc] at w
    refine T_kb (v := 8) gX7_sizeOf rfl (by decide) ?_
    exact T_ri gX7_sizeOf rfl rfl w
  rw [if_neg hc] at w
  refine sw_cons (fun hc => ?_) (fun hc => ?_)
  · rw [if_pos hc] at w
    refine T_kn (v := 1) gX7_sizeOf rfl (by decide) ?_
    exact T_ri gX7_sizeOf rfl rfl w
  rw [if_neg hc] at w
  refine sw_cons (fun hc => ?_) (fun hc => ?_)
  · rw [if_pos hc] at w
    refine T_kn (v := 1) gX7_sizeOf rfl (by decide) ?_
    exact T_ri gX7_sizeOf rfl rfl w
  rw [if_neg hc] at w
  refine sw_cons (fun hc => ?_) (fun hc => ?_)
  · rw [if_pos hc] at w
    refine T_kn (v := 2) gX7_sizeOf rfl (by decide) ?_
    exact T_ri gX7_sizeOf rfl rfl w
  rw [if_neg hc] at w
  refine sw_cons (fun hc => ?_) (fun hc => ?_)
  · rw [if_pos hc] at w
    refine T_kn (v := 2) gX7_sizeOf rfl (by decide) ?_
    exact T_ri gX7_sizeOf rfl rfl w
  rw [if_neg hc] at w
  refine sw_cons (fun hc => ?_) (fun hc => ?_)
  · rw [if_pos hc] at w
    refine T_kn (v := 1) gX7_sizeOf rfl (by decide) ?_
    exact T_ri gX7_sizeOf rfl rfl w
  rw [if_neg hc] at w
  refine sw_cons (fun hc => ?_) (fun hc => ?_)
  · rw [if_pos hc] at w
    refine T_kn (v := 1) gX7_sizeOf rfl (by decide) ?_
    exact T_ri gX7_sizeOf rfl rfl w
  rw [if_neg hc] at w
  refine sw_cons (fun hc => ?_) (fun hc => ?_)
  · rw [if_pos hc] at w
    refine T_kn (v := 2) gX7_sizeOf rfl (by decide) ?_
    exact T_ri gX7_sizeOf rfl rfl w
  rw [if_neg hc] at w
  refine sw_cons (fun hc => ?_) (fun hc => ?_)
  · rw [if_pos hc] at w
    refine T_kn (v := 2) gX7_sizeOf rfl (by decide) ?_
    exact T_ri gX7_sizeOf rfl rfl w
  rw [if_neg hc] at w
  refine sw_cons (fun hc => ?_) (fun hc => ?_)
  · rw [if_pos hc] at w
    refine T_kb (v := 8) gX7_sizeOf rfl (by decide) ?_
    exact T_ri gX7_sizeOf rfl rfl w
  rw [if_neg hc] at w
  refine sw_cons (fun hc => ?_) (fun hc => ?_)
  · rw [if_pos hc] at w
    refine T_kb (v := 8) gX7_sizeOf rfl (by decide) ?_
    exact T_ri gX7_sizeOf rfl rfl w
  rw [if_neg hc] at w
  refine sw_cons (fun hc => ?_) (fun hc => ?_)
  · rw [if_pos hc] at w
    refine T_kn (v := 1) gX7_sizeOf rfl (by decide) ?_
    exact T_ri gX7_sizeOf rfl rfl w
  rw [if_neg hc] at w
  refine sw_cons (fun hc => ?_) (fun hc => ?_)
  · rw [if_pos hc] at w
    refine T_kn (v := 2) gX7_sizeOf rfl (by decide) ?_
    exact T_ri gX7_sizeOf rfl rfl w
  rw [if_neg hc] at w
  refine sw_cons (fun hc => ?_) (fun hc => ?_)
  · rw [if_pos hc] at w
    refine T_kn (v := 1) gX7_sizeOf rfl (by decide) ?_
    exact T_ri gX7_sizeOf rfl rfl w
  rw [if_neg hc] at w
  refine sw_cons (fun hc => ?_) (fun hc => ?_)
  · rw [if_pos hc] at w
    refine T_kn (v := 2) gX7_sizeOf rfl (by decide) ?_
    exact T_ri gX7_sizeOf rfl rfl w
  rw [if_neg hc] at w
  refine T_kn (v := 4) gX7_sizeOf rfl (by decide) ?_
  exact T_ri gX7_sizeOf rfl rfl w
set_option maxHeartbeats 4000000 in
set_option maxRecDepth 20000 in
theorem wX6_holds (a0 : Nat) (y1 : Int64) (x3 : Int32) (h : Hp) (Q : Option TV → Hp → Prop) (w :
ob h a0 6 (
ob h a0 6 (
dr (gr h 384 a0) (fun a_1 => al_ h a_1 (fun n_2 =>
(if y1 < 0 then
Q (some (tI 0)) h
else
(if x3 < 0 then
Q (some (tI 0)) h
else
(if (if ((Int32.ofNat n_2).toInt64) < (((gi h 385 a0).toInt64) * 64) then ((Int32.ofNat n_2).toInt64) else (((gi h 385 a0).toInt64) * 64)) < (y1 + x3.toInt64) then
Q (some (tI 0)) h
else
Q (some (tI 1)) h)))))))) : tX6_holds a0 y1 x3 h Q := by
  refine T_run (n := 1) (pc' := 1) (lv' := [some (tR (some a0)), some (tL y1), none, some (tI x3), none, none]) (st' := [tR (some a0)]) (h' := h) gX6_holds rfl ?_
  obtain ⟨ho, w⟩ := w
  refine T_gs (tI (gi h 385 a0)) gX6_holds rfl rfl ⟨ho, ?_⟩
  refine T_run (n := 1) (pc' := 5) (lv' := [some (tR (some a0)), some (tL y1), none, some (tI x3), none, none]) (st' := [tL ((gi h 385 a0).toInt64)]) (h' := h) gX6_holds rfl ?_
  refine T_kl2 (v := 64) gX6_holds rfl (by decide) ?_
  refine T_run (n := 2) (pc' := 10) (lv' := [some (tR (some a0)), some (tL y1), none, some (tI x3), none, none]) (st' := [tR (some a0), tL (((gi h 385 a0).toInt64) * 64)]) (h' := h) gX6_holds rfl ?_
  obtain ⟨ho, w⟩ := w
  refine T_gs (tR (gr h 384 a0)) gX6_holds rfl rfl ⟨ho, ?_⟩
  obtain ⟨a_1, hr, tt, n_2, ht, w⟩ := w
  refine T_len gX6_holds rfl ⟨a_1, hr, tt, n_2, ht, ?_⟩
  refine T_run (n := 1) (pc' := 15) (lv' := [some (tR (some a0)), some (tL y1), none, some (tI x3), none, none]) (st' := [tL ((Int32.ofNat n_2).toInt64), tL (((gi h 385 a0).toInt64) * 64)]) (h' := h) gX6_holds rfl ?_
  refine T_minl gX6_holds rfl (Nat.le_of_ble_eq_true rfl) ?_
  refine T_run (n := 2) (pc' := 21) (lv' := [some (tR (some a0)), some (tL y1), none, some (tI x3), some (tL (if ((Int32.ofNat n_2).toInt64) < (((gi h 385 a0).toInt64) * 64) then ((Int32.ofNat n_2).toInt64) else (((gi h 385 a0).toInt64) * 64))), none]) (st' := [tL y1]) (h' := h) gX6_holds rfl ?_
  refine T_kj (v := 0) gX6_holds rfl (by decide) ?_
  refine T_run (n := 1) (pc' := 23) (lv' := [some (tR (some a0)), some (tL y1), none, some (tI x3), some (tL (if ((Int32.ofNat n_2).toInt64) < (((gi h 385 a0).toInt64) * 64) then ((Int32.ofNat n_2).toInt64) else (((gi h 385 a0).toInt64) * 64))), none]) (st' := [tI (lg_cmp y1 0)]) (h' := h) gX6_holds rfl ?_
  replace w := c_lt (if_iff (lg_lt y1 0) w)
  refine T_if (tgt := 44) gX6_holds rfl (by decide) (fun hc => ?_) (fun hc => ?_)
  · replace w := w.1 hc
    refine T_kn (v := 0) gX6_holds rfl (by decide) ?_
    exact T_rz gX6_holds rfl rfl (Or.inl rfl) w
  · replace w := w.2 hc
    refine T_run (n := 1) (pc' := 27) (lv' := [some (tR (some a0)), some (tL y1), none, some (tI x3), some (tL (if ((Int32.ofNat n_2).toInt64) < (((gi h 385 a0).toInt64) * 64) then ((Int32.ofNat n_2).toInt64) else (((gi h 385 a0).toInt64) * 64))), none]) (st' := [tI x3]) (h' := h) gX6_holds rfl ?_
    replace w := c_lt w
    refine T_if (tgt := 44) gX6_holds rfl (by decide) (fun hc => ?_) (fun hc => ?_)
    · replace w := w.1 hc
      refine T_kn (v := 0) gX6_holds rfl (by decide) ?_
      exact T_rz gX6_holds rfl rfl (Or.inl rfl) w
    · replace w := w.2 hc
      refine T_run (n := 6) (pc' := 37) (lv' := [some (tR (some a0)), some (tL y1), none, some (tI x3), some (tL (if ((Int32.ofNat n_2).toInt64) < (((gi h 385 a0).toInt64) * 64) then ((Int32.ofNat n_2).toInt64) else (((gi h 385 a0).toInt64) * 64))), none]) (st' := [tI (lg_cmp (y1 + x3.toInt64) (if ((Int32.ofNat n_2).toInt64) < (((gi h 385 a0).toInt64) * 64) then ((Int32.ofNat n_2).toInt64) else (((gi h 385 a0).toInt64) * 64)))]) (h' := h) gX6_holds rfl ?_
      replace w := c_gt (if_iff (lg_gt (y1 + x3.toInt64) (if ((Int32.ofNat n_2).toInt64) < (((gi h 385 a0).toInt64) * 64) then ((Int32.ofNat n_2).toInt64) else (((gi h 385 a0).toInt64) * 64))) w)
      refine T_if (tgt := 44) gX6_holds rfl (by decide) (fun hc => ?_) (fun hc => ?_)
      · replace w := w.1 hc
        refine T_kn (v := 0) gX6_holds rfl (by decide) ?_
        exact T_rz gX6_holds rfl rfl (Or.inl rfl) w
      · replace w := w.2 hc
        refine T_kn (v := 1) gX6_holds rfl (by decide) ?_
        refine T_goto (tgt := 45) gX6_holds rfl (by decide) ?_
        exact T_rz gX6_holds rfl rfl (Or.inr rfl) w
set_option maxHeartbeats 4000000 in
set_option maxRecDepth 20000 in
theorem wX6_load (a0 : Nat) (y1 : Int64) (x3 : Int32) (h : Hp) (Q : Option TV → Hp → Prop) (w :
ob h a0 6 (tX6_holds a0 y1 x3 h (rI (fun x_2 h_1 =>
(if x_2 = 0 then
Q (some (tL 0)) h_1
else
tX6_load_23 a0 y1.toInt32 0 (x3 - 1) h_1 Q))))) : tX6_load a0 y1 x3 h Q := by
  refine T_run (n := 3) (pc' := 3) (lv' := [some (tR (some a0)), some (tL y1), none, some (tI x3), none, none, none, none]) (st' := [tI x3, tL y1, tR (some a0)]) (h' := h) gX6_load rfl ?_
  obtain ⟨ho, w⟩ := w
  refine T_cv (fun aa => [some (tR (some aa)), some (tL y1), none, some (tI x3), none, none]) gX6_load rfl rfl rfl rfl (Nat.le_of_ble_eq_true rfl) gX6_holds (fun _ => Nat.le_of_ble_eq_true rfl) (fun _ => rfl) ⟨a0, rfl, ho, T_ki ?_⟩
  refine T.mono w (fun rr h_1 hw => ?_)
  obtain ⟨x_2, hr, w⟩ := hw
  refine ⟨x_2, hr, ?_⟩
  replace w := c_ne w
  refine T_if (tgt := 11) gX6_load rfl (by decide) (fun hc => ?_) (fun hc => ?_)
  · replace w := w.1 hc
    refine T_run (n := 3) (pc' := 15) (lv' := [some (tR (some a0)), some (tL y1), none, some (tI x3), some (tI y1.toInt32), none, none, none]) (st' := []) (h' := h_1) gX6_load rfl ?_
    refine T_kj (v := 0) gX6_load rfl (by decide) ?_
    refine T_run (n := 2) (pc' := 19) (lv' := [some (tR (some a0)), some (tL y1), none, some (tI x3), some (tI y1.toInt32), some (tL 0), none, none]) (st' := [tI x3]) (h' := h_1) gX6_load rfl ?_
    refine T_kn (v := 1) gX6_load rfl (by decide) ?_
    refine T_run (n := 2) (pc' := 23) (lv' := [some (tR (some a0)), some (tL y1), none, some (tI x3), some (tI y1.toInt32), some (tL 0), none, some (tI (x3 - 1))]) (st' := []) (h' := h_1) gX6_load rfl ?_
    exact T_wk w (leE (leN (leN (leN (leE (leE (leN (leE le0))))))))
  · replace w := w.2 hc
    refine T_kj (v := 0) gX6_load rfl (by decide) ?_
    exact T_rl gX6_load rfl rfl w
set_option maxHeartbeats 4000000 in
set_option maxRecDepth 20000 in
theorem wX6_load_23 (a0 : Nat) (x4 : Int32) (y5 : Int64) (x7 : Int32) (h : Hp) (Q : Option TV → Hp → Prop) (w :
(if x7 < 0 then
Q (some (tL y5)) h
else
ob h a0 6 (
dr (gr h 384 a0) (fun a_1 => ix h kB a_1 (x4 + x7) (
tX6_load_23 a0 x4 ((y5 <<< ((8 : Int32).toInt64 &&& 63)) ||| (((ai h a_1 (x4 + x7).toNatClampNeg) &&& 255).toInt64)) (x7 + (-1)) h Q))))) : tX6_load_23 a0 x4 y5 x7 h Q := by
  refine T_run (n := 1) (pc' := 25) (lv' := [some (tR (some a0)), none, none, none, some (tI x4), some (tL y5), none, some (tI x7)]) (st' := [tI x7]) (h' := h) gX6_load rfl ?_
  replace w := c_lt w
  refine T_if (tgt := 57) gX6_load rfl (by decide) (fun hc => ?_) (fun hc => ?_)
  · replace w := w.1 hc
    refine T_run (n := 1) (pc' := 59) (lv' := [some (tR (some a0)), none, none, none, some (tI x4), some (tL y5), none, some (tI x7)]) (st' := [tL y5]) (h' := h) gX6_load rfl ?_
    exact T_rl gX6_load rfl rfl w
  · replace w := w.2 hc
    refine T_run (n := 1) (pc' := 30) (lv' := [some (tR (some a0)), none, none, none, some (tI x4), some (tL y5), none, some (tI x7)]) (st' := [tL y5]) (h' := h) gX6_load rfl ?_
    refine T_kb (v := 8) gX6_load rfl (by decide) ?_
    refine T_run (n := 2) (pc' := 34) (lv' := [some (tR (some a0)), none, none, none, some (tI x4), some (tL y5), none, some (tI x7)]) (st' := [tR (some a0), tL (y5 <<< ((8 : Int32).toInt64 &&& 63))]) (h' := h) gX6_load rfl ?_
    obtain ⟨ho, w⟩ := w
    refine T_gs (tR (gr h 384 a0)) gX6_load rfl rfl ⟨ho, ?_⟩
    refine T_run (n := 3) (pc' := 42) (lv' := [some (tR (some a0)), none, none, none, some (tI x4), some (tL y5), none, some (tI x7)]) (st' := [tI (x4 + x7), tR (gr h 384 a0), tL (y5 <<< ((8 : Int32).toInt64 &&& 63))]) (h' := h) gX6_load rfl ?_
    obtain ⟨a_1, hr, tt, nn, ht, hk, hj, w⟩ := w
    refine T_bal gX6_load rfl ⟨a_1, hr, tt, nn, ht, hk, hj, ?_⟩
    refine T_ks (v := 255) gX6_load rfl (by decide) ?_
    refine T_run (n := 4) (pc' := 51) (lv' := [some (tR (some a0)), none, none, none, some (tI x4), some (tL ((y5 <<< ((8 : Int32).toInt64 &&& 63)) ||| (((ai h a_1 (x4 + x7).toNatClampNeg) &&& 255).toInt64))), none, some (tI x7)]) (st' := []) (h' := h) gX6_load rfl ?_
    refine T_inc (x := x7) (c := (-1)) (lv' := [some (tR (some a0)), none, none, none, some (tI x4), some (tL ((y5 <<< ((8 : Int32).toInt64 &&& 63)) ||| (((ai h a_1 (x4 + x7).toNatClampNeg) &&& 255).toInt64))), none, some (tI (x7 + (-1)))]) gX6_load rfl rfl (by decide) rfl ?_
    refine T_goto (tgt := 23) gX6_load rfl (by decide) ?_
    exact w
set_option maxHeartbeats 4000000 in
set_option maxRecDepth 20000 in
theorem wX7_widened (x0 : Int32) (y1 : Int64) (h : Hp) (Q : Option TV → Hp → Prop) (w :
(if x0 = 44 then
Q (some (tL (y1.toInt32.toInt8.toInt32.toInt64 &&& 4294967295))) h
else
(if x0 = 46 then
Q (some (tL (y1.toInt32.toInt16.toInt32.toInt64 &&& 4294967295))) h
else
(if x0 = 48 then
Q (some (tL y1.toInt32.toInt8.toInt32.toInt64)) h
else
(if x0 = 50 then
Q (some (tL y1.toInt32.toInt16.toInt32.toInt64)) h
else
(if x0 = 52 then
Q (some (tL y1.toInt32.toInt64)) h
else
Q (some (tL y1)) h)))))) : tX7_widened x0 y1 h Q := by
  refine T_run (n := 1) (pc' := 1) (lv' := [some (tI x0), some (tL y1), none]) (st' := [tI x0]) (h' := h) gX7_widened rfl ?_
  refine T_tsw (dt := 84) (cs := [(44, 52), (46, 61), (48, 70), (50, 75), (52, 80)]) gX7_widened rfl (by decide) ?_
  refine sw_cons (fun hc => ?_) (fun hc => ?_)
  · rw [if_pos hc] at w
    refine T_run (n := 4) (pc' := 56) (lv' := [some (tI x0), some (tL y1), none]) (st' := [tL y1.toInt32.toInt8.toInt32.toInt64]) (h' := h) gX7_widened rfl ?_
    refine T_kl2 (v := 4294967295) gX7_widened rfl (by decide) ?_
    refine T_run (n := 1) (pc' := 60) (lv' := [some (tI x0), some (tL y1), none]) (st' := [tL (y1.toInt32.toInt8.toInt32.toInt64 &&& 4294967295)]) (h' := h) gX7_widened rfl ?_
    exact T_rl gX7_widened rfl rfl w
  rw [if_neg hc] at w
  refine sw_cons (fun hc => ?_) (fun hc => ?_)
  · rw [if_pos hc] at w
    refine T_run (n := 4) (pc' := 65) (lv' := [some (tI x0), some (tL y1), none]) (st' := [tL y1.toInt32.toInt16.toInt32.toInt64]) (h' := h) gX7_widened rfl ?_
    refine T_kl2 (v := 4294967295) gX7_widened rfl (by decide) ?_
    refine T_run (n := 1) (pc' := 69) (lv' := [some (tI x0), some (tL y1), none]) (st' := [tL (y1.toInt32.toInt16.toInt32.toInt64 &&& 4294967295)]) (h' := h) gX7_widened rfl ?_
    exact T_rl gX7_widened rfl rfl w
  rw [if_neg hc] at w
  refine sw_cons (fun hc => ?_) (fun hc => ?_)
  · rw [if_pos hc] at w
    refine T_run (n := 4) (pc' := 74) (lv' := [some (tI x0), some (tL y1), none]) (st' := [tL y1.toInt32.toInt8.toInt32.toInt64]) (h' := h) gX7_widened rfl ?_
    exact T_rl gX7_widened rfl rfl w
  rw [if_neg hc] at w
  refine sw_cons (fun hc => ?_) (fun hc => ?_)
  · rw [if_pos hc] at w
    refine T_run (n := 4) (pc' := 79) (lv' := [some (tI x0), some (tL y1), none]) (st' := [tL y1.toInt32.toInt16.toInt32.toInt64]) (h' := h) gX7_widened rfl ?_
    exact T_rl gX7_widened rfl rfl w
  rw [if_neg hc] at w
  refine sw_cons (fun hc => ?_) (fun hc => ?_)
  · rw [if_pos hc] at w
    refine T_run (n := 3) (pc' := 83) (lv' := [some (tI x0), some (tL y1), none]) (st' := [tL y1.toInt32.toInt64]) (h' := h) gX7_widened rfl ?_
    exact T_rl gX7_widened rfl rfl w
  rw [if_neg hc] at w
  refine T_run (n := 1) (pc' := 85) (lv' := [some (tI x0), some (tL y1), none]) (st' := [tL y1]) (h' := h) gX7_widened rfl ?_
  exact T_rl gX7_widened rfl rfl w
set_option maxHeartbeats 4000000 in
set_option maxRecDepth 20000 in
theorem wX5_load (a0 : Nat) (r1 : Option Nat) (h : Hp) (Q : Option TV → Hp → Prop) (w :
ob h a0 5 (
dr (gr h 324 a0) (fun a_3 => ob h a_3 8 (tX9_pop a_3  h (rL (fun y_2 h_1 =>
dr r1 (fun a_4 => ob h_1 a_4 3 (
dr r1 (fun a_5 => ob h_1 a_5 3 (
tX7_sizeOf (gi h_1 192 a_5) h_1 (rI (fun x_7 h_6 =>
ob h_6 a0 5 (
dr (gr h_6 323 a0) (fun a_10 => ob h_6 a_10 6 (tX6_holds a_10 ((y_2 &&& 4294967295) + (((gi h_1 193 a_4).toInt64) &&& 4294967295)) x_7 h_6 (rI (fun x_9 h_8 =>
(if x_9 = 0 then
ob h_8 a0 5 (tX5_trap a0 4 h_8 (rV (fun h_20 =>
Q none h_20)))
else
ob h_8 a0 5 (
dr r1 (fun a_11 => ob h_8 a_11 3 (
ob h_8 a0 5 (
dr (gr h_8 323 a0) (fun a_14 => ob h_8 a_14 6 (tX6_load a_14 ((y_2 &&& 4294967295) + (((gi h_1 193 a_4).toInt64) &&& 4294967295)) x_7 h_8 (rL (fun y_13 h_12 =>
tX7_widened (gi h_8 192 a_11) y_13 h_12 (rL (fun y_16 h_15 =>
dr (gr h_8 324 a0) (fun a_19 => ob h_15 a_19 8 (tX9_push a_19 y_16 h_15 (rV (fun h_17 =>
Q none h_17)))))))))))))))))))))))))))))))) : tX5_load a0 r1 h Q := by
  refine T_run (n := 1) (pc' := 1) (lv' := [some (tR (some a0)), some (tR r1), none, none, none]) (st' := [tR (some a0)]) (h' := h) gX5_load rfl ?_
  obtain ⟨ho, w⟩ := w
  refine T_gs (tR (gr h 324 a0)) gX5_load rfl rfl ⟨ho, ?_⟩
  obtain ⟨a_3, hr, ho, w⟩ := w
  refine T_cv (fun aa => [some (tR (some aa))]) gX5_load rfl rfl rfl rfl (Nat.le_of_ble_eq_true rfl) gX9_pop (fun _ => Nat.le_of_ble_eq_true rfl) (fun _ => rfl) ⟨a_3, hr, ho, T_kl ?_⟩
  refine T.mono w (fun rr h_1 hw => ?_)
  obtain ⟨y_2, hr, w⟩ := hw
  refine ⟨y_2, hr, ?_⟩
  refine T_kl2 (v := 4294967295) gX5_load rfl (by decide) ?_
  refine T_run (n := 2) (pc' := 12) (lv' := [some (tR (some a0)), some (tR r1), none, none, none]) (st' := [tR r1, tL (y_2 &&& 4294967295)]) (h' := h_1) gX5_load rfl ?_
  obtain ⟨a_4, he, ho, w⟩ := w
  refine T_gf (fun a_4 => tI (gi h_1 193 a_4)) gX5_load rfl (fun _ => rfl) ⟨a_4, he, ho, ?_⟩
  refine T_run (n := 1) (pc' := 16) (lv' := [some (tR (some a0)), some (tR r1), none, none, none]) (st' := [tL ((gi h_1 193 a_4).toInt64), tL (y_2 &&& 4294967295)]) (h' := h_1) gX5_load rfl ?_
  refine T_kl2 (v := 4294967295) gX5_load rfl (by decide) ?_
  refine T_run (n := 4) (pc' := 23) (lv' := [some (tR (some a0)), some (tR r1), some (tL ((y_2 &&& 4294967295) + (((gi h_1 193 a_4).toInt64) &&& 4294967295))), none, none]) (st' := [tR r1]) (h' := h_1) gX5_load rfl ?_
  obtain ⟨a_5, he, ho, w⟩ := w
  refine T_gf (fun a_5 => tI (gi h_1 192 a_5)) gX5_load rfl (fun _ => rfl) ⟨a_5, he, ho, ?_⟩
  refine T_cs (lv' := [some (tI (gi h_1 192 a_5))]) gX5_load rfl rfl rfl rfl (Nat.le_of_ble_eq_true rfl) gX7_sizeOf (Nat.le_of_ble_eq_true rfl) rfl (T_ki ?_)
  refine T.mono w (fun rr h_6 hw => ?_)
  obtain ⟨x_7, hr, w⟩ := hw
  refine ⟨x_7, hr, ?_⟩
  refine T_run (n := 2) (pc' := 32) (lv' := [some (tR (some a0)), some (tR r1), some (tL ((y_2 &&& 4294967295) + (((gi h_1 193 a_4).toInt64) &&& 4294967295))), none, some (tI x_7)]) (st' := [tR (some a0)]) (h' := h_6) gX5_load rfl ?_
  obtain ⟨ho, w⟩ := w
  refine T_gs (tR (gr h_6 323 a0)) gX5_load rfl rfl ⟨ho, ?_⟩
  refine T_run (n := 2) (pc' := 38) (lv' := [some (tR (some a0)), some (tR r1), some (tL ((y_2 &&& 4294967295) + (((gi h_1 193 a_4).toInt64) &&& 4294967295))), none, some (tI x_7)]) (st' := [tI x_7, tL ((y_2 &&& 4294967295) + (((gi h_1 193 a_4).toInt64) &&& 4294967295)), tR (gr h_6 323 a0)]) (h' := h_6) gX5_load rfl ?_
  obtain ⟨a_10, hr, ho, w⟩ := w
  refine T_cv (fun aa => [some (tR (some aa)), some (tL ((y_2 &&& 4294967295) + (((gi h_1 193 a_4).toInt64) &&& 4294967295))), none, some (tI x_7), none, none]) gX5_load rfl rfl rfl rfl (Nat.le_of_ble_eq_true rfl) gX6_holds (fun _ => Nat.le_of_ble_eq_true rfl) (fun _ => rfl) ⟨a_10, hr, ho, T_ki ?_⟩
  refine T.mono w (fun rr h_8 hw => ?_)
  obtain ⟨x_9, hr, w⟩ := hw
  refine ⟨x_9, hr, ?_⟩
  replace w := c_ne w
  refine T_if (tgt := 50) gX5_load rfl (by decide) (fun hc => ?_) (fun hc => ?_)
  · replace w := w.1 hc
    refine T_run (n := 1) (pc' := 51) (lv' := [some (tR (some a0)), some (tR r1), some (tL ((y_2 &&& 4294967295) + (((gi h_1 193 a_4).toInt64) &&& 4294967295))), none, some (tI x_7)]) (st' := [tR (some a0)]) (h' := h_8) gX5_load rfl ?_
    obtain ⟨ho, w⟩ := w
    refine T_gs (tR (gr h_8 324 a0)) gX5_load rfl rfl ⟨ho, ?_⟩
    refine T_run (n := 1) (pc' := 55) (lv' := [some (tR (some a0)), some (tR r1), some (tL ((y_2 &&& 4294967295) + (((gi h_1 193 a_4).toInt64) &&& 4294967295))), none, some (tI x_7)]) (st' := [tR r1, tR (gr h_8 324 a0)]) (h' := h_8) gX5_load rfl ?_
    obtain ⟨a_11, he, ho, w⟩ := w
    refine T_gf (fun a_11 => tI (gi h_8 192 a_11)) gX5_load rfl (fun _ => rfl) ⟨a_11, he, ho, ?_⟩
    refine T_run (n := 1) (pc' := 59) (lv' := [some (tR (some a0)), some (tR r1), some (tL ((y_2 &&& 4294967295) + (((gi h_1 193 a_4).toInt64) &&& 4294967295))), none, some (tI x_7)]) (st' := [tR (some a0), tI (gi h_8 192 a_11), tR (gr h_8 324 a0)]) (h' := h_8) gX5_load rfl ?_
    obtain ⟨ho, w⟩ := w
    refine T_gs (tR (gr h_8 323 a0)) gX5_load rfl rfl ⟨ho, ?_⟩
    refine T_run (n := 2) (pc' := 65) (lv' := [some (tR (some a0)), some (tR r1), some (tL ((y_2 &&& 4294967295) + (((gi h_1 193 a_4).toInt64) &&& 4294967295))), none, some (tI x_7)]) (st' := [tI x_7, tL ((y_2 &&& 4294967295) + (((gi h_1 193 a_4).toInt64) &&& 4294967295)), tR (gr h_8 323 a0), tI (gi h_8 192 a_11), tR (gr h_8 324 a0)]) (h' := h_8) gX5_load rfl ?_
    obtain ⟨a_14, hr, ho, w⟩ := w
    refine T_cv (fun aa => [some (tR (some aa)), some (tL ((y_2 &&& 4294967295) + (((gi h_1 193 a_4).toInt64) &&& 4294967295))), none, some (tI x_7), none, none, none, none]) gX5_load rfl rfl rfl rfl (Nat.le_of_ble_eq_true rfl) gX6_load (fun _ => Nat.le_of_ble_eq_true rfl) (fun _ => rfl) ⟨a_14, hr, ho, T_kl ?_⟩
    refine T.mono w (fun rr h_12 hw => ?_)
    obtain ⟨y_13, hr, w⟩ := hw
    refine ⟨y_13, hr, ?_⟩
    refine T_cs (lv' := [some (tI (gi h_8 192 a_11)), some (tL y_13), none]) gX5_load rfl rfl rfl rfl (Nat.le_of_ble_eq_true rfl) gX7_widened (Nat.le_of_ble_eq_true rfl) rfl (T_kl ?_)
    refine T.mono w (fun rr h_15 hw => ?_)
    obtain ⟨y_16, hr, w⟩ := hw
    refine ⟨y_16, hr, ?_⟩
    obtain ⟨a_19, hr, ho, w⟩ := w
    refine T_cv (fun aa => [some (tR (some aa)), some (tL y_16), none]) gX5_load rfl rfl rfl rfl (Nat.le_of_ble_eq_true rfl) gX9_push (fun _ => Nat.le_of_ble_eq_true rfl) (fun _ => rfl) ⟨a_19, hr, ho, T_kv ?_⟩
    refine T.mono w (fun rr h_17 hw => ?_)
    obtain ⟨hr, w⟩ := hw
    refine ⟨hr, ?_⟩
    exact T_rv gX5_load rfl rfl w
  · replace w := w.2 hc
    refine T_run (n := 1) (pc' := 45) (lv' := [some (tR (some a0)), some (tR r1), some (tL ((y_2 &&& 4294967295) + (((gi h_1 193 a_4).toInt64) &&& 4294967295))), none, some (tI x_7)]) (st' := [tR (some a0)]) (h' := h_8) gX5_load rfl ?_
    refine T_kn (v := 4) gX5_load rfl (by decide) ?_
    obtain ⟨ho, w⟩ := w
    refine T_cv (fun aa => [some (tR (some aa)), some (tI 4)]) gX5_load rfl rfl rfl rfl (Nat.le_of_ble_eq_true rfl) gX5_trap (fun _ => Nat.le_of_ble_eq_true rfl) (fun _ => rfl) ⟨a0, rfl, ho, T_kv ?_⟩
    refine T.mono w (fun rr h_20 hw => ?_)
    obtain ⟨hr, w⟩ := hw
    refine ⟨hr, ?_⟩
    exact T_rv gX5_load rfl rfl w
set_option maxHeartbeats 4000000 in
set_option maxRecDepth 20000 in
theorem wX6_store (a0 : Nat) (y1 : Int64) (x3 : Int32) (y4 : Int64) (h : Hp) (Q : Option TV → Hp → Prop) (w :
ob h a0 6 (tX6_holds a0 y1 x3 h (rI (fun x_2 h_1 =>
(if x_2 = 0 then
Q none h_1
else
tX6_store_17 a0 x3 y4 y1.toInt32 0 h_1 Q))))) : tX6_store a0 y1 x3 y4 h Q := by
  refine T_run (n := 3) (pc' := 3) (lv' := [some (tR (some a0)), some (tL y1), none, some (tI x3), some (tL y4), none, none, none]) (st' := [tI x3, tL y1, tR (some a0)]) (h' := h) gX6_store rfl ?_
  obtain ⟨ho, w⟩ := w
  refine T_cv (fun aa => [some (tR (some aa)), some (tL y1), none, some (tI x3), none, none]) gX6_store rfl rfl rfl rfl (Nat.le_of_ble_eq_true rfl) gX6_holds (fun _ => Nat.le_of_ble_eq_true rfl) (fun _ => rfl) ⟨a0, rfl, ho, T_ki ?_⟩
  refine T.mono w (fun rr h_1 hw => ?_)
  obtain ⟨x_2, hr, w⟩ := hw
  refine ⟨x_2, hr, ?_⟩
  replace w := c_ne w
  refine T_if (tgt := 10) gX6_store rfl (by decide) (fun hc => ?_) (fun hc => ?_)
  · replace w := w.1 hc
    refine T_run (n := 3) (pc' := 14) (lv' := [some (tR (some a0)), some (tL y1), none, some (tI x3), some (tL y4), none, some (tI y1.toInt32), none]) (st' := []) (h' := h_1) gX6_store rfl ?_
    refine T_kn (v := 0) gX6_store rfl (by decide) ?_
    refine T_run (n := 1) (pc' := 17) (lv' := [some (tR (some a0)), some (tL y1), none, some (tI x3), some (tL y4), none, some (tI y1.toInt32), some (tI 0)]) (st' := []) (h' := h_1) gX6_store rfl ?_
    exact T_wk w (leE (leN (leN (leE (leE (leN (leE (leE le0))))))))
  · replace w := w.2 hc
    exact T_rv gX6_store rfl rfl w
set_option maxHeartbeats 4000000 in
set_option maxRecDepth 20000 in
theorem wX6_store_17 (a0 : Nat) (x3 : Int32) (y4 : Int64) (x6 : Int32) (x7 : Int32) (h : Hp) (Q : Option TV → Hp → Prop) (w :
(if x7 < x3 then
ob h a0 6 (
dr (gr h 384 a0) (fun a_1 => ix h kBy a_1 (x6 + x7) (∀ h_2, h_2 = si h a_1 (x6 + x7).toNatClampNeg ((((y4.toUInt64 >>> ((8 * x7).toInt64.toUInt64 &&& Int64.toUInt64 63)).toInt64).toInt32).toInt8.toInt32).toInt8.toInt32 →
tX6_store_17 a0 x3 y4 x6 (x7 + 1) h_2 Q)))
else
Q none h)) : tX6_store_17 a0 x3 y4 x6 x7 h Q := by
  refine T_run (n := 2) (pc' := 20) (lv' := [some (tR (some a0)), none, none, some (tI x3), some (tL y4), none, some (tI x6), some (tI x7)]) (st' := [tI x3, tI x7]) (h' := h) gX6_store rfl ?_
  replace w := c_ge w
  refine T_ic (tgt := 49) gX6_store rfl (by decide) (fun hc => ?_) (fun hc => ?_)
  · replace w := w.1 hc
    exact T_rv gX6_store rfl rfl w
  · replace w := w.2 hc
    refine T_run (n := 1) (pc' := 24) (lv' := [some (tR (some a0)), none, none, some (tI x3), some (tL y4), none, some (tI x6), some (tI x7)]) (st' := [tR (some a0)]) (h' := h) gX6_store rfl ?_
    obtain ⟨ho, w⟩ := w
    refine T_gs (tR (gr h 384 a0)) gX6_store rfl rfl ⟨ho, ?_⟩
    refine T_run (n := 4) (pc' := 34) (lv' := [some (tR (some a0)), none, none, some (tI x3), some (tL y4), none, some (tI x6), some (tI x7)]) (st' := [tL y4, tI (x6 + x7), tR (gr h 384 a0)]) (h' := h) gX6_store rfl ?_
    refine T_kb (v := 8) gX6_store rfl (by decide) ?_
    refine T_run (n := 5) (pc' := 42) (lv' := [some (tR (some a0)), none, none, some (tI x3), some (tL y4), none, some (tI x6), some (tI x7)]) (st' := [tI ((((y4.toUInt64 >>> ((8 * x7).toInt64.toUInt64 &&& Int64.toUInt64 63)).toInt64).toInt32).toInt8.toInt32), tI (x6 + x7), tR (gr h 384 a0)]) (h' := h) gX6_store rfl ?_
    obtain ⟨a_1, hr, tt, nn, ht, hk, hj, w⟩ := w
    refine T_bas gX6_store rfl ⟨a_1, hr, tt, nn, ht, hk, hj, fun h_2 he => ?_⟩
    replace w := w h_2 he
    refine T_inc (x := x7) (c := 1) (lv' := [some (tR (some a0)), none, none, some (tI x3), some (tL y4), none, some (tI x6), some (tI (x7 + 1))]) gX6_store rfl rfl (by decide) rfl ?_
    refine T_goto (tgt := 17) gX6_store rfl (by decide) ?_
    exact w
set_option maxHeartbeats 4000000 in
set_option maxRecDepth 20000 in
theorem wX5_store (a0 : Nat) (r1 : Option Nat) (h : Hp) (Q : Option TV → Hp → Prop) (w :
ob h a0 5 (
dr (gr h 324 a0) (fun a_3 => ob h a_3 8 (tX9_pop a_3  h (rL (fun y_2 h_1 =>
ob h_1 a0 5 (
dr (gr h_1 324 a0) (fun a_6 => ob h_1 a_6 8 (tX9_pop a_6  h_1 (rL (fun y_5 h_4 =>
dr r1 (fun a_7 => ob h_4 a_7 3 (
dr r1 (fun a_8 => ob h_4 a_8 3 (
tX7_sizeOf (gi h_4 192 a_8) h_4 (rI (fun x_10 h_9 =>
ob h_9 a0 5 (
dr (gr h_9 323 a0) (fun a_13 => ob h_9 a_13 6 (tX6_holds a_13 ((y_5 &&& 4294967295) + (((gi h_4 193 a_7).toInt64) &&& 4294967295)) x_10 h_9 (rI (fun x_12 h_11 =>
(if x_12 = 0 then
ob h_11 a0 5 (tX5_trap a0 4 h_11 (rV (fun h_17 =>
Q none h_17)))
else
ob h_11 a0 5 (
dr (gr h_11 323 a0) (fun a_16 => ob h_11 a_16 6 (tX6_store a_16 ((y_5 &&& 4294967295) + (((gi h_4 193 a_7).toInt64) &&& 4294967295)) x_10 y_2 h_11 (rV (fun h_14 =>
Q none h_14)))))))))))))))))))))))))))) : tX5_store a0 r1 h Q := by
  refine T_run (n := 1) (pc' := 1) (lv' := [some (tR (some a0)), some (tR r1), none, none, none, none, none]) (st' := [tR (some a0)]) (h' := h) gX5_store rfl ?_
  obtain ⟨ho, w⟩ := w
  refine T_gs (tR (gr h 324 a0)) gX5_store rfl rfl ⟨ho, ?_⟩
  obtain ⟨a_3, hr, ho, w⟩ := w
  refine T_cv (fun aa => [some (tR (some aa))]) gX5_store rfl rfl rfl rfl (Nat.le_of_ble_eq_true rfl) gX9_pop (fun _ => Nat.le_of_ble_eq_true rfl) (fun _ => rfl) ⟨a_3, hr, ho, T_kl ?_⟩
  refine T.mono w (fun rr h_1 hw => ?_)
  obtain ⟨y_2, hr, w⟩ := hw
  refine ⟨y_2, hr, ?_⟩
  refine T_run (n := 2) (pc' := 9) (lv' := [some (tR (some a0)), some (tR r1), some (tL y_2), none, none, none, none]) (st' := [tR (some a0)]) (h' := h_1) gX5_store rfl ?_
  obtain ⟨ho, w⟩ := w
  refine T_gs (tR (gr h_1 324 a0)) gX5_store rfl rfl ⟨ho, ?_⟩
  obtain ⟨a_6, hr, ho, w⟩ := w
  refine T_cv (fun aa => [some (tR (some aa))]) gX5_store rfl rfl rfl rfl (Nat.le_of_ble_eq_true rfl) gX9_pop (fun _ => Nat.le_of_ble_eq_true rfl) (fun _ => rfl) ⟨a_6, hr, ho, T_kl ?_⟩
  refine T.mono w (fun rr h_4 hw => ?_)
  obtain ⟨y_5, hr, w⟩ := hw
  refine ⟨y_5, hr, ?_⟩
  refine T_kl2 (v := 4294967295) gX5_store rfl (by decide) ?_
  refine T_run (n := 2) (pc' := 20) (lv' := [some (tR (some a0)), some (tR r1), some (tL y_2), none, none, none, none]) (st' := [tR r1, tL (y_5 &&& 4294967295)]) (h' := h_4) gX5_store rfl ?_
  obtain ⟨a_7, he, ho, w⟩ := w
  refine T_gf (fun a_7 => tI (gi h_4 193 a_7)) gX5_store rfl (fun _ => rfl) ⟨a_7, he, ho, ?_⟩
  refine T_run (n := 1) (pc' := 24) (lv' := [some (tR (some a0)), some (tR r1), some (tL y_2), none, none, none, none]) (st' := [tL ((gi h_4 193 a_7).toInt64), tL (y_5 &&& 4294967295)]) (h' := h_4) gX5_store rfl ?_
  refine T_kl2 (v := 4294967295) gX5_store rfl (by decide) ?_
  refine T_run (n := 4) (pc' := 32) (lv' := [some (tR (some a0)), some (tR r1), some (tL y_2), none, some (tL ((y_5 &&& 4294967295) + (((gi h_4 193 a_7).toInt64) &&& 4294967295))), none, none]) (st' := [tR r1]) (h' := h_4) gX5_store rfl ?_
  obtain ⟨a_8, he, ho, w⟩ := w
  refine T_gf (fun a_8 => tI (gi h_4 192 a_8)) gX5_store rfl (fun _ => rfl) ⟨a_8, he, ho, ?_⟩
  refine T_cs (lv' := [some (tI (gi h_4 192 a_8))]) gX5_store rfl rfl rfl rfl (Nat.le_of_ble_eq_true rfl) gX7_sizeOf (Nat.le_of_ble_eq_true rfl) rfl (T_ki ?_)
  refine T.mono w (fun rr h_9 hw => ?_)
  obtain ⟨x_10, hr, w⟩ := hw
  refine ⟨x_10, hr, ?_⟩
  refine T_run (n := 2) (pc' := 41) (lv' := [some (tR (some a0)), some (tR r1), some (tL y_2), none, some (tL ((y_5 &&& 4294967295) + (((gi h_4 193 a_7).toInt64) &&& 4294967295))), none, some (tI x_10)]) (st' := [tR (some a0)]) (h' := h_9) gX5_store rfl ?_
  obtain ⟨ho, w⟩ := w
  refine T_gs (tR (gr h_9 323 a0)) gX5_store rfl rfl ⟨ho, ?_⟩
  refine T_run (n := 2) (pc' := 48) (lv' := [some (tR (some a0)), some (tR r1), some (tL y_2), none, some (tL ((y_5 &&& 4294967295) + (((gi h_4 193 a_7).toInt64) &&& 4294967295))), none, some (tI x_10)]) (st' := [tI x_10, tL ((y_5 &&& 4294967295) + (((gi h_4 193 a_7).toInt64) &&& 4294967295)), tR (gr h_9 323 a0)]) (h' := h_9) gX5_store rfl ?_
  obtain ⟨a_13, hr, ho, w⟩ := w
  refine T_cv (fun aa => [some (tR (some aa)), some (tL ((y_5 &&& 4294967295) + (((gi h_4 193 a_7).toInt64) &&& 4294967295))), none, some (tI x_10), none, none]) gX5_store rfl rfl rfl rfl (Nat.le_of_ble_eq_true rfl) gX6_holds (fun _ => Nat.le_of_ble_eq_true rfl) (fun _ => rfl) ⟨a_13, hr, ho, T_ki ?_⟩
  refine T.mono w (fun rr h_11 hw => ?_)
  obtain ⟨x_12, hr, w⟩ := hw
  refine ⟨x_12, hr, ?_⟩
  replace w := c_ne w
  refine T_if (tgt := 60) gX5_store rfl (by decide) (fun hc => ?_) (fun hc => ?_)
  · replace w := w.1 hc
    refine T_run (n := 1) (pc' := 61) (lv' := [some (tR (some a0)), some (tR r1), some (tL y_2), none, some (tL ((y_5 &&& 4294967295) + (((gi h_4 193 a_7).toInt64) &&& 4294967295))), none, some (tI x_10)]) (st' := [tR (some a0)]) (h' := h_11) gX5_store rfl ?_
    obtain ⟨ho, w⟩ := w
    refine T_gs (tR (gr h_11 323 a0)) gX5_store rfl rfl ⟨ho, ?_⟩
    refine T_run (n := 3) (pc' := 69) (lv' := [some (tR (some a0)), some (tR r1), some (tL y_2), none, some (tL ((y_5 &&& 4294967295) + (((gi h_4 193 a_7).toInt64) &&& 4294967295))), none, some (tI x_10)]) (st' := [tL y_2, tI x_10, tL ((y_5 &&& 4294967295) + (((gi h_4 193 a_7).toInt64) &&& 4294967295)), tR (gr h_11 323 a0)]) (h' := h_11) gX5_store rfl ?_
    obtain ⟨a_16, hr, ho, w⟩ := w
    refine T_cv (fun aa => [some (tR (some aa)), some (tL ((y_5 &&& 4294967295) + (((gi h_4 193 a_7).toInt64) &&& 4294967295))), none, some (tI x_10), some (tL y_2), none, none, none]) gX5_store rfl rfl rfl rfl (Nat.le_of_ble_eq_true rfl) gX6_store (fun _ => Nat.le_of_ble_eq_true rfl) (fun _ => rfl) ⟨a_16, hr, ho, T_kv ?_⟩
    refine T.mono w (fun rr h_14 hw => ?_)
    obtain ⟨hr, w⟩ := hw
    refine ⟨hr, ?_⟩
    exact T_rv gX5_store rfl rfl w
  · replace w := w.2 hc
    refine T_run (n := 1) (pc' := 55) (lv' := [some (tR (some a0)), some (tR r1), some (tL y_2), none, some (tL ((y_5 &&& 4294967295) + (((gi h_4 193 a_7).toInt64) &&& 4294967295))), none, some (tI x_10)]) (st' := [tR (some a0)]) (h' := h_11) gX5_store rfl ?_
    refine T_kn (v := 4) gX5_store rfl (by decide) ?_
    obtain ⟨ho, w⟩ := w
    refine T_cv (fun aa => [some (tR (some aa)), some (tI 4)]) gX5_store rfl rfl rfl rfl (Nat.le_of_ble_eq_true rfl) gX5_trap (fun _ => Nat.le_of_ble_eq_true rfl) (fun _ => rfl) ⟨a0, rfl, ho, T_kv ?_⟩
    refine T.mono w (fun rr h_17 hw => ?_)
    obtain ⟨hr, w⟩ := hw
    refine ⟨hr, ?_⟩
    exact T_rv gX5_store rfl rfl w
set_option maxHeartbeats 4000000 in
set_option maxRecDepth 20000 in
theorem wX6_grow (a0 : Nat) (y1 : Int64) (h : Hp) (Q : Option TV → Hp → Prop) (w :
(if y1 < 0 then
Q (some (tL 4294967295)) h
else
ob h a0 6 (
(if ((6 - (gi h 385 a0)).toInt64) < y1 then
Q (some (tL 4294967295)) h
else
ob h a0 6 (
ob h a0 6 (
ob h a0 6 (∀ h_1, h_1 = pi h 385 a0 ((gi h 385 a0) + y1.toInt32) →
Q (some (tL ((gi h 385 a0).toInt64))) h_1))))))) : tX6_grow a0 y1 h Q := by
  refine T_run (n := 1) (pc' := 1) (lv' := [some (tR (some a0)), some (tL y1), none, none]) (st' := [tL y1]) (h' := h) gX6_grow rfl ?_
  refine T_kj (v := 0) gX6_grow rfl (by decide) ?_
  refine T_run (n := 1) (pc' := 3) (lv' := [some (tR (some a0)), some (tL y1), none, none]) (st' := [tI (lg_cmp y1 0)]) (h' := h) gX6_grow rfl ?_
  replace w := c_lt (if_iff (lg_lt y1 0) w)
  refine T_if (tgt := 19) gX6_grow rfl (by decide) (fun hc => ?_) (fun hc => ?_)
  · replace w := w.1 hc
    refine T_kl2 (v := 4294967295) gX6_grow rfl (by decide) ?_
    exact T_rl gX6_grow rfl rfl w
  · replace w := w.2 hc
    refine T_run (n := 1) (pc' := 7) (lv' := [some (tR (some a0)), some (tL y1), none, none]) (st' := [tL y1]) (h' := h) gX6_grow rfl ?_
    refine T_kb (v := 6) gX6_grow rfl (by decide) ?_
    refine T_run (n := 1) (pc' := 10) (lv' := [some (tR (some a0)), some (tL y1), none, none]) (st' := [tR (some a0), tI 6, tL y1]) (h' := h) gX6_grow rfl ?_
    obtain ⟨ho, w⟩ := w
    refine T_gs (tI (gi h 385 a0)) gX6_grow rfl rfl ⟨ho, ?_⟩
    refine T_run (n := 3) (pc' := 16) (lv' := [some (tR (some a0)), some (tL y1), none, none]) (st' := [tI (lg_cmp y1 ((6 - (gi h 385 a0)).toInt64))]) (h' := h) gX6_grow rfl ?_
    replace w := c_le (if_iff (lg_gt y1 ((6 - (gi h 385 a0)).toInt64)) w)
    refine T_if (tgt := 23) gX6_grow rfl (by decide) (fun hc => ?_) (fun hc => ?_)
    · replace w := w.1 hc
      refine T_run (n := 1) (pc' := 24) (lv' := [some (tR (some a0)), some (tL y1), none, none]) (st' := [tR (some a0)]) (h' := h) gX6_grow rfl ?_
      obtain ⟨ho, w⟩ := w
      refine T_gs (tI (gi h 385 a0)) gX6_grow rfl rfl ⟨ho, ?_⟩
      refine T_run (n := 3) (pc' := 30) (lv' := [some (tR (some a0)), some (tL y1), none, some (tI (gi h 385 a0))]) (st' := [tR (some a0), tR (some a0)]) (h' := h) gX6_grow rfl ?_
      obtain ⟨ho, w⟩ := w
      refine T_gs (tI (gi h 385 a0)) gX6_grow rfl rfl ⟨ho, ?_⟩
      refine T_run (n := 3) (pc' := 36) (lv' := [some (tR (some a0)), some (tL y1), none, some (tI (gi h 385 a0))]) (st' := [tI ((gi h 385 a0) + y1.toInt32), tR (some a0)]) (h' := h) gX6_grow rfl ?_
      obtain ⟨ho, w⟩ := w
      refine T_ps (pi h 385 a0 ((gi h 385 a0) + y1.toInt32)) gX6_grow rfl rfl ⟨ho, fun h_1 he => ?_⟩
      replace w := w h_1 he
      refine T_run (n := 2) (pc' := 41) (lv' := [some (tR (some a0)), some (tL y1), none, some (tI (gi h 385 a0))]) (st' := [tL ((gi h 385 a0).toInt64)]) (h' := h_1) gX6_grow rfl ?_
      exact T_rl gX6_grow rfl rfl w
    · replace w := w.2 hc
      refine T_kl2 (v := 4294967295) gX6_grow rfl (by decide) ?_
      exact T_rl gX6_grow rfl rfl w
set_option maxHeartbeats 4000000 in
set_option maxRecDepth 20000 in
theorem wX5_provide (a0 : Nat) (r1 : Option Nat) (h : Hp) (Q : Option TV → Hp → Prop) (w :
dr r1 (fun a_1 => ob h a_1 3 (
(if (gi h 192 a_1) = 63 then
ob h a0 5 (
ob h a0 5 (
dr (gr h 323 a0) (fun a_2 => ob h a_2 6 (
dr (gr h 324 a0) (fun a_5 => ob h a_5 8 (tX9_push a_5 ((gi h 385 a_2).toInt64) h (rV (fun h_3 =>
Q none h_3))))))))
else
(if (gi h 192 a_1) = 64 then
ob h a0 5 (
ob h a0 5 (
ob h a0 5 (
dr (gr h 324 a0) (fun a_8 => ob h a_8 8 (tX9_pop a_8  h (rL (fun y_7 h_6 =>
dr (gr h 323 a0) (fun a_11 => ob h_6 a_11 6 (tX6_grow a_11 (y_7 &&& 4294967295) h_6 (rL (fun y_10 h_9 =>
dr (gr h 324 a0) (fun a_14 => ob h_9 a_14 8 (tX9_push a_14 y_10 h_9 (rV (fun h_12 =>
Q none h_12)))))))))))))))
else
(if (gi h 192 a_1) = 65 then
ob h a0 5 (
dr r1 (fun a_15 => ob h a_15 3 (
dr (gr h 324 a0) (fun a_18 => ob h a_18 8 (tX9_push a_18 (((gi h 193 a_15).toInt64) &&& 4294967295) h (rV (fun h_16 =>
Q none h_16)))))))
else
(if (gi h 192 a_1) = 66 then
ob h a0 5 (
dr r1 (fun a_19 => ob h a_19 3 (
dr r1 (fun a_20 => ob h a_20 3 (
dr (gr h 324 a0) (fun a_23 => ob h a_23 8 (tX9_push a_23 ((((gi h 194 a_19).toInt64) <<< ((32 : Int32).toInt64 &&& 63)) ||| (((gi h 193 a_20).toInt64) &&& 4294967295)) h (rV (fun h_21 =>
Q none h_21)))))))))
else
Q none h))))))) : tX5_provide a0 r1 h Q := by
  refine T_run (n := 1) (pc' := 1) (lv' := [some (tR (some a0)), some (tR r1)]) (st' := [tR r1]) (h' := h) gX5_provide rfl ?_
  obtain ⟨a_1, he, ho, w⟩ := w
  refine T_gf (fun a_1 => tI (gi h 192 a_1)) gX5_provide rfl (fun _ => rfl) ⟨a_1, he, ho, ?_⟩
  refine T_tsw (dt := 129) (cs := [(63, 36), (64, 54), (65, 82), (66, 101)]) gX5_provide rfl (by decide) ?_
  refine sw_cons (fun hc => ?_) (fun hc => ?_)
  · rw [if_pos hc] at w
    refine T_run (n := 1) (pc' := 37) (lv' := [some (tR (some a0)), some (tR r1)]) (st' := [tR (some a0)]) (h' := h) gX5_provide rfl ?_
    obtain ⟨ho, w⟩ := w
    refine T_gs (tR (gr h 324 a0)) gX5_provide rfl rfl ⟨ho, ?_⟩
    refine T_run (n := 1) (pc' := 41) (lv' := [some (tR (some a0)), some (tR r1)]) (st' := [tR (some a0), tR (gr h 324 a0)]) (h' := h) gX5_provide rfl ?_
    obtain ⟨ho, w⟩ := w
    refine T_gs (tR (gr h 323 a0)) gX5_provide rfl rfl ⟨ho, ?_⟩
    obtain ⟨a_2, he, ho, w⟩ := w
    refine T_gf (fun a_2 => tI (gi h 385 a_2)) gX5_provide rfl (fun _ => rfl) ⟨a_2, he, ho, ?_⟩
    refine T_run (n := 1) (pc' := 48) (lv' := [some (tR (some a0)), some (tR r1)]) (st' := [tL ((gi h 385 a_2).toInt64), tR (gr h 324 a0)]) (h' := h) gX5_provide rfl ?_
    obtain ⟨a_5, hr, ho, w⟩ := w
    refine T_cv (fun aa => [some (tR (some aa)), some (tL ((gi h 385 a_2).toInt64)), none]) gX5_provide rfl rfl rfl rfl (Nat.le_of_ble_eq_true rfl) gX9_push (fun _ => Nat.le_of_ble_eq_true rfl) (fun _ => rfl) ⟨a_5, hr, ho, T_kv ?_⟩
    refine T.mono w (fun rr h_3 hw => ?_)
    obtain ⟨hr, w⟩ := hw
    refine ⟨hr, ?_⟩
    refine T_goto (tgt := 129) gX5_provide rfl (by decide) ?_
    exact T_rv gX5_provide rfl rfl w
  rw [if_neg hc] at w
  refine sw_cons (fun hc => ?_) (fun hc => ?_)
  · rw [if_pos hc] at w
    refine T_run (n := 1) (pc' := 55) (lv' := [some (tR (some a0)), some (tR r1)]) (st' := [tR (some a0)]) (h' := h) gX5_provide rfl ?_
    obtain ⟨ho, w⟩ := w
    refine T_gs (tR (gr h 324 a0)) gX5_provide rfl rfl ⟨ho, ?_⟩
    refine T_run (n := 1) (pc' := 59) (lv' := [some (tR (some a0)), some (tR r1)]) (st' := [tR (some a0), tR (gr h 324 a0)]) (h' := h) gX5_provide rfl ?_
    obtain ⟨ho, w⟩ := w
    refine T_gs (tR (gr h 323 a0)) gX5_provide rfl rfl ⟨ho, ?_⟩
    refine T_run (n := 1) (pc' := 63) (lv' := [some (tR (some a0)), some (tR r1)]) (st' := [tR (some a0), tR (gr h 323 a0), tR (gr h 324 a0)]) (h' := h) gX5_provide rfl ?_
    obtain ⟨ho, w⟩ := w
    refine T_gs (tR (gr h 324 a0)) gX5_provide rfl rfl ⟨ho, ?_⟩
    obtain ⟨a_8, hr, ho, w⟩ := w
    refine T_cv (fun aa => [some (tR (some aa))]) gX5_provide rfl rfl rfl rfl (Nat.le_of_ble_eq_true rfl) gX9_pop (fun _ => Nat.le_of_ble_eq_true rfl) (fun _ => rfl) ⟨a_8, hr, ho, T_kl ?_⟩
    refine T.mono w (fun rr h_6 hw => ?_)
    obtain ⟨y_7, hr, w⟩ := hw
    refine ⟨y_7, hr, ?_⟩
    refine T_kl2 (v := 4294967295) gX5_provide rfl (by decide) ?_
    refine T_run (n := 1) (pc' := 73) (lv' := [some (tR (some a0)), some (tR r1)]) (st' := [tL (y_7 &&& 4294967295), tR (gr h 323 a0), tR (gr h 324 a0)]) (h' := h_6) gX5_provide rfl ?_
    obtain ⟨a_11, hr, ho, w⟩ := w
    refine T_cv (fun aa => [some (tR (some aa)), some (tL (y_7 &&& 4294967295)), none, none]) gX5_provide rfl rfl rfl rfl (Nat.le_of_ble_eq_true rfl) gX6_grow (fun _ => Nat.le_of_ble_eq_true rfl) (fun _ => rfl) ⟨a_11, hr, ho, T_kl ?_⟩
    refine T.mono w (fun rr h_9 hw => ?_)
    obtain ⟨y_10, hr, w⟩ := hw
    refine ⟨y_10, hr, ?_⟩
    obtain ⟨a_14, hr, ho, w⟩ := w
    refine T_cv (fun aa => [some (tR (some aa)), some (tL y_10), none]) gX5_provide rfl rfl rfl rfl (Nat.le_of_ble_eq_true rfl) gX9_push (fun _ => Nat.le_of_ble_eq_true rfl) (fun _ => rfl) ⟨a_14, hr, ho, T_kv ?_⟩
    refine T.mono w (fun rr h_12 hw => ?_)
    obtain ⟨hr, w⟩ := hw
    refine ⟨hr, ?_⟩
    refine T_goto (tgt := 129) gX5_provide rfl (by decide) ?_
    exact T_rv gX5_provide rfl rfl w
  rw [if_neg hc] at w
  refine sw_cons (fun hc => ?_) (fun hc => ?_)
  · rw [if_pos hc] at w
    refine T_run (n := 1) (pc' := 83) (lv' := [some (tR (some a0)), some (tR r1)]) (st' := [tR (some a0)]) (h' := h) gX5_provide rfl ?_
    obtain ⟨ho, w⟩ := w
    refine T_gs (tR (gr h 324 a0)) gX5_provide rfl rfl ⟨ho, ?_⟩
    refine T_run (n := 1) (pc' := 87) (lv' := [some (tR (some a0)), some (tR r1)]) (st' := [tR r1, tR (gr h 324 a0)]) (h' := h) gX5_provide rfl ?_
    obtain ⟨a_15, he, ho, w⟩ := w
    refine T_gf (fun a_15 => tI (gi h 193 a_15)) gX5_provide rfl (fun _ => rfl) ⟨a_15, he, ho, ?_⟩
    refine T_run (n := 1) (pc' := 91) (lv' := [some (tR (some a0)), some (tR r1)]) (st' := [tL ((gi h 193 a_15).toInt64), tR (gr h 324 a0)]) (h' := h) gX5_provide rfl ?_
    refine T_kl2 (v := 4294967295) gX5_provide rfl (by decide) ?_
    refine T_run (n := 1) (pc' := 95) (lv' := [some (tR (some a0)), some (tR r1)]) (st' := [tL (((gi h 193 a_15).toInt64) &&& 4294967295), tR (gr h 324 a0)]) (h' := h) gX5_provide rfl ?_
    obtain ⟨a_18, hr, ho, w⟩ := w
    refine T_cv (fun aa => [some (tR (some aa)), some (tL (((gi h 193 a_15).toInt64) &&& 4294967295)), none]) gX5_provide rfl rfl rfl rfl (Nat.le_of_ble_eq_true rfl) gX9_push (fun _ => Nat.le_of_ble_eq_true rfl) (fun _ => rfl) ⟨a_18, hr, ho, T_kv ?_⟩
    refine T.mono w (fun rr h_16 hw => ?_)
    obtain ⟨hr, w⟩ := hw
    refine ⟨hr, ?_⟩
    refine T_goto (tgt := 129) gX5_provide rfl (by decide) ?_
    exact T_rv gX5_provide rfl rfl w
  rw [if_neg hc] at w
  refine sw_cons (fun hc => ?_) (fun hc => ?_)
  · rw [if_pos hc] at w
    refine T_run (n := 1) (pc' := 102) (lv' := [some (tR (some a0)), some (tR r1)]) (st' := [tR (some a0)]) (h' := h) gX5_provide rfl ?_
    obtain ⟨ho, w⟩ := w
    refine T_gs (tR (gr h 324 a0)) gX5_provide rfl rfl ⟨ho, ?_⟩
    refine T_run (n := 1) (pc' := 106) (lv' := [some (tR (some a0)), some (tR r1)]) (st' := [tR r1, tR (gr h 324 a0)]) (h' := h) gX5_provide rfl ?_
    obtain ⟨a_19, he, ho, w⟩ := w
    refine T_gf (fun a_19 => tI (gi h 194 a_19)) gX5_provide rfl (fun _ => rfl) ⟨a_19, he, ho, ?_⟩
    refine T_run (n := 1) (pc' := 110) (lv' := [some (tR (some a0)), some (tR r1)]) (st' := [tL ((gi h 194 a_19).toInt64), tR (gr h 324 a0)]) (h' := h) gX5_provide rfl ?_
    refine T_kb (v := 32) gX5_provide rfl (by decide) ?_
    refine T_run (n := 2) (pc' := 114) (lv' := [some (tR (some a0)), some (tR r1)]) (st' := [tR r1, tL (((gi h 194 a_19).toInt64) <<< ((32 : Int32).toInt64 &&& 63)), tR (gr h 324 a0)]) (h' := h) gX5_provide rfl ?_
    obtain ⟨a_20, he, ho, w⟩ := w
    refine T_gf (fun a_20 => tI (gi h 193 a_20)) gX5_provide rfl (fun _ => rfl) ⟨a_20, he, ho, ?_⟩
    refine T_run (n := 1) (pc' := 118) (lv' := [some (tR (some a0)), some (tR r1)]) (st' := [tL ((gi h 193 a_20).toInt64), tL (((gi h 194 a_19).toInt64) <<< ((32 : Int32).toInt64 &&& 63)), tR (gr h 324 a0)]) (h' := h) gX5_provide rfl ?_
    refine T_kl2 (v := 4294967295) gX5_provide rfl (by decide) ?_
    refine T_run (n := 2) (pc' := 123) (lv' := [some (tR (some a0)), some (tR r1)]) (st' := [tL ((((gi h 194 a_19).toInt64) <<< ((32 : Int32).toInt64 &&& 63)) ||| (((gi h 193 a_20).toInt64) &&& 4294967295)), tR (gr h 324 a0)]) (h' := h) gX5_provide rfl ?_
    obtain ⟨a_23, hr, ho, w⟩ := w
    refine T_cv (fun aa => [some (tR (some aa)), some (tL ((((gi h 194 a_19).toInt64) <<< ((32 : Int32).toInt64 &&& 63)) ||| (((gi h 193 a_20).toInt64) &&& 4294967295))), none]) gX5_provide rfl rfl rfl rfl (Nat.le_of_ble_eq_true rfl) gX9_push (fun _ => Nat.le_of_ble_eq_true rfl) (fun _ => rfl) ⟨a_23, hr, ho, T_kv ?_⟩
    refine T.mono w (fun rr h_21 hw => ?_)
    obtain ⟨hr, w⟩ := hw
    refine ⟨hr, ?_⟩
    refine T_goto (tgt := 129) gX5_provide rfl (by decide) ?_
    exact T_rv gX5_provide rfl rfl w
  rw [if_neg hc] at w
  exact T_rv gX5_provide rfl rfl w
set_option maxHeartbeats 4000000 in
set_option maxRecDepth 20000 in
theorem wX5_divide (a0 : Nat) (y1 : Int64) (y3 : Int64) (h : Hp) (Q : Option TV → Hp → Prop) (w :
(if y3 = 0 then
ob h a0 5 (tX5_trap a0 11 h (rV (fun h_4 =>
Q none h_4)))
else
ob h a0 5 (
(¬ y3 = 0) ∧
dr (gr h 324 a0) (fun a_3 => ob h a_3 8 (tX9_push a_3 (y1 / y3) h (rV (fun h_1 =>
Q none h_1))))))) : tX5_divide a0 y1 y3 h Q := by
  refine T_run (n := 1) (pc' := 1) (lv' := [some (tR (some a0)), some (tL y1), none, some (tL y3), none]) (st' := [tL y3]) (h' := h) gX5_divide rfl ?_
  refine T_kj (v := 0) gX5_divide rfl (by decide) ?_
  refine T_run (n := 1) (pc' := 3) (lv' := [some (tR (some a0)), some (tL y1), none, some (tL y3), none]) (st' := [tI (lg_cmp y3 0)]) (h' := h) gX5_divide rfl ?_
  replace w := c_ne (if_iff (lg_eq y3 0) w)
  refine T_if (tgt := 15) gX5_divide rfl (by decide) (fun hc => ?_) (fun hc => ?_)
  · replace w := w.1 hc
    refine T_run (n := 1) (pc' := 16) (lv' := [some (tR (some a0)), some (tL y1), none, some (tL y3), none]) (st' := [tR (some a0)]) (h' := h) gX5_divide rfl ?_
    obtain ⟨ho, w⟩ := w
    refine T_gs (tR (gr h 324 a0)) gX5_divide rfl rfl ⟨ho, ?_⟩
    refine T_run (n := 2) (pc' := 21) (lv' := [some (tR (some a0)), some (tL y1), none, some (tL y3), none]) (st' := [tL y3, tL y1, tR (gr h 324 a0)]) (h' := h) gX5_divide rfl ?_
    refine T_ldv gX5_divide rfl ⟨w.1, ?_⟩
    replace w := w.2
    obtain ⟨a_3, hr, ho, w⟩ := w
    refine T_cv (fun aa => [some (tR (some aa)), some (tL (y1 / y3)), none]) gX5_divide rfl rfl rfl rfl (Nat.le_of_ble_eq_true rfl) gX9_push (fun _ => Nat.le_of_ble_eq_true rfl) (fun _ => rfl) ⟨a_3, hr, ho, T_kv ?_⟩
    refine T.mono w (fun rr h_1 hw => ?_)
    obtain ⟨hr, w⟩ := hw
    refine ⟨hr, ?_⟩
    exact T_rv gX5_divide rfl rfl w
  · replace w := w.2 hc
    refine T_run (n := 1) (pc' := 7) (lv' := [some (tR (some a0)), some (tL y1), none, some (tL y3), none]) (st' := [tR (some a0)]) (h' := h) gX5_divide rfl ?_
    refine T_kb (v := 11) gX5_divide rfl (by decide) ?_
    obtain ⟨ho, w⟩ := w
    refine T_cv (fun aa => [some (tR (some aa)), some (tI 11)]) gX5_divide rfl rfl rfl rfl (Nat.le_of_ble_eq_true rfl) gX5_trap (fun _ => Nat.le_of_ble_eq_true rfl) (fun _ => rfl) ⟨a0, rfl, ho, T_kv ?_⟩
    refine T.mono w (fun rr h_4 hw => ?_)
    obtain ⟨hr, w⟩ := hw
    refine ⟨hr, ?_⟩
    refine T_goto (tgt := 25) gX5_divide rfl (by decide) ?_
    exact T_rv gX5_divide rfl rfl w
set_option maxHeartbeats 4000000 in
set_option maxRecDepth 20000 in
theorem wX7_isOf64 (x0 : Int32) (h : Hp) (Q : Option TV → Hp → Prop) (w :
(if x0 = 81 then
Q (some (tI 1)) h
else
(if x0 = 83 then
Q (some (tI 1)) h
else
(if x0 < 124 then
Q (some (tI 0)) h
else
(if 126 < x0 then
Q (some (tI 0)) h
else
Q (some (tI 1)) h))))) : tX7_isOf64 x0 h Q := by
  refine T_run (n := 1) (pc' := 1) (lv' := [some (tI x0)]) (st' := [tI x0]) (h' := h) gX7_isOf64 rfl ?_
  refine T_kb (v := 81) gX7_isOf64 rfl (by decide) ?_
  replace w := c_eq w
  refine T_ic (tgt := 24) gX7_isOf64 rfl (by decide) (fun hc => ?_) (fun hc => ?_)
  · replace w := w.1 hc
    refine T_kn (v := 1) gX7_isOf64 rfl (by decide) ?_
    refine T_goto (tgt := 29) gX7_isOf64 rfl (by decide) ?_
    exact T_rz gX7_isOf64 rfl rfl (Or.inr rfl) w
  · replace w := w.2 hc
    refine T_run (n := 1) (pc' := 7) (lv' := [some (tI x0)]) (st' := [tI x0]) (h' := h) gX7_isOf64 rfl ?_
    refine T_kb (v := 83) gX7_isOf64 rfl (by decide) ?_
    replace w := c_eq w
    refine T_ic (tgt := 24) gX7_isOf64 rfl (by decide) (fun hc => ?_) (fun hc => ?_)
    · replace w := w.1 hc
      refine T_kn (v := 1) gX7_isOf64 rfl (by decide) ?_
      refine T_goto (tgt := 29) gX7_isOf64 rfl (by decide) ?_
      exact T_rz gX7_isOf64 rfl rfl (Or.inr rfl) w
    · replace w := w.2 hc
      refine T_run (n := 1) (pc' := 13) (lv' := [some (tI x0)]) (st' := [tI x0]) (h' := h) gX7_isOf64 rfl ?_
      refine T_kb (v := 124) gX7_isOf64 rfl (by decide) ?_
      replace w := c_lt w
      refine T_ic (tgt := 28) gX7_isOf64 rfl (by decide) (fun hc => ?_) (fun hc => ?_)
      · replace w := w.1 hc
        refine T_kn (v := 0) gX7_isOf64 rfl (by decide) ?_
        exact T_rz gX7_isOf64 rfl rfl (Or.inl rfl) w
      · replace w := w.2 hc
        refine T_run (n := 1) (pc' := 19) (lv' := [some (tI x0)]) (st' := [tI x0]) (h' := h) gX7_isOf64 rfl ?_
        refine T_kb (v := 126) gX7_isOf64 rfl (by decide) ?_
        replace w := c_gt w
        refine T_ic (tgt := 28) gX7_isOf64 rfl (by decide) (fun hc => ?_) (fun hc => ?_)
        · replace w := w.1 hc
          refine T_kn (v := 0) gX7_isOf64 rfl (by decide) ?_
          exact T_rz gX7_isOf64 rfl rfl (Or.inl rfl) w
        · replace w := w.2 hc
          refine T_kn (v := 1) gX7_isOf64 rfl (by decide) ?_
          refine T_goto (tgt := 29) gX7_isOf64 rfl (by decide) ?_
          exact T_rz gX7_isOf64 rfl rfl (Or.inr rfl) w
set_option maxHeartbeats 4000000 in
set_option maxRecDepth 20000 in
theorem wX7_of64 (x0 : Int32) (y1 : Int64) (y3 : Int64) (h : Hp) (Q : Option TV → Hp → Prop) (w :
(if x0 = 81 then
(if y1 = y3 then
Q (some (tL 1)) h
else
Q (some (tL 0)) h)
else
(if x0 = 83 then
(if y1 < y3 then
Q (some (tL 1)) h
else
Q (some (tL 0)) h)
else
(if x0 = 124 then
Q (some (tL (y1 + y3))) h
else
(if x0 = 125 then
Q (some (tL (y1 - y3))) h
else
(if x0 = 126 then
Q (some (tL (y1 * y3))) h
else
Q (some (tL 0)) h)))))) : tX7_of64 x0 y1 y3 h Q := by
  refine T_run (n := 1) (pc' := 1) (lv' := [some (tI x0), some (tL y1), none, some (tL y3), none]) (st' := [tI x0]) (h' := h) gX7_of64 rfl ?_
  refine T_lsw (dt := 88) (cs := [(81, 52), (83, 64), (124, 76), (125, 80), (126, 84)]) gX7_of64 rfl (by decide) (by decide) ?_
  refine sw_cons (fun hc => ?_) (fun hc => ?_)
  · rw [if_pos hc] at w
    refine T_run (n := 3) (pc' := 55) (lv' := [some (tI x0), some (tL y1), none, some (tL y3), none]) (st' := [tI (lg_cmp y1 y3)]) (h' := h) gX7_of64 rfl ?_
    replace w := c_ne (if_iff (lg_eq y1 y3) w)
    refine T_if (tgt := 62) gX7_of64 rfl (by decide) (fun hc => ?_) (fun hc => ?_)
    · replace w := w.1 hc
      refine T_kj (v := 0) gX7_of64 rfl (by decide) ?_
      exact T_rl gX7_of64 rfl rfl w
    · replace w := w.2 hc
      refine T_kj (v := 1) gX7_of64 rfl (by decide) ?_
      refine T_goto (tgt := 63) gX7_of64 rfl (by decide) ?_
      exact T_rl gX7_of64 rfl rfl w
  rw [if_neg hc] at w
  refine sw_cons (fun hc => ?_) (fun hc => ?_)
  · rw [if_pos hc] at w
    refine T_run (n := 3) (pc' := 67) (lv' := [some (tI x0), some (tL y1), none, some (tL y3), none]) (st' := [tI (lg_cmp y1 y3)]) (h' := h) gX7_of64 rfl ?_
    replace w := c_ge (if_iff (lg_lt y1 y3) w)
    refine T_if (tgt := 74) gX7_of64 rfl (by decide) (fun hc => ?_) (fun hc => ?_)
    · replace w := w.1 hc
      refine T_kj (v := 0) gX7_of64 rfl (by decide) ?_
      exact T_rl gX7_of64 rfl rfl w
    · replace w := w.2 hc
      refine T_kj (v := 1) gX7_of64 rfl (by decide) ?_
      refine T_goto (tgt := 75) gX7_of64 rfl (by decide) ?_
      exact T_rl gX7_of64 rfl rfl w
  rw [if_neg hc] at w
  refine sw_cons (fun hc => ?_) (fun hc => ?_)
  · rw [if_pos hc] at w
    refine T_run (n := 3) (pc' := 79) (lv' := [some (tI x0), some (tL y1), none, some (tL y3), none]) (st' := [tL (y1 + y3)]) (h' := h) gX7_of64 rfl ?_
    exact T_rl gX7_of64 rfl rfl w
  rw [if_neg hc] at w
  refine sw_cons (fun hc => ?_) (fun hc => ?_)
  · rw [if_pos hc] at w
    refine T_run (n := 3) (pc' := 83) (lv' := [some (tI x0), some (tL y1), none, some (tL y3), none]) (st' := [tL (y1 - y3)]) (h' := h) gX7_of64 rfl ?_
    exact T_rl gX7_of64 rfl rfl w
  rw [if_neg hc] at w
  refine sw_cons (fun hc => ?_) (fun hc => ?_)
  · rw [if_pos hc] at w
    refine T_run (n := 3) (pc' := 87) (lv' := [some (tI x0), some (tL y1), none, some (tL y3), none]) (st' := [tL (y1 * y3)]) (h' := h) gX7_of64 rfl ?_
    exact T_rl gX7_of64 rfl rfl w
  rw [if_neg hc] at w
  refine T_kj (v := 0) gX7_of64 rfl (by decide) ?_
  exact T_rl gX7_of64 rfl rfl w
set_option maxHeartbeats 4000000 in
set_option maxRecDepth 20000 in
theorem wX7_of32 (x0 : Int32) (x1 : Int32) (x2 : Int32) (h : Hp) (Q : Option TV → Hp → Prop) (w :
(if x0 = 70 then
(if x1 = x2 then
Q (some (tI 1)) h
else
Q (some (tI 0)) h)
else
(if x0 = 71 then
(if x1 = x2 then
Q (some (tI 0)) h
else
Q (some (tI 1)) h)
else
(if x0 = 72 then
(if x1 < x2 then
Q (some (tI 1)) h
else
Q (some (tI 0)) h)
else
(if x0 = 73 then
(if (x1.toInt64 &&& 4294967295) < (x2.toInt64 &&& 4294967295) then
Q (some (tI 1)) h
else
Q (some (tI 0)) h)
else
(if x0 = 106 then
Q (some (tI (x1 + x2))) h
else
(if x0 = 107 then
Q (some (tI (x1 - x2))) h
else
(if x0 = 108 then
Q (some (tI (x1 * x2))) h
else
(if x0 = 113 then
Q (some (tI (x1 &&& x2))) h
else
(if x0 = 116 then
Q (some (tI (x1 <<< ((x2 &&& 31) &&& 31)))) h
else
Q (some (tI 0)) h)))))))))) : tX7_of32 x0 x1 x2 h Q := by
  refine T_run (n := 1) (pc' := 1) (lv' := [some (tI x0), some (tI x1), some (tI x2)]) (st' := [tI x0]) (h' := h) gX7_of32 rfl ?_
  refine T_lsw (dt := 162) (cs := [(70, 84), (71, 95), (72, 106), (73, 117), (106, 139), (107, 143), (108, 147), (113, 151), (116, 155)]) gX7_of32 rfl (by decide) (by decide) ?_
  refine sw_cons (fun hc => ?_) (fun hc => ?_)
  · rw [if_pos hc] at w
    refine T_run (n := 2) (pc' := 86) (lv' := [some (tI x0), some (tI x1), some (tI x2)]) (st' := [tI x2, tI x1]) (h' := h) gX7_of32 rfl ?_
    replace w := c_ne w
    refine T_ic (tgt := 93) gX7_of32 rfl (by decide) (fun hc => ?_) (fun hc => ?_)
    · replace w := w.1 hc
      refine T_kn (v := 0) gX7_of32 rfl (by decide) ?_
      exact T_ri gX7_of32 rfl rfl w
    · replace w := w.2 hc
      refine T_kn (v := 1) gX7_of32 rfl (by decide) ?_
      refine T_goto (tgt := 94) gX7_of32 rfl (by decide) ?_
      exact T_ri gX7_of32 rfl rfl w
  rw [if_neg hc] at w
  refine sw_cons (fun hc => ?_) (fun hc => ?_)
  · rw [if_pos hc] at w
    refine T_run (n := 2) (pc' := 97) (lv' := [some (tI x0), some (tI x1), some (tI x2)]) (st' := [tI x2, tI x1]) (h' := h) gX7_of32 rfl ?_
    replace w := c_eq w
    refine T_ic (tgt := 104) gX7_of32 rfl (by decide) (fun hc => ?_) (fun hc => ?_)
    · replace w := w.1 hc
      refine T_kn (v := 0) gX7_of32 rfl (by decide) ?_
      exact T_ri gX7_of32 rfl rfl w
    · replace w := w.2 hc
      refine T_kn (v := 1) gX7_of32 rfl (by decide) ?_
      refine T_goto (tgt := 105) gX7_of32 rfl (by decide) ?_
      exact T_ri gX7_of32 rfl rfl w
  rw [if_neg hc] at w
  refine sw_cons (fun hc => ?_) (fun hc => ?_)
  · rw [if_pos hc] at w
    refine T_run (n := 2) (pc' := 108) (lv' := [some (tI x0), some (tI x1), some (tI x2)]) (st' := [tI x2, tI x1]) (h' := h) gX7_of32 rfl ?_
    replace w := c_ge w
    refine T_ic (tgt := 115) gX7_of32 rfl (by decide) (fun hc => ?_) (fun hc => ?_)
    · replace w := w.1 hc
      refine T_kn (v := 0) gX7_of32 rfl (by decide) ?_
      exact T_ri gX7_of32 rfl rfl w
    · replace w := w.2 hc
      refine T_kn (v := 1) gX7_of32 rfl (by decide) ?_
      refine T_goto (tgt := 116) gX7_of32 rfl (by decide) ?_
      exact T_ri gX7_of32 rfl rfl w
  rw [if_neg hc] at w
  refine sw_cons (fun hc => ?_) (fun hc => ?_)
  · rw [if_pos hc] at w
    refine T_run (n := 2) (pc' := 119) (lv' := [some (tI x0), some (tI x1), some (tI x2)]) (st' := [tL x1.toInt64]) (h' := h) gX7_of32 rfl ?_
    refine T_kl2 (v := 4294967295) gX7_of32 rfl (by decide) ?_
    refine T_run (n := 3) (pc' := 125) (lv' := [some (tI x0), some (tI x1), some (tI x2)]) (st' := [tL x2.toInt64, tL (x1.toInt64 &&& 4294967295)]) (h' := h) gX7_of32 rfl ?_
    refine T_kl2 (v := 4294967295) gX7_of32 rfl (by decide) ?_
    refine T_run (n := 2) (pc' := 130) (lv' := [some (tI x0), some (tI x1), some (tI x2)]) (st' := [tI (lg_cmp (x1.toInt64 &&& 4294967295) (x2.toInt64 &&& 4294967295))]) (h' := h) gX7_of32 rfl ?_
    replace w := c_ge (if_iff (lg_lt (x1.toInt64 &&& 4294967295) (x2.toInt64 &&& 4294967295)) w)
    refine T_if (tgt := 137) gX7_of32 rfl (by decide) (fun hc => ?_) (fun hc => ?_)
    · replace w := w.1 hc
      refine T_kn (v := 0) gX7_of32 rfl (by decide) ?_
      exact T_ri gX7_of32 rfl rfl w
    · replace w := w.2 hc
      refine T_kn (v := 1) gX7_of32 rfl (by decide) ?_
      refine T_goto (tgt := 138) gX7_of32 rfl (by decide) ?_
      exact T_ri gX7_of32 rfl rfl w
  rw [if_neg hc] at w
  refine sw_cons (fun hc => ?_) (fun hc => ?_)
  · rw [if_pos hc] at w
    refine T_run (n := 3) (pc' := 142) (lv' := [some (tI x0), some (tI x1), some (tI x2)]) (st' := [tI (x1 + x2)]) (h' := h) gX7_of32 rfl ?_
    exact T_ri gX7_of32 rfl rfl w
  rw [if_neg hc] at w
  refine sw_cons (fun hc => ?_) (fun hc => ?_)
  · rw [if_pos hc] at w
    refine T_run (n := 3) (pc' := 146) (lv' := [some (tI x0), some (tI x1), some (tI x2)]) (st' := [tI (x1 - x2)]) (h' := h) gX7_of32 rfl ?_
    exact T_ri gX7_of32 rfl rfl w
  rw [if_neg hc] at w
  refine sw_cons (fun hc => ?_) (fun hc => ?_)
  · rw [if_pos hc] at w
    refine T_run (n := 3) (pc' := 150) (lv' := [some (tI x0), some (tI x1), some (tI x2)]) (st' := [tI (x1 * x2)]) (h' := h) gX7_of32 rfl ?_
    exact T_ri gX7_of32 rfl rfl w
  rw [if_neg hc] at w
  refine sw_cons (fun hc => ?_) (fun hc => ?_)
  · rw [if_pos hc] at w
    refine T_run (n := 3) (pc' := 154) (lv' := [some (tI x0), some (tI x1), some (tI x2)]) (st' := [tI (x1 &&& x2)]) (h' := h) gX7_of32 rfl ?_
    exact T_ri gX7_of32 rfl rfl w
  rw [if_neg hc] at w
  refine sw_cons (fun hc => ?_) (fun hc => ?_)
  · rw [if_pos hc] at w
    refine T_run (n := 2) (pc' := 157) (lv' := [some (tI x0), some (tI x1), some (tI x2)]) (st' := [tI x2, tI x1]) (h' := h) gX7_of32 rfl ?_
    refine T_kb (v := 31) gX7_of32 rfl (by decide) ?_
    refine T_run (n := 2) (pc' := 161) (lv' := [some (tI x0), some (tI x1), some (tI x2)]) (st' := [tI (x1 <<< ((x2 &&& 31) &&& 31))]) (h' := h) gX7_of32 rfl ?_
    exact T_ri gX7_of32 rfl rfl w
  rw [if_neg hc] at w
  refine T_kn (v := 0) gX7_of32 rfl (by decide) ?_
  exact T_ri gX7_of32 rfl rfl w
set_option maxHeartbeats 4000000 in
set_option maxRecDepth 20000 in
theorem wX5_computeOfTwo (a0 : Nat) (x1 : Int32) (h : Hp) (Q : Option TV → Hp → Prop) (w :
ob h a0 5 (
dr (gr h 324 a0) (fun a_3 => ob h a_3 8 (tX9_pop a_3  h (rL (fun y_2 h_1 =>
ob h_1 a0 5 (
dr (gr h_1 324 a0) (fun a_6 => ob h_1 a_6 8 (tX9_pop a_6  h_1 (rL (fun y_5 h_4 =>
(if x1 = 110 then
ob h_4 a0 5 (tX5_divide a0 (y_5 &&& 4294967295) (y_2 &&& 4294967295) h_4 (rV (fun h_19 =>
Q none h_19)))
else
tX7_isOf64 x1 h_4 (rI (fun x_8 h_7 =>
(if x_8 = 0 then
ob h_7 a0 5 (
tX7_of32 x1 y_5.toInt32 y_2.toInt32 h_7 (rI (fun x_10 h_9 =>
dr (gr h_7 324 a0) (fun a_13 => ob h_9 a_13 8 (tX9_push a_13 (x_10.toInt64 &&& 4294967295) h_9 (rV (fun h_11 =>
Q none h_11)))))))
else
ob h_7 a0 5 (
tX7_of64 x1 y_5 y_2 h_7 (rL (fun y_15 h_14 =>
dr (gr h_7 324 a0) (fun a_18 => ob h_14 a_18 8 (tX9_push a_18 y_15 h_14 (rV (fun h_16 =>
Q none h_16)))))))))))))))))))))) : tX5_computeOfTwo a0 x1 h Q := by
  refine T_run (n := 1) (pc' := 1) (lv' := [some (tR (some a0)), some (tI x1), none, none, none, none]) (st' := [tR (some a0)]) (h' := h) gX5_computeOfTwo rfl ?_
  obtain ⟨ho, w⟩ := w
  refine T_gs (tR (gr h 324 a0)) gX5_computeOfTwo rfl rfl ⟨ho, ?_⟩
  obtain ⟨a_3, hr, ho, w⟩ := w
  refine T_cv (fun aa => [some (tR (some aa))]) gX5_computeOfTwo rfl rfl rfl rfl (Nat.le_of_ble_eq_true rfl) gX9_pop (fun _ => Nat.le_of_ble_eq_true rfl) (fun _ => rfl) ⟨a_3, hr, ho, T_kl ?_⟩
  refine T.mono w (fun rr h_1 hw => ?_)
  obtain ⟨y_2, hr, w⟩ := hw
  refine ⟨y_2, hr, ?_⟩
  refine T_run (n := 2) (pc' := 9) (lv' := [some (tR (some a0)), some (tI x1), some (tL y_2), none, none, none]) (st' := [tR (some a0)]) (h' := h_1) gX5_computeOfTwo rfl ?_
  obtain ⟨ho, w⟩ := w
  refine T_gs (tR (gr h_1 324 a0)) gX5_computeOfTwo rfl rfl ⟨ho, ?_⟩
  obtain ⟨a_6, hr, ho, w⟩ := w
  refine T_cv (fun aa => [some (tR (some aa))]) gX5_computeOfTwo rfl rfl rfl rfl (Nat.le_of_ble_eq_true rfl) gX9_pop (fun _ => Nat.le_of_ble_eq_true rfl) (fun _ => rfl) ⟨a_6, hr, ho, T_kl ?_⟩
  refine T.mono w (fun rr h_4 hw => ?_)
  obtain ⟨y_5, hr, w⟩ := hw
  refine ⟨y_5, hr, ?_⟩
  refine T_run (n := 2) (pc' := 18) (lv' := [some (tR (some a0)), some (tI x1), some (tL y_2), none, some (tL y_5), none]) (st' := [tI x1]) (h' := h_4) gX5_computeOfTwo rfl ?_
  refine T_kb (v := 110) gX5_computeOfTwo rfl (by decide) ?_
  replace w := c_ne w
  refine T_ic (tgt := 41) gX5_computeOfTwo rfl (by decide) (fun hc => ?_) (fun hc => ?_)
  · replace w := w.1 hc
    refine T_run (n := 1) (pc' := 42) (lv' := [some (tR (some a0)), some (tI x1), some (tL y_2), none, some (tL y_5), none]) (st' := [tI x1]) (h' := h_4) gX5_computeOfTwo rfl ?_
    refine T_cs (lv' := [some (tI x1)]) gX5_computeOfTwo rfl rfl rfl rfl (Nat.le_of_ble_eq_true rfl) gX7_isOf64 (Nat.le_of_ble_eq_true rfl) rfl (T_ki ?_)
    refine T.mono w (fun rr h_7 hw => ?_)
    obtain ⟨x_8, hr, w⟩ := hw
    refine ⟨x_8, hr, ?_⟩
    replace w := c_eq w
    refine T_if (tgt := 65) gX5_computeOfTwo rfl (by decide) (fun hc => ?_) (fun hc => ?_)
    · replace w := w.1 hc
      refine T_run (n := 1) (pc' := 66) (lv' := [some (tR (some a0)), some (tI x1), some (tL y_2), none, some (tL y_5), none]) (st' := [tR (some a0)]) (h' := h_7) gX5_computeOfTwo rfl ?_
      obtain ⟨ho, w⟩ := w
      refine T_gs (tR (gr h_7 324 a0)) gX5_computeOfTwo rfl rfl ⟨ho, ?_⟩
      refine T_run (n := 5) (pc' := 75) (lv' := [some (tR (some a0)), some (tI x1), some (tL y_2), none, some (tL y_5), none]) (st' := [tI y_2.toInt32, tI y_5.toInt32, tI x1, tR (gr h_7 324 a0)]) (h' := h_7) gX5_computeOfTwo rfl ?_
      refine T_cs (lv' := [some (tI x1), some (tI y_5.toInt32), some (tI y_2.toInt32)]) gX5_computeOfTwo rfl rfl rfl rfl (Nat.le_of_ble_eq_true rfl) gX7_of32 (Nat.le_of_ble_eq_true rfl) rfl (T_ki ?_)
      refine T.mono w (fun rr h_9 hw => ?_)
      obtain ⟨x_10, hr, w⟩ := hw
      refine ⟨x_10, hr, ?_⟩
      refine T_run (n := 1) (pc' := 79) (lv' := [some (tR (some a0)), some (tI x1), some (tL y_2), none, some (tL y_5), none]) (st' := [tL x_10.toInt64, tR (gr h_7 324 a0)]) (h' := h_9) gX5_computeOfTwo rfl ?_
      refine T_kl2 (v := 4294967295) gX5_computeOfTwo rfl (by decide) ?_
      refine T_run (n := 1) (pc' := 83) (lv' := [some (tR (some a0)), some (tI x1), some (tL y_2), none, some (tL y_5), none]) (st' := [tL (x_10.toInt64 &&& 4294967295), tR (gr h_7 324 a0)]) (h' := h_9) gX5_computeOfTwo rfl ?_
      obtain ⟨a_13, hr, ho, w⟩ := w
      refine T_cv (fun aa => [some (tR (some aa)), some (tL (x_10.toInt64 &&& 4294967295)), none]) gX5_computeOfTwo rfl rfl rfl rfl (Nat.le_of_ble_eq_true rfl) gX9_push (fun _ => Nat.le_of_ble_eq_true rfl) (fun _ => rfl) ⟨a_13, hr, ho, T_kv ?_⟩
      refine T.mono w (fun rr h_11 hw => ?_)
      obtain ⟨hr, w⟩ := hw
      refine ⟨hr, ?_⟩
      exact T_rv gX5_computeOfTwo rfl rfl w
    · replace w := w.2 hc
      refine T_run (n := 1) (pc' := 49) (lv' := [some (tR (some a0)), some (tI x1), some (tL y_2), none, some (tL y_5), none]) (st' := [tR (some a0)]) (h' := h_7) gX5_computeOfTwo rfl ?_
      obtain ⟨ho, w⟩ := w
      refine T_gs (tR (gr h_7 324 a0)) gX5_computeOfTwo rfl rfl ⟨ho, ?_⟩
      refine T_run (n := 3) (pc' := 56) (lv' := [some (tR (some a0)), some (tI x1), some (tL y_2), none, some (tL y_5), none]) (st' := [tL y_2, tL y_5, tI x1, tR (gr h_7 324 a0)]) (h' := h_7) gX5_computeOfTwo rfl ?_
      refine T_cs (lv' := [some (tI x1), some (tL y_5), none, some (tL y_2), none]) gX5_computeOfTwo rfl rfl rfl rfl (Nat.le_of_ble_eq_true rfl) gX7_of64 (Nat.le_of_ble_eq_true rfl) rfl (T_kl ?_)
      refine T.mono w (fun rr h_14 hw => ?_)
      obtain ⟨y_15, hr, w⟩ := hw
      refine ⟨y_15, hr, ?_⟩
      obtain ⟨a_18, hr, ho, w⟩ := w
      refine T_cv (fun aa => [some (tR (some aa)), some (tL y_15), none]) gX5_computeOfTwo rfl rfl rfl rfl (Nat.le_of_ble_eq_true rfl) gX9_push (fun _ => Nat.le_of_ble_eq_true rfl) (fun _ => rfl) ⟨a_18, hr, ho, T_kv ?_⟩
      refine T.mono w (fun rr h_16 hw => ?_)
      obtain ⟨hr, w⟩ := hw
      refine ⟨hr, ?_⟩
      refine T_goto (tgt := 86) gX5_computeOfTwo rfl (by decide) ?_
      exact T_rv gX5_computeOfTwo rfl rfl w
  · replace w := w.2 hc
    refine T_run (n := 2) (pc' := 26) (lv' := [some (tR (some a0)), some (tI x1), some (tL y_2), none, some (tL y_5), none]) (st' := [tL y_5, tR (some a0)]) (h' := h_4) gX5_computeOfTwo rfl ?_
    refine T_kl2 (v := 4294967295) gX5_computeOfTwo rfl (by decide) ?_
    refine T_run (n := 2) (pc' := 31) (lv' := [some (tR (some a0)), some (tI x1), some (tL y_2), none, some (tL y_5), none]) (st' := [tL y_2, tL (y_5 &&& 4294967295), tR (some a0)]) (h' := h_4) gX5_computeOfTwo rfl ?_
    refine T_kl2 (v := 4294967295) gX5_computeOfTwo rfl (by decide) ?_
    refine T_run (n := 1) (pc' := 35) (lv' := [some (tR (some a0)), some (tI x1), some (tL y_2), none, some (tL y_5), none]) (st' := [tL (y_2 &&& 4294967295), tL (y_5 &&& 4294967295), tR (some a0)]) (h' := h_4) gX5_computeOfTwo rfl ?_
    obtain ⟨ho, w⟩ := w
    refine T_cv (fun aa => [some (tR (some aa)), some (tL (y_5 &&& 4294967295)), none, some (tL (y_2 &&& 4294967295)), none]) gX5_computeOfTwo rfl rfl rfl rfl (Nat.le_of_ble_eq_true rfl) gX5_divide (fun _ => Nat.le_of_ble_eq_true rfl) (fun _ => rfl) ⟨a0, rfl, ho, T_kv ?_⟩
    refine T.mono w (fun rr h_19 hw => ?_)
    obtain ⟨hr, w⟩ := hw
    refine ⟨hr, ?_⟩
    refine T_goto (tgt := 86) gX5_computeOfTwo rfl (by decide) ?_
    exact T_rv gX5_computeOfTwo rfl rfl w
set_option maxHeartbeats 4000000 in
set_option maxRecDepth 20000 in
theorem wX5_computeOfOne (a0 : Nat) (x1 : Int32) (h : Hp) (Q : Option TV → Hp → Prop) (w :
ob h a0 5 (
dr (gr h 324 a0) (fun a_3 => ob h a_3 8 (tX9_pop a_3  h (rL (fun y_2 h_1 =>
(if x1 = 69 then
ob h_1 a0 5 (
tX7_isTrue y_2 h_1 (rI (fun x_5 h_4 =>
(if x_5 = 0 then
tX5_computeOfOne_68 a0 1 (gr h_1 324 a0) h_4 Q
else
tX5_computeOfOne_68 a0 0 (gr h_1 324 a0) h_4 Q))))
else
(if x1 = 80 then
ob h_1 a0 5 (
(if y_2 = 0 then
tX5_computeOfOne_89 a0 1 (gr h_1 324 a0) h_1 Q
else
tX5_computeOfOne_89 a0 0 (gr h_1 324 a0) h_1 Q))
else
(if x1 = 167 then
ob h_1 a0 5 (
dr (gr h_1 324 a0) (fun a_8 => ob h_1 a_8 8 (tX9_push a_8 (y_2 &&& 4294967295) h_1 (rV (fun h_6 =>
Q none h_6)))))
else
(if x1 = 173 then
ob h_1 a0 5 (
dr (gr h_1 324 a0) (fun a_11 => ob h_1 a_11 8 (tX9_push a_11 (y_2 &&& 4294967295) h_1 (rV (fun h_9 =>
Q none h_9)))))
else
Q none h_1)))))))))) : tX5_computeOfOne a0 x1 h Q := by
  refine T_run (n := 1) (pc' := 1) (lv' := [some (tR (some a0)), some (tI x1), none, none]) (st' := [tR (some a0)]) (h' := h) gX5_computeOfOne rfl ?_
  obtain ⟨ho, w⟩ := w
  refine T_gs (tR (gr h 324 a0)) gX5_computeOfOne rfl rfl ⟨ho, ?_⟩
  obtain ⟨a_3, hr, ho, w⟩ := w
  refine T_cv (fun aa => [some (tR (some aa))]) gX5_computeOfOne rfl rfl rfl rfl (Nat.le_of_ble_eq_true rfl) gX9_pop (fun _ => Nat.le_of_ble_eq_true rfl) (fun _ => rfl) ⟨a_3, hr, ho, T_kl ?_⟩
  refine T.mono w (fun rr h_1 hw => ?_)
  obtain ⟨y_2, hr, w⟩ := hw
  refine ⟨y_2, hr, ?_⟩
  refine T_run (n := 2) (pc' := 9) (lv' := [some (tR (some a0)), some (tI x1), some (tL y_2), none]) (st' := [tI x1]) (h' := h_1) gX5_computeOfOne rfl ?_
  refine T_lsw (dt := 110) (cs := [(69, 52), (80, 74), (167, 95), (173, 95)]) gX5_computeOfOne rfl (by decide) (by decide) ?_
  refine sw_cons (fun hc => ?_) (fun hc => ?_)
  · rw [if_pos hc] at w
    refine T_run (n := 1) (pc' := 53) (lv' := [some (tR (some a0)), some (tI x1), some (tL y_2), none]) (st' := [tR (some a0)]) (h' := h_1) gX5_computeOfOne rfl ?_
    obtain ⟨ho, w⟩ := w
    refine T_gs (tR (gr h_1 324 a0)) gX5_computeOfOne rfl rfl ⟨ho, ?_⟩
    refine T_run (n := 1) (pc' := 57) (lv' := [some (tR (some a0)), some (tI x1), some (tL y_2), none]) (st' := [tL y_2, tR (gr h_1 324 a0)]) (h' := h_1) gX5_computeOfOne rfl ?_
    refine T_cs (lv' := [some (tL y_2), none]) gX5_computeOfOne rfl rfl rfl rfl (Nat.le_of_ble_eq_true rfl) gX7_isTrue (Nat.le_of_ble_eq_true rfl) rfl (T_ki ?_)
    refine T.mono w (fun rr h_4 hw => ?_)
    obtain ⟨x_5, hr, w⟩ := hw
    refine ⟨x_5, hr, ?_⟩
    replace w := c_eq w
    refine T_if (tgt := 67) gX5_computeOfOne rfl (by decide) (fun hc => ?_) (fun hc => ?_)
    · replace w := w.1 hc
      refine T_kj (v := 1) gX5_computeOfOne rfl (by decide) ?_
      exact T_wk w (leE (leN (leN (leN le0))))
    · replace w := w.2 hc
      refine T_kj (v := 0) gX5_computeOfOne rfl (by decide) ?_
      refine T_goto (tgt := 68) gX5_computeOfOne rfl (by decide) ?_
      exact T_wk w (leE (leN (leN (leN le0))))
  rw [if_neg hc] at w
  refine sw_cons (fun hc => ?_) (fun hc => ?_)
  · rw [if_pos hc] at w
    refine T_run (n := 1) (pc' := 75) (lv' := [some (tR (some a0)), some (tI x1), some (tL y_2), none]) (st' := [tR (some a0)]) (h' := h_1) gX5_computeOfOne rfl ?_
    obtain ⟨ho, w⟩ := w
    refine T_gs (tR (gr h_1 324 a0)) gX5_computeOfOne rfl rfl ⟨ho, ?_⟩
    refine T_run (n := 1) (pc' := 79) (lv' := [some (tR (some a0)), some (tI x1), some (tL y_2), none]) (st' := [tL y_2, tR (gr h_1 324 a0)]) (h' := h_1) gX5_computeOfOne rfl ?_
    refine T_kj (v := 0) gX5_computeOfOne rfl (by decide) ?_
    refine T_run (n := 1) (pc' := 81) (lv' := [some (tR (some a0)), some (tI x1), some (tL y_2), none]) (st' := [tI (lg_cmp y_2 0), tR (gr h_1 324 a0)]) (h' := h_1) gX5_computeOfOne rfl ?_
    replace w := c_ne (if_iff (lg_eq y_2 0) w)
    refine T_if (tgt := 88) gX5_computeOfOne rfl (by decide) (fun hc => ?_) (fun hc => ?_)
    · replace w := w.1 hc
      refine T_kj (v := 0) gX5_computeOfOne rfl (by decide) ?_
      exact T_wk w (leE (leN (leN (leN le0))))
    · replace w := w.2 hc
      refine T_kj (v := 1) gX5_computeOfOne rfl (by decide) ?_
      refine T_goto (tgt := 89) gX5_computeOfOne rfl (by decide) ?_
      exact T_wk w (leE (leN (leN (leN le0))))
  rw [if_neg hc] at w
  refine sw_cons (fun hc => ?_) (fun hc => ?_)
  · rw [if_pos hc] at w
    refine T_run (n := 1) (pc' := 96) (lv' := [some (tR (some a0)), some (tI x1), some (tL y_2), none]) (st' := [tR (some a0)]) (h' := h_1) gX5_computeOfOne rfl ?_
    obtain ⟨ho, w⟩ := w
    refine T_gs (tR (gr h_1 324 a0)) gX5_computeOfOne rfl rfl ⟨ho, ?_⟩
    refine T_run (n := 1) (pc' := 100) (lv' := [some (tR (some a0)), some (tI x1), some (tL y_2), none]) (st' := [tL y_2, tR (gr h_1 324 a0)]) (h' := h_1) gX5_computeOfOne rfl ?_
    refine T_kl2 (v := 4294967295) gX5_computeOfOne rfl (by decide) ?_
    refine T_run (n := 1) (pc' := 104) (lv' := [some (tR (some a0)), some (tI x1), some (tL y_2), none]) (st' := [tL (y_2 &&& 4294967295), tR (gr h_1 324 a0)]) (h' := h_1) gX5_computeOfOne rfl ?_
    obtain ⟨a_8, hr, ho, w⟩ := w
    refine T_cv (fun aa => [some (tR (some aa)), some (tL (y_2 &&& 4294967295)), none]) gX5_computeOfOne rfl rfl rfl rfl (Nat.le_of_ble_eq_true rfl) gX9_push (fun _ => Nat.le_of_ble_eq_true rfl) (fun _ => rfl) ⟨a_8, hr, ho, T_kv ?_⟩
    refine T.mono w (fun rr h_6 hw => ?_)
    obtain ⟨hr, w⟩ := hw
    refine ⟨hr, ?_⟩
    refine T_goto (tgt := 110) gX5_computeOfOne rfl (by decide) ?_
    exact T_rv gX5_computeOfOne rfl rfl w
  rw [if_neg hc] at w
  refine sw_cons (fun hc => ?_) (fun hc => ?_)
  · rw [if_pos hc] at w
    refine T_run (n := 1) (pc' := 96) (lv' := [some (tR (some a0)), some (tI x1), some (tL y_2), none]) (st' := [tR (some a0)]) (h' := h_1) gX5_computeOfOne rfl ?_
    obtain ⟨ho, w⟩ := w
    refine T_gs (tR (gr h_1 324 a0)) gX5_computeOfOne rfl rfl ⟨ho, ?_⟩
    refine T_run (n := 1) (pc' := 100) (lv' := [some (tR (some a0)), some (tI x1), some (tL y_2), none]) (st' := [tL y_2, tR (gr h_1 324 a0)]) (h' := h_1) gX5_computeOfOne rfl ?_
    refine T_kl2 (v := 4294967295) gX5_computeOfOne rfl (by decide) ?_
    refine T_run (n := 1) (pc' := 104) (lv' := [some (tR (some a0)), some (tI x1), some (tL y_2), none]) (st' := [tL (y_2 &&& 4294967295), tR (gr h_1 324 a0)]) (h' := h_1) gX5_computeOfOne rfl ?_
    obtain ⟨a_11, hr, ho, w⟩ := w
    refine T_cv (fun aa => [some (tR (some aa)), some (tL (y_2 &&& 4294967295)), none]) gX5_computeOfOne rfl rfl rfl rfl (Nat.le_of_ble_eq_true rfl) gX9_push (fun _ => Nat.le_of_ble_eq_true rfl) (fun _ => rfl) ⟨a_11, hr, ho, T_kv ?_⟩
    refine T.mono w (fun rr h_9 hw => ?_)
    obtain ⟨hr, w⟩ := hw
    refine ⟨hr, ?_⟩
    refine T_goto (tgt := 110) gX5_computeOfOne rfl (by decide) ?_
    exact T_rv gX5_computeOfOne rfl rfl w
  rw [if_neg hc] at w
  exact T_rv gX5_computeOfOne rfl rfl w
set_option maxHeartbeats 4000000 in
set_option maxRecDepth 20000 in
theorem wX5_computeOfOne_68 (a0 : Nat) (s0 : Int64) (s1 : Option Nat) (h : Hp) (Q : Option TV → Hp → Prop) (w :
dr s1 (fun a_3 => ob h a_3 8 (tX9_push a_3 s0 h (rV (fun h_1 =>
Q none h_1))))) : tX5_computeOfOne_68 a0 s0 s1 h Q := by
  obtain ⟨a_3, hr, ho, w⟩ := w
  refine T_cv (fun aa => [some (tR (some aa)), some (tL s0), none]) gX5_computeOfOne rfl rfl rfl rfl (Nat.le_of_ble_eq_true rfl) gX9_push (fun _ => Nat.le_of_ble_eq_true rfl) (fun _ => rfl) ⟨a_3, hr, ho, T_kv ?_⟩
  refine T.mono w (fun rr h_1 hw => ?_)
  obtain ⟨hr, w⟩ := hw
  refine ⟨hr, ?_⟩
  refine T_goto (tgt := 110) gX5_computeOfOne rfl (by decide) ?_
  exact T_rv gX5_computeOfOne rfl rfl w
set_option maxHeartbeats 4000000 in
set_option maxRecDepth 20000 in
theorem wX5_computeOfOne_89 (a0 : Nat) (s0 : Int64) (s1 : Option Nat) (h : Hp) (Q : Option TV → Hp → Prop) (w :
dr s1 (fun a_3 => ob h a_3 8 (tX9_push a_3 s0 h (rV (fun h_1 =>
Q none h_1))))) : tX5_computeOfOne_89 a0 s0 s1 h Q := by
  obtain ⟨a_3, hr, ho, w⟩ := w
  refine T_cv (fun aa => [some (tR (some aa)), some (tL s0), none]) gX5_computeOfOne rfl rfl rfl rfl (Nat.le_of_ble_eq_true rfl) gX9_push (fun _ => Nat.le_of_ble_eq_true rfl) (fun _ => rfl) ⟨a_3, hr, ho, T_kv ?_⟩
  refine T.mono w (fun rr h_1 hw => ?_)
  obtain ⟨hr, w⟩ := hw
  refine ⟨hr, ?_⟩
  refine T_goto (tgt := 110) gX5_computeOfOne rfl (by decide) ?_
  exact T_rv gX5_computeOfOne rfl rfl w
set_option maxHeartbeats 4000000 in
set_option maxRecDepth 20000 in
theorem wX5_step (a0 : Nat) (h : Hp) (Q : Option TV → Hp → Prop) (w :
ob h a0 5 (tX5_innermost a0  h (rR (fun r_2 h_1 =>
(if r_2 = none then
Q none h_1
else
dr r_2 (fun a_3 => ob h_1 a_3 1 (
(if (gr h_1 66 a_3) = none then
Q none h_1
else
dr r_2 (fun a_4 => ob h_1 a_4 1 (
dr (gr h_1 66 a_4) (fun a_5 => ob h_1 a_5 3 (
dr r_2 (fun a_7 => ob h_1 a_7 1 (∀ h_6, h_6 = pr h_1 66 a_7 (gr h_1 198 a_5) →
dr (gr h_1 66 a_4) (fun a_8 => ob h_6 a_8 3 (
(if (gi h_6 192 a_8) < 26 then
ob h_6 a0 5 (tX5_control a0 r_2 (gr h_1 66 a_4) h_6 (rV (fun h_30 =>
tX5_step_147 a0 h_30 Q)))
else
dr (gr h_1 66 a_4) (fun a_9 => ob h_6 a_9 3 (
(if (gi h_6 192 a_9) < 40 then
ob h_6 a0 5 (tX5_move a0 r_2 (gr h_1 66 a_4) h_6 (rV (fun h_28 =>
tX5_step_147 a0 h_28 Q)))
else
dr (gr h_1 66 a_4) (fun a_10 => ob h_6 a_10 3 (
(if (gi h_6 192 a_10) < 54 then
ob h_6 a0 5 (tX5_load a0 (gr h_1 66 a_4) h_6 (rV (fun h_26 =>
tX5_step_147 a0 h_26 Q)))
else
dr (gr h_1 66 a_4) (fun a_11 => ob h_6 a_11 3 (
(if 62 < (gi h_6 192 a_11) then
dr (gr h_1 66 a_4) (fun a_12 => ob h_6 a_12 3 (
(if (gi h_6 192 a_12) < 69 then
ob h_6 a0 5 (tX5_provide a0 (gr h_1 66 a_4) h_6 (rV (fun h_22 =>
tX5_step_147 a0 h_22 Q)))
else
dr (gr h_1 66 a_4) (fun a_13 => ob h_6 a_13 3 (
tX7_takenBy (gi h_6 192 a_13) h_6 (rI (fun x_15 h_14 =>
(if x_15 = 2 then
dr (gr h_1 66 a_4) (fun a_19 => ob h_14 a_19 3 (
ob h_14 a0 5 (tX5_computeOfTwo a0 (gi h_14 192 a_19) h_14 (rV (fun h_20 =>
tX5_step_147 a0 h_20 Q)))))
else
dr (gr h_1 66 a_4) (fun a_16 => ob h_14 a_16 3 (
ob h_14 a0 5 (tX5_computeOfOne a0 (gi h_14 192 a_16) h_14 (rV (fun h_17 =>
tX5_step_147 a0 h_17 Q)))))))))))))
else
ob h_6 a0 5 (tX5_store a0 (gr h_1 66 a_4) h_6 (rV (fun h_24 =>
tX5_step_147 a0 h_24 Q))))))))))))))))))))))))))))) : tX5_step a0 h Q := by
  refine T_run (n := 1) (pc' := 1) (lv' := [some (tR (some a0)), none, none]) (st' := [tR (some a0)]) (h' := h) gX5_step rfl ?_
  obtain ⟨ho, w⟩ := w
  refine T_cv (fun aa => [some (tR (some aa))]) gX5_step rfl rfl rfl rfl (Nat.le_of_ble_eq_true rfl) gX5_innermost (fun _ => Nat.le_of_ble_eq_true rfl) (fun _ => rfl) ⟨a0, rfl, ho, T_kr ?_⟩
  refine T.mono w (fun rr h_1 hw => ?_)
  obtain ⟨r_2, hr, w⟩ := hw
  refine ⟨r_2, hr, ?_⟩
  refine T_run (n := 2) (pc' := 6) (lv' := [some (tR (some a0)), some (tR r_2), none]) (st' := [tR r_2]) (h' := h_1) gX5_step rfl ?_
  refine T_nu2 (tgt := 16) gX5_step rfl (by decide) (fun hc => ?_) (fun hc => ?_)
  · rw [if_pos hc] at w
    exact T_rv gX5_step rfl rfl w
  · rw [if_neg hc] at w
    refine T_run (n := 1) (pc' := 10) (lv' := [some (tR (some a0)), some (tR r_2), none]) (st' := [tR r_2]) (h' := h_1) gX5_step rfl ?_
    obtain ⟨a_3, he, ho, w⟩ := w
    refine T_gf (fun a_3 => tR (gr h_1 66 a_3)) gX5_step rfl (fun _ => rfl) ⟨a_3, he, ho, ?_⟩
    refine T_nn2 (tgt := 17) gX5_step rfl (by decide) (fun hc => ?_) (fun hc => ?_)
    · rw [if_neg hc] at w
      refine T_run (n := 1) (pc' := 18) (lv' := [some (tR (some a0)), some (tR r_2), none]) (st' := [tR r_2]) (h' := h_1) gX5_step rfl ?_
      obtain ⟨a_4, he, ho, w⟩ := w
      refine T_gf (fun a_4 => tR (gr h_1 66 a_4)) gX5_step rfl (fun _ => rfl) ⟨a_4, he, ho, ?_⟩
      refine T_run (n := 3) (pc' := 24) (lv' := [some (tR (some a0)), some (tR r_2), some (tR (gr h_1 66 a_4))]) (st' := [tR (gr h_1 66 a_4), tR r_2]) (h' := h_1) gX5_step rfl ?_
      obtain ⟨a_5, he, ho, w⟩ := w
      refine T_gf (fun a_5 => tR (gr h_1 198 a_5)) gX5_step rfl (fun _ => rfl) ⟨a_5, he, ho, ?_⟩
      obtain ⟨a_7, hr, ho, w⟩ := w
      refine T_pf (fun a_7 => pr h_1 66 a_7 (gr h_1 198 a_5)) gX5_step rfl (fun _ => rfl) ⟨a_7, hr, ho, fun h_6 he => ?_⟩
      replace w := w h_6 he
      refine T_run (n := 1) (pc' := 31) (lv' := [some (tR (some a0)), some (tR r_2), some (tR (gr h_1 66 a_4))]) (st' := [tR (gr h_1 66 a_4)]) (h' := h_6) gX5_step rfl ?_
      obtain ⟨a_8, he, ho, w⟩ := w
      refine T_gf (fun a_8 => tI (gi h_6 192 a_8)) gX5_step rfl (fun _ => rfl) ⟨a_8, he, ho, ?_⟩
      refine T_kb (v := 26) gX5_step rfl (by decide) ?_
      replace w := c_ge w
      refine T_ic (tgt := 48) gX5_step rfl (by decide) (fun hc => ?_) (fun hc => ?_)
      · replace w := w.1 hc
        refine T_run (n := 1) (pc' := 49) (lv' := [some (tR (some a0)), some (tR r_2), some (tR (gr h_1 66 a_4))]) (st' := [tR (gr h_1 66 a_4)]) (h' := h_6) gX5_step rfl ?_
        obtain ⟨a_9, he, ho, w⟩ := w
        refine T_gf (fun a_9 => tI (gi h_6 192 a_9)) gX5_step rfl (fun _ => rfl) ⟨a_9, he, ho, ?_⟩
        refine T_kb (v := 40) gX5_step rfl (by decide) ?_
        replace w := c_ge w
        refine T_ic (tgt := 66) gX5_step rfl (by decide) (fun hc => ?_) (fun hc => ?_)
        · replace w := w.1 hc
          refine T_run (n := 1) (pc' := 67) (lv' := [some (tR (some a0)), some (tR r_2), some (tR (gr h_1 66 a_4))]) (st' := [tR (gr h_1 66 a_4)]) (h' := h_6) gX5_step rfl ?_
          obtain ⟨a_10, he, ho, w⟩ := w
          refine T_gf (fun a_10 => tI (gi h_6 192 a_10)) gX5_step rfl (fun _ => rfl) ⟨a_10, he, ho, ?_⟩
          refine T_kb (v := 54) gX5_step rfl (by decide) ?_
          replace w := c_ge w
          refine T_ic (tgt := 83) gX5_step rfl (by decide) (fun hc => ?_) (fun hc => ?_)
          · replace w := w.1 hc
            refine T_run (n := 1) (pc' := 84) (lv' := [some (tR (some a0)), some (tR r_2), some (tR (gr h_1 66 a_4))]) (st' := [tR (gr h_1 66 a_4)]) (h' := h_6) gX5_step rfl ?_
            obtain ⟨a_11, he, ho, w⟩ := w
            refine T_gf (fun a_11 => tI (gi h_6 192 a_11)) gX5_step rfl (fun _ => rfl) ⟨a_11, he, ho, ?_⟩
            refine T_kb (v := 62) gX5_step rfl (by decide) ?_
            replace w := c_gt w
            refine T_ic (tgt := 100) gX5_step rfl (by decide) (fun hc => ?_) (fun hc => ?_)
            · replace w := w.1 hc
              refine T_run (n := 1) (pc' := 101) (lv' := [some (tR (some a0)), some (tR r_2), some (tR (gr h_1 66 a_4))]) (st' := [tR (gr h_1 66 a_4)]) (h' := h_6) gX5_step rfl ?_
              obtain ⟨a_12, he, ho, w⟩ := w
              refine T_gf (fun a_12 => tI (gi h_6 192 a_12)) gX5_step rfl (fun _ => rfl) ⟨a_12, he, ho, ?_⟩
              refine T_kb (v := 69) gX5_step rfl (by decide) ?_
              replace w := c_ge w
              refine T_ic (tgt := 117) gX5_step rfl (by decide) (fun hc => ?_) (fun hc => ?_)
              · replace w := w.1 hc
                refine T_run (n := 1) (pc' := 118) (lv' := [some (tR (some a0)), some (tR r_2), some (tR (gr h_1 66 a_4))]) (st' := [tR (gr h_1 66 a_4)]) (h' := h_6) gX5_step rfl ?_
                obtain ⟨a_13, he, ho, w⟩ := w
                refine T_gf (fun a_13 => tI (gi h_6 192 a_13)) gX5_step rfl (fun _ => rfl) ⟨a_13, he, ho, ?_⟩
                refine T_cs (lv' := [some (tI (gi h_6 192 a_13))]) gX5_step rfl rfl rfl rfl (Nat.le_of_ble_eq_true rfl) gX7_takenBy (Nat.le_of_ble_eq_true rfl) rfl (T_ki ?_)
                refine T.mono w (fun rr h_14 hw => ?_)
                obtain ⟨x_15, hr, w⟩ := hw
                refine ⟨x_15, hr, ?_⟩
                refine T_kn (v := 2) gX5_step rfl (by decide) ?_
                replace w := c_ne w
                refine T_ic (tgt := 139) gX5_step rfl (by decide) (fun hc => ?_) (fun hc => ?_)
                · replace w := w.1 hc
                  refine T_run (n := 2) (pc' := 141) (lv' := [some (tR (some a0)), some (tR r_2), some (tR (gr h_1 66 a_4))]) (st' := [tR (gr h_1 66 a_4), tR (some a0)]) (h' := h_14) gX5_step rfl ?_
                  obtain ⟨a_16, he, ho, w⟩ := w
                  refine T_gf (fun a_16 => tI (gi h_14 192 a_16)) gX5_step rfl (fun _ => rfl) ⟨a_16, he, ho, ?_⟩
                  obtain ⟨ho, w⟩ := w
                  refine T_cv (fun aa => [some (tR (some aa)), some (tI (gi h_14 192 a_16)), none, none]) gX5_step rfl rfl rfl rfl (Nat.le_of_ble_eq_true rfl) gX5_computeOfOne (fun _ => Nat.le_of_ble_eq_true rfl) (fun _ => rfl) ⟨a0, rfl, ho, T_kv ?_⟩
                  refine T.mono w (fun rr h_17 hw => ?_)
                  obtain ⟨hr, w⟩ := hw
                  refine ⟨hr, ?_⟩
                  exact T_wk w (leE (leN (leN le0)))
                · replace w := w.2 hc
                  refine T_run (n := 2) (pc' := 130) (lv' := [some (tR (some a0)), some (tR r_2), some (tR (gr h_1 66 a_4))]) (st' := [tR (gr h_1 66 a_4), tR (some a0)]) (h' := h_14) gX5_step rfl ?_
                  obtain ⟨a_19, he, ho, w⟩ := w
                  refine T_gf (fun a_19 => tI (gi h_14 192 a_19)) gX5_step rfl (fun _ => rfl) ⟨a_19, he, ho, ?_⟩
                  obtain ⟨ho, w⟩ := w
                  refine T_cv (fun aa => [some (tR (some aa)), some (tI (gi h_14 192 a_19)), none, none, none, none]) gX5_step rfl rfl rfl rfl (Nat.le_of_ble_eq_true rfl) gX5_computeOfTwo (fun _ => Nat.le_of_ble_eq_true rfl) (fun _ => rfl) ⟨a0, rfl, ho, T_kv ?_⟩
                  refine T.mono w (fun rr h_20 hw => ?_)
                  obtain ⟨hr, w⟩ := hw
                  refine ⟨hr, ?_⟩
                  refine T_goto (tgt := 147) gX5_step rfl (by decide) ?_
                  exact T_wk w (leE (leN (leN le0)))
              · replace w := w.2 hc
                refine T_run (n := 2) (pc' := 111) (lv' := [some (tR (some a0)), some (tR r_2), some (tR (gr h_1 66 a_4))]) (st' := [tR (gr h_1 66 a_4), tR (some a0)]) (h' := h_6) gX5_step rfl ?_
                obtain ⟨ho, w⟩ := w
                refine T_cv (fun aa => [some (tR (some aa)), some (tR (gr h_1 66 a_4))]) gX5_step rfl rfl rfl rfl (Nat.le_of_ble_eq_true rfl) gX5_provide (fun _ => Nat.le_of_ble_eq_true rfl) (fun _ => rfl) ⟨a0, rfl, ho, T_kv ?_⟩
                refine T.mono w (fun rr h_22 hw => ?_)
                obtain ⟨hr, w⟩ := hw
                refine ⟨hr, ?_⟩
                refine T_goto (tgt := 147) gX5_step rfl (by decide) ?_
                exact T_wk w (leE (leN (leN le0)))
            · replace w := w.2 hc
              refine T_run (n := 2) (pc' := 94) (lv' := [some (tR (some a0)), some (tR r_2), some (tR (gr h_1 66 a_4))]) (st' := [tR (gr h_1 66 a_4), tR (some a0)]) (h' := h_6) gX5_step rfl ?_
              obtain ⟨ho, w⟩ := w
              refine T_cv (fun aa => [some (tR (some aa)), some (tR (gr h_1 66 a_4)), none, none, none, none, none]) gX5_step rfl rfl rfl rfl (Nat.le_of_ble_eq_true rfl) gX5_store (fun _ => Nat.le_of_ble_eq_true rfl) (fun _ => rfl) ⟨a0, rfl, ho, T_kv ?_⟩
              refine T.mono w (fun rr h_24 hw => ?_)
              obtain ⟨hr, w⟩ := hw
              refine ⟨hr, ?_⟩
              refine T_goto (tgt := 147) gX5_step rfl (by decide) ?_
              exact T_wk w (leE (leN (leN le0)))
          · replace w := w.2 hc
            refine T_run (n := 2) (pc' := 77) (lv' := [some (tR (some a0)), some (tR r_2), some (tR (gr h_1 66 a_4))]) (st' := [tR (gr h_1 66 a_4), tR (some a0)]) (h' := h_6) gX5_step rfl ?_
            obtain ⟨ho, w⟩ := w
            refine T_cv (fun aa => [some (tR (some aa)), some (tR (gr h_1 66 a_4)), none, none, none]) gX5_step rfl rfl rfl rfl (Nat.le_of_ble_eq_true rfl) gX5_load (fun _ => Nat.le_of_ble_eq_true rfl) (fun _ => rfl) ⟨a0, rfl, ho, T_kv ?_⟩
            refine T.mono w (fun rr h_26 hw => ?_)
            obtain ⟨hr, w⟩ := hw
            refine ⟨hr, ?_⟩
            refine T_goto (tgt := 147) gX5_step rfl (by decide) ?_
            exact T_wk w (leE (leN (leN le0)))
        · replace w := w.2 hc
          refine T_run (n := 3) (pc' := 60) (lv' := [some (tR (some a0)), some (tR r_2), some (tR (gr h_1 66 a_4))]) (st' := [tR (gr h_1 66 a_4), tR r_2, tR (some a0)]) (h' := h_6) gX5_step rfl ?_
          obtain ⟨ho, w⟩ := w
          refine T_cv (fun aa => [some (tR (some aa)), some (tR r_2), some (tR (gr h_1 66 a_4))]) gX5_step rfl rfl rfl rfl (Nat.le_of_ble_eq_true rfl) gX5_move (fun _ => Nat.le_of_ble_eq_true rfl) (fun _ => rfl) ⟨a0, rfl, ho, T_kv ?_⟩
          refine T.mono w (fun rr h_28 hw => ?_)
          obtain ⟨hr, w⟩ := hw
          refine ⟨hr, ?_⟩
          refine T_goto (tgt := 147) gX5_step rfl (by decide) ?_
          exact T_wk w (leE (leN (leN le0)))
      · replace w := w.2 hc
        refine T_run (n := 3) (pc' := 42) (lv' := [some (tR (some a0)), some (tR r_2), some (tR (gr h_1 66 a_4))]) (st' := [tR (gr h_1 66 a_4), tR r_2, tR (some a0)]) (h' := h_6) gX5_step rfl ?_
        obtain ⟨ho, w⟩ := w
        refine T_cv (fun aa => [some (tR (some aa)), some (tR r_2), some (tR (gr h_1 66 a_4))]) gX5_step rfl rfl rfl rfl (Nat.le_of_ble_eq_true rfl) gX5_control (fun _ => Nat.le_of_ble_eq_true rfl) (fun _ => rfl) ⟨a0, rfl, ho, T_kv ?_⟩
        refine T.mono w (fun rr h_30 hw => ?_)
        obtain ⟨hr, w⟩ := hw
        refine ⟨hr, ?_⟩
        refine T_goto (tgt := 147) gX5_step rfl (by decide) ?_
        exact T_wk w (leE (leN (leN le0)))
    · rw [if_pos hc] at w
      exact T_rv gX5_step rfl rfl w
set_option maxHeartbeats 4000000 in
set_option maxRecDepth 20000 in
theorem wX5_step_147 (a0 : Nat) (h : Hp) (Q : Option TV → Hp → Prop) (w :
ob h a0 5 (tX5_leaveWhatIsOver a0  h (rV (fun h_1 =>
Q none h_1)))) : tX5_step_147 a0 h Q := by
  refine T_run (n := 1) (pc' := 148) (lv' := [some (tR (some a0)), none, none]) (st' := [tR (some a0)]) (h' := h) gX5_step rfl ?_
  obtain ⟨ho, w⟩ := w
  refine T_cv (fun aa => [some (tR (some aa)), none, none]) gX5_step rfl rfl rfl rfl (Nat.le_of_ble_eq_true rfl) gX5_leaveWhatIsOver (fun _ => Nat.le_of_ble_eq_true rfl) (fun _ => rfl) ⟨a0, rfl, ho, T_kv ?_⟩
  refine T.mono w (fun rr h_1 hw => ?_)
  obtain ⟨hr, w⟩ := hw
  refine ⟨hr, ?_⟩
  exact T_rv gX5_step rfl rfl w
set_option maxHeartbeats 4000000 in
set_option maxRecDepth 20000 in
theorem wX5_advance (a0 : Nat) (x1 : Int32) (h : Hp) (Q : Option TV → Hp → Prop) (w :
tX5_advance_4 a0 x1 0 0 h Q) : tX5_advance a0 x1 h Q := by
  refine T_kn (v := 0) gX5_advance rfl (by decide) ?_
  refine T_run (n := 1) (pc' := 2) (lv' := [some (tR (some a0)), some (tI x1), some (tI 0), none]) (st' := []) (h' := h) gX5_advance rfl ?_
  refine T_kn (v := 0) gX5_advance rfl (by decide) ?_
  refine T_run (n := 1) (pc' := 4) (lv' := [some (tR (some a0)), some (tI x1), some (tI 0), some (tI 0)]) (st' := []) (h' := h) gX5_advance rfl ?_
  exact w
set_option maxHeartbeats 4000000 in
set_option maxRecDepth 20000 in
theorem wX5_advance_4 (a0 : Nat) (x1 : Int32) (x2 : Int32) (x3 : Int32) (h : Hp) (Q : Option TV → Hp → Prop) (w :
(if x3 < x1 then
ob h a0 5 (tX5_isGoing a0  h (rI (fun x_3 h_2 =>
(if x_3 = 0 then
ob h_2 a0 5 (
ob h_2 a0 5 (∀ h_4, h_4 = pi h_2 329 a0 ((gi h_2 329 a0) + x2) →
Q (some (tI x2)) h_4))
else
ob h_2 a0 5 (tX5_step a0  h_2 (rV (fun h_5 =>
tX5_advance_4 a0 x1 (x2 + 1) (x3 + 1) h_5 Q)))))))
else
ob h a0 5 (
ob h a0 5 (∀ h_1, h_1 = pi h 329 a0 ((gi h 329 a0) + x2) →
Q (some (tI x2)) h_1)))) : tX5_advance_4 a0 x1 x2 x3 h Q := by
  refine T_run (n := 2) (pc' := 6) (lv' := [some (tR (some a0)), some (tI x1), some (tI x2), some (tI x3)]) (st' := [tI x1, tI x3]) (h' := h) gX5_advance rfl ?_
  replace w := c_ge w
  refine T_ic (tgt := 29) gX5_advance rfl (by decide) (fun hc => ?_) (fun hc => ?_)
  · replace w := w.1 hc
    refine T_run (n := 2) (pc' := 31) (lv' := [some (tR (some a0)), some (tI x1), some (tI x2), some (tI x3)]) (st' := [tR (some a0), tR (some a0)]) (h' := h) gX5_advance rfl ?_
    obtain ⟨ho, w⟩ := w
    refine T_gs (tI (gi h 329 a0)) gX5_advance rfl rfl ⟨ho, ?_⟩
    refine T_run (n := 2) (pc' := 36) (lv' := [some (tR (some a0)), some (tI x1), some (tI x2), some (tI x3)]) (st' := [tI ((gi h 329 a0) + x2), tR (some a0)]) (h' := h) gX5_advance rfl ?_
    obtain ⟨ho, w⟩ := w
    refine T_ps (pi h 329 a0 ((gi h 329 a0) + x2)) gX5_advance rfl rfl ⟨ho, fun h_1 he => ?_⟩
    replace w := w h_1 he
    refine T_run (n := 1) (pc' := 40) (lv' := [some (tR (some a0)), some (tI x1), some (tI x2), some (tI x3)]) (st' := [tI x2]) (h' := h_1) gX5_advance rfl ?_
    exact T_ri gX5_advance rfl rfl w
  · replace w := w.2 hc
    refine T_run (n := 1) (pc' := 10) (lv' := [some (tR (some a0)), some (tI x1), some (tI x2), some (tI x3)]) (st' := [tR (some a0)]) (h' := h) gX5_advance rfl ?_
    obtain ⟨ho, w⟩ := w
    refine T_cv (fun aa => [some (tR (some aa))]) gX5_advance rfl rfl rfl rfl (Nat.le_of_ble_eq_true rfl) gX5_isGoing (fun _ => Nat.le_of_ble_eq_true rfl) (fun _ => rfl) ⟨a0, rfl, ho, T_ki ?_⟩
    refine T.mono w (fun rr h_2 hw => ?_)
    obtain ⟨x_3, hr, w⟩ := hw
    refine ⟨x_3, hr, ?_⟩
    replace w := c_eq w
    refine T_if (tgt := 29) gX5_advance rfl (by decide) (fun hc => ?_) (fun hc => ?_)
    · replace w := w.1 hc
      refine T_run (n := 2) (pc' := 31) (lv' := [some (tR (some a0)), some (tI x1), some (tI x2), some (tI x3)]) (st' := [tR (some a0), tR (some a0)]) (h' := h_2) gX5_advance rfl ?_
      obtain ⟨ho, w⟩ := w
      refine T_gs (tI (gi h_2 329 a0)) gX5_advance rfl rfl ⟨ho, ?_⟩
      refine T_run (n := 2) (pc' := 36) (lv' := [some (tR (some a0)), some (tI x1), some (tI x2), some (tI x3)]) (st' := [tI ((gi h_2 329 a0) + x2), tR (some a0)]) (h' := h_2) gX5_advance rfl ?_
      obtain ⟨ho, w⟩ := w
      refine T_ps (pi h_2 329 a0 ((gi h_2 329 a0) + x2)) gX5_advance rfl rfl ⟨ho, fun h_4 he => ?_⟩
      replace w := w h_4 he
      refine T_run (n := 1) (pc' := 40) (lv' := [some (tR (some a0)), some (tI x1), some (tI x2), some (tI x3)]) (st' := [tI x2]) (h' := h_4) gX5_advance rfl ?_
      exact T_ri gX5_advance rfl rfl w
    · replace w := w.2 hc
      refine T_run (n := 1) (pc' := 17) (lv' := [some (tR (some a0)), some (tI x1), some (tI x2), some (tI x3)]) (st' := [tR (some a0)]) (h' := h_2) gX5_advance rfl ?_
      obtain ⟨ho, w⟩ := w
      refine T_cv (fun aa => [some (tR (some aa)), none, none]) gX5_advance rfl rfl rfl rfl (Nat.le_of_ble_eq_true rfl) gX5_step (fun _ => Nat.le_of_ble_eq_true rfl) (fun _ => rfl) ⟨a0, rfl, ho, T_kv ?_⟩
      refine T.mono w (fun rr h_5 hw => ?_)
      obtain ⟨hr, w⟩ := hw
      refine ⟨hr, ?_⟩
      refine T_inc (x := x2) (c := 1) (lv' := [some (tR (some a0)), some (tI x1), some (tI (x2 + 1)), some (tI x3)]) gX5_advance rfl rfl (by decide) rfl ?_
      refine T_inc (x := x3) (c := 1) (lv' := [some (tR (some a0)), some (tI x1), some (tI (x2 + 1)), some (tI (x3 + 1))]) gX5_advance rfl rfl (by decide) rfl ?_
      refine T_goto (tgt := 4) gX5_advance rfl (by decide) ?_
      exact w
set_option maxHeartbeats 4000000 in
set_option maxRecDepth 20000 in
theorem wX10_run (a0 : Nat) (x1 : Int32) (h : Hp) (Q : Option TV → Hp → Prop) (w :
tX10_isWithin x1 2000 h (rI (fun x_2 h_1 =>
(if x_2 = 0 then
Q (some (tI (-1))) h_1
else
ob h_1 a0 9 (
dr (gr h_1 577 a0) (fun a_5 => ob h_1 a_5 5 (tX5_advance a_5 x1 h_1 (rI (fun x_4 h_3 =>
Q (some (tI x_4)) h_3))))))))) : tX10_run a0 x1 h Q := by
  refine T_run (n := 1) (pc' := 1) (lv' := [some (tR (some a0)), some (tI x1)]) (st' := [tI x1]) (h' := h) gX10_run rfl ?_
  refine T_ks (v := 2000) gX10_run rfl (by decide) ?_
  refine T_cs (lv' := [some (tI x1), some (tI 2000)]) gX10_run rfl rfl rfl rfl (Nat.le_of_ble_eq_true rfl) gX10_isWithin (Nat.le_of_ble_eq_true rfl) rfl (T_ki ?_)
  refine T.mono w (fun rr h_1 hw => ?_)
  obtain ⟨x_2, hr, w⟩ := hw
  refine ⟨x_2, hr, ?_⟩
  replace w := c_eq w
  refine T_if (tgt := 21) gX10_run rfl (by decide) (fun hc => ?_) (fun hc => ?_)
  · replace w := w.1 hc
    refine T_kn (v := (-1)) gX10_run rfl (by decide) ?_
    exact T_ri gX10_run rfl rfl w
  · replace w := w.2 hc
    refine T_run (n := 1) (pc' := 11) (lv' := [some (tR (some a0)), some (tI x1)]) (st' := [tR (some a0)]) (h' := h_1) gX10_run rfl ?_
    obtain ⟨ho, w⟩ := w
    refine T_gs (tR (gr h_1 577 a0)) gX10_run rfl rfl ⟨ho, ?_⟩
    refine T_run (n := 1) (pc' := 15) (lv' := [some (tR (some a0)), some (tI x1)]) (st' := [tI x1, tR (gr h_1 577 a0)]) (h' := h_1) gX10_run rfl ?_
    obtain ⟨a_5, hr, ho, w⟩ := w
    refine T_cv (fun aa => [some (tR (some aa)), some (tI x1), none, none]) gX10_run rfl rfl rfl rfl (Nat.le_of_ble_eq_true rfl) gX5_advance (fun _ => Nat.le_of_ble_eq_true rfl) (fun _ => rfl) ⟨a_5, hr, ho, T_ki ?_⟩
    refine T.mono w (fun rr h_3 hw => ?_)
    obtain ⟨x_4, hr, w⟩ := hw
    refine ⟨x_4, hr, ?_⟩
    refine T_goto (tgt := 22) gX10_run rfl (by decide) ?_
    exact T_ri gX10_run rfl rfl w
set_option maxHeartbeats 4000000 in
set_option maxRecDepth 20000 in
theorem wX0_isDead (a0 : Nat) (h : Hp) (Q : Option TV → Hp → Prop) (w :
ob h a0 0 (
(if (gr h 3 a0) = none then
Q (some (tI 0)) h
else
ob h a0 0 (
dr (gr h 3 a0) (fun a_1 => ob h a_1 4 (
(if (gi h 261 a_1) = 0 then
Q (some (tI 0)) h
else
Q (some (tI 1)) h))))))) : tX0_isDead a0 h Q := by
  refine T_run (n := 1) (pc' := 1) (lv' := [some (tR (some a0))]) (st' := [tR (some a0)]) (h' := h) gX0_isDead rfl ?_
  obtain ⟨ho, w⟩ := w
  refine T_gs (tR (gr h 3 a0)) gX0_isDead rfl rfl ⟨ho, ?_⟩
  refine T_nu2 (tgt := 21) gX0_isDead rfl (by decide) (fun hc => ?_) (fun hc => ?_)
  · rw [if_pos hc] at w
    refine T_kn (v := 0) gX0_isDead rfl (by decide) ?_
    exact T_rz gX0_isDead rfl rfl (Or.inl rfl) w
  · rw [if_neg hc] at w
    refine T_run (n := 1) (pc' := 8) (lv' := [some (tR (some a0))]) (st' := [tR (some a0)]) (h' := h) gX0_isDead rfl ?_
    obtain ⟨ho, w⟩ := w
    refine T_gs (tR (gr h 3 a0)) gX0_isDead rfl rfl ⟨ho, ?_⟩
    obtain ⟨a_1, he, ho, w⟩ := w
    refine T_gf (fun a_1 => tI (gi h 261 a_1)) gX0_isDead rfl (fun _ => rfl) ⟨a_1, he, ho, ?_⟩
    replace w := c_eq w
    refine T_if (tgt := 21) gX0_isDead rfl (by decide) (fun hc => ?_) (fun hc => ?_)
    · replace w := w.1 hc
      refine T_kn (v := 0) gX0_isDead rfl (by decide) ?_
      exact T_rz gX0_isDead rfl rfl (Or.inl rfl) w
    · replace w := w.2 hc
      refine T_kn (v := 1) gX0_isDead rfl (by decide) ?_
      refine T_goto (tgt := 22) gX0_isDead rfl (by decide) ?_
      exact T_rz gX0_isDead rfl rfl (Or.inr rfl) w
set_option maxHeartbeats 4000000 in
set_option maxRecDepth 20000 in
theorem wX10_state (a0 : Nat) (x1 : Int32) (h : Hp) (Q : Option TV → Hp → Prop) (w :
(if x1 = 0 then
ob h a0 9 (
dr (gr h 577 a0) (fun a_1 => ob h a_1 5 (
Q (some (tI (gi h 327 a_1))) h)))
else
(if x1 = 1 then
ob h a0 9 (
dr (gr h 577 a0) (fun a_2 => ob h a_2 5 (
Q (some (tI (gi h 328 a_2))) h)))
else
(if x1 = 2 then
ob h a0 9 (
dr (gr h 577 a0) (fun a_5 => ob h a_5 5 (tX5_isGoing a_5  h (rI (fun x_4 h_3 =>
(if x_4 = 0 then
Q (some (tI 0)) h_3
else
ob h_3 a0 9 (
dr (gr h_3 577 a0) (fun a_6 => ob h_3 a_6 5 (
Q (some (tI (gi h_3 326 a_6))) h_3)))))))))
else
(if x1 = 3 then
ob h a0 9 (
dr (gr h 577 a0) (fun a_9 => ob h a_9 5 (tX5_isGoing a_9  h (rI (fun x_8 h_7 =>
(if x_8 = 0 then
Q (some (tI 0)) h_7
else
ob h_7 a0 9 (
dr (gr h_7 577 a0) (fun a_10 => ob h_7 a_10 5 (
dr (gr h_7 324 a_10) (fun a_11 => ob h_7 a_11 8 (
Q (some (tI (gi h_7 513 a_11))) h_7)))))))))))
else
(if x1 = 4 then
ob h a0 9 (
dr (gr h 577 a0) (fun a_12 => ob h a_12 5 (
Q (some (tI (gi h 329 a_12))) h)))
else
(if x1 = 5 then
ob h a0 9 (
dr (gr h 576 a0) (fun a_13 => ob h a_13 7 (
Q (some (tI (gi h 449 a_13))) h)))
else
(if x1 = 6 then
ob h a0 9 (tX10_instructionsInAll a0  h (rI (fun x_15 h_14 =>
Q (some (tI x_15)) h_14)))
else
(if x1 = 7 then
ob h a0 9 (
(if (gr h 580 a0) = none then
Q (some (tI 0)) h
else
ob h a0 9 (
dr (gr h 580 a0) (fun a_16 => ob h a_16 0 (
Q (some (tI (gi h 8 a_16))) h)))))
else
(if x1 = 8 then
ob h a0 9 (
(if (gr h 580 a0) = none then
Q (some (tI 0)) h
else
ob h a0 9 (
dr (gr h 580 a0) (fun a_19 => ob h a_19 0 (tX0_ownOperands a_19  h (rI (fun x_18 h_17 =>
Q (some (tI x_18)) h_17)))))))
else
(if x1 = 9 then
ob h a0 9 (
(if (gr h 580 a0) = none then
Q (some (tI 0)) h
else
ob h a0 9 (
dr (gr h 580 a0) (fun a_22 => ob h a_22 0 (tX0_isDead a_22  h (rI (fun x_21 h_20 =>
(if x_21 = 0 then
Q (some (tI 0)) h_20
else
Q (some (tI 1)) h_20))))))))
else
(if x1 = 10 then
ob h a0 9 (
dr (gr h 577 a0) (fun a_23 => ob h a_23 5 (
dr (gr h 323 a_23) (fun a_24 => ob h a_24 6 (
Q (some (tI (gi h 385 a_24))) h)))))
else
Q (some (tI (-1))) h)))))))))))) : tX10_state a0 x1 h Q := by
  refine T_run (n := 1) (pc' := 1) (lv' := [some (tR (some a0)), some (tI x1)]) (st' := [tI x1]) (h' := h) gX10_state rfl ?_
  refine T_tsw (dt := 216) (cs := [(0, 60), (1, 68), (2, 76), (3, 98), (4, 123), (5, 131), (6, 139), (7, 144), (8, 163), (9, 182), (10, 205)]) gX10_state rfl (by decide) ?_
  refine sw_cons (fun hc => ?_) (fun hc => ?_)
  · rw [if_pos hc] at w
    refine T_run (n := 1) (pc' := 61) (lv' := [some (tR (some a0)), some (tI x1)]) (st' := [tR (some a0)]) (h' := h) gX10_state rfl ?_
    obtain ⟨ho, w⟩ := w
    refine T_gs (tR (gr h 577 a0)) gX10_state rfl rfl ⟨ho, ?_⟩
    obtain ⟨a_1, he, ho, w⟩ := w
    refine T_gf (fun a_1 => tI (gi h 327 a_1)) gX10_state rfl (fun _ => rfl) ⟨a_1, he, ho, ?_⟩
    exact T_ri gX10_state rfl rfl w
  rw [if_neg hc] at w
  refine sw_cons (fun hc => ?_) (fun hc => ?_)
  · rw [if_pos hc] at w
    refine T_run (n := 1) (pc' := 69) (lv' := [some (tR (some a0)), some (tI x1)]) (st' := [tR (some a0)]) (h' := h) gX10_state rfl ?_
    obtain ⟨ho, w⟩ := w
    refine T_gs (tR (gr h 577 a0)) gX10_state rfl rfl ⟨ho, ?_⟩
    obtain ⟨a_2, he, ho, w⟩ := w
    refine T_gf (fun a_2 => tI (gi h 328 a_2)) gX10_state rfl (fun _ => rfl) ⟨a_2, he, ho, ?_⟩
    exact T_ri gX10_state rfl rfl w
  rw [if_neg hc] at w
  refine sw_cons (fun hc => ?_) (fun hc => ?_)
  · rw [if_pos hc] at w
    refine T_run (n := 1) (pc' := 77) (lv' := [some (tR (some a0)), some (tI x1)]) (st' := [tR (some a0)]) (h' := h) gX10_state rfl ?_
    obtain ⟨ho, w⟩ := w
    refine T_gs (tR (gr h 577 a0)) gX10_state rfl rfl ⟨ho, ?_⟩
    obtain ⟨a_5, hr, ho, w⟩ := w
    refine T_cv (fun aa => [some (tR (some aa))]) gX10_state rfl rfl rfl rfl (Nat.le_of_ble_eq_true rfl) gX5_isGoing (fun _ => Nat.le_of_ble_eq_true rfl) (fun _ => rfl) ⟨a_5, hr, ho, T_ki ?_⟩
    refine T.mono w (fun rr h_3 hw => ?_)
    obtain ⟨x_4, hr, w⟩ := hw
    refine ⟨x_4, hr, ?_⟩
    replace w := c_eq w
    refine T_if (tgt := 96) gX10_state rfl (by decide) (fun hc => ?_) (fun hc => ?_)
    · replace w := w.1 hc
      refine T_kn (v := 0) gX10_state rfl (by decide) ?_
      exact T_ri gX10_state rfl rfl w
    · replace w := w.2 hc
      refine T_run (n := 1) (pc' := 87) (lv' := [some (tR (some a0)), some (tI x1)]) (st' := [tR (some a0)]) (h' := h_3) gX10_state rfl ?_
      obtain ⟨ho, w⟩ := w
      refine T_gs (tR (gr h_3 577 a0)) gX10_state rfl rfl ⟨ho, ?_⟩
      obtain ⟨a_6, he, ho, w⟩ := w
      refine T_gf (fun a_6 => tI (gi h_3 326 a_6)) gX10_state rfl (fun _ => rfl) ⟨a_6, he, ho, ?_⟩
      refine T_goto (tgt := 97) gX10_state rfl (by decide) ?_
      exact T_ri gX10_state rfl rfl w
  rw [if_neg hc] at w
  refine sw_cons (fun hc => ?_) (fun hc => ?_)
  · rw [if_pos hc] at w
    refine T_run (n := 1) (pc' := 99) (lv' := [some (tR (some a0)), some (tI x1)]) (st' := [tR (some a0)]) (h' := h) gX10_state rfl ?_
    obtain ⟨ho, w⟩ := w
    refine T_gs (tR (gr h 577 a0)) gX10_state rfl rfl ⟨ho, ?_⟩
    obtain ⟨a_9, hr, ho, w⟩ := w
    refine T_cv (fun aa => [some (tR (some aa))]) gX10_state rfl rfl rfl rfl (Nat.le_of_ble_eq_true rfl) gX5_isGoing (fun _ => Nat.le_of_ble_eq_true rfl) (fun _ => rfl) ⟨a_9, hr, ho, T_ki ?_⟩
    refine T.mono w (fun rr h_7 hw => ?_)
    obtain ⟨x_8, hr, w⟩ := hw
    refine ⟨x_8, hr, ?_⟩
    replace w := c_eq w
    refine T_if (tgt := 121) gX10_state rfl (by decide) (fun hc => ?_) (fun hc => ?_)
    · replace w := w.1 hc
      refine T_kn (v := 0) gX10_state rfl (by decide) ?_
      exact T_ri gX10_state rfl rfl w
    · replace w := w.2 hc
      refine T_run (n := 1) (pc' := 109) (lv' := [some (tR (some a0)), some (tI x1)]) (st' := [tR (some a0)]) (h' := h_7) gX10_state rfl ?_
      obtain ⟨ho, w⟩ := w
      refine T_gs (tR (gr h_7 577 a0)) gX10_state rfl rfl ⟨ho, ?_⟩
      obtain ⟨a_10, he, ho, w⟩ := w
      refine T_gf (fun a_10 => tR (gr h_7 324 a_10)) gX10_state rfl (fun _ => rfl) ⟨a_10, he, ho, ?_⟩
      obtain ⟨a_11, he, ho, w⟩ := w
      refine T_gf (fun a_11 => tI (gi h_7 513 a_11)) gX10_state rfl (fun _ => rfl) ⟨a_11, he, ho, ?_⟩
      refine T_goto (tgt := 122) gX10_state rfl (by decide) ?_
      exact T_ri gX10_state rfl rfl w
  rw [if_neg hc] at w
  refine sw_cons (fun hc => ?_) (fun hc => ?_)
  · rw [if_pos hc] at w
    refine T_run (n := 1) (pc' := 124) (lv' := [some (tR (some a0)), some (tI x1)]) (st' := [tR (some a0)]) (h' := h) gX10_state rfl ?_
    obtain ⟨ho, w⟩ := w
    refine T_gs (tR (gr h 577 a0)) gX10_state rfl rfl ⟨ho, ?_⟩
    obtain ⟨a_12, he, ho, w⟩ := w
    refine T_gf (fun a_12 => tI (gi h 329 a_12)) gX10_state rfl (fun _ => rfl) ⟨a_12, he, ho, ?_⟩
    exact T_ri gX10_state rfl rfl w
  rw [if_neg hc] at w
  refine sw_cons (fun hc => ?_) (fun hc => ?_)
  · rw [if_pos hc] at w
    refine T_run (n := 1) (pc' := 132) (lv' := [some (tR (some a0)), some (tI x1)]) (st' := [tR (some a0)]) (h' := h) gX10_state rfl ?_
    obtain ⟨ho, w⟩ := w
    refine T_gs (tR (gr h 576 a0)) gX10_state rfl rfl ⟨ho, ?_⟩
    obtain ⟨a_13, he, ho, w⟩ := w
    refine T_gf (fun a_13 => tI (gi h 449 a_13)) gX10_state rfl (fun _ => rfl) ⟨a_13, he, ho, ?_⟩
    exact T_ri gX10_state rfl rfl w
  rw [if_neg hc] at w
  refine sw_cons (fun hc => ?_) (fun hc => ?_)
  · rw [if_pos hc] at w
    refine T_run (n := 1) (pc' := 140) (lv' := [some (tR (some a0)), some (tI x1)]) (st' := [tR (some a0)]) (h' := h) gX10_state rfl ?_
    obtain ⟨ho, w⟩ := w
    refine T_cv (fun aa => [some (tR (some aa))]) gX10_state rfl rfl rfl rfl (Nat.le_of_ble_eq_true rfl) gX10_instructionsInAll (fun _ => Nat.le_of_ble_eq_true rfl) (fun _ => rfl) ⟨a0, rfl, ho, T_ki ?_⟩
    refine T.mono w (fun rr h_14 hw => ?_)
    obtain ⟨x_15, hr, w⟩ := hw
    refine ⟨x_15, hr, ?_⟩
    exact T_ri gX10_state rfl rfl w
  rw [if_neg hc] at w
  refine sw_cons (fun hc => ?_) (fun hc => ?_)
  · rw [if_pos hc] at w
    refine T_run (n := 1) (pc' := 145) (lv' := [some (tR (some a0)), some (tI x1)]) (st' := [tR (some a0)]) (h' := h) gX10_state rfl ?_
    obtain ⟨ho, w⟩ := w
    refine T_gs (tR (gr h 580 a0)) gX10_state rfl rfl ⟨ho, ?_⟩
    refine T_nn2 (tgt := 155) gX10_state rfl (by decide) (fun hc => ?_) (fun hc => ?_)
    · rw [if_neg hc] at w
      refine T_run (n := 1) (pc' := 156) (lv' := [some (tR (some a0)), some (tI x1)]) (st' := [tR (some a0)]) (h' := h) gX10_state rfl ?_
      obtain ⟨ho, w⟩ := w
      refine T_gs (tR (gr h 580 a0)) gX10_state rfl rfl ⟨ho, ?_⟩
      obtain ⟨a_16, he, ho, w⟩ := w
      refine T_gf (fun a_16 => tI (gi h 8 a_16)) gX10_state rfl (fun _ => rfl) ⟨a_16, he, ho, ?_⟩
      exact T_ri gX10_state rfl rfl w
    · rw [if_pos hc] at w
      refine T_kn (v := 0) gX10_state rfl (by decide) ?_
      refine T_goto (tgt := 162) gX10_state rfl (by decide) ?_
      exact T_ri gX10_state rfl rfl w
  rw [if_neg hc] at w
  refine sw_cons (fun hc => ?_) (fun hc => ?_)
  · rw [if_pos hc] at w
    refine T_run (n := 1) (pc' := 164) (lv' := [some (tR (some a0)), some (tI x1)]) (st' := [tR (some a0)]) (h' := h) gX10_state rfl ?_
    obtain ⟨ho, w⟩ := w
    refine T_gs (tR (gr h 580 a0)) gX10_state rfl rfl ⟨ho, ?_⟩
    refine T_nn2 (tgt := 174) gX10_state rfl (by decide) (fun hc => ?_) (fun hc => ?_)
    · rw [if_neg hc] at w
      refine T_run (n := 1) (pc' := 175) (lv' := [some (tR (some a0)), some (tI x1)]) (st' := [tR (some a0)]) (h' := h) gX10_state rfl ?_
      obtain ⟨ho, w⟩ := w
      refine T_gs (tR (gr h 580 a0)) gX10_state rfl rfl ⟨ho, ?_⟩
      obtain ⟨a_19, hr, ho, w⟩ := w
      refine T_cv (fun aa => [some (tR (some aa))]) gX10_state rfl rfl rfl rfl (Nat.le_of_ble_eq_true rfl) gX0_ownOperands (fun _ => Nat.le_of_ble_eq_true rfl) (fun _ => rfl) ⟨a_19, hr, ho, T_ki ?_⟩
      refine T.mono w (fun rr h_17 hw => ?_)
      obtain ⟨x_18, hr, w⟩ := hw
      refine ⟨x_18, hr, ?_⟩
      exact T_ri gX10_state rfl rfl w
    · rw [if_pos hc] at w
      refine T_kn (v := 0) gX10_state rfl (by decide) ?_
      refine T_goto (tgt := 181) gX10_state rfl (by decide) ?_
      exact T_ri gX10_state rfl rfl w
  rw [if_neg hc] at w
  refine sw_cons (fun hc => ?_) (fun hc => ?_)
  · rw [if_pos hc] at w
    refine T_run (n := 1) (pc' := 183) (lv' := [some (tR (some a0)), some (tI x1)]) (st' := [tR (some a0)]) (h' := h) gX10_state rfl ?_
    obtain ⟨ho, w⟩ := w
    refine T_gs (tR (gr h 580 a0)) gX10_state rfl rfl ⟨ho, ?_⟩
    refine T_nu2 (tgt := 203) gX10_state rfl (by decide) (fun hc => ?_) (fun hc => ?_)
    · rw [if_pos hc] at w
      refine T_kn (v := 0) gX10_state rfl (by decide) ?_
      exact T_ri gX10_state rfl rfl w
    · rw [if_neg hc] at w
      refine T_run (n := 1) (pc' := 190) (lv' := [some (tR (some a0)), some (tI x1)]) (st' := [tR (some a0)]) (h' := h) gX10_state rfl ?_
      obtain ⟨ho, w⟩ := w
      refine T_gs (tR (gr h 580 a0)) gX10_state rfl rfl ⟨ho, ?_⟩
      obtain ⟨a_22, hr, ho, w⟩ := w
      refine T_cv (fun aa => [some (tR (some aa))]) gX10_state rfl rfl rfl rfl (Nat.le_of_ble_eq_true rfl) gX0_isDead (fun _ => Nat.le_of_ble_eq_true rfl) (fun _ => rfl) ⟨a_22, hr, ho, T_ki ?_⟩
      refine T.mono w (fun rr h_20 hw => ?_)
      obtain ⟨x_21, hr, w⟩ := hw
      refine ⟨x_21, hr, ?_⟩
      replace w := c_eq w
      refine T_if (tgt := 203) gX10_state rfl (by decide) (fun hc => ?_) (fun hc => ?_)
      · replace w := w.1 hc
        refine T_kn (v := 0) gX10_state rfl (by decide) ?_
        exact T_ri gX10_state rfl rfl w
      · replace w := w.2 hc
        refine T_kn (v := 1) gX10_state rfl (by decide) ?_
        refine T_goto (tgt := 204) gX10_state rfl (by decide) ?_
        exact T_ri gX10_state rfl rfl w
  rw [if_neg hc] at w
  refine sw_cons (fun hc => ?_) (fun hc => ?_)
  · rw [if_pos hc] at w
    refine T_run (n := 1) (pc' := 206) (lv' := [some (tR (some a0)), some (tI x1)]) (st' := [tR (some a0)]) (h' := h) gX10_state rfl ?_
    obtain ⟨ho, w⟩ := w
    refine T_gs (tR (gr h 577 a0)) gX10_state rfl rfl ⟨ho, ?_⟩
    obtain ⟨a_23, he, ho, w⟩ := w
    refine T_gf (fun a_23 => tR (gr h 323 a_23)) gX10_state rfl (fun _ => rfl) ⟨a_23, he, ho, ?_⟩
    obtain ⟨a_24, he, ho, w⟩ := w
    refine T_gf (fun a_24 => tI (gi h 385 a_24)) gX10_state rfl (fun _ => rfl) ⟨a_24, he, ho, ?_⟩
    exact T_ri gX10_state rfl rfl w
  rw [if_neg hc] at w
  refine T_kn (v := (-1)) gX10_state rfl (by decide) ?_
  exact T_ri gX10_state rfl rfl w
set_option maxHeartbeats 4000000 in
set_option maxRecDepth 20000 in
theorem wX5_resultAt (a0 : Nat) (x1 : Int32) (h : Hp) (Q : Option TV → Hp → Prop) (w :
ob h a0 5 (
(if (gi h 327 a0) = 2 then
(if x1 < 0 then
Q (some (tL 0)) h
else
ob h a0 5 (
dr (gr h 324 a0) (fun a_1 => ob h a_1 8 (
(if x1 < (gi h 513 a_1) then
ob h a0 5 (
dr (gr h 324 a0) (fun a_4 => ob h a_4 8 (tX9_at a_4 x1 h (rL (fun y_3 h_2 =>
Q (some (tL y_3)) h_2)))))
else
Q (some (tL 0)) h)))))
else
Q (some (tL 0)) h))) : tX5_resultAt a0 x1 h Q := by
  refine T_run (n := 1) (pc' := 1) (lv' := [some (tR (some a0)), some (tI x1)]) (st' := [tR (some a0)]) (h' := h) gX5_resultAt rfl ?_
  obtain ⟨ho, w⟩ := w
  refine T_gs (tI (gi h 327 a0)) gX5_resultAt rfl rfl ⟨ho, ?_⟩
  refine T_kn (v := 2) gX5_resultAt rfl (by decide) ?_
  replace w := c_ne w
  refine T_ic (tgt := 34) gX5_resultAt rfl (by decide) (fun hc => ?_) (fun hc => ?_)
  · replace w := w.1 hc
    refine T_kj (v := 0) gX5_resultAt rfl (by decide) ?_
    exact T_rl gX5_resultAt rfl rfl w
  · replace w := w.2 hc
    refine T_run (n := 1) (pc' := 9) (lv' := [some (tR (some a0)), some (tI x1)]) (st' := [tI x1]) (h' := h) gX5_resultAt rfl ?_
    replace w := c_lt w
    refine T_if (tgt := 34) gX5_resultAt rfl (by decide) (fun hc => ?_) (fun hc => ?_)
    · replace w := w.1 hc
      refine T_kj (v := 0) gX5_resultAt rfl (by decide) ?_
      exact T_rl gX5_resultAt rfl rfl w
    · replace w := w.2 hc
      refine T_run (n := 2) (pc' := 14) (lv' := [some (tR (some a0)), some (tI x1)]) (st' := [tR (some a0), tI x1]) (h' := h) gX5_resultAt rfl ?_
      obtain ⟨ho, w⟩ := w
      refine T_gs (tR (gr h 324 a0)) gX5_resultAt rfl rfl ⟨ho, ?_⟩
      obtain ⟨a_1, he, ho, w⟩ := w
      refine T_gf (fun a_1 => tI (gi h 513 a_1)) gX5_resultAt rfl (fun _ => rfl) ⟨a_1, he, ho, ?_⟩
      replace w := c_ge w
      refine T_ic (tgt := 34) gX5_resultAt rfl (by decide) (fun hc => ?_) (fun hc => ?_)
      · replace w := w.1 hc
        refine T_kj (v := 0) gX5_resultAt rfl (by decide) ?_
        exact T_rl gX5_resultAt rfl rfl w
      · replace w := w.2 hc
        refine T_run (n := 1) (pc' := 24) (lv' := [some (tR (some a0)), some (tI x1)]) (st' := [tR (some a0)]) (h' := h) gX5_resultAt rfl ?_
        obtain ⟨ho, w⟩ := w
        refine T_gs (tR (gr h 324 a0)) gX5_resultAt rfl rfl ⟨ho, ?_⟩
        refine T_run (n := 1) (pc' := 28) (lv' := [some (tR (some a0)), some (tI x1)]) (st' := [tI x1, tR (gr h 324 a0)]) (h' := h) gX5_resultAt rfl ?_
        obtain ⟨a_4, hr, ho, w⟩ := w
        refine T_cv (fun aa => [some (tR (some aa)), some (tI x1)]) gX5_resultAt rfl rfl rfl rfl (Nat.le_of_ble_eq_true rfl) gX9_at (fun _ => Nat.le_of_ble_eq_true rfl) (fun _ => rfl) ⟨a_4, hr, ho, T_kl ?_⟩
        refine T.mono w (fun rr h_2 hw => ?_)
        obtain ⟨y_3, hr, w⟩ := hw
        refine ⟨y_3, hr, ?_⟩
        refine T_goto (tgt := 35) gX5_resultAt rfl (by decide) ?_
        exact T_rl gX5_resultAt rfl rfl w
set_option maxHeartbeats 4000000 in
set_option maxRecDepth 20000 in
theorem wX10_result (a0 : Nat) (x1 : Int32) (h : Hp) (Q : Option TV → Hp → Prop) (w :
ob h a0 9 (
dr (gr h 577 a0) (fun a_3 => ob h a_3 5 (tX5_resultAt a_3 x1 h (rL (fun y_2 h_1 =>
Q (some (tL y_2)) h_1)))))) : tX10_result a0 x1 h Q := by
  refine T_run (n := 1) (pc' := 1) (lv' := [some (tR (some a0)), some (tI x1)]) (st' := [tR (some a0)]) (h' := h) gX10_result rfl ?_
  obtain ⟨ho, w⟩ := w
  refine T_gs (tR (gr h 577 a0)) gX10_result rfl rfl ⟨ho, ?_⟩
  refine T_run (n := 1) (pc' := 5) (lv' := [some (tR (some a0)), some (tI x1)]) (st' := [tI x1, tR (gr h 577 a0)]) (h' := h) gX10_result rfl ?_
  obtain ⟨a_3, hr, ho, w⟩ := w
  refine T_cv (fun aa => [some (tR (some aa)), some (tI x1)]) gX10_result rfl rfl rfl rfl (Nat.le_of_ble_eq_true rfl) gX5_resultAt (fun _ => Nat.le_of_ble_eq_true rfl) (fun _ => rfl) ⟨a_3, hr, ho, T_kl ?_⟩
  refine T.mono w (fun rr h_1 hw => ?_)
  obtain ⟨y_2, hr, w⟩ := hw
  refine ⟨y_2, hr, ?_⟩
  exact T_rl gX10_result rfl rfl w
set_option maxHeartbeats 4000000 in
set_option maxRecDepth 20000 in
theorem wX10_global (a0 : Nat) (x1 : Int32) (h : Hp) (Q : Option TV → Hp → Prop) (w :
ob h a0 9 (
dr (gr h 577 a0) (fun a_3 => ob h a_3 5 (tX5_globalAt a_3 x1 h (rL (fun y_2 h_1 =>
Q (some (tL y_2)) h_1)))))) : tX10_global a0 x1 h Q := by
  refine T_run (n := 1) (pc' := 1) (lv' := [some (tR (some a0)), some (tI x1)]) (st' := [tR (some a0)]) (h' := h) gX10_global rfl ?_
  obtain ⟨ho, w⟩ := w
  refine T_gs (tR (gr h 577 a0)) gX10_global rfl rfl ⟨ho, ?_⟩
  refine T_run (n := 1) (pc' := 5) (lv' := [some (tR (some a0)), some (tI x1)]) (st' := [tI x1, tR (gr h 577 a0)]) (h' := h) gX10_global rfl ?_
  obtain ⟨a_3, hr, ho, w⟩ := w
  refine T_cv (fun aa => [some (tR (some aa)), some (tI x1)]) gX10_global rfl rfl rfl rfl (Nat.le_of_ble_eq_true rfl) gX5_globalAt (fun _ => Nat.le_of_ble_eq_true rfl) (fun _ => rfl) ⟨a_3, hr, ho, T_kl ?_⟩
  refine T.mono w (fun rr h_1 hw => ?_)
  obtain ⟨y_2, hr, w⟩ := hw
  refine ⟨y_2, hr, ?_⟩
  exact T_rl gX10_global rfl rfl w
set_option maxHeartbeats 4000000 in
set_option maxRecDepth 20000 in
theorem wX6_byteAt (a0 : Nat) (x1 : Int32) (h : Hp) (Q : Option TV → Hp → Prop) (w :
ob h a0 6 (tX6_holds a0 x1.toInt64 1 h (rI (fun x_2 h_1 =>
(if x_2 = 0 then
Q (some (tI (-1))) h_1
else
ob h_1 a0 6 (
dr (gr h_1 384 a0) (fun a_3 => ix h_1 kB a_3 x1 (
Q (some (tI ((ai h_1 a_3 x1.toNatClampNeg) &&& 255))) h_1)))))))) : tX6_byteAt a0 x1 h Q := by
  refine T_run (n := 3) (pc' := 3) (lv' := [some (tR (some a0)), some (tI x1)]) (st' := [tL x1.toInt64, tR (some a0)]) (h' := h) gX6_byteAt rfl ?_
  refine T_kn (v := 1) gX6_byteAt rfl (by decide) ?_
  obtain ⟨ho, w⟩ := w
  refine T_cv (fun aa => [some (tR (some aa)), some (tL x1.toInt64), none, some (tI 1), none, none]) gX6_byteAt rfl rfl rfl rfl (Nat.le_of_ble_eq_true rfl) gX6_holds (fun _ => Nat.le_of_ble_eq_true rfl) (fun _ => rfl) ⟨a0, rfl, ho, T_ki ?_⟩
  refine T.mono w (fun rr h_1 hw => ?_)
  obtain ⟨x_2, hr, w⟩ := hw
  refine ⟨x_2, hr, ?_⟩
  replace w := c_eq w
  refine T_if (tgt := 23) gX6_byteAt rfl (by decide) (fun hc => ?_) (fun hc => ?_)
  · replace w := w.1 hc
    refine T_kn (v := (-1)) gX6_byteAt rfl (by decide) ?_
    exact T_ri gX6_byteAt rfl rfl w
  · replace w := w.2 hc
    refine T_run (n := 1) (pc' := 11) (lv' := [some (tR (some a0)), some (tI x1)]) (st' := [tR (some a0)]) (h' := h_1) gX6_byteAt rfl ?_
    obtain ⟨ho, w⟩ := w
    refine T_gs (tR (gr h_1 384 a0)) gX6_byteAt rfl rfl ⟨ho, ?_⟩
    refine T_run (n := 1) (pc' := 15) (lv' := [some (tR (some a0)), some (tI x1)]) (st' := [tI x1, tR (gr h_1 384 a0)]) (h' := h_1) gX6_byteAt rfl ?_
    obtain ⟨a_3, hr, tt, nn, ht, hk, hj, w⟩ := w
    refine T_bal gX6_byteAt rfl ⟨a_3, hr, tt, nn, ht, hk, hj, ?_⟩
    refine T_ks (v := 255) gX6_byteAt rfl (by decide) ?_
    refine T_run (n := 1) (pc' := 20) (lv' := [some (tR (some a0)), some (tI x1)]) (st' := [tI ((ai h_1 a_3 x1.toNatClampNeg) &&& 255)]) (h' := h_1) gX6_byteAt rfl ?_
    refine T_goto (tgt := 24) gX6_byteAt rfl (by decide) ?_
    exact T_ri gX6_byteAt rfl rfl w
set_option maxHeartbeats 4000000 in
set_option maxRecDepth 20000 in
theorem wX10_memory (a0 : Nat) (x1 : Int32) (h : Hp) (Q : Option TV → Hp → Prop) (w :
ob h a0 9 (
dr (gr h 577 a0) (fun a_1 => ob h a_1 5 (
dr (gr h 323 a_1) (fun a_4 => ob h a_4 6 (tX6_byteAt a_4 x1 h (rI (fun x_3 h_2 =>
Q (some (tI x_3)) h_2)))))))) : tX10_memory a0 x1 h Q := by
  refine T_run (n := 1) (pc' := 1) (lv' := [some (tR (some a0)), some (tI x1)]) (st' := [tR (some a0)]) (h' := h) gX10_memory rfl ?_
  obtain ⟨ho, w⟩ := w
  refine T_gs (tR (gr h 577 a0)) gX10_memory rfl rfl ⟨ho, ?_⟩
  obtain ⟨a_1, he, ho, w⟩ := w
  refine T_gf (fun a_1 => tR (gr h 323 a_1)) gX10_memory rfl (fun _ => rfl) ⟨a_1, he, ho, ?_⟩
  refine T_run (n := 1) (pc' := 8) (lv' := [some (tR (some a0)), some (tI x1)]) (st' := [tI x1, tR (gr h 323 a_1)]) (h' := h) gX10_memory rfl ?_
  obtain ⟨a_4, hr, ho, w⟩ := w
  refine T_cv (fun aa => [some (tR (some aa)), some (tI x1)]) gX10_memory rfl rfl rfl rfl (Nat.le_of_ble_eq_true rfl) gX6_byteAt (fun _ => Nat.le_of_ble_eq_true rfl) (fun _ => rfl) ⟨a_4, hr, ho, T_ki ?_⟩
  refine T.mono w (fun rr h_2 hw => ?_)
  obtain ⟨x_3, hr, w⟩ := hw
  refine ⟨x_3, hr, ?_⟩
  exact T_ri gX10_memory rfl rfl w
set_option maxHeartbeats 4000000 in
set_option maxRecDepth 20000 in
theorem wX10_look (a0 : Nat) (x1 : Int32) (x2 : Int32) (h : Hp) (Q : Option TV → Hp → Prop) (w :
ob h a0 9 (
dr (gr h 576 a0) (fun a_3 => ob h a_3 7 (tX8_findWhole a_3 x1 h (rR (fun r_2 h_1 =>
(if r_2 = none then
Q (some (tI (-1))) h_1
else
(if x2 = 0 then
dr r_2 (fun a_4 => ob h_1 a_4 2 (
Q (some (tI (gi h_1 128 a_4))) h_1))
else
(if x2 = 1 then
dr r_2 (fun a_5 => ob h_1 a_5 2 (
Q (some (tI (gi h_1 129 a_5))) h_1))
else
(if x2 = 2 then
dr r_2 (fun a_6 => ob h_1 a_6 2 (
Q (some (tI (gi h_1 130 a_6))) h_1))
else
(if x2 = 3 then
dr r_2 (fun a_7 => ob h_1 a_7 2 (
Q (some (tI (gi h_1 133 a_7))) h_1))
else
Q (some (tI (-1))) h_1))))))))))) : tX10_look a0 x1 x2 h Q := by
  refine T_run (n := 1) (pc' := 1) (lv' := [some (tR (some a0)), some (tI x1), some (tI x2), none]) (st' := [tR (some a0)]) (h' := h) gX10_look rfl ?_
  obtain ⟨ho, w⟩ := w
  refine T_gs (tR (gr h 576 a0)) gX10_look rfl rfl ⟨ho, ?_⟩
  refine T_run (n := 1) (pc' := 5) (lv' := [some (tR (some a0)), some (tI x1), some (tI x2), none]) (st' := [tI x1, tR (gr h 576 a0)]) (h' := h) gX10_look rfl ?_
  obtain ⟨a_3, hr, ho, w⟩ := w
  refine T_cv (fun aa => [some (tR (some aa)), some (tI x1), none]) gX10_look rfl rfl rfl rfl (Nat.le_of_ble_eq_true rfl) gX8_findWhole (fun _ => Nat.le_of_ble_eq_true rfl) (fun _ => rfl) ⟨a_3, hr, ho, T_kr ?_⟩
  refine T.mono w (fun rr h_1 hw => ?_)
  obtain ⟨r_2, hr, w⟩ := hw
  refine ⟨r_2, hr, ?_⟩
  refine T_run (n := 2) (pc' := 10) (lv' := [some (tR (some a0)), some (tI x1), some (tI x2), some (tR r_2)]) (st' := [tR r_2]) (h' := h_1) gX10_look rfl ?_
  refine T_nn2 (tgt := 15) gX10_look rfl (by decide) (fun hc => ?_) (fun hc => ?_)
  · rw [if_neg hc] at w
    refine T_run (n := 1) (pc' := 16) (lv' := [some (tR (some a0)), some (tI x1), some (tI x2), some (tR r_2)]) (st' := [tI x2]) (h' := h_1) gX10_look rfl ?_
    refine T_tsw (dt := 68) (cs := [(0, 48), (1, 53), (2, 58), (3, 63)]) gX10_look rfl (by decide) ?_
    refine sw_cons (fun hc => ?_) (fun hc => ?_)
    · rw [if_pos hc] at w
      refine T_run (n := 1) (pc' := 49) (lv' := [some (tR (some a0)), some (tI x1), some (tI x2), some (tR r_2)]) (st' := [tR r_2]) (h' := h_1) gX10_look rfl ?_
      obtain ⟨a_4, he, ho, w⟩ := w
      refine T_gf (fun a_4 => tI (gi h_1 128 a_4)) gX10_look rfl (fun _ => rfl) ⟨a_4, he, ho, ?_⟩
      exact T_ri gX10_look rfl rfl w
    rw [if_neg hc] at w
    refine sw_cons (fun hc => ?_) (fun hc => ?_)
    · rw [if_pos hc] at w
      refine T_run (n := 1) (pc' := 54) (lv' := [some (tR (some a0)), some (tI x1), some (tI x2), some (tR r_2)]) (st' := [tR r_2]) (h' := h_1) gX10_look rfl ?_
      obtain ⟨a_5, he, ho, w⟩ := w
      refine T_gf (fun a_5 => tI (gi h_1 129 a_5)) gX10_look rfl (fun _ => rfl) ⟨a_5, he, ho, ?_⟩
      exact T_ri gX10_look rfl rfl w
    rw [if_neg hc] at w
    refine sw_cons (fun hc => ?_) (fun hc => ?_)
    · rw [if_pos hc] at w
      refine T_run (n := 1) (pc' := 59) (lv' := [some (tR (some a0)), some (tI x1), some (tI x2), some (tR r_2)]) (st' := [tR r_2]) (h' := h_1) gX10_look rfl ?_
      obtain ⟨a_6, he, ho, w⟩ := w
      refine T_gf (fun a_6 => tI (gi h_1 130 a_6)) gX10_look rfl (fun _ => rfl) ⟨a_6, he, ho, ?_⟩
      exact T_ri gX10_look rfl rfl w
    rw [if_neg hc] at w
    refine sw_cons (fun hc => ?_) (fun hc => ?_)
    · rw [if_pos hc] at w
      refine T_run (n := 1) (pc' := 64) (lv' := [some (tR (some a0)), some (tI x1), some (tI x2), some (tR r_2)]) (st' := [tR r_2]) (h' := h_1) gX10_look rfl ?_
      obtain ⟨a_7, he, ho, w⟩ := w
      refine T_gf (fun a_7 => tI (gi h_1 133 a_7)) gX10_look rfl (fun _ => rfl) ⟨a_7, he, ho, ?_⟩
      exact T_ri gX10_look rfl rfl w
    rw [if_neg hc] at w
    refine T_kn (v := (-1)) gX10_look rfl (by decide) ?_
    exact T_ri gX10_look rfl rfl w
  · rw [if_pos hc] at w
    refine T_kn (v := (-1)) gX10_look rfl (by decide) ?_
    exact T_ri gX10_look rfl rfl w
