/-! what must hold at the head of each method, and of each join in it: printed by a program out of the instructions -/
set_option maxHeartbeats 4000000 in
set_option maxRecDepth 20000 in
theorem wL_law (r0 : Option Nat) (h : Hp) (Q : Option TV → Hp → Prop) (w :
∀ h_1 a_2, h_1 = nw h (.inl 9) 5 → a_2 = sz h →
tX10_init a_2  h_1 (rV (fun h_3 =>
∀ h_5 a_6, h_5 = nw h_3 (.inl 10) 42 → a_6 = sz h_3 →
tX11_init a_6  h_5 (rV (fun h_7 =>
tL_law_18 r0 (some a_2) (some a_6) 0 h_7 Q))))) : tL_law r0 h Q := by
  refine T_new gL_law rfl (fun h_1 a_2 he hz => ?_)
  replace w := w h_1 a_2 he hz
  refine T_run (n := 1) (pc' := 4) (lv' := [some (tR r0), none, none, none]) (st' := [tR (some a_2), tR (some a_2)]) (h' := h_1) gL_law rfl ?_
  refine T_ci (lv' := [some (tR (some a_2))]) gL_law rfl rfl rfl rfl (Nat.le_of_ble_eq_true rfl) gX10_init (Nat.le_of_ble_eq_true rfl) rfl (T_kv ?_)
  refine T.mono w (fun rr h_3 hw => ?_)
  obtain ⟨hr, w⟩ := hw
  refine ⟨hr, ?_⟩
  refine T_run (n := 1) (pc' := 8) (lv' := [some (tR r0), some (tR (some a_2)), none, none]) (st' := []) (h' := h_3) gL_law rfl ?_
  refine T_new gL_law rfl (fun h_5 a_6 he hz => ?_)
  replace w := w h_5 a_6 he hz
  refine T_run (n := 1) (pc' := 12) (lv' := [some (tR r0), some (tR (some a_2)), none, none]) (st' := [tR (some a_6), tR (some a_6)]) (h' := h_5) gL_law rfl ?_
  refine T_ci (lv' := [some (tR (some a_6)), none]) gL_law rfl rfl rfl rfl (Nat.le_of_ble_eq_true rfl) gX11_init (Nat.le_of_ble_eq_true rfl) rfl (T_kv ?_)
  refine T.mono w (fun rr h_7 hw => ?_)
  obtain ⟨hr, w⟩ := hw
  refine ⟨hr, ?_⟩
  refine T_run (n := 1) (pc' := 16) (lv' := [some (tR r0), some (tR (some a_2)), some (tR (some a_6)), none]) (st' := []) (h' := h_7) gL_law rfl ?_
  refine T_kn (v := 0) gL_law rfl (by decide) ?_
  refine T_run (n := 1) (pc' := 18) (lv' := [some (tR r0), some (tR (some a_2)), some (tR (some a_6)), some (tI 0)]) (st' := []) (h' := h_7) gL_law rfl ?_
  exact w
set_option maxHeartbeats 4000000 in
set_option maxRecDepth 20000 in
theorem wL_law_18 (r0 : Option Nat) (r1 : Option Nat) (r2 : Option Nat) (x3 : Int32) (h : Hp) (Q : Option TV → Hp → Prop) (w :
dr r0 (fun a_1 => al_ h a_1 (fun n_2 =>
(if ((Int32.ofNat n_2) - 4) < x3 then
Q (some (tI 1)) h
else
dr r0 (fun a_3 => ix h kI a_3 x3 (
(if ((ai h a_3 x3.toNatClampNeg) &&& 15) = 0 then
dr r0 (fun a_4 => ix h kI a_4 (x3 + 1) (
dr r0 (fun a_5 => ix h kI a_5 (x3 + 2) (
dr r0 (fun a_6 => ix h kI a_6 (x3 + 3) (
dr r1 (fun a_9 => ob h a_9 9 (tX10_function a_9 (ai h a_4 (x3 + 1).toNatClampNeg) (ai h a_5 (x3 + 2).toNatClampNeg) (ai h a_6 (x3 + 3).toNatClampNeg) h (rI (fun x_8 h_7 =>
dr r0 (fun a_10 => ix h_7 kI a_10 (x3 + 1) (
dr r0 (fun a_11 => ix h_7 kI a_11 (x3 + 2) (
dr r0 (fun a_12 => ix h_7 kI a_12 (x3 + 3) (
dr r2 (fun a_15 => ob h_7 a_15 10 (tX11_function a_15 (ai h_7 a_10 (x3 + 1).toNatClampNeg) (ai h_7 a_11 (x3 + 2).toNatClampNeg) (ai h_7 a_12 (x3 + 3).toNatClampNeg) h_7 (rI (fun x_14 h_13 =>
(if x_8 = x_14 then
tL_law_454 r0 r1 r2 x3 h_13 Q
else
Q (some (tI 0)) h_13)))))))))))))))))))))
else
(if ((ai h a_3 x3.toNatClampNeg) &&& 15) = 1 then
dr r0 (fun a_16 => ix h kI a_16 (x3 + 1) (
dr r0 (fun a_17 => ix h kI a_17 (x3 + 2) (
dr r0 (fun a_18 => ix h kI a_18 (x3 + 3) (
dr r1 (fun a_21 => ob h a_21 9 (tX10_code a_21 (ai h a_16 (x3 + 1).toNatClampNeg) (ai h a_17 (x3 + 2).toNatClampNeg) (ai h a_18 (x3 + 3).toNatClampNeg) h (rI (fun x_20 h_19 =>
dr r0 (fun a_22 => ix h_19 kI a_22 (x3 + 1) (
dr r0 (fun a_23 => ix h_19 kI a_23 (x3 + 2) (
dr r0 (fun a_24 => ix h_19 kI a_24 (x3 + 3) (
dr r2 (fun a_27 => ob h_19 a_27 10 (tX11_code a_27 (ai h_19 a_22 (x3 + 1).toNatClampNeg) (ai h_19 a_23 (x3 + 2).toNatClampNeg) (ai h_19 a_24 (x3 + 3).toNatClampNeg) h_19 (rI (fun x_26 h_25 =>
(if x_20 = x_26 then
tL_law_454 r0 r1 r2 x3 h_25 Q
else
Q (some (tI 0)) h_25)))))))))))))))))))))
else
(if ((ai h a_3 x3.toNatClampNeg) &&& 15) = 2 then
dr r1 (fun a_30 => ob h a_30 9 (tX10_drop a_30  h (rI (fun x_29 h_28 =>
dr r2 (fun a_33 => ob h_28 a_33 10 (tX11_drop a_33  h_28 (rI (fun x_32 h_31 =>
(if x_29 = x_32 then
tL_law_454 r0 r1 r2 x3 h_31 Q
else
Q (some (tI 0)) h_31)))))))))
else
(if ((ai h a_3 x3.toNatClampNeg) &&& 15) = 3 then
dr r0 (fun a_34 => ix h kI a_34 (x3 + 1) (
dr r0 (fun a_35 => ix h kI a_35 (x3 + 2) (
dr r1 (fun a_38 => ob h a_38 9 (tX10_entry a_38 (ai h a_34 (x3 + 1).toNatClampNeg) (ai h a_35 (x3 + 2).toNatClampNeg) h (rI (fun x_37 h_36 =>
dr r0 (fun a_39 => ix h_36 kI a_39 (x3 + 1) (
dr r0 (fun a_40 => ix h_36 kI a_40 (x3 + 2) (
dr r2 (fun a_43 => ob h_36 a_43 10 (tX11_entry a_43 (ai h_36 a_39 (x3 + 1).toNatClampNeg) (ai h_36 a_40 (x3 + 2).toNatClampNeg) h_36 (rI (fun x_42 h_41 =>
(if x_37 = x_42 then
tL_law_454 r0 r1 r2 x3 h_41 Q
else
Q (some (tI 0)) h_41)))))))))))))))))
else
(if ((ai h a_3 x3.toNatClampNeg) &&& 15) = 4 then
dr r0 (fun a_44 => ix h kI a_44 (x3 + 1) (
dr r0 (fun a_45 => ix h kI a_45 (x3 + 2) (
dr r1 (fun a_48 => ob h a_48 9 (tX10_argument a_48 ((((ai h a_44 (x3 + 1).toNatClampNeg).toInt64) <<< ((32 : Int32).toInt64 &&& 63)) ||| (((ai h a_45 (x3 + 2).toNatClampNeg).toInt64) &&& 4294967295)) h (rI (fun x_47 h_46 =>
dr r0 (fun a_49 => ix h_46 kI a_49 (x3 + 1) (
dr r0 (fun a_50 => ix h_46 kI a_50 (x3 + 2) (
dr r2 (fun a_53 => ob h_46 a_53 10 (tX11_argument a_53 ((((ai h_46 a_49 (x3 + 1).toNatClampNeg).toInt64) <<< ((32 : Int32).toInt64 &&& 63)) ||| (((ai h_46 a_50 (x3 + 2).toNatClampNeg).toInt64) &&& 4294967295)) h_46 (rI (fun x_52 h_51 =>
(if x_47 = x_52 then
tL_law_454 r0 r1 r2 x3 h_51 Q
else
Q (some (tI 0)) h_51)))))))))))))))))
else
(if ((ai h a_3 x3.toNatClampNeg) &&& 15) = 5 then
dr r0 (fun a_54 => ix h kI a_54 (x3 + 1) (
dr r1 (fun a_57 => ob h a_57 9 (tX10_call a_57 (ai h a_54 (x3 + 1).toNatClampNeg) h (rI (fun x_56 h_55 =>
dr r0 (fun a_58 => ix h_55 kI a_58 (x3 + 1) (
dr r2 (fun a_61 => ob h_55 a_61 10 (tX11_call a_61 (ai h_55 a_58 (x3 + 1).toNatClampNeg) h_55 (rI (fun x_60 h_59 =>
(if x_56 = x_60 then
tL_law_454 r0 r1 r2 x3 h_59 Q
else
Q (some (tI 0)) h_59)))))))))))))
else
(if ((ai h a_3 x3.toNatClampNeg) &&& 15) = 6 then
dr r0 (fun a_62 => ix h kI a_62 (x3 + 1) (
dr r1 (fun a_65 => ob h a_65 9 (tX10_run a_65 (ai h a_62 (x3 + 1).toNatClampNeg) h (rI (fun x_64 h_63 =>
dr r0 (fun a_66 => ix h_63 kI a_66 (x3 + 1) (
dr r2 (fun a_69 => ob h_63 a_69 10 (tX11_run a_69 (ai h_63 a_66 (x3 + 1).toNatClampNeg) h_63 (rI (fun x_68 h_67 =>
(if x_64 = x_68 then
tL_law_454 r0 r1 r2 x3 h_67 Q
else
Q (some (tI 0)) h_67)))))))))))))
else
(if ((ai h a_3 x3.toNatClampNeg) &&& 15) = 7 then
dr r0 (fun a_70 => ix h kI a_70 (x3 + 1) (
dr r1 (fun a_73 => ob h a_73 9 (tX10_state a_73 (ai h a_70 (x3 + 1).toNatClampNeg) h (rI (fun x_72 h_71 =>
dr r0 (fun a_74 => ix h_71 kI a_74 (x3 + 1) (
dr r2 (fun a_77 => ob h_71 a_77 10 (tX11_state a_77 (ai h_71 a_74 (x3 + 1).toNatClampNeg) h_71 (rI (fun x_76 h_75 =>
(if x_72 = x_76 then
tL_law_454 r0 r1 r2 x3 h_75 Q
else
Q (some (tI 0)) h_75)))))))))))))
else
(if ((ai h a_3 x3.toNatClampNeg) &&& 15) = 8 then
dr r0 (fun a_78 => ix h kI a_78 (x3 + 1) (
dr r1 (fun a_81 => ob h a_81 9 (tX10_result a_81 (ai h a_78 (x3 + 1).toNatClampNeg) h (rL (fun y_80 h_79 =>
dr r0 (fun a_82 => ix h_79 kI a_82 (x3 + 1) (
dr r2 (fun a_85 => ob h_79 a_85 10 (tX11_result a_85 (ai h_79 a_82 (x3 + 1).toNatClampNeg) h_79 (rL (fun y_84 h_83 =>
(if y_80 = y_84 then
tL_law_454 r0 r1 r2 x3 h_83 Q
else
Q (some (tI 0)) h_83)))))))))))))
else
(if ((ai h a_3 x3.toNatClampNeg) &&& 15) = 9 then
dr r0 (fun a_86 => ix h kI a_86 (x3 + 1) (
dr r1 (fun a_89 => ob h a_89 9 (tX10_global a_89 (ai h a_86 (x3 + 1).toNatClampNeg) h (rL (fun y_88 h_87 =>
dr r0 (fun a_90 => ix h_87 kI a_90 (x3 + 1) (
dr r2 (fun a_93 => ob h_87 a_93 10 (tX11_global a_93 (ai h_87 a_90 (x3 + 1).toNatClampNeg) h_87 (rL (fun y_92 h_91 =>
(if y_88 = y_92 then
tL_law_454 r0 r1 r2 x3 h_91 Q
else
Q (some (tI 0)) h_91)))))))))))))
else
(if ((ai h a_3 x3.toNatClampNeg) &&& 15) = 10 then
dr r0 (fun a_94 => ix h kI a_94 (x3 + 1) (
dr r1 (fun a_97 => ob h a_97 9 (tX10_memory a_97 (ai h a_94 (x3 + 1).toNatClampNeg) h (rI (fun x_96 h_95 =>
dr r0 (fun a_98 => ix h_95 kI a_98 (x3 + 1) (
dr r2 (fun a_101 => ob h_95 a_101 10 (tX11_memory a_101 (ai h_95 a_98 (x3 + 1).toNatClampNeg) h_95 (rI (fun x_100 h_99 =>
(if x_96 = x_100 then
tL_law_454 r0 r1 r2 x3 h_99 Q
else
Q (some (tI 0)) h_99)))))))))))))
else
(if ((ai h a_3 x3.toNatClampNeg) &&& 15) = 11 then
dr r0 (fun a_102 => ix h kI a_102 (x3 + 1) (
dr r0 (fun a_103 => ix h kI a_103 (x3 + 2) (
dr r1 (fun a_106 => ob h a_106 9 (tX10_look a_106 (ai h a_102 (x3 + 1).toNatClampNeg) (ai h a_103 (x3 + 2).toNatClampNeg) h (rI (fun x_105 h_104 =>
dr r0 (fun a_107 => ix h_104 kI a_107 (x3 + 1) (
dr r0 (fun a_108 => ix h_104 kI a_108 (x3 + 2) (
dr r2 (fun a_111 => ob h_104 a_111 10 (tX11_look a_111 (ai h_104 a_107 (x3 + 1).toNatClampNeg) (ai h_104 a_108 (x3 + 2).toNatClampNeg) h_104 (rI (fun x_110 h_109 =>
(if x_105 = x_110 then
tL_law_454 r0 r1 r2 x3 h_109 Q
else
Q (some (tI 0)) h_109)))))))))))))))))
else
tL_law_454 r0 r1 r2 x3 h Q)))))))))))))))))) : tL_law_18 r0 r1 r2 x3 h Q := by
  refine T_run (n := 2) (pc' := 20) (lv' := [some (tR r0), some (tR r1), some (tR r2), some (tI x3)]) (st' := [tR r0, tI x3]) (h' := h) gL_law rfl ?_
  obtain ⟨a_1, hr, tt, n_2, ht, w⟩ := w
  refine T_len gL_law rfl ⟨a_1, hr, tt, n_2, ht, ?_⟩
  refine T_kn (v := 4) gL_law rfl (by decide) ?_
  refine T_run (n := 1) (pc' := 23) (lv' := [some (tR r0), some (tR r1), some (tR r2), some (tI x3)]) (st' := [tI ((Int32.ofNat n_2) - 4), tI x3]) (h' := h) gL_law rfl ?_
  replace w := c_gt w
  refine T_ic (tgt := 460) gL_law rfl (by decide) (fun hc => ?_) (fun hc => ?_)
  · replace w := w.1 hc
    refine T_kn (v := 1) gL_law rfl (by decide) ?_
    exact T_rz gL_law rfl rfl (Or.inr rfl) w
  · replace w := w.2 hc
    refine T_run (n := 2) (pc' := 28) (lv' := [some (tR r0), some (tR r1), some (tR r2), some (tI x3)]) (st' := [tI x3, tR r0]) (h' := h) gL_law rfl ?_
    obtain ⟨a_3, hr, tt, nn, ht, hk, hj, w⟩ := w
    refine T_ial gL_law rfl ⟨a_3, hr, tt, nn, ht, hk, hj, ?_⟩
    refine T_kb (v := 15) gL_law rfl (by decide) ?_
    refine T_run (n := 1) (pc' := 32) (lv' := [some (tR r0), some (tR r1), some (tR r2), some (tI x3)]) (st' := [tI ((ai h a_3 x3.toNatClampNeg) &&& 15)]) (h' := h) gL_law rfl ?_
    refine T_tsw (dt := 454) (cs := [(0, 96), (1, 139), (2, 182), (3, 195), (4, 228), (5, 281), (6, 304), (7, 327), (8, 350), (9, 374), (10, 398), (11, 421)]) gL_law rfl (by decide) ?_
    refine sw_cons (fun hc => ?_) (fun hc => ?_)
    · rw [if_pos hc] at w
      refine T_run (n := 3) (pc' := 99) (lv' := [some (tR r0), some (tR r1), some (tR r2), some (tI x3)]) (st' := [tI x3, tR r0, tR r1]) (h' := h) gL_law rfl ?_
      refine T_kn (v := 1) gL_law rfl (by decide) ?_
      refine T_run (n := 1) (pc' := 101) (lv' := [some (tR r0), some (tR r1), some (tR r2), some (tI x3)]) (st' := [tI (x3 + 1), tR r0, tR r1]) (h' := h) gL_law rfl ?_
      obtain ⟨a_4, hr, tt, nn, ht, hk, hj, w⟩ := w
      refine T_ial gL_law rfl ⟨a_4, hr, tt, nn, ht, hk, hj, ?_⟩
      refine T_run (n := 2) (pc' := 104) (lv' := [some (tR r0), some (tR r1), some (tR r2), some (tI x3)]) (st' := [tI x3, tR r0, tI (ai h a_4 (x3 + 1).toNatClampNeg), tR r1]) (h' := h) gL_law rfl ?_
      refine T_kn (v := 2) gL_law rfl (by decide) ?_
      refine T_run (n := 1) (pc' := 106) (lv' := [some (tR r0), some (tR r1), some (tR r2), some (tI x3)]) (st' := [tI (x3 + 2), tR r0, tI (ai h a_4 (x3 + 1).toNatClampNeg), tR r1]) (h' := h) gL_law rfl ?_
      obtain ⟨a_5, hr, tt, nn, ht, hk, hj, w⟩ := w
      refine T_ial gL_law rfl ⟨a_5, hr, tt, nn, ht, hk, hj, ?_⟩
      refine T_run (n := 2) (pc' := 109) (lv' := [some (tR r0), some (tR r1), some (tR r2), some (tI x3)]) (st' := [tI x3, tR r0, tI (ai h a_5 (x3 + 2).toNatClampNeg), tI (ai h a_4 (x3 + 1).toNatClampNeg), tR r1]) (h' := h) gL_law rfl ?_
      refine T_kn (v := 3) gL_law rfl (by decide) ?_
      refine T_run (n := 1) (pc' := 111) (lv' := [some (tR r0), some (tR r1), some (tR r2), some (tI x3)]) (st' := [tI (x3 + 3), tR r0, tI (ai h a_5 (x3 + 2).toNatClampNeg), tI (ai h a_4 (x3 + 1).toNatClampNeg), tR r1]) (h' := h) gL_law rfl ?_
      obtain ⟨a_6, hr, tt, nn, ht, hk, hj, w⟩ := w
      refine T_ial gL_law rfl ⟨a_6, hr, tt, nn, ht, hk, hj, ?_⟩
      obtain ⟨a_9, hr, ho, w⟩ := w
      refine T_cv (fun aa => [some (tR (some aa)), some (tI (ai h a_4 (x3 + 1).toNatClampNeg)), some (tI (ai h a_5 (x3 + 2).toNatClampNeg)), some (tI (ai h a_6 (x3 + 3).toNatClampNeg)), none, none]) gL_law rfl rfl rfl rfl (Nat.le_of_ble_eq_true rfl) gX10_function (fun _ => Nat.le_of_ble_eq_true rfl) (fun _ => rfl) ⟨a_9, hr, ho, T_ki ?_⟩
      refine T.mono w (fun rr h_7 hw => ?_)
      obtain ⟨x_8, hr, w⟩ := hw
      refine ⟨x_8, hr, ?_⟩
      refine T_run (n := 3) (pc' := 118) (lv' := [some (tR r0), some (tR r1), some (tR r2), some (tI x3)]) (st' := [tI x3, tR r0, tR r2, tI x_8]) (h' := h_7) gL_law rfl ?_
      refine T_kn (v := 1) gL_law rfl (by decide) ?_
      refine T_run (n := 1) (pc' := 120) (lv' := [some (tR r0), some (tR r1), some (tR r2), some (tI x3)]) (st' := [tI (x3 + 1), tR r0, tR r2, tI x_8]) (h' := h_7) gL_law rfl ?_
      obtain ⟨a_10, hr, tt, nn, ht, hk, hj, w⟩ := w
      refine T_ial gL_law rfl ⟨a_10, hr, tt, nn, ht, hk, hj, ?_⟩
      refine T_run (n := 2) (pc' := 123) (lv' := [some (tR r0), some (tR r1), some (tR r2), some (tI x3)]) (st' := [tI x3, tR r0, tI (ai h_7 a_10 (x3 + 1).toNatClampNeg), tR r2, tI x_8]) (h' := h_7) gL_law rfl ?_
      refine T_kn (v := 2) gL_law rfl (by decide) ?_
      refine T_run (n := 1) (pc' := 125) (lv' := [some (tR r0), some (tR r1), some (tR r2), some (tI x3)]) (st' := [tI (x3 + 2), tR r0, tI (ai h_7 a_10 (x3 + 1).toNatClampNeg), tR r2, tI x_8]) (h' := h_7) gL_law rfl ?_
      obtain ⟨a_11, hr, tt, nn, ht, hk, hj, w⟩ := w
      refine T_ial gL_law rfl ⟨a_11, hr, tt, nn, ht, hk, hj, ?_⟩
      refine T_run (n := 2) (pc' := 128) (lv' := [some (tR r0), some (tR r1), some (tR r2), some (tI x3)]) (st' := [tI x3, tR r0, tI (ai h_7 a_11 (x3 + 2).toNatClampNeg), tI (ai h_7 a_10 (x3 + 1).toNatClampNeg), tR r2, tI x_8]) (h' := h_7) gL_law rfl ?_
      refine T_kn (v := 3) gL_law rfl (by decide) ?_
      refine T_run (n := 1) (pc' := 130) (lv' := [some (tR r0), some (tR r1), some (tR r2), some (tI x3)]) (st' := [tI (x3 + 3), tR r0, tI (ai h_7 a_11 (x3 + 2).toNatClampNeg), tI (ai h_7 a_10 (x3 + 1).toNatClampNeg), tR r2, tI x_8]) (h' := h_7) gL_law rfl ?_
      obtain ⟨a_12, hr, tt, nn, ht, hk, hj, w⟩ := w
      refine T_ial gL_law rfl ⟨a_12, hr, tt, nn, ht, hk, hj, ?_⟩
      obtain ⟨a_15, hr, ho, w⟩ := w
      refine T_cv (fun aa => [some (tR (some aa)), some (tI (ai h_7 a_10 (x3 + 1).toNatClampNeg)), some (tI (ai h_7 a_11 (x3 + 2).toNatClampNeg)), some (tI (ai h_7 a_12 (x3 + 3).toNatClampNeg))]) gL_law rfl rfl rfl rfl (Nat.le_of_ble_eq_true rfl) gX11_function (fun _ => Nat.le_of_ble_eq_true rfl) (fun _ => rfl) ⟨a_15, hr, ho, T_ki ?_⟩
      refine T.mono w (fun rr h_13 hw => ?_)
      obtain ⟨x_14, hr, w⟩ := hw
      refine ⟨x_14, hr, ?_⟩
      replace w := c_eq w
      refine T_ic (tgt := 454) gL_law rfl (by decide) (fun hc => ?_) (fun hc => ?_)
      · replace w := w.1 hc
        exact w
      · replace w := w.2 hc
        refine T_kn (v := 0) gL_law rfl (by decide) ?_
        exact T_rz gL_law rfl rfl (Or.inl rfl) w
    rw [if_neg hc] at w
    refine sw_cons (fun hc => ?_) (fun hc => ?_)
    · rw [if_pos hc] at w
      refine T_run (n := 3) (pc' := 142) (lv' := [some (tR r0), some (tR r1), some (tR r2), some (tI x3)]) (st' := [tI x3, tR r0, tR r1]) (h' := h) gL_law rfl ?_
      refine T_kn (v := 1) gL_law rfl (by decide) ?_
      refine T_run (n := 1) (pc' := 144) (lv' := [some (tR r0), some (tR r1), some (tR r2), some (tI x3)]) (st' := [tI (x3 + 1), tR r0, tR r1]) (h' := h) gL_law rfl ?_
      obtain ⟨a_16, hr, tt, nn, ht, hk, hj, w⟩ := w
      refine T_ial gL_law rfl ⟨a_16, hr, tt, nn, ht, hk, hj, ?_⟩
      refine T_run (n := 2) (pc' := 147) (lv' := [some (tR r0), some (tR r1), some (tR r2), some (tI x3)]) (st' := [tI x3, tR r0, tI (ai h a_16 (x3 + 1).toNatClampNeg), tR r1]) (h' := h) gL_law rfl ?_
      refine T_kn (v := 2) gL_law rfl (by decide) ?_
      refine T_run (n := 1) (pc' := 149) (lv' := [some (tR r0), some (tR r1), some (tR r2), some (tI x3)]) (st' := [tI (x3 + 2), tR r0, tI (ai h a_16 (x3 + 1).toNatClampNeg), tR r1]) (h' := h) gL_law rfl ?_
      obtain ⟨a_17, hr, tt, nn, ht, hk, hj, w⟩ := w
      refine T_ial gL_law rfl ⟨a_17, hr, tt, nn, ht, hk, hj, ?_⟩
      refine T_run (n := 2) (pc' := 152) (lv' := [some (tR r0), some (tR r1), some (tR r2), some (tI x3)]) (st' := [tI x3, tR r0, tI (ai h a_17 (x3 + 2).toNatClampNeg), tI (ai h a_16 (x3 + 1).toNatClampNeg), tR r1]) (h' := h) gL_law rfl ?_
      refine T_kn (v := 3) gL_law rfl (by decide) ?_
      refine T_run (n := 1) (pc' := 154) (lv' := [some (tR r0), some (tR r1), some (tR r2), some (tI x3)]) (st' := [tI (x3 + 3), tR r0, tI (ai h a_17 (x3 + 2).toNatClampNeg), tI (ai h a_16 (x3 + 1).toNatClampNeg), tR r1]) (h' := h) gL_law rfl ?_
      obtain ⟨a_18, hr, tt, nn, ht, hk, hj, w⟩ := w
      refine T_ial gL_law rfl ⟨a_18, hr, tt, nn, ht, hk, hj, ?_⟩
      obtain ⟨a_21, hr, ho, w⟩ := w
      refine T_cv (fun aa => [some (tR (some aa)), some (tI (ai h a_16 (x3 + 1).toNatClampNeg)), some (tI (ai h a_17 (x3 + 2).toNatClampNeg)), some (tI (ai h a_18 (x3 + 3).toNatClampNeg))]) gL_law rfl rfl rfl rfl (Nat.le_of_ble_eq_true rfl) gX10_code (fun _ => Nat.le_of_ble_eq_true rfl) (fun _ => rfl) ⟨a_21, hr, ho, T_ki ?_⟩
      refine T.mono w (fun rr h_19 hw => ?_)
      obtain ⟨x_20, hr, w⟩ := hw
      refine ⟨x_20, hr, ?_⟩
      refine T_run (n := 3) (pc' := 161) (lv' := [some (tR r0), some (tR r1), some (tR r2), some (tI x3)]) (st' := [tI x3, tR r0, tR r2, tI x_20]) (h' := h_19) gL_law rfl ?_
      refine T_kn (v := 1) gL_law rfl (by decide) ?_
      refine T_run (n := 1) (pc' := 163) (lv' := [some (tR r0), some (tR r1), some (tR r2), some (tI x3)]) (st' := [tI (x3 + 1), tR r0, tR r2, tI x_20]) (h' := h_19) gL_law rfl ?_
      obtain ⟨a_22, hr, tt, nn, ht, hk, hj, w⟩ := w
      refine T_ial gL_law rfl ⟨a_22, hr, tt, nn, ht, hk, hj, ?_⟩
      refine T_run (n := 2) (pc' := 166) (lv' := [some (tR r0), some (tR r1), some (tR r2), some (tI x3)]) (st' := [tI x3, tR r0, tI (ai h_19 a_22 (x3 + 1).toNatClampNeg), tR r2, tI x_20]) (h' := h_19) gL_law rfl ?_
      refine T_kn (v := 2) gL_law rfl (by decide) ?_
      refine T_run (n := 1) (pc' := 168) (lv' := [some (tR r0), some (tR r1), some (tR r2), some (tI x3)]) (st' := [tI (x3 + 2), tR r0, tI (ai h_19 a_22 (x3 + 1).toNatClampNeg), tR r2, tI x_20]) (h' := h_19) gL_law rfl ?_
      obtain ⟨a_23, hr, tt, nn, ht, hk, hj, w⟩ := w
      refine T_ial gL_law rfl ⟨a_23, hr, tt, nn, ht, hk, hj, ?_⟩
      refine T_run (n := 2) (pc' := 171) (lv' := [some (tR r0), some (tR r1), some (tR r2), some (tI x3)]) (st' := [tI x3, tR r0, tI (ai h_19 a_23 (x3 + 2).toNatClampNeg), tI (ai h_19 a_22 (x3 + 1).toNatClampNeg), tR r2, tI x_20]) (h' := h_19) gL_law rfl ?_
      refine T_kn (v := 3) gL_law rfl (by decide) ?_
      refine T_run (n := 1) (pc' := 173) (lv' := [some (tR r0), some (tR r1), some (tR r2), some (tI x3)]) (st' := [tI (x3 + 3), tR r0, tI (ai h_19 a_23 (x3 + 2).toNatClampNeg), tI (ai h_19 a_22 (x3 + 1).toNatClampNeg), tR r2, tI x_20]) (h' := h_19) gL_law rfl ?_
      obtain ⟨a_24, hr, tt, nn, ht, hk, hj, w⟩ := w
      refine T_ial gL_law rfl ⟨a_24, hr, tt, nn, ht, hk, hj, ?_⟩
      obtain ⟨a_27, hr, ho, w⟩ := w
      refine T_cv (fun aa => [some (tR (some aa)), some (tI (ai h_19 a_22 (x3 + 1).toNatClampNeg)), some (tI (ai h_19 a_23 (x3 + 2).toNatClampNeg)), some (tI (ai h_19 a_24 (x3 + 3).toNatClampNeg)), none, none, none]) gL_law rfl rfl rfl rfl (Nat.le_of_ble_eq_true rfl) gX11_code (fun _ => Nat.le_of_ble_eq_true rfl) (fun _ => rfl) ⟨a_27, hr, ho, T_ki ?_⟩
      refine T.mono w (fun rr h_25 hw => ?_)
      obtain ⟨x_26, hr, w⟩ := hw
      refine ⟨x_26, hr, ?_⟩
      replace w := c_eq w
      refine T_ic (tgt := 454) gL_law rfl (by decide) (fun hc => ?_) (fun hc => ?_)
      · replace w := w.1 hc
        exact w
      · replace w := w.2 hc
        refine T_kn (v := 0) gL_law rfl (by decide) ?_
        exact T_rz gL_law rfl rfl (Or.inl rfl) w
    rw [if_neg hc] at w
    refine sw_cons (fun hc => ?_) (fun hc => ?_)
    · rw [if_pos hc] at w
      refine T_run (n := 1) (pc' := 183) (lv' := [some (tR r0), some (tR r1), some (tR r2), some (tI x3)]) (st' := [tR r1]) (h' := h) gL_law rfl ?_
      obtain ⟨a_30, hr, ho, w⟩ := w
      refine T_cv (fun aa => [some (tR (some aa))]) gL_law rfl rfl rfl rfl (Nat.le_of_ble_eq_true rfl) gX10_drop (fun _ => Nat.le_of_ble_eq_true rfl) (fun _ => rfl) ⟨a_30, hr, ho, T_ki ?_⟩
      refine T.mono w (fun rr h_28 hw => ?_)
      obtain ⟨x_29, hr, w⟩ := hw
      refine ⟨x_29, hr, ?_⟩
      refine T_run (n := 1) (pc' := 187) (lv' := [some (tR r0), some (tR r1), some (tR r2), some (tI x3)]) (st' := [tR r2, tI x_29]) (h' := h_28) gL_law rfl ?_
      obtain ⟨a_33, hr, ho, w⟩ := w
      refine T_cv (fun aa => [some (tR (some aa))]) gL_law rfl rfl rfl rfl (Nat.le_of_ble_eq_true rfl) gX11_drop (fun _ => Nat.le_of_ble_eq_true rfl) (fun _ => rfl) ⟨a_33, hr, ho, T_ki ?_⟩
      refine T.mono w (fun rr h_31 hw => ?_)
      obtain ⟨x_32, hr, w⟩ := hw
      refine ⟨x_32, hr, ?_⟩
      replace w := c_eq w
      refine T_ic (tgt := 454) gL_law rfl (by decide) (fun hc => ?_) (fun hc => ?_)
      · replace w := w.1 hc
        exact w
      · replace w := w.2 hc
        refine T_kn (v := 0) gL_law rfl (by decide) ?_
        exact T_rz gL_law rfl rfl (Or.inl rfl) w
    rw [if_neg hc] at w
    refine sw_cons (fun hc => ?_) (fun hc => ?_)
    · rw [if_pos hc] at w
      refine T_run (n := 3) (pc' := 198) (lv' := [some (tR r0), some (tR r1), some (tR r2), some (tI x3)]) (st' := [tI x3, tR r0, tR r1]) (h' := h) gL_law rfl ?_
      refine T_kn (v := 1) gL_law rfl (by decide) ?_
      refine T_run (n := 1) (pc' := 200) (lv' := [some (tR r0), some (tR r1), some (tR r2), some (tI x3)]) (st' := [tI (x3 + 1), tR r0, tR r1]) (h' := h) gL_law rfl ?_
      obtain ⟨a_34, hr, tt, nn, ht, hk, hj, w⟩ := w
      refine T_ial gL_law rfl ⟨a_34, hr, tt, nn, ht, hk, hj, ?_⟩
      refine T_run (n := 2) (pc' := 203) (lv' := [some (tR r0), some (tR r1), some (tR r2), some (tI x3)]) (st' := [tI x3, tR r0, tI (ai h a_34 (x3 + 1).toNatClampNeg), tR r1]) (h' := h) gL_law rfl ?_
      refine T_kn (v := 2) gL_law rfl (by decide) ?_
      refine T_run (n := 1) (pc' := 205) (lv' := [some (tR r0), some (tR r1), some (tR r2), some (tI x3)]) (st' := [tI (x3 + 2), tR r0, tI (ai h a_34 (x3 + 1).toNatClampNeg), tR r1]) (h' := h) gL_law rfl ?_
      obtain ⟨a_35, hr, tt, nn, ht, hk, hj, w⟩ := w
      refine T_ial gL_law rfl ⟨a_35, hr, tt, nn, ht, hk, hj, ?_⟩
      obtain ⟨a_38, hr, ho, w⟩ := w
      refine T_cv (fun aa => [some (tR (some aa)), some (tI (ai h a_34 (x3 + 1).toNatClampNeg)), some (tI (ai h a_35 (x3 + 2).toNatClampNeg)), none]) gL_law rfl rfl rfl rfl (Nat.le_of_ble_eq_true rfl) gX10_entry (fun _ => Nat.le_of_ble_eq_true rfl) (fun _ => rfl) ⟨a_38, hr, ho, T_ki ?_⟩
      refine T.mono w (fun rr h_36 hw => ?_)
      obtain ⟨x_37, hr, w⟩ := hw
      refine ⟨x_37, hr, ?_⟩
      refine T_run (n := 3) (pc' := 212) (lv' := [some (tR r0), some (tR r1), some (tR r2), some (tI x3)]) (st' := [tI x3, tR r0, tR r2, tI x_37]) (h' := h_36) gL_law rfl ?_
      refine T_kn (v := 1) gL_law rfl (by decide) ?_
      refine T_run (n := 1) (pc' := 214) (lv' := [some (tR r0), some (tR r1), some (tR r2), some (tI x3)]) (st' := [tI (x3 + 1), tR r0, tR r2, tI x_37]) (h' := h_36) gL_law rfl ?_
      obtain ⟨a_39, hr, tt, nn, ht, hk, hj, w⟩ := w
      refine T_ial gL_law rfl ⟨a_39, hr, tt, nn, ht, hk, hj, ?_⟩
      refine T_run (n := 2) (pc' := 217) (lv' := [some (tR r0), some (tR r1), some (tR r2), some (tI x3)]) (st' := [tI x3, tR r0, tI (ai h_36 a_39 (x3 + 1).toNatClampNeg), tR r2, tI x_37]) (h' := h_36) gL_law rfl ?_
      refine T_kn (v := 2) gL_law rfl (by decide) ?_
      refine T_run (n := 1) (pc' := 219) (lv' := [some (tR r0), some (tR r1), some (tR r2), some (tI x3)]) (st' := [tI (x3 + 2), tR r0, tI (ai h_36 a_39 (x3 + 1).toNatClampNeg), tR r2, tI x_37]) (h' := h_36) gL_law rfl ?_
      obtain ⟨a_40, hr, tt, nn, ht, hk, hj, w⟩ := w
      refine T_ial gL_law rfl ⟨a_40, hr, tt, nn, ht, hk, hj, ?_⟩
      obtain ⟨a_43, hr, ho, w⟩ := w
      refine T_cv (fun aa => [some (tR (some aa)), some (tI (ai h_36 a_39 (x3 + 1).toNatClampNeg)), some (tI (ai h_36 a_40 (x3 + 2).toNatClampNeg))]) gL_law rfl rfl rfl rfl (Nat.le_of_ble_eq_true rfl) gX11_entry (fun _ => Nat.le_of_ble_eq_true rfl) (fun _ => rfl) ⟨a_43, hr, ho, T_ki ?_⟩
      refine T.mono w (fun rr h_41 hw => ?_)
      obtain ⟨x_42, hr, w⟩ := hw
      refine ⟨x_42, hr, ?_⟩
      replace w := c_eq w
      refine T_ic (tgt := 454) gL_law rfl (by decide) (fun hc => ?_) (fun hc => ?_)
      · replace w := w.1 hc
        exact w
      · replace w := w.2 hc
        refine T_kn (v := 0) gL_law rfl (by decide) ?_
        exact T_rz gL_law rfl rfl (Or.inl rfl) w
    rw [if_neg hc] at w
    refine sw_cons (fun hc => ?_) (fun hc => ?_)
    · rw [if_pos hc] at w
      refine T_run (n := 3) (pc' := 231) (lv' := [some (tR r0), some (tR r1), some (tR r2), some (tI x3)]) (st' := [tI x3, tR r0, tR r1]) (h' := h) gL_law rfl ?_
      refine T_kn (v := 1) gL_law rfl (by decide) ?_
      refine T_run (n := 1) (pc' := 233) (lv' := [some (tR r0), some (tR r1), some (tR r2), some (tI x3)]) (st' := [tI (x3 + 1), tR r0, tR r1]) (h' := h) gL_law rfl ?_
      obtain ⟨a_44, hr, tt, nn, ht, hk, hj, w⟩ := w
      refine T_ial gL_law rfl ⟨a_44, hr, tt, nn, ht, hk, hj, ?_⟩
      refine T_run (n := 1) (pc' := 235) (lv' := [some (tR r0), some (tR r1), some (tR r2), some (tI x3)]) (st' := [tL ((ai h a_44 (x3 + 1).toNatClampNeg).toInt64), tR r1]) (h' := h) gL_law rfl ?_
      refine T_kb (v := 32) gL_law rfl (by decide) ?_
      refine T_run (n := 3) (pc' := 240) (lv' := [some (tR r0), some (tR r1), some (tR r2), some (tI x3)]) (st' := [tI x3, tR r0, tL (((ai h a_44 (x3 + 1).toNatClampNeg).toInt64) <<< ((32 : Int32).toInt64 &&& 63)), tR r1]) (h' := h) gL_law rfl ?_
      refine T_kn (v := 2) gL_law rfl (by decide) ?_
      refine T_run (n := 1) (pc' := 242) (lv' := [some (tR r0), some (tR r1), some (tR r2), some (tI x3)]) (st' := [tI (x3 + 2), tR r0, tL (((ai h a_44 (x3 + 1).toNatClampNeg).toInt64) <<< ((32 : Int32).toInt64 &&& 63)), tR r1]) (h' := h) gL_law rfl ?_
      obtain ⟨a_45, hr, tt, nn, ht, hk, hj, w⟩ := w
      refine T_ial gL_law rfl ⟨a_45, hr, tt, nn, ht, hk, hj, ?_⟩
      refine T_run (n := 1) (pc' := 244) (lv' := [some (tR r0), some (tR r1), some (tR r2), some (tI x3)]) (st' := [tL ((ai h a_45 (x3 + 2).toNatClampNeg).toInt64), tL (((ai h a_44 (x3 + 1).toNatClampNeg).toInt64) <<< ((32 : Int32).toInt64 &&& 63)), tR r1]) (h' := h) gL_law rfl ?_
      refine T_kl2 (v := 4294967295) gL_law rfl (by decide) ?_
      refine T_run (n := 2) (pc' := 249) (lv' := [some (tR r0), some (tR r1), some (tR r2), some (tI x3)]) (st' := [tL ((((ai h a_44 (x3 + 1).toNatClampNeg).toInt64) <<< ((32 : Int32).toInt64 &&& 63)) ||| (((ai h a_45 (x3 + 2).toNatClampNeg).toInt64) &&& 4294967295)), tR r1]) (h' := h) gL_law rfl ?_
      obtain ⟨a_48, hr, ho, w⟩ := w
      refine T_cv (fun aa => [some (tR (some aa)), some (tL ((((ai h a_44 (x3 + 1).toNatClampNeg).toInt64) <<< ((32 : Int32).toInt64 &&& 63)) ||| (((ai h a_45 (x3 + 2).toNatClampNeg).toInt64) &&& 4294967295))), none]) gL_law rfl rfl rfl rfl (Nat.le_of_ble_eq_true rfl) gX10_argument (fun _ => Nat.le_of_ble_eq_true rfl) (fun _ => rfl) ⟨a_48, hr, ho, T_ki ?_⟩
      refine T.mono w (fun rr h_46 hw => ?_)
      obtain ⟨x_47, hr, w⟩ := hw
      refine ⟨x_47, hr, ?_⟩
      refine T_run (n := 3) (pc' := 255) (lv' := [some (tR r0), some (tR r1), some (tR r2), some (tI x3)]) (st' := [tI x3, tR r0, tR r2, tI x_47]) (h' := h_46) gL_law rfl ?_
      refine T_kn (v := 1) gL_law rfl (by decide) ?_
      refine T_run (n := 1) (pc' := 257) (lv' := [some (tR r0), some (tR r1), some (tR r2), some (tI x3)]) (st' := [tI (x3 + 1), tR r0, tR r2, tI x_47]) (h' := h_46) gL_law rfl ?_
      obtain ⟨a_49, hr, tt, nn, ht, hk, hj, w⟩ := w
      refine T_ial gL_law rfl ⟨a_49, hr, tt, nn, ht, hk, hj, ?_⟩
      refine T_run (n := 1) (pc' := 259) (lv' := [some (tR r0), some (tR r1), some (tR r2), some (tI x3)]) (st' := [tL ((ai h_46 a_49 (x3 + 1).toNatClampNeg).toInt64), tR r2, tI x_47]) (h' := h_46) gL_law rfl ?_
      refine T_kb (v := 32) gL_law rfl (by decide) ?_
      refine T_run (n := 3) (pc' := 264) (lv' := [some (tR r0), some (tR r1), some (tR r2), some (tI x3)]) (st' := [tI x3, tR r0, tL (((ai h_46 a_49 (x3 + 1).toNatClampNeg).toInt64) <<< ((32 : Int32).toInt64 &&& 63)), tR r2, tI x_47]) (h' := h_46) gL_law rfl ?_
      refine T_kn (v := 2) gL_law rfl (by decide) ?_
      refine T_run (n := 1) (pc' := 266) (lv' := [some (tR r0), some (tR r1), some (tR r2), some (tI x3)]) (st' := [tI (x3 + 2), tR r0, tL (((ai h_46 a_49 (x3 + 1).toNatClampNeg).toInt64) <<< ((32 : Int32).toInt64 &&& 63)), tR r2, tI x_47]) (h' := h_46) gL_law rfl ?_
      obtain ⟨a_50, hr, tt, nn, ht, hk, hj, w⟩ := w
      refine T_ial gL_law rfl ⟨a_50, hr, tt, nn, ht, hk, hj, ?_⟩
      refine T_run (n := 1) (pc' := 268) (lv' := [some (tR r0), some (tR r1), some (tR r2), some (tI x3)]) (st' := [tL ((ai h_46 a_50 (x3 + 2).toNatClampNeg).toInt64), tL (((ai h_46 a_49 (x3 + 1).toNatClampNeg).toInt64) <<< ((32 : Int32).toInt64 &&& 63)), tR r2, tI x_47]) (h' := h_46) gL_law rfl ?_
      refine T_kl2 (v := 4294967295) gL_law rfl (by decide) ?_
      refine T_run (n := 2) (pc' := 273) (lv' := [some (tR r0), some (tR r1), some (tR r2), some (tI x3)]) (st' := [tL ((((ai h_46 a_49 (x3 + 1).toNatClampNeg).toInt64) <<< ((32 : Int32).toInt64 &&& 63)) ||| (((ai h_46 a_50 (x3 + 2).toNatClampNeg).toInt64) &&& 4294967295)), tR r2, tI x_47]) (h' := h_46) gL_law rfl ?_
      obtain ⟨a_53, hr, ho, w⟩ := w
      refine T_cv (fun aa => [some (tR (some aa)), some (tL ((((ai h_46 a_49 (x3 + 1).toNatClampNeg).toInt64) <<< ((32 : Int32).toInt64 &&& 63)) ||| (((ai h_46 a_50 (x3 + 2).toNatClampNeg).toInt64) &&& 4294967295))), none]) gL_law rfl rfl rfl rfl (Nat.le_of_ble_eq_true rfl) gX11_argument (fun _ => Nat.le_of_ble_eq_true rfl) (fun _ => rfl) ⟨a_53, hr, ho, T_ki ?_⟩
      refine T.mono w (fun rr h_51 hw => ?_)
      obtain ⟨x_52, hr, w⟩ := hw
      refine ⟨x_52, hr, ?_⟩
      replace w := c_eq w
      refine T_ic (tgt := 454) gL_law rfl (by decide) (fun hc => ?_) (fun hc => ?_)
      · replace w := w.1 hc
        exact w
      · replace w := w.2 hc
        refine T_kn (v := 0) gL_law rfl (by decide) ?_
        exact T_rz gL_law rfl rfl (Or.inl rfl) w
    rw [if_neg hc] at w
    refine sw_cons (fun hc => ?_) (fun hc => ?_)
    · rw [if_pos hc] at w
      refine T_run (n := 3) (pc' := 284) (lv' := [some (tR r0), some (tR r1), some (tR r2), some (tI x3)]) (st' := [tI x3, tR r0, tR r1]) (h' := h) gL_law rfl ?_
      refine T_kn (v := 1) gL_law rfl (by decide) ?_
      refine T_run (n := 1) (pc' := 286) (lv' := [some (tR r0), some (tR r1), some (tR r2), some (tI x3)]) (st' := [tI (x3 + 1), tR r0, tR r1]) (h' := h) gL_law rfl ?_
      obtain ⟨a_54, hr, tt, nn, ht, hk, hj, w⟩ := w
      refine T_ial gL_law rfl ⟨a_54, hr, tt, nn, ht, hk, hj, ?_⟩
      obtain ⟨a_57, hr, ho, w⟩ := w
      refine T_cv (fun aa => [some (tR (some aa)), some (tI (ai h a_54 (x3 + 1).toNatClampNeg)), none]) gL_law rfl rfl rfl rfl (Nat.le_of_ble_eq_true rfl) gX10_call (fun _ => Nat.le_of_ble_eq_true rfl) (fun _ => rfl) ⟨a_57, hr, ho, T_ki ?_⟩
      refine T.mono w (fun rr h_55 hw => ?_)
      obtain ⟨x_56, hr, w⟩ := hw
      refine ⟨x_56, hr, ?_⟩
      refine T_run (n := 3) (pc' := 293) (lv' := [some (tR r0), some (tR r1), some (tR r2), some (tI x3)]) (st' := [tI x3, tR r0, tR r2, tI x_56]) (h' := h_55) gL_law rfl ?_
      refine T_kn (v := 1) gL_law rfl (by decide) ?_
      refine T_run (n := 1) (pc' := 295) (lv' := [some (tR r0), some (tR r1), some (tR r2), some (tI x3)]) (st' := [tI (x3 + 1), tR r0, tR r2, tI x_56]) (h' := h_55) gL_law rfl ?_
      obtain ⟨a_58, hr, tt, nn, ht, hk, hj, w⟩ := w
      refine T_ial gL_law rfl ⟨a_58, hr, tt, nn, ht, hk, hj, ?_⟩
      obtain ⟨a_61, hr, ho, w⟩ := w
      refine T_cv (fun aa => [some (tR (some aa)), some (tI (ai h_55 a_58 (x3 + 1).toNatClampNeg)), none]) gL_law rfl rfl rfl rfl (Nat.le_of_ble_eq_true rfl) gX11_call (fun _ => Nat.le_of_ble_eq_true rfl) (fun _ => rfl) ⟨a_61, hr, ho, T_ki ?_⟩
      refine T.mono w (fun rr h_59 hw => ?_)
      obtain ⟨x_60, hr, w⟩ := hw
      refine ⟨x_60, hr, ?_⟩
      replace w := c_eq w
      refine T_ic (tgt := 454) gL_law rfl (by decide) (fun hc => ?_) (fun hc => ?_)
      · replace w := w.1 hc
        exact w
      · replace w := w.2 hc
        refine T_kn (v := 0) gL_law rfl (by decide) ?_
        exact T_rz gL_law rfl rfl (Or.inl rfl) w
    rw [if_neg hc] at w
    refine sw_cons (fun hc => ?_) (fun hc => ?_)
    · rw [if_pos hc] at w
      refine T_run (n := 3) (pc' := 307) (lv' := [some (tR r0), some (tR r1), some (tR r2), some (tI x3)]) (st' := [tI x3, tR r0, tR r1]) (h' := h) gL_law rfl ?_
      refine T_kn (v := 1) gL_law rfl (by decide) ?_
      refine T_run (n := 1) (pc' := 309) (lv' := [some (tR r0), some (tR r1), some (tR r2), some (tI x3)]) (st' := [tI (x3 + 1), tR r0, tR r1]) (h' := h) gL_law rfl ?_
      obtain ⟨a_62, hr, tt, nn, ht, hk, hj, w⟩ := w
      refine T_ial gL_law rfl ⟨a_62, hr, tt, nn, ht, hk, hj, ?_⟩
      obtain ⟨a_65, hr, ho, w⟩ := w
      refine T_cv (fun aa => [some (tR (some aa)), some (tI (ai h a_62 (x3 + 1).toNatClampNeg))]) gL_law rfl rfl rfl rfl (Nat.le_of_ble_eq_true rfl) gX10_run (fun _ => Nat.le_of_ble_eq_true rfl) (fun _ => rfl) ⟨a_65, hr, ho, T_ki ?_⟩
      refine T.mono w (fun rr h_63 hw => ?_)
      obtain ⟨x_64, hr, w⟩ := hw
      refine ⟨x_64, hr, ?_⟩
      refine T_run (n := 3) (pc' := 316) (lv' := [some (tR r0), some (tR r1), some (tR r2), some (tI x3)]) (st' := [tI x3, tR r0, tR r2, tI x_64]) (h' := h_63) gL_law rfl ?_
      refine T_kn (v := 1) gL_law rfl (by decide) ?_
      refine T_run (n := 1) (pc' := 318) (lv' := [some (tR r0), some (tR r1), some (tR r2), some (tI x3)]) (st' := [tI (x3 + 1), tR r0, tR r2, tI x_64]) (h' := h_63) gL_law rfl ?_
      obtain ⟨a_66, hr, tt, nn, ht, hk, hj, w⟩ := w
      refine T_ial gL_law rfl ⟨a_66, hr, tt, nn, ht, hk, hj, ?_⟩
      obtain ⟨a_69, hr, ho, w⟩ := w
      refine T_cv (fun aa => [some (tR (some aa)), some (tI (ai h_63 a_66 (x3 + 1).toNatClampNeg)), none]) gL_law rfl rfl rfl rfl (Nat.le_of_ble_eq_true rfl) gX11_run (fun _ => Nat.le_of_ble_eq_true rfl) (fun _ => rfl) ⟨a_69, hr, ho, T_ki ?_⟩
      refine T.mono w (fun rr h_67 hw => ?_)
      obtain ⟨x_68, hr, w⟩ := hw
      refine ⟨x_68, hr, ?_⟩
      replace w := c_eq w
      refine T_ic (tgt := 454) gL_law rfl (by decide) (fun hc => ?_) (fun hc => ?_)
      · replace w := w.1 hc
        exact w
      · replace w := w.2 hc
        refine T_kn (v := 0) gL_law rfl (by decide) ?_
        exact T_rz gL_law rfl rfl (Or.inl rfl) w
    rw [if_neg hc] at w
    refine sw_cons (fun hc => ?_) (fun hc => ?_)
    · rw [if_pos hc] at w
      refine T_run (n := 3) (pc' := 330) (lv' := [some (tR r0), some (tR r1), some (tR r2), some (tI x3)]) (st' := [tI x3, tR r0, tR r1]) (h' := h) gL_law rfl ?_
      refine T_kn (v := 1) gL_law rfl (by decide) ?_
      refine T_run (n := 1) (pc' := 332) (lv' := [some (tR r0), some (tR r1), some (tR r2), some (tI x3)]) (st' := [tI (x3 + 1), tR r0, tR r1]) (h' := h) gL_law rfl ?_
      obtain ⟨a_70, hr, tt, nn, ht, hk, hj, w⟩ := w
      refine T_ial gL_law rfl ⟨a_70, hr, tt, nn, ht, hk, hj, ?_⟩
      obtain ⟨a_73, hr, ho, w⟩ := w
      refine T_cv (fun aa => [some (tR (some aa)), some (tI (ai h a_70 (x3 + 1).toNatClampNeg))]) gL_law rfl rfl rfl rfl (Nat.le_of_ble_eq_true rfl) gX10_state (fun _ => Nat.le_of_ble_eq_true rfl) (fun _ => rfl) ⟨a_73, hr, ho, T_ki ?_⟩
      refine T.mono w (fun rr h_71 hw => ?_)
      obtain ⟨x_72, hr, w⟩ := hw
      refine ⟨x_72, hr, ?_⟩
      refine T_run (n := 3) (pc' := 339) (lv' := [some (tR r0), some (tR r1), some (tR r2), some (tI x3)]) (st' := [tI x3, tR r0, tR r2, tI x_72]) (h' := h_71) gL_law rfl ?_
      refine T_kn (v := 1) gL_law rfl (by decide) ?_
      refine T_run (n := 1) (pc' := 341) (lv' := [some (tR r0), some (tR r1), some (tR r2), some (tI x3)]) (st' := [tI (x3 + 1), tR r0, tR r2, tI x_72]) (h' := h_71) gL_law rfl ?_
      obtain ⟨a_74, hr, tt, nn, ht, hk, hj, w⟩ := w
      refine T_ial gL_law rfl ⟨a_74, hr, tt, nn, ht, hk, hj, ?_⟩
      obtain ⟨a_77, hr, ho, w⟩ := w
      refine T_cv (fun aa => [some (tR (some aa)), some (tI (ai h_71 a_74 (x3 + 1).toNatClampNeg))]) gL_law rfl rfl rfl rfl (Nat.le_of_ble_eq_true rfl) gX11_state (fun _ => Nat.le_of_ble_eq_true rfl) (fun _ => rfl) ⟨a_77, hr, ho, T_ki ?_⟩
      refine T.mono w (fun rr h_75 hw => ?_)
      obtain ⟨x_76, hr, w⟩ := hw
      refine ⟨x_76, hr, ?_⟩
      replace w := c_eq w
      refine T_ic (tgt := 454) gL_law rfl (by decide) (fun hc => ?_) (fun hc => ?_)
      · replace w := w.1 hc
        exact w
      · replace w := w.2 hc
        refine T_kn (v := 0) gL_law rfl (by decide) ?_
        exact T_rz gL_law rfl rfl (Or.inl rfl) w
    rw [if_neg hc] at w
    refine sw_cons (fun hc => ?_) (fun hc => ?_)
    · rw [if_pos hc] at w
      refine T_run (n := 3) (pc' := 353) (lv' := [some (tR r0), some (tR r1), some (tR r2), some (tI x3)]) (st' := [tI x3, tR r0, tR r1]) (h' := h) gL_law rfl ?_
      refine T_kn (v := 1) gL_law rfl (by decide) ?_
      refine T_run (n := 1) (pc' := 355) (lv' := [some (tR r0), some (tR r1), some (tR r2), some (tI x3)]) (st' := [tI (x3 + 1), tR r0, tR r1]) (h' := h) gL_law rfl ?_
      obtain ⟨a_78, hr, tt, nn, ht, hk, hj, w⟩ := w
      refine T_ial gL_law rfl ⟨a_78, hr, tt, nn, ht, hk, hj, ?_⟩
      obtain ⟨a_81, hr, ho, w⟩ := w
      refine T_cv (fun aa => [some (tR (some aa)), some (tI (ai h a_78 (x3 + 1).toNatClampNeg))]) gL_law rfl rfl rfl rfl (Nat.le_of_ble_eq_true rfl) gX10_result (fun _ => Nat.le_of_ble_eq_true rfl) (fun _ => rfl) ⟨a_81, hr, ho, T_kl ?_⟩
      refine T.mono w (fun rr h_79 hw => ?_)
      obtain ⟨y_80, hr, w⟩ := hw
      refine ⟨y_80, hr, ?_⟩
      refine T_run (n := 3) (pc' := 362) (lv' := [some (tR r0), some (tR r1), some (tR r2), some (tI x3)]) (st' := [tI x3, tR r0, tR r2, tL y_80]) (h' := h_79) gL_law rfl ?_
      refine T_kn (v := 1) gL_law rfl (by decide) ?_
      refine T_run (n := 1) (pc' := 364) (lv' := [some (tR r0), some (tR r1), some (tR r2), some (tI x3)]) (st' := [tI (x3 + 1), tR r0, tR r2, tL y_80]) (h' := h_79) gL_law rfl ?_
      obtain ⟨a_82, hr, tt, nn, ht, hk, hj, w⟩ := w
      refine T_ial gL_law rfl ⟨a_82, hr, tt, nn, ht, hk, hj, ?_⟩
      obtain ⟨a_85, hr, ho, w⟩ := w
      refine T_cv (fun aa => [some (tR (some aa)), some (tI (ai h_79 a_82 (x3 + 1).toNatClampNeg))]) gL_law rfl rfl rfl rfl (Nat.le_of_ble_eq_true rfl) gX11_result (fun _ => Nat.le_of_ble_eq_true rfl) (fun _ => rfl) ⟨a_85, hr, ho, T_kl ?_⟩
      refine T.mono w (fun rr h_83 hw => ?_)
      obtain ⟨y_84, hr, w⟩ := hw
      refine ⟨y_84, hr, ?_⟩
      refine T_run (n := 1) (pc' := 369) (lv' := [some (tR r0), some (tR r1), some (tR r2), some (tI x3)]) (st' := [tI (lg_cmp y_80 y_84)]) (h' := h_83) gL_law rfl ?_
      replace w := c_eq (if_iff (lg_eq y_80 y_84) w)
      refine T_if (tgt := 454) gL_law rfl (by decide) (fun hc => ?_) (fun hc => ?_)
      · replace w := w.1 hc
        exact w
      · replace w := w.2 hc
        refine T_kn (v := 0) gL_law rfl (by decide) ?_
        exact T_rz gL_law rfl rfl (Or.inl rfl) w
    rw [if_neg hc] at w
    refine sw_cons (fun hc => ?_) (fun hc => ?_)
    · rw [if_pos hc] at w
      refine T_run (n := 3) (pc' := 377) (lv' := [some (tR r0), some (tR r1), some (tR r2), some (tI x3)]) (st' := [tI x3, tR r0, tR r1]) (h' := h) gL_law rfl ?_
      refine T_kn (v := 1) gL_law rfl (by decide) ?_
      refine T_run (n := 1) (pc' := 379) (lv' := [some (tR r0), some (tR r1), some (tR r2), some (tI x3)]) (st' := [tI (x3 + 1), tR r0, tR r1]) (h' := h) gL_law rfl ?_
      obtain ⟨a_86, hr, tt, nn, ht, hk, hj, w⟩ := w
      refine T_ial gL_law rfl ⟨a_86, hr, tt, nn, ht, hk, hj, ?_⟩
      obtain ⟨a_89, hr, ho, w⟩ := w
      refine T_cv (fun aa => [some (tR (some aa)), some (tI (ai h a_86 (x3 + 1).toNatClampNeg))]) gL_law rfl rfl rfl rfl (Nat.le_of_ble_eq_true rfl) gX10_global (fun _ => Nat.le_of_ble_eq_true rfl) (fun _ => rfl) ⟨a_89, hr, ho, T_kl ?_⟩
      refine T.mono w (fun rr h_87 hw => ?_)
      obtain ⟨y_88, hr, w⟩ := hw
      refine ⟨y_88, hr, ?_⟩
      refine T_run (n := 3) (pc' := 386) (lv' := [some (tR r0), some (tR r1), some (tR r2), some (tI x3)]) (st' := [tI x3, tR r0, tR r2, tL y_88]) (h' := h_87) gL_law rfl ?_
      refine T_kn (v := 1) gL_law rfl (by decide) ?_
      refine T_run (n := 1) (pc' := 388) (lv' := [some (tR r0), some (tR r1), some (tR r2), some (tI x3)]) (st' := [tI (x3 + 1), tR r0, tR r2, tL y_88]) (h' := h_87) gL_law rfl ?_
      obtain ⟨a_90, hr, tt, nn, ht, hk, hj, w⟩ := w
      refine T_ial gL_law rfl ⟨a_90, hr, tt, nn, ht, hk, hj, ?_⟩
      obtain ⟨a_93, hr, ho, w⟩ := w
      refine T_cv (fun aa => [some (tR (some aa)), some (tI (ai h_87 a_90 (x3 + 1).toNatClampNeg))]) gL_law rfl rfl rfl rfl (Nat.le_of_ble_eq_true rfl) gX11_global (fun _ => Nat.le_of_ble_eq_true rfl) (fun _ => rfl) ⟨a_93, hr, ho, T_kl ?_⟩
      refine T.mono w (fun rr h_91 hw => ?_)
      obtain ⟨y_92, hr, w⟩ := hw
      refine ⟨y_92, hr, ?_⟩
      refine T_run (n := 1) (pc' := 393) (lv' := [some (tR r0), some (tR r1), some (tR r2), some (tI x3)]) (st' := [tI (lg_cmp y_88 y_92)]) (h' := h_91) gL_law rfl ?_
      replace w := c_eq (if_iff (lg_eq y_88 y_92) w)
      refine T_if (tgt := 454) gL_law rfl (by decide) (fun hc => ?_) (fun hc => ?_)
      · replace w := w.1 hc
        exact w
      · replace w := w.2 hc
        refine T_kn (v := 0) gL_law rfl (by decide) ?_
        exact T_rz gL_law rfl rfl (Or.inl rfl) w
    rw [if_neg hc] at w
    refine sw_cons (fun hc => ?_) (fun hc => ?_)
    · rw [if_pos hc] at w
      refine T_run (n := 3) (pc' := 401) (lv' := [some (tR r0), some (tR r1), some (tR r2), some (tI x3)]) (st' := [tI x3, tR r0, tR r1]) (h' := h) gL_law rfl ?_
      refine T_kn (v := 1) gL_law rfl (by decide) ?_
      refine T_run (n := 1) (pc' := 403) (lv' := [some (tR r0), some (tR r1), some (tR r2), some (tI x3)]) (st' := [tI (x3 + 1), tR r0, tR r1]) (h' := h) gL_law rfl ?_
      obtain ⟨a_94, hr, tt, nn, ht, hk, hj, w⟩ := w
      refine T_ial gL_law rfl ⟨a_94, hr, tt, nn, ht, hk, hj, ?_⟩
      obtain ⟨a_97, hr, ho, w⟩ := w
      refine T_cv (fun aa => [some (tR (some aa)), some (tI (ai h a_94 (x3 + 1).toNatClampNeg))]) gL_law rfl rfl rfl rfl (Nat.le_of_ble_eq_true rfl) gX10_memory (fun _ => Nat.le_of_ble_eq_true rfl) (fun _ => rfl) ⟨a_97, hr, ho, T_ki ?_⟩
      refine T.mono w (fun rr h_95 hw => ?_)
      obtain ⟨x_96, hr, w⟩ := hw
      refine ⟨x_96, hr, ?_⟩
      refine T_run (n := 3) (pc' := 410) (lv' := [some (tR r0), some (tR r1), some (tR r2), some (tI x3)]) (st' := [tI x3, tR r0, tR r2, tI x_96]) (h' := h_95) gL_law rfl ?_
      refine T_kn (v := 1) gL_law rfl (by decide) ?_
      refine T_run (n := 1) (pc' := 412) (lv' := [some (tR r0), some (tR r1), some (tR r2), some (tI x3)]) (st' := [tI (x3 + 1), tR r0, tR r2, tI x_96]) (h' := h_95) gL_law rfl ?_
      obtain ⟨a_98, hr, tt, nn, ht, hk, hj, w⟩ := w
      refine T_ial gL_law rfl ⟨a_98, hr, tt, nn, ht, hk, hj, ?_⟩
      obtain ⟨a_101, hr, ho, w⟩ := w
      refine T_cv (fun aa => [some (tR (some aa)), some (tI (ai h_95 a_98 (x3 + 1).toNatClampNeg))]) gL_law rfl rfl rfl rfl (Nat.le_of_ble_eq_true rfl) gX11_memory (fun _ => Nat.le_of_ble_eq_true rfl) (fun _ => rfl) ⟨a_101, hr, ho, T_ki ?_⟩
      refine T.mono w (fun rr h_99 hw => ?_)
      obtain ⟨x_100, hr, w⟩ := hw
      refine ⟨x_100, hr, ?_⟩
      replace w := c_eq w
      refine T_ic (tgt := 454) gL_law rfl (by decide) (fun hc => ?_) (fun hc => ?_)
      · replace w := w.1 hc
        exact w
      · replace w := w.2 hc
        refine T_kn (v := 0) gL_law rfl (by decide) ?_
        exact T_rz gL_law rfl rfl (Or.inl rfl) w
    rw [if_neg hc] at w
    refine sw_cons (fun hc => ?_) (fun hc => ?_)
    · rw [if_pos hc] at w
      refine T_run (n := 3) (pc' := 424) (lv' := [some (tR r0), some (tR r1), some (tR r2), some (tI x3)]) (st' := [tI x3, tR r0, tR r1]) (h' := h) gL_law rfl ?_
      refine T_kn (v := 1) gL_law rfl (by decide) ?_
      refine T_run (n := 1) (pc' := 426) (lv' := [some (tR r0), some (tR r1), some (tR r2), some (tI x3)]) (st' := [tI (x3 + 1), tR r0, tR r1]) (h' := h) gL_law rfl ?_
      obtain ⟨a_102, hr, tt, nn, ht, hk, hj, w⟩ := w
      refine T_ial gL_law rfl ⟨a_102, hr, tt, nn, ht, hk, hj, ?_⟩
      refine T_run (n := 2) (pc' := 429) (lv' := [some (tR r0), some (tR r1), some (tR r2), some (tI x3)]) (st' := [tI x3, tR r0, tI (ai h a_102 (x3 + 1).toNatClampNeg), tR r1]) (h' := h) gL_law rfl ?_
      refine T_kn (v := 2) gL_law rfl (by decide) ?_
      refine T_run (n := 1) (pc' := 431) (lv' := [some (tR r0), some (tR r1), some (tR r2), some (tI x3)]) (st' := [tI (x3 + 2), tR r0, tI (ai h a_102 (x3 + 1).toNatClampNeg), tR r1]) (h' := h) gL_law rfl ?_
      obtain ⟨a_103, hr, tt, nn, ht, hk, hj, w⟩ := w
      refine T_ial gL_law rfl ⟨a_103, hr, tt, nn, ht, hk, hj, ?_⟩
      obtain ⟨a_106, hr, ho, w⟩ := w
      refine T_cv (fun aa => [some (tR (some aa)), some (tI (ai h a_102 (x3 + 1).toNatClampNeg)), some (tI (ai h a_103 (x3 + 2).toNatClampNeg)), none]) gL_law rfl rfl rfl rfl (Nat.le_of_ble_eq_true rfl) gX10_look (fun _ => Nat.le_of_ble_eq_true rfl) (fun _ => rfl) ⟨a_106, hr, ho, T_ki ?_⟩
      refine T.mono w (fun rr h_104 hw => ?_)
      obtain ⟨x_105, hr, w⟩ := hw
      refine ⟨x_105, hr, ?_⟩
      refine T_run (n := 3) (pc' := 438) (lv' := [some (tR r0), some (tR r1), some (tR r2), some (tI x3)]) (st' := [tI x3, tR r0, tR r2, tI x_105]) (h' := h_104) gL_law rfl ?_
      refine T_kn (v := 1) gL_law rfl (by decide) ?_
      refine T_run (n := 1) (pc' := 440) (lv' := [some (tR r0), some (tR r1), some (tR r2), some (tI x3)]) (st' := [tI (x3 + 1), tR r0, tR r2, tI x_105]) (h' := h_104) gL_law rfl ?_
      obtain ⟨a_107, hr, tt, nn, ht, hk, hj, w⟩ := w
      refine T_ial gL_law rfl ⟨a_107, hr, tt, nn, ht, hk, hj, ?_⟩
      refine T_run (n := 2) (pc' := 443) (lv' := [some (tR r0), some (tR r1), some (tR r2), some (tI x3)]) (st' := [tI x3, tR r0, tI (ai h_104 a_107 (x3 + 1).toNatClampNeg), tR r2, tI x_105]) (h' := h_104) gL_law rfl ?_
      refine T_kn (v := 2) gL_law rfl (by decide) ?_
      refine T_run (n := 1) (pc' := 445) (lv' := [some (tR r0), some (tR r1), some (tR r2), some (tI x3)]) (st' := [tI (x3 + 2), tR r0, tI (ai h_104 a_107 (x3 + 1).toNatClampNeg), tR r2, tI x_105]) (h' := h_104) gL_law rfl ?_
      obtain ⟨a_108, hr, tt, nn, ht, hk, hj, w⟩ := w
      refine T_ial gL_law rfl ⟨a_108, hr, tt, nn, ht, hk, hj, ?_⟩
      obtain ⟨a_111, hr, ho, w⟩ := w
      refine T_cv (fun aa => [some (tR (some aa)), some (tI (ai h_104 a_107 (x3 + 1).toNatClampNeg)), some (tI (ai h_104 a_108 (x3 + 2).toNatClampNeg))]) gL_law rfl rfl rfl rfl (Nat.le_of_ble_eq_true rfl) gX11_look (fun _ => Nat.le_of_ble_eq_true rfl) (fun _ => rfl) ⟨a_111, hr, ho, T_ki ?_⟩
      refine T.mono w (fun rr h_109 hw => ?_)
      obtain ⟨x_110, hr, w⟩ := hw
      refine ⟨x_110, hr, ?_⟩
      replace w := c_eq w
      refine T_ic (tgt := 454) gL_law rfl (by decide) (fun hc => ?_) (fun hc => ?_)
      · replace w := w.1 hc
        exact w
      · replace w := w.2 hc
        refine T_kn (v := 0) gL_law rfl (by decide) ?_
        exact T_rz gL_law rfl rfl (Or.inl rfl) w
    rw [if_neg hc] at w
    exact w
set_option maxHeartbeats 4000000 in
set_option maxRecDepth 20000 in
theorem wL_law_454 (r0 : Option Nat) (r1 : Option Nat) (r2 : Option Nat) (x3 : Int32) (h : Hp) (Q : Option TV → Hp → Prop) (w :
tL_law_18 r0 r1 r2 (x3 + 4) h Q) : tL_law_454 r0 r1 r2 x3 h Q := by
  refine T_inc (x := x3) (c := 4) (lv' := [some (tR r0), some (tR r1), some (tR r2), some (tI (x3 + 4))]) gL_law rfl rfl (by decide) rfl ?_
  refine T_goto (tgt := 18) gL_law rfl (by decide) ?_
  exact w
