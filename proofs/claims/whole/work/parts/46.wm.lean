/-! what must hold at the head of each method, and of each join in it: printed by a program out of the instructions -/
set_option maxHeartbeats 4000000 in
set_option maxRecDepth 20000 in
theorem wX11_init (a0 : Nat) (h : Hp) (Q : Option TV → Hp → Prop) (w :
∀ h_1 a_2, h_1 = nw h (.inr (0, 40)) 40 → a_2 = sz h →
ob h_1 a0 10 (∀ h_3, h_3 = pr h_1 643 a0 (some a_2) →
∀ h_4 a_5, h_4 = nw h_3 (.inr (0, 40)) 40 → a_5 = sz h_3 →
ob h_4 a0 10 (∀ h_6, h_6 = pr h_4 644 a0 (some a_5) →
∀ h_7 a_8, h_7 = nw h_6 (.inr (0, 40)) 40 → a_8 = sz h_6 →
ob h_7 a0 10 (∀ h_9, h_9 = pr h_7 645 a0 (some a_8) →
∀ h_10 a_11, h_10 = nw h_9 (.inr (0, 40)) 40 → a_11 = sz h_9 →
ob h_10 a0 10 (∀ h_12, h_12 = pr h_10 646 a0 (some a_11) →
∀ h_13 a_14, h_13 = nw h_12 (.inr (0, 40)) 40 → a_14 = sz h_12 →
ob h_13 a0 10 (∀ h_15, h_15 = pr h_13 647 a0 (some a_14) →
∀ h_16 a_17, h_16 = nw h_15 (.inr (0, 40)) 40 → a_17 = sz h_15 →
ob h_16 a0 10 (∀ h_18, h_18 = pr h_16 648 a0 (some a_17) →
∀ h_19 a_20, h_19 = nw h_18 (.inr (0, 1500)) 1500 → a_20 = sz h_18 →
ob h_19 a0 10 (∀ h_21, h_21 = pr h_19 649 a0 (some a_20) →
∀ h_22 a_23, h_22 = nw h_21 (.inr (0, 1500)) 1500 → a_23 = sz h_21 →
ob h_22 a0 10 (∀ h_24, h_24 = pr h_22 650 a0 (some a_23) →
∀ h_25 a_26, h_25 = nw h_24 (.inr (0, 1500)) 1500 → a_26 = sz h_24 →
ob h_25 a0 10 (∀ h_27, h_27 = pr h_25 651 a0 (some a_26) →
∀ h_28 a_29, h_28 = nw h_27 (.inr (0, 1500)) 1500 → a_29 = sz h_27 →
ob h_28 a0 10 (∀ h_30, h_30 = pr h_28 652 a0 (some a_29) →
∀ h_31 a_32, h_31 = nw h_30 (.inr (0, 1501)) 1501 → a_32 = sz h_30 →
ob h_31 a0 10 (∀ h_33, h_33 = pr h_31 657 a0 (some a_32) →
∀ h_34 a_35, h_34 = nw h_33 (.inr (0, 1501)) 1501 → a_35 = sz h_33 →
ob h_34 a0 10 (∀ h_36, h_36 = pr h_34 658 a0 (some a_35) →
∀ h_37 a_38, h_37 = nw h_36 (.inr (0, 1501)) 1501 → a_38 = sz h_36 →
ob h_37 a0 10 (∀ h_39, h_39 = pr h_37 659 a0 (some a_38) →
∀ h_40 a_41, h_40 = nw h_39 (.inr (0, 1501)) 1501 → a_41 = sz h_39 →
ob h_40 a0 10 (∀ h_42, h_42 = pr h_40 660 a0 (some a_41) →
∀ h_43 a_44, h_43 = nw h_42 (.inr (0, 1501)) 1501 → a_44 = sz h_42 →
ob h_43 a0 10 (∀ h_45, h_45 = pr h_43 661 a0 (some a_44) →
∀ h_46 a_47, h_46 = nw h_45 (.inr (3, 1501)) 1501 → a_47 = sz h_45 →
ob h_46 a0 10 (∀ h_48, h_48 = pr h_46 662 a0 (some a_47) →
∀ h_49 a_50, h_49 = nw h_48 (.inr (0, 30)) 30 → a_50 = sz h_48 →
ob h_49 a0 10 (∀ h_51, h_51 = pr h_49 663 a0 (some a_50) →
∀ h_52 a_53, h_52 = nw h_51 (.inr (1, 8)) 8 → a_53 = sz h_51 →
ob h_52 a0 10 (∀ h_54, h_54 = pr h_52 664 a0 (some a_53) →
∀ h_55 a_56, h_55 = nw h_54 (.inr (0, 384)) 384 → a_56 = sz h_54 →
ob h_55 a0 10 (∀ h_57, h_57 = pr h_55 665 a0 (some a_56) →
ob h_57 a0 10 (∀ h_58, h_58 = pi h_57 666 a0 1 →
∀ h_59 a_60, h_59 = nw h_58 (.inr (1, 8)) 8 → a_60 = sz h_58 →
ob h_59 a0 10 (∀ h_61, h_61 = pr h_59 675 a0 (some a_60) →
∀ h_62 a_63, h_62 = nw h_61 (.inr (1, 700)) 700 → a_63 = sz h_61 →
ob h_62 a0 10 (∀ h_64, h_64 = pr h_62 676 a0 (some a_63) →
∀ h_65 a_66, h_65 = nw h_64 (.inr (0, 31)) 31 → a_66 = sz h_64 →
ob h_65 a0 10 (∀ h_67, h_67 = pr h_65 677 a0 (some a_66) →
∀ h_68 a_69, h_68 = nw h_67 (.inr (0, 31)) 31 → a_69 = sz h_67 →
ob h_68 a0 10 (∀ h_70, h_70 = pr h_68 678 a0 (some a_69) →
∀ h_71 a_72, h_71 = nw h_70 (.inr (0, 31)) 31 → a_72 = sz h_70 →
ob h_71 a0 10 (∀ h_73, h_73 = pr h_71 679 a0 (some a_72) →
∀ h_74 a_75, h_74 = nw h_73 (.inr (1, 8)) 8 → a_75 = sz h_73 →
ob h_74 a0 10 (∀ h_76, h_76 = pr h_74 681 a0 (some a_75) →
tX11_init_223 a0 0 h_76 Q))))))))))))))))))))))))))) : tX11_init a0 h Q := by
  refine T_run (n := 1) (pc' := 1) (lv' := [some (tR (some a0)), none]) (st' := [tR (some a0)]) (h' := h) gX11_init rfl ?_
  refine T_oi gX11_init rfl (Nat.le_of_ble_eq_true rfl) ?_
  refine T_run (n := 1) (pc' := 5) (lv' := [some (tR (some a0)), none]) (st' := [tR (some a0)]) (h' := h) gX11_init rfl ?_
  refine T_kb (v := 40) gX11_init rfl (by decide) ?_
  refine T_na (t := 0) (N := 40) gX11_init rfl rfl (by decide) (by decide) (by decide) (fun h_1 a_2 he hz => ?_)
  replace w := w h_1 a_2 he hz
  obtain ⟨ho, w⟩ := w
  refine T_ps (pr h_1 643 a0 (some a_2)) gX11_init rfl rfl ⟨ho, fun h_3 he => ?_⟩
  replace w := w h_3 he
  refine T_run (n := 1) (pc' := 13) (lv' := [some (tR (some a0)), none]) (st' := [tR (some a0)]) (h' := h_3) gX11_init rfl ?_
  refine T_kb (v := 40) gX11_init rfl (by decide) ?_
  refine T_na (t := 0) (N := 40) gX11_init rfl rfl (by decide) (by decide) (by decide) (fun h_4 a_5 he hz => ?_)
  replace w := w h_4 a_5 he hz
  obtain ⟨ho, w⟩ := w
  refine T_ps (pr h_4 644 a0 (some a_5)) gX11_init rfl rfl ⟨ho, fun h_6 he => ?_⟩
  replace w := w h_6 he
  refine T_run (n := 1) (pc' := 21) (lv' := [some (tR (some a0)), none]) (st' := [tR (some a0)]) (h' := h_6) gX11_init rfl ?_
  refine T_kb (v := 40) gX11_init rfl (by decide) ?_
  refine T_na (t := 0) (N := 40) gX11_init rfl rfl (by decide) (by decide) (by decide) (fun h_7 a_8 he hz => ?_)
  replace w := w h_7 a_8 he hz
  obtain ⟨ho, w⟩ := w
  refine T_ps (pr h_7 645 a0 (some a_8)) gX11_init rfl rfl ⟨ho, fun h_9 he => ?_⟩
  replace w := w h_9 he
  refine T_run (n := 1) (pc' := 29) (lv' := [some (tR (some a0)), none]) (st' := [tR (some a0)]) (h' := h_9) gX11_init rfl ?_
  refine T_kb (v := 40) gX11_init rfl (by decide) ?_
  refine T_na (t := 0) (N := 40) gX11_init rfl rfl (by decide) (by decide) (by decide) (fun h_10 a_11 he hz => ?_)
  replace w := w h_10 a_11 he hz
  obtain ⟨ho, w⟩ := w
  refine T_ps (pr h_10 646 a0 (some a_11)) gX11_init rfl rfl ⟨ho, fun h_12 he => ?_⟩
  replace w := w h_12 he
  refine T_run (n := 1) (pc' := 37) (lv' := [some (tR (some a0)), none]) (st' := [tR (some a0)]) (h' := h_12) gX11_init rfl ?_
  refine T_kb (v := 40) gX11_init rfl (by decide) ?_
  refine T_na (t := 0) (N := 40) gX11_init rfl rfl (by decide) (by decide) (by decide) (fun h_13 a_14 he hz => ?_)
  replace w := w h_13 a_14 he hz
  obtain ⟨ho, w⟩ := w
  refine T_ps (pr h_13 647 a0 (some a_14)) gX11_init rfl rfl ⟨ho, fun h_15 he => ?_⟩
  replace w := w h_15 he
  refine T_run (n := 1) (pc' := 45) (lv' := [some (tR (some a0)), none]) (st' := [tR (some a0)]) (h' := h_15) gX11_init rfl ?_
  refine T_kb (v := 40) gX11_init rfl (by decide) ?_
  refine T_na (t := 0) (N := 40) gX11_init rfl rfl (by decide) (by decide) (by decide) (fun h_16 a_17 he hz => ?_)
  replace w := w h_16 a_17 he hz
  obtain ⟨ho, w⟩ := w
  refine T_ps (pr h_16 648 a0 (some a_17)) gX11_init rfl rfl ⟨ho, fun h_18 he => ?_⟩
  replace w := w h_18 he
  refine T_run (n := 1) (pc' := 53) (lv' := [some (tR (some a0)), none]) (st' := [tR (some a0)]) (h' := h_18) gX11_init rfl ?_
  refine T_ks (v := 1500) gX11_init rfl (by decide) ?_
  refine T_na (t := 0) (N := 1500) gX11_init rfl rfl (by decide) (by decide) (by decide) (fun h_19 a_20 he hz => ?_)
  replace w := w h_19 a_20 he hz
  obtain ⟨ho, w⟩ := w
  refine T_ps (pr h_19 649 a0 (some a_20)) gX11_init rfl rfl ⟨ho, fun h_21 he => ?_⟩
  replace w := w h_21 he
  refine T_run (n := 1) (pc' := 62) (lv' := [some (tR (some a0)), none]) (st' := [tR (some a0)]) (h' := h_21) gX11_init rfl ?_
  refine T_ks (v := 1500) gX11_init rfl (by decide) ?_
  refine T_na (t := 0) (N := 1500) gX11_init rfl rfl (by decide) (by decide) (by decide) (fun h_22 a_23 he hz => ?_)
  replace w := w h_22 a_23 he hz
  obtain ⟨ho, w⟩ := w
  refine T_ps (pr h_22 650 a0 (some a_23)) gX11_init rfl rfl ⟨ho, fun h_24 he => ?_⟩
  replace w := w h_24 he
  refine T_run (n := 1) (pc' := 71) (lv' := [some (tR (some a0)), none]) (st' := [tR (some a0)]) (h' := h_24) gX11_init rfl ?_
  refine T_ks (v := 1500) gX11_init rfl (by decide) ?_
  refine T_na (t := 0) (N := 1500) gX11_init rfl rfl (by decide) (by decide) (by decide) (fun h_25 a_26 he hz => ?_)
  replace w := w h_25 a_26 he hz
  obtain ⟨ho, w⟩ := w
  refine T_ps (pr h_25 651 a0 (some a_26)) gX11_init rfl rfl ⟨ho, fun h_27 he => ?_⟩
  replace w := w h_27 he
  refine T_run (n := 1) (pc' := 80) (lv' := [some (tR (some a0)), none]) (st' := [tR (some a0)]) (h' := h_27) gX11_init rfl ?_
  refine T_ks (v := 1500) gX11_init rfl (by decide) ?_
  refine T_na (t := 0) (N := 1500) gX11_init rfl rfl (by decide) (by decide) (by decide) (fun h_28 a_29 he hz => ?_)
  replace w := w h_28 a_29 he hz
  obtain ⟨ho, w⟩ := w
  refine T_ps (pr h_28 652 a0 (some a_29)) gX11_init rfl rfl ⟨ho, fun h_30 he => ?_⟩
  replace w := w h_30 he
  refine T_run (n := 1) (pc' := 89) (lv' := [some (tR (some a0)), none]) (st' := [tR (some a0)]) (h' := h_30) gX11_init rfl ?_
  refine T_ks (v := 1501) gX11_init rfl (by decide) ?_
  refine T_na (t := 0) (N := 1501) gX11_init rfl rfl (by decide) (by decide) (by decide) (fun h_31 a_32 he hz => ?_)
  replace w := w h_31 a_32 he hz
  obtain ⟨ho, w⟩ := w
  refine T_ps (pr h_31 657 a0 (some a_32)) gX11_init rfl rfl ⟨ho, fun h_33 he => ?_⟩
  replace w := w h_33 he
  refine T_run (n := 1) (pc' := 98) (lv' := [some (tR (some a0)), none]) (st' := [tR (some a0)]) (h' := h_33) gX11_init rfl ?_
  refine T_ks (v := 1501) gX11_init rfl (by decide) ?_
  refine T_na (t := 0) (N := 1501) gX11_init rfl rfl (by decide) (by decide) (by decide) (fun h_34 a_35 he hz => ?_)
  replace w := w h_34 a_35 he hz
  obtain ⟨ho, w⟩ := w
  refine T_ps (pr h_34 658 a0 (some a_35)) gX11_init rfl rfl ⟨ho, fun h_36 he => ?_⟩
  replace w := w h_36 he
  refine T_run (n := 1) (pc' := 107) (lv' := [some (tR (some a0)), none]) (st' := [tR (some a0)]) (h' := h_36) gX11_init rfl ?_
  refine T_ks (v := 1501) gX11_init rfl (by decide) ?_
  refine T_na (t := 0) (N := 1501) gX11_init rfl rfl (by decide) (by decide) (by decide) (fun h_37 a_38 he hz => ?_)
  replace w := w h_37 a_38 he hz
  obtain ⟨ho, w⟩ := w
  refine T_ps (pr h_37 659 a0 (some a_38)) gX11_init rfl rfl ⟨ho, fun h_39 he => ?_⟩
  replace w := w h_39 he
  refine T_run (n := 1) (pc' := 116) (lv' := [some (tR (some a0)), none]) (st' := [tR (some a0)]) (h' := h_39) gX11_init rfl ?_
  refine T_ks (v := 1501) gX11_init rfl (by decide) ?_
  refine T_na (t := 0) (N := 1501) gX11_init rfl rfl (by decide) (by decide) (by decide) (fun h_40 a_41 he hz => ?_)
  replace w := w h_40 a_41 he hz
  obtain ⟨ho, w⟩ := w
  refine T_ps (pr h_40 660 a0 (some a_41)) gX11_init rfl rfl ⟨ho, fun h_42 he => ?_⟩
  replace w := w h_42 he
  refine T_run (n := 1) (pc' := 125) (lv' := [some (tR (some a0)), none]) (st' := [tR (some a0)]) (h' := h_42) gX11_init rfl ?_
  refine T_ks (v := 1501) gX11_init rfl (by decide) ?_
  refine T_na (t := 0) (N := 1501) gX11_init rfl rfl (by decide) (by decide) (by decide) (fun h_43 a_44 he hz => ?_)
  replace w := w h_43 a_44 he hz
  obtain ⟨ho, w⟩ := w
  refine T_ps (pr h_43 661 a0 (some a_44)) gX11_init rfl rfl ⟨ho, fun h_45 he => ?_⟩
  replace w := w h_45 he
  refine T_run (n := 1) (pc' := 134) (lv' := [some (tR (some a0)), none]) (st' := [tR (some a0)]) (h' := h_45) gX11_init rfl ?_
  refine T_ks (v := 1501) gX11_init rfl (by decide) ?_
  refine T_na (t := 3) (N := 1501) gX11_init rfl rfl (by decide) (by decide) (by decide) (fun h_46 a_47 he hz => ?_)
  replace w := w h_46 a_47 he hz
  obtain ⟨ho, w⟩ := w
  refine T_ps (pr h_46 662 a0 (some a_47)) gX11_init rfl rfl ⟨ho, fun h_48 he => ?_⟩
  replace w := w h_48 he
  refine T_run (n := 1) (pc' := 143) (lv' := [some (tR (some a0)), none]) (st' := [tR (some a0)]) (h' := h_48) gX11_init rfl ?_
  refine T_kb (v := 30) gX11_init rfl (by decide) ?_
  refine T_na (t := 0) (N := 30) gX11_init rfl rfl (by decide) (by decide) (by decide) (fun h_49 a_50 he hz => ?_)
  replace w := w h_49 a_50 he hz
  obtain ⟨ho, w⟩ := w
  refine T_ps (pr h_49 663 a0 (some a_50)) gX11_init rfl rfl ⟨ho, fun h_51 he => ?_⟩
  replace w := w h_51 he
  refine T_run (n := 1) (pc' := 151) (lv' := [some (tR (some a0)), none]) (st' := [tR (some a0)]) (h' := h_51) gX11_init rfl ?_
  refine T_kb (v := 8) gX11_init rfl (by decide) ?_
  refine T_na (t := 1) (N := 8) gX11_init rfl rfl (by decide) (by decide) (by decide) (fun h_52 a_53 he hz => ?_)
  replace w := w h_52 a_53 he hz
  obtain ⟨ho, w⟩ := w
  refine T_ps (pr h_52 664 a0 (some a_53)) gX11_init rfl rfl ⟨ho, fun h_54 he => ?_⟩
  replace w := w h_54 he
  refine T_run (n := 1) (pc' := 159) (lv' := [some (tR (some a0)), none]) (st' := [tR (some a0)]) (h' := h_54) gX11_init rfl ?_
  refine T_ks (v := 384) gX11_init rfl (by decide) ?_
  refine T_na (t := 0) (N := 384) gX11_init rfl rfl (by decide) (by decide) (by decide) (fun h_55 a_56 he hz => ?_)
  replace w := w h_55 a_56 he hz
  obtain ⟨ho, w⟩ := w
  refine T_ps (pr h_55 665 a0 (some a_56)) gX11_init rfl rfl ⟨ho, fun h_57 he => ?_⟩
  replace w := w h_57 he
  refine T_run (n := 1) (pc' := 168) (lv' := [some (tR (some a0)), none]) (st' := [tR (some a0)]) (h' := h_57) gX11_init rfl ?_
  refine T_kn (v := 1) gX11_init rfl (by decide) ?_
  obtain ⟨ho, w⟩ := w
  refine T_ps (pi h_57 666 a0 1) gX11_init rfl rfl ⟨ho, fun h_58 he => ?_⟩
  replace w := w h_58 he
  refine T_run (n := 1) (pc' := 173) (lv' := [some (tR (some a0)), none]) (st' := [tR (some a0)]) (h' := h_58) gX11_init rfl ?_
  refine T_kb (v := 8) gX11_init rfl (by decide) ?_
  refine T_na (t := 1) (N := 8) gX11_init rfl rfl (by decide) (by decide) (by decide) (fun h_59 a_60 he hz => ?_)
  replace w := w h_59 a_60 he hz
  obtain ⟨ho, w⟩ := w
  refine T_ps (pr h_59 675 a0 (some a_60)) gX11_init rfl rfl ⟨ho, fun h_61 he => ?_⟩
  replace w := w h_61 he
  refine T_run (n := 1) (pc' := 181) (lv' := [some (tR (some a0)), none]) (st' := [tR (some a0)]) (h' := h_61) gX11_init rfl ?_
  refine T_ks (v := 700) gX11_init rfl (by decide) ?_
  refine T_na (t := 1) (N := 700) gX11_init rfl rfl (by decide) (by decide) (by decide) (fun h_62 a_63 he hz => ?_)
  replace w := w h_62 a_63 he hz
  obtain ⟨ho, w⟩ := w
  refine T_ps (pr h_62 676 a0 (some a_63)) gX11_init rfl rfl ⟨ho, fun h_64 he => ?_⟩
  replace w := w h_64 he
  refine T_run (n := 1) (pc' := 190) (lv' := [some (tR (some a0)), none]) (st' := [tR (some a0)]) (h' := h_64) gX11_init rfl ?_
  refine T_kb (v := 31) gX11_init rfl (by decide) ?_
  refine T_na (t := 0) (N := 31) gX11_init rfl rfl (by decide) (by decide) (by decide) (fun h_65 a_66 he hz => ?_)
  replace w := w h_65 a_66 he hz
  obtain ⟨ho, w⟩ := w
  refine T_ps (pr h_65 677 a0 (some a_66)) gX11_init rfl rfl ⟨ho, fun h_67 he => ?_⟩
  replace w := w h_67 he
  refine T_run (n := 1) (pc' := 198) (lv' := [some (tR (some a0)), none]) (st' := [tR (some a0)]) (h' := h_67) gX11_init rfl ?_
  refine T_kb (v := 31) gX11_init rfl (by decide) ?_
  refine T_na (t := 0) (N := 31) gX11_init rfl rfl (by decide) (by decide) (by decide) (fun h_68 a_69 he hz => ?_)
  replace w := w h_68 a_69 he hz
  obtain ⟨ho, w⟩ := w
  refine T_ps (pr h_68 678 a0 (some a_69)) gX11_init rfl rfl ⟨ho, fun h_70 he => ?_⟩
  replace w := w h_70 he
  refine T_run (n := 1) (pc' := 206) (lv' := [some (tR (some a0)), none]) (st' := [tR (some a0)]) (h' := h_70) gX11_init rfl ?_
  refine T_kb (v := 31) gX11_init rfl (by decide) ?_
  refine T_na (t := 0) (N := 31) gX11_init rfl rfl (by decide) (by decide) (by decide) (fun h_71 a_72 he hz => ?_)
  replace w := w h_71 a_72 he hz
  obtain ⟨ho, w⟩ := w
  refine T_ps (pr h_71 679 a0 (some a_72)) gX11_init rfl rfl ⟨ho, fun h_73 he => ?_⟩
  replace w := w h_73 he
  refine T_run (n := 1) (pc' := 214) (lv' := [some (tR (some a0)), none]) (st' := [tR (some a0)]) (h' := h_73) gX11_init rfl ?_
  refine T_kb (v := 8) gX11_init rfl (by decide) ?_
  refine T_na (t := 1) (N := 8) gX11_init rfl rfl (by decide) (by decide) (by decide) (fun h_74 a_75 he hz => ?_)
  replace w := w h_74 a_75 he hz
  obtain ⟨ho, w⟩ := w
  refine T_ps (pr h_74 681 a0 (some a_75)) gX11_init rfl rfl ⟨ho, fun h_76 he => ?_⟩
  replace w := w h_76 he
  refine T_kn (v := 0) gX11_init rfl (by decide) ?_
  refine T_run (n := 1) (pc' := 223) (lv' := [some (tR (some a0)), some (tI 0)]) (st' := []) (h' := h_76) gX11_init rfl ?_
  exact w
set_option maxHeartbeats 4000000 in
set_option maxRecDepth 20000 in
theorem wX11_init_223 (a0 : Nat) (x1 : Int32) (h : Hp) (Q : Option TV → Hp → Prop) (w :
(if x1 < 30 then
ob h a0 10 (
dr (gr h 663 a0) (fun a_1 => ix h kIs a_1 x1 (∀ h_2, h_2 = si h a_1 x1.toNatClampNeg (-1) →
tX11_init_223 a0 (x1 + 1) h_2 Q)))
else
Q none h)) : tX11_init_223 a0 x1 h Q := by
  refine T_run (n := 1) (pc' := 224) (lv' := [some (tR (some a0)), some (tI x1)]) (st' := [tI x1]) (h' := h) gX11_init rfl ?_
  refine T_kb (v := 30) gX11_init rfl (by decide) ?_
  replace w := c_ge w
  refine T_ic (tgt := 242) gX11_init rfl (by decide) (fun hc => ?_) (fun hc => ?_)
  · replace w := w.1 hc
    exact T_rv gX11_init rfl rfl w
  · replace w := w.2 hc
    refine T_run (n := 1) (pc' := 230) (lv' := [some (tR (some a0)), some (tI x1)]) (st' := [tR (some a0)]) (h' := h) gX11_init rfl ?_
    obtain ⟨ho, w⟩ := w
    refine T_gs (tR (gr h 663 a0)) gX11_init rfl rfl ⟨ho, ?_⟩
    refine T_run (n := 1) (pc' := 234) (lv' := [some (tR (some a0)), some (tI x1)]) (st' := [tI x1, tR (gr h 663 a0)]) (h' := h) gX11_init rfl ?_
    refine T_kn (v := (-1)) gX11_init rfl (by decide) ?_
    obtain ⟨a_1, hr, tt, nn, ht, hk, hj, w⟩ := w
    refine T_ias gX11_init rfl ⟨a_1, hr, tt, nn, ht, hk, hj, fun h_2 he => ?_⟩
    replace w := w h_2 he
    refine T_inc (x := x1) (c := 1) (lv' := [some (tR (some a0)), some (tI (x1 + 1))]) gX11_init rfl rfl (by decide) rfl ?_
    refine T_goto (tgt := 223) gX11_init rfl (by decide) ?_
    exact w
set_option maxHeartbeats 4000000 in
set_option maxRecDepth 20000 in
theorem wX11_within (x0 : Int32) (x1 : Int32) (h : Hp) (Q : Option TV → Hp → Prop) (w :
(if x0 < 0 then
Q (some (tI 0)) h
else
(if x1 < x0 then
Q (some (tI 0)) h
else
Q (some (tI 1)) h))) : tX11_within x0 x1 h Q := by
  refine T_run (n := 1) (pc' := 1) (lv' := [some (tI x0), some (tI x1)]) (st' := [tI x0]) (h' := h) gX11_within rfl ?_
  replace w := c_lt w
  refine T_if (tgt := 13) gX11_within rfl (by decide) (fun hc => ?_) (fun hc => ?_)
  · replace w := w.1 hc
    refine T_kn (v := 0) gX11_within rfl (by decide) ?_
    exact T_rz gX11_within rfl rfl (Or.inl rfl) w
  · replace w := w.2 hc
    refine T_run (n := 2) (pc' := 6) (lv' := [some (tI x0), some (tI x1)]) (st' := [tI x1, tI x0]) (h' := h) gX11_within rfl ?_
    replace w := c_gt w
    refine T_ic (tgt := 13) gX11_within rfl (by decide) (fun hc => ?_) (fun hc => ?_)
    · replace w := w.1 hc
      refine T_kn (v := 0) gX11_within rfl (by decide) ?_
      exact T_rz gX11_within rfl rfl (Or.inl rfl) w
    · replace w := w.2 hc
      refine T_kn (v := 1) gX11_within rfl (by decide) ?_
      refine T_goto (tgt := 14) gX11_within rfl (by decide) ?_
      exact T_rz gX11_within rfl rfl (Or.inr rfl) w
set_option maxHeartbeats 4000000 in
set_option maxRecDepth 20000 in
theorem wX11_begin (a0 : Nat) (x1 : Int32) (x2 : Int32) (x3 : Int32) (h : Hp) (Q : Option TV → Hp → Prop) (w :
ob h a0 10 (
(if (gi h 653 a0) = 0 then
tX11_begin_34 a0 x1 x2 x3 0 h Q
else
ob h a0 10 (
ob h a0 10 (
dr (gr h 660 a0) (fun a_1 => ix h kI a_1 ((gi h 653 a0) - 1) (
ob h a0 10 (
ob h a0 10 (
dr (gr h 661 a0) (fun a_2 => ix h kI a_2 ((gi h 653 a0) - 1) (
tX11_begin_34 a0 x1 x2 x3 ((ai h a_1 ((gi h 653 a0) - 1).toNatClampNeg) + (ai h a_2 ((gi h 653 a0) - 1).toNatClampNeg)) h Q))))))))))) : tX11_begin a0 x1 x2 x3 h Q := by
  refine T_run (n := 1) (pc' := 1) (lv' := [some (tR (some a0)), some (tI x1), some (tI x2), some (tI x3), none]) (st' := [tR (some a0)]) (h' := h) gX11_begin rfl ?_
  obtain ⟨ho, w⟩ := w
  refine T_gs (tI (gi h 653 a0)) gX11_begin rfl rfl ⟨ho, ?_⟩
  replace w := c_ne w
  refine T_if (tgt := 11) gX11_begin rfl (by decide) (fun hc => ?_) (fun hc => ?_)
  · replace w := w.1 hc
    refine T_run (n := 1) (pc' := 12) (lv' := [some (tR (some a0)), some (tI x1), some (tI x2), some (tI x3), none]) (st' := [tR (some a0)]) (h' := h) gX11_begin rfl ?_
    obtain ⟨ho, w⟩ := w
    refine T_gs (tR (gr h 660 a0)) gX11_begin rfl rfl ⟨ho, ?_⟩
    refine T_run (n := 1) (pc' := 16) (lv' := [some (tR (some a0)), some (tI x1), some (tI x2), some (tI x3), none]) (st' := [tR (some a0), tR (gr h 660 a0)]) (h' := h) gX11_begin rfl ?_
    obtain ⟨ho, w⟩ := w
    refine T_gs (tI (gi h 653 a0)) gX11_begin rfl rfl ⟨ho, ?_⟩
    refine T_kn (v := 1) gX11_begin rfl (by decide) ?_
    refine T_run (n := 1) (pc' := 21) (lv' := [some (tR (some a0)), some (tI x1), some (tI x2), some (tI x3), none]) (st' := [tI ((gi h 653 a0) - 1), tR (gr h 660 a0)]) (h' := h) gX11_begin rfl ?_
    obtain ⟨a_1, hr, tt, nn, ht, hk, hj, w⟩ := w
    refine T_ial gX11_begin rfl ⟨a_1, hr, tt, nn, ht, hk, hj, ?_⟩
    refine T_run (n := 1) (pc' := 23) (lv' := [some (tR (some a0)), some (tI x1), some (tI x2), some (tI x3), none]) (st' := [tR (some a0), tI (ai h a_1 ((gi h 653 a0) - 1).toNatClampNeg)]) (h' := h) gX11_begin rfl ?_
    obtain ⟨ho, w⟩ := w
    refine T_gs (tR (gr h 661 a0)) gX11_begin rfl rfl ⟨ho, ?_⟩
    refine T_run (n := 1) (pc' := 27) (lv' := [some (tR (some a0)), some (tI x1), some (tI x2), some (tI x3), none]) (st' := [tR (some a0), tR (gr h 661 a0), tI (ai h a_1 ((gi h 653 a0) - 1).toNatClampNeg)]) (h' := h) gX11_begin rfl ?_
    obtain ⟨ho, w⟩ := w
    refine T_gs (tI (gi h 653 a0)) gX11_begin rfl rfl ⟨ho, ?_⟩
    refine T_kn (v := 1) gX11_begin rfl (by decide) ?_
    refine T_run (n := 1) (pc' := 32) (lv' := [some (tR (some a0)), some (tI x1), some (tI x2), some (tI x3), none]) (st' := [tI ((gi h 653 a0) - 1), tR (gr h 661 a0), tI (ai h a_1 ((gi h 653 a0) - 1).toNatClampNeg)]) (h' := h) gX11_begin rfl ?_
    obtain ⟨a_2, hr, tt, nn, ht, hk, hj, w⟩ := w
    refine T_ial gX11_begin rfl ⟨a_2, hr, tt, nn, ht, hk, hj, ?_⟩
    refine T_run (n := 1) (pc' := 34) (lv' := [some (tR (some a0)), some (tI x1), some (tI x2), some (tI x3), none]) (st' := [tI ((ai h a_1 ((gi h 653 a0) - 1).toNatClampNeg) + (ai h a_2 ((gi h 653 a0) - 1).toNatClampNeg))]) (h' := h) gX11_begin rfl ?_
    exact w
  · replace w := w.2 hc
    refine T_kn (v := 0) gX11_begin rfl (by decide) ?_
    refine T_goto (tgt := 34) gX11_begin rfl (by decide) ?_
    exact w
set_option maxHeartbeats 4000000 in
set_option maxRecDepth 20000 in
theorem wX11_begin_34 (a0 : Nat) (x1 : Int32) (x2 : Int32) (x3 : Int32) (s0 : Int32) (h : Hp) (Q : Option TV → Hp → Prop) (w :
ob h a0 10 (
ob h a0 10 (
dr (gr h 657 a0) (fun a_1 => ix h kIs a_1 (gi h 653 a0) (∀ h_2, h_2 = si h a_1 (gi h 653 a0).toNatClampNeg x1 →
ob h_2 a0 10 (
ob h_2 a0 10 (
dr (gr h_2 658 a0) (fun a_3 => ix h_2 kIs a_3 (gi h_2 653 a0) (∀ h_4, h_4 = si h_2 a_3 (gi h_2 653 a0).toNatClampNeg x2 →
ob h_4 a0 10 (
ob h_4 a0 10 (
dr (gr h_4 659 a0) (fun a_5 => ix h_4 kIs a_5 (gi h_4 653 a0) (∀ h_6, h_6 = si h_4 a_5 (gi h_4 653 a0).toNatClampNeg x3 →
ob h_6 a0 10 (
ob h_6 a0 10 (
dr (gr h_6 660 a0) (fun a_7 => ix h_6 kIs a_7 (gi h_6 653 a0) (∀ h_8, h_8 = si h_6 a_7 (gi h_6 653 a0).toNatClampNeg s0 →
ob h_8 a0 10 (
ob h_8 a0 10 (
dr (gr h_8 661 a0) (fun a_9 => ix h_8 kIs a_9 (gi h_8 653 a0) (∀ h_10, h_10 = si h_8 a_9 (gi h_8 653 a0).toNatClampNeg x2 →
ob h_10 a0 10 (
ob h_10 a0 10 (
dr (gr h_10 662 a0) (fun a_11 => ix h_10 kZ a_11 (gi h_10 653 a0) (∀ h_12, h_12 = si h_10 a_11 (gi h_10 653 a0).toNatClampNeg (0 &&& 1) →
ob h_12 a0 10 (
ob h_12 a0 10 (∀ h_13, h_13 = pi h_12 653 a0 ((gi h_12 653 a0) + 1) →
Q none h_13))))))))))))))))))))))))))) : tX11_begin_34 a0 x1 x2 x3 s0 h Q := by
  refine T_run (n := 2) (pc' := 37) (lv' := [some (tR (some a0)), some (tI x1), some (tI x2), some (tI x3), some (tI s0)]) (st' := [tR (some a0)]) (h' := h) gX11_begin rfl ?_
  obtain ⟨ho, w⟩ := w
  refine T_gs (tR (gr h 657 a0)) gX11_begin rfl rfl ⟨ho, ?_⟩
  refine T_run (n := 1) (pc' := 41) (lv' := [some (tR (some a0)), some (tI x1), some (tI x2), some (tI x3), some (tI s0)]) (st' := [tR (some a0), tR (gr h 657 a0)]) (h' := h) gX11_begin rfl ?_
  obtain ⟨ho, w⟩ := w
  refine T_gs (tI (gi h 653 a0)) gX11_begin rfl rfl ⟨ho, ?_⟩
  refine T_run (n := 1) (pc' := 45) (lv' := [some (tR (some a0)), some (tI x1), some (tI x2), some (tI x3), some (tI s0)]) (st' := [tI x1, tI (gi h 653 a0), tR (gr h 657 a0)]) (h' := h) gX11_begin rfl ?_
  obtain ⟨a_1, hr, tt, nn, ht, hk, hj, w⟩ := w
  refine T_ias gX11_begin rfl ⟨a_1, hr, tt, nn, ht, hk, hj, fun h_2 he => ?_⟩
  replace w := w h_2 he
  refine T_run (n := 1) (pc' := 47) (lv' := [some (tR (some a0)), some (tI x1), some (tI x2), some (tI x3), some (tI s0)]) (st' := [tR (some a0)]) (h' := h_2) gX11_begin rfl ?_
  obtain ⟨ho, w⟩ := w
  refine T_gs (tR (gr h_2 658 a0)) gX11_begin rfl rfl ⟨ho, ?_⟩
  refine T_run (n := 1) (pc' := 51) (lv' := [some (tR (some a0)), some (tI x1), some (tI x2), some (tI x3), some (tI s0)]) (st' := [tR (some a0), tR (gr h_2 658 a0)]) (h' := h_2) gX11_begin rfl ?_
  obtain ⟨ho, w⟩ := w
  refine T_gs (tI (gi h_2 653 a0)) gX11_begin rfl rfl ⟨ho, ?_⟩
  refine T_run (n := 1) (pc' := 55) (lv' := [some (tR (some a0)), some (tI x1), some (tI x2), some (tI x3), some (tI s0)]) (st' := [tI x2, tI (gi h_2 653 a0), tR (gr h_2 658 a0)]) (h' := h_2) gX11_begin rfl ?_
  obtain ⟨a_3, hr, tt, nn, ht, hk, hj, w⟩ := w
  refine T_ias gX11_begin rfl ⟨a_3, hr, tt, nn, ht, hk, hj, fun h_4 he => ?_⟩
  replace w := w h_4 he
  refine T_run (n := 1) (pc' := 57) (lv' := [some (tR (some a0)), some (tI x1), some (tI x2), some (tI x3), some (tI s0)]) (st' := [tR (some a0)]) (h' := h_4) gX11_begin rfl ?_
  obtain ⟨ho, w⟩ := w
  refine T_gs (tR (gr h_4 659 a0)) gX11_begin rfl rfl ⟨ho, ?_⟩
  refine T_run (n := 1) (pc' := 61) (lv' := [some (tR (some a0)), some (tI x1), some (tI x2), some (tI x3), some (tI s0)]) (st' := [tR (some a0), tR (gr h_4 659 a0)]) (h' := h_4) gX11_begin rfl ?_
  obtain ⟨ho, w⟩ := w
  refine T_gs (tI (gi h_4 653 a0)) gX11_begin rfl rfl ⟨ho, ?_⟩
  refine T_run (n := 1) (pc' := 65) (lv' := [some (tR (some a0)), some (tI x1), some (tI x2), some (tI x3), some (tI s0)]) (st' := [tI x3, tI (gi h_4 653 a0), tR (gr h_4 659 a0)]) (h' := h_4) gX11_begin rfl ?_
  obtain ⟨a_5, hr, tt, nn, ht, hk, hj, w⟩ := w
  refine T_ias gX11_begin rfl ⟨a_5, hr, tt, nn, ht, hk, hj, fun h_6 he => ?_⟩
  replace w := w h_6 he
  refine T_run (n := 1) (pc' := 67) (lv' := [some (tR (some a0)), some (tI x1), some (tI x2), some (tI x3), some (tI s0)]) (st' := [tR (some a0)]) (h' := h_6) gX11_begin rfl ?_
  obtain ⟨ho, w⟩ := w
  refine T_gs (tR (gr h_6 660 a0)) gX11_begin rfl rfl ⟨ho, ?_⟩
  refine T_run (n := 1) (pc' := 71) (lv' := [some (tR (some a0)), some (tI x1), some (tI x2), some (tI x3), some (tI s0)]) (st' := [tR (some a0), tR (gr h_6 660 a0)]) (h' := h_6) gX11_begin rfl ?_
  obtain ⟨ho, w⟩ := w
  refine T_gs (tI (gi h_6 653 a0)) gX11_begin rfl rfl ⟨ho, ?_⟩
  refine T_run (n := 1) (pc' := 76) (lv' := [some (tR (some a0)), some (tI x1), some (tI x2), some (tI x3), some (tI s0)]) (st' := [tI s0, tI (gi h_6 653 a0), tR (gr h_6 660 a0)]) (h' := h_6) gX11_begin rfl ?_
  obtain ⟨a_7, hr, tt, nn, ht, hk, hj, w⟩ := w
  refine T_ias gX11_begin rfl ⟨a_7, hr, tt, nn, ht, hk, hj, fun h_8 he => ?_⟩
  replace w := w h_8 he
  refine T_run (n := 1) (pc' := 78) (lv' := [some (tR (some a0)), some (tI x1), some (tI x2), some (tI x3), some (tI s0)]) (st' := [tR (some a0)]) (h' := h_8) gX11_begin rfl ?_
  obtain ⟨ho, w⟩ := w
  refine T_gs (tR (gr h_8 661 a0)) gX11_begin rfl rfl ⟨ho, ?_⟩
  refine T_run (n := 1) (pc' := 82) (lv' := [some (tR (some a0)), some (tI x1), some (tI x2), some (tI x3), some (tI s0)]) (st' := [tR (some a0), tR (gr h_8 661 a0)]) (h' := h_8) gX11_begin rfl ?_
  obtain ⟨ho, w⟩ := w
  refine T_gs (tI (gi h_8 653 a0)) gX11_begin rfl rfl ⟨ho, ?_⟩
  refine T_run (n := 1) (pc' := 86) (lv' := [some (tR (some a0)), some (tI x1), some (tI x2), some (tI x3), some (tI s0)]) (st' := [tI x2, tI (gi h_8 653 a0), tR (gr h_8 661 a0)]) (h' := h_8) gX11_begin rfl ?_
  obtain ⟨a_9, hr, tt, nn, ht, hk, hj, w⟩ := w
  refine T_ias gX11_begin rfl ⟨a_9, hr, tt, nn, ht, hk, hj, fun h_10 he => ?_⟩
  replace w := w h_10 he
  refine T_run (n := 1) (pc' := 88) (lv' := [some (tR (some a0)), some (tI x1), some (tI x2), some (tI x3), some (tI s0)]) (st' := [tR (some a0)]) (h' := h_10) gX11_begin rfl ?_
  obtain ⟨ho, w⟩ := w
  refine T_gs (tR (gr h_10 662 a0)) gX11_begin rfl rfl ⟨ho, ?_⟩
  refine T_run (n := 1) (pc' := 92) (lv' := [some (tR (some a0)), some (tI x1), some (tI x2), some (tI x3), some (tI s0)]) (st' := [tR (some a0), tR (gr h_10 662 a0)]) (h' := h_10) gX11_begin rfl ?_
  obtain ⟨ho, w⟩ := w
  refine T_gs (tI (gi h_10 653 a0)) gX11_begin rfl rfl ⟨ho, ?_⟩
  refine T_kn (v := 0) gX11_begin rfl (by decide) ?_
  obtain ⟨a_11, hr, tt, nn, ht, hk, hj, w⟩ := w
  refine T_zas gX11_begin rfl ⟨a_11, hr, tt, nn, ht, hk, hj, fun h_12 he => ?_⟩
  replace w := w h_12 he
  refine T_run (n := 2) (pc' := 99) (lv' := [some (tR (some a0)), some (tI x1), some (tI x2), some (tI x3), some (tI s0)]) (st' := [tR (some a0), tR (some a0)]) (h' := h_12) gX11_begin rfl ?_
  obtain ⟨ho, w⟩ := w
  refine T_gs (tI (gi h_12 653 a0)) gX11_begin rfl rfl ⟨ho, ?_⟩
  refine T_kn (v := 1) gX11_begin rfl (by decide) ?_
  refine T_run (n := 1) (pc' := 104) (lv' := [some (tR (some a0)), some (tI x1), some (tI x2), some (tI x3), some (tI s0)]) (st' := [tI ((gi h_12 653 a0) + 1), tR (some a0)]) (h' := h_12) gX11_begin rfl ?_
  obtain ⟨ho, w⟩ := w
  refine T_ps (pi h_12 653 a0 ((gi h_12 653 a0) + 1)) gX11_begin rfl rfl ⟨ho, fun h_13 he => ?_⟩
  replace w := w h_13 he
  exact T_rv gX11_begin rfl rfl w
set_option maxHeartbeats 4000000 in
set_option maxRecDepth 20000 in
theorem wX11_function (a0 : Nat) (x1 : Int32) (x2 : Int32) (x3 : Int32) (h : Hp) (Q : Option TV → Hp → Prop) (w :
ob h a0 10 (
(if (gi h 642 a0) = 0 then
ob h a0 10 (
(if (gi h 640 a0) = 40 then
Q (some (tI (-1))) h
else
tX11_within x1 8 h (rI (fun x_2 h_1 =>
(if x_2 = 0 then
Q (some (tI (-1))) h_1
else
tX11_within x2 8 h_1 (rI (fun x_4 h_3 =>
(if x_4 = 0 then
Q (some (tI (-1))) h_3
else
tX11_within x3 8 h_3 (rI (fun x_6 h_5 =>
(if x_6 = 0 then
Q (some (tI (-1))) h_5
else
ob h_5 a0 10 (
ob h_5 a0 10 (
ob h_5 a0 10 (
dr (gr h_5 643 a0) (fun a_7 => ix h_5 kIs a_7 (gi h_5 640 a0) (∀ h_8, h_8 = si h_5 a_7 (gi h_5 640 a0).toNatClampNeg (gi h_5 641 a0) →
ob h_8 a0 10 (
ob h_8 a0 10 (
dr (gr h_8 644 a0) (fun a_9 => ix h_8 kIs a_9 (gi h_8 640 a0) (∀ h_10, h_10 = si h_8 a_9 (gi h_8 640 a0).toNatClampNeg 0 →
ob h_10 a0 10 (
ob h_10 a0 10 (
dr (gr h_10 645 a0) (fun a_11 => ix h_10 kIs a_11 (gi h_10 640 a0) (∀ h_12, h_12 = si h_10 a_11 (gi h_10 640 a0).toNatClampNeg x1 →
ob h_12 a0 10 (
ob h_12 a0 10 (
dr (gr h_12 646 a0) (fun a_13 => ix h_12 kIs a_13 (gi h_12 640 a0) (∀ h_14, h_14 = si h_12 a_13 (gi h_12 640 a0).toNatClampNeg x2 →
ob h_14 a0 10 (
ob h_14 a0 10 (
dr (gr h_14 647 a0) (fun a_15 => ix h_14 kIs a_15 (gi h_14 640 a0) (∀ h_16, h_16 = si h_14 a_15 (gi h_14 640 a0).toNatClampNeg x3 →
ob h_16 a0 10 (
ob h_16 a0 10 (
dr (gr h_16 648 a0) (fun a_17 => ix h_16 kIs a_17 (gi h_16 640 a0) (∀ h_18, h_18 = si h_16 a_17 (gi h_16 640 a0).toNatClampNeg 0 →
ob h_18 a0 10 (
ob h_18 a0 10 (∀ h_19, h_19 = pi h_18 640 a0 ((gi h_18 640 a0) + 1) →
ob h_19 a0 10 (∀ h_20, h_20 = pi h_19 642 a0 1 →
ob h_20 a0 10 (∀ h_21, h_21 = pi h_20 653 a0 0 →
ob h_21 a0 10 (∀ h_22, h_22 = pi h_21 654 a0 0 →
ob h_22 a0 10 (tX11_begin a0 0 0 x2 h_22 (rV (fun h_23 =>
ob h_23 a0 10 (
Q (some (tI ((gi h_23 640 a0) - 1))) h_23)))))))))))))))))))))))))))))))))))))))))))))
else
Q (some (tI (-1))) h))) : tX11_function a0 x1 x2 x3 h Q := by
  refine T_run (n := 1) (pc' := 1) (lv' := [some (tR (some a0)), some (tI x1), some (tI x2), some (tI x3)]) (st' := [tR (some a0)]) (h' := h) gX11_function rfl ?_
  obtain ⟨ho, w⟩ := w
  refine T_gs (tI (gi h 642 a0)) gX11_function rfl rfl ⟨ho, ?_⟩
  replace w := c_ne w
  refine T_if (tgt := 43) gX11_function rfl (by decide) (fun hc => ?_) (fun hc => ?_)
  · replace w := w.1 hc
    refine T_kn (v := (-1)) gX11_function rfl (by decide) ?_
    exact T_ri gX11_function rfl rfl w
  · replace w := w.2 hc
    refine T_run (n := 1) (pc' := 8) (lv' := [some (tR (some a0)), some (tI x1), some (tI x2), some (tI x3)]) (st' := [tR (some a0)]) (h' := h) gX11_function rfl ?_
    obtain ⟨ho, w⟩ := w
    refine T_gs (tI (gi h 640 a0)) gX11_function rfl rfl ⟨ho, ?_⟩
    refine T_kb (v := 40) gX11_function rfl (by decide) ?_
    replace w := c_eq w
    refine T_ic (tgt := 43) gX11_function rfl (by decide) (fun hc => ?_) (fun hc => ?_)
    · replace w := w.1 hc
      refine T_kn (v := (-1)) gX11_function rfl (by decide) ?_
      exact T_ri gX11_function rfl rfl w
    · replace w := w.2 hc
      refine T_run (n := 1) (pc' := 17) (lv' := [some (tR (some a0)), some (tI x1), some (tI x2), some (tI x3)]) (st' := [tI x1]) (h' := h) gX11_function rfl ?_
      refine T_kb (v := 8) gX11_function rfl (by decide) ?_
      refine T_cs (lv' := [some (tI x1), some (tI 8)]) gX11_function rfl rfl rfl rfl (Nat.le_of_ble_eq_true rfl) gX11_within (Nat.le_of_ble_eq_true rfl) rfl (T_ki ?_)
      refine T.mono w (fun rr h_1 hw => ?_)
      obtain ⟨x_2, hr, w⟩ := hw
      refine ⟨x_2, hr, ?_⟩
      replace w := c_eq w
      refine T_if (tgt := 43) gX11_function rfl (by decide) (fun hc => ?_) (fun hc => ?_)
      · replace w := w.1 hc
        refine T_kn (v := (-1)) gX11_function rfl (by decide) ?_
        exact T_ri gX11_function rfl rfl w
      · replace w := w.2 hc
        refine T_run (n := 1) (pc' := 26) (lv' := [some (tR (some a0)), some (tI x1), some (tI x2), some (tI x3)]) (st' := [tI x2]) (h' := h_1) gX11_function rfl ?_
        refine T_kb (v := 8) gX11_function rfl (by decide) ?_
        refine T_cs (lv' := [some (tI x2), some (tI 8)]) gX11_function rfl rfl rfl rfl (Nat.le_of_ble_eq_true rfl) gX11_within (Nat.le_of_ble_eq_true rfl) rfl (T_ki ?_)
        refine T.mono w (fun rr h_3 hw => ?_)
        obtain ⟨x_4, hr, w⟩ := hw
        refine ⟨x_4, hr, ?_⟩
        replace w := c_eq w
        refine T_if (tgt := 43) gX11_function rfl (by decide) (fun hc => ?_) (fun hc => ?_)
        · replace w := w.1 hc
          refine T_kn (v := (-1)) gX11_function rfl (by decide) ?_
          exact T_ri gX11_function rfl rfl w
        · replace w := w.2 hc
          refine T_run (n := 1) (pc' := 35) (lv' := [some (tR (some a0)), some (tI x1), some (tI x2), some (tI x3)]) (st' := [tI x3]) (h' := h_3) gX11_function rfl ?_
          refine T_kb (v := 8) gX11_function rfl (by decide) ?_
          refine T_cs (lv' := [some (tI x3), some (tI 8)]) gX11_function rfl rfl rfl rfl (Nat.le_of_ble_eq_true rfl) gX11_within (Nat.le_of_ble_eq_true rfl) rfl (T_ki ?_)
          refine T.mono w (fun rr h_5 hw => ?_)
          obtain ⟨x_6, hr, w⟩ := hw
          refine ⟨x_6, hr, ?_⟩
          replace w := c_ne w
          refine T_if (tgt := 45) gX11_function rfl (by decide) (fun hc => ?_) (fun hc => ?_)
          · replace w := w.1 hc
            refine T_run (n := 1) (pc' := 46) (lv' := [some (tR (some a0)), some (tI x1), some (tI x2), some (tI x3)]) (st' := [tR (some a0)]) (h' := h_5) gX11_function rfl ?_
            obtain ⟨ho, w⟩ := w
            refine T_gs (tR (gr h_5 643 a0)) gX11_function rfl rfl ⟨ho, ?_⟩
            refine T_run (n := 1) (pc' := 50) (lv' := [some (tR (some a0)), some (tI x1), some (tI x2), some (tI x3)]) (st' := [tR (some a0), tR (gr h_5 643 a0)]) (h' := h_5) gX11_function rfl ?_
            obtain ⟨ho, w⟩ := w
            refine T_gs (tI (gi h_5 640 a0)) gX11_function rfl rfl ⟨ho, ?_⟩
            refine T_run (n := 1) (pc' := 54) (lv' := [some (tR (some a0)), some (tI x1), some (tI x2), some (tI x3)]) (st' := [tR (some a0), tI (gi h_5 640 a0), tR (gr h_5 643 a0)]) (h' := h_5) gX11_function rfl ?_
            obtain ⟨ho, w⟩ := w
            refine T_gs (tI (gi h_5 641 a0)) gX11_function rfl rfl ⟨ho, ?_⟩
            obtain ⟨a_7, hr, tt, nn, ht, hk, hj, w⟩ := w
            refine T_ias gX11_function rfl ⟨a_7, hr, tt, nn, ht, hk, hj, fun h_8 he => ?_⟩
            replace w := w h_8 he
            refine T_run (n := 1) (pc' := 59) (lv' := [some (tR (some a0)), some (tI x1), some (tI x2), some (tI x3)]) (st' := [tR (some a0)]) (h' := h_8) gX11_function rfl ?_
            obtain ⟨ho, w⟩ := w
            refine T_gs (tR (gr h_8 644 a0)) gX11_function rfl rfl ⟨ho, ?_⟩
            refine T_run (n := 1) (pc' := 63) (lv' := [some (tR (some a0)), some (tI x1), some (tI x2), some (tI x3)]) (st' := [tR (some a0), tR (gr h_8 644 a0)]) (h' := h_8) gX11_function rfl ?_
            obtain ⟨ho, w⟩ := w
            refine T_gs (tI (gi h_8 640 a0)) gX11_function rfl rfl ⟨ho, ?_⟩
            refine T_kn (v := 0) gX11_function rfl (by decide) ?_
            obtain ⟨a_9, hr, tt, nn, ht, hk, hj, w⟩ := w
            refine T_ias gX11_function rfl ⟨a_9, hr, tt, nn, ht, hk, hj, fun h_10 he => ?_⟩
            replace w := w h_10 he
            refine T_run (n := 1) (pc' := 69) (lv' := [some (tR (some a0)), some (tI x1), some (tI x2), some (tI x3)]) (st' := [tR (some a0)]) (h' := h_10) gX11_function rfl ?_
            obtain ⟨ho, w⟩ := w
            refine T_gs (tR (gr h_10 645 a0)) gX11_function rfl rfl ⟨ho, ?_⟩
            refine T_run (n := 1) (pc' := 73) (lv' := [some (tR (some a0)), some (tI x1), some (tI x2), some (tI x3)]) (st' := [tR (some a0), tR (gr h_10 645 a0)]) (h' := h_10) gX11_function rfl ?_
            obtain ⟨ho, w⟩ := w
            refine T_gs (tI (gi h_10 640 a0)) gX11_function rfl rfl ⟨ho, ?_⟩
            refine T_run (n := 1) (pc' := 77) (lv' := [some (tR (some a0)), some (tI x1), some (tI x2), some (tI x3)]) (st' := [tI x1, tI (gi h_10 640 a0), tR (gr h_10 645 a0)]) (h' := h_10) gX11_function rfl ?_
            obtain ⟨a_11, hr, tt, nn, ht, hk, hj, w⟩ := w
            refine T_ias gX11_function rfl ⟨a_11, hr, tt, nn, ht, hk, hj, fun h_12 he => ?_⟩
            replace w := w h_12 he
            refine T_run (n := 1) (pc' := 79) (lv' := [some (tR (some a0)), some (tI x1), some (tI x2), some (tI x3)]) (st' := [tR (some a0)]) (h' := h_12) gX11_function rfl ?_
            obtain ⟨ho, w⟩ := w
            refine T_gs (tR (gr h_12 646 a0)) gX11_function rfl rfl ⟨ho, ?_⟩
            refine T_run (n := 1) (pc' := 83) (lv' := [some (tR (some a0)), some (tI x1), some (tI x2), some (tI x3)]) (st' := [tR (some a0), tR (gr h_12 646 a0)]) (h' := h_12) gX11_function rfl ?_
            obtain ⟨ho, w⟩ := w
            refine T_gs (tI (gi h_12 640 a0)) gX11_function rfl rfl ⟨ho, ?_⟩
            refine T_run (n := 1) (pc' := 87) (lv' := [some (tR (some a0)), some (tI x1), some (tI x2), some (tI x3)]) (st' := [tI x2, tI (gi h_12 640 a0), tR (gr h_12 646 a0)]) (h' := h_12) gX11_function rfl ?_
            obtain ⟨a_13, hr, tt, nn, ht, hk, hj, w⟩ := w
            refine T_ias gX11_function rfl ⟨a_13, hr, tt, nn, ht, hk, hj, fun h_14 he => ?_⟩
            replace w := w h_14 he
            refine T_run (n := 1) (pc' := 89) (lv' := [some (tR (some a0)), some (tI x1), some (tI x2), some (tI x3)]) (st' := [tR (some a0)]) (h' := h_14) gX11_function rfl ?_
            obtain ⟨ho, w⟩ := w
            refine T_gs (tR (gr h_14 647 a0)) gX11_function rfl rfl ⟨ho, ?_⟩
            refine T_run (n := 1) (pc' := 93) (lv' := [some (tR (some a0)), some (tI x1), some (tI x2), some (tI x3)]) (st' := [tR (some a0), tR (gr h_14 647 a0)]) (h' := h_14) gX11_function rfl ?_
            obtain ⟨ho, w⟩ := w
            refine T_gs (tI (gi h_14 640 a0)) gX11_function rfl rfl ⟨ho, ?_⟩
            refine T_run (n := 1) (pc' := 97) (lv' := [some (tR (some a0)), some (tI x1), some (tI x2), some (tI x3)]) (st' := [tI x3, tI (gi h_14 640 a0), tR (gr h_14 647 a0)]) (h' := h_14) gX11_function rfl ?_
            obtain ⟨a_15, hr, tt, nn, ht, hk, hj, w⟩ := w
            refine T_ias gX11_function rfl ⟨a_15, hr, tt, nn, ht, hk, hj, fun h_16 he => ?_⟩
            replace w := w h_16 he
            refine T_run (n := 1) (pc' := 99) (lv' := [some (tR (some a0)), some (tI x1), some (tI x2), some (tI x3)]) (st' := [tR (some a0)]) (h' := h_16) gX11_function rfl ?_
            obtain ⟨ho, w⟩ := w
            refine T_gs (tR (gr h_16 648 a0)) gX11_function rfl rfl ⟨ho, ?_⟩
            refine T_run (n := 1) (pc' := 103) (lv' := [some (tR (some a0)), some (tI x1), some (tI x2), some (tI x3)]) (st' := [tR (some a0), tR (gr h_16 648 a0)]) (h' := h_16) gX11_function rfl ?_
            obtain ⟨ho, w⟩ := w
            refine T_gs (tI (gi h_16 640 a0)) gX11_function rfl rfl ⟨ho, ?_⟩
            refine T_kn (v := 0) gX11_function rfl (by decide) ?_
            obtain ⟨a_17, hr, tt, nn, ht, hk, hj, w⟩ := w
            refine T_ias gX11_function rfl ⟨a_17, hr, tt, nn, ht, hk, hj, fun h_18 he => ?_⟩
            replace w := w h_18 he
            refine T_run (n := 2) (pc' := 110) (lv' := [some (tR (some a0)), some (tI x1), some (tI x2), some (tI x3)]) (st' := [tR (some a0), tR (some a0)]) (h' := h_18) gX11_function rfl ?_
            obtain ⟨ho, w⟩ := w
            refine T_gs (tI (gi h_18 640 a0)) gX11_function rfl rfl ⟨ho, ?_⟩
            refine T_kn (v := 1) gX11_function rfl (by decide) ?_
            refine T_run (n := 1) (pc' := 115) (lv' := [some (tR (some a0)), some (tI x1), some (tI x2), some (tI x3)]) (st' := [tI ((gi h_18 640 a0) + 1), tR (some a0)]) (h' := h_18) gX11_function rfl ?_
            obtain ⟨ho, w⟩ := w
            refine T_ps (pi h_18 640 a0 ((gi h_18 640 a0) + 1)) gX11_function rfl rfl ⟨ho, fun h_19 he => ?_⟩
            replace w := w h_19 he
            refine T_run (n := 1) (pc' := 119) (lv' := [some (tR (some a0)), some (tI x1), some (tI x2), some (tI x3)]) (st' := [tR (some a0)]) (h' := h_19) gX11_function rfl ?_
            refine T_kn (v := 1) gX11_function rfl (by decide) ?_
            obtain ⟨ho, w⟩ := w
            refine T_ps (pi h_19 642 a0 1) gX11_function rfl (putZ (Or.inr rfl)) ⟨ho, fun h_20 he => ?_⟩
            replace w := w h_20 he
            refine T_run (n := 1) (pc' := 124) (lv' := [some (tR (some a0)), some (tI x1), some (tI x2), some (tI x3)]) (st' := [tR (some a0)]) (h' := h_20) gX11_function rfl ?_
            refine T_kn (v := 0) gX11_function rfl (by decide) ?_
            obtain ⟨ho, w⟩ := w
            refine T_ps (pi h_20 653 a0 0) gX11_function rfl rfl ⟨ho, fun h_21 he => ?_⟩
            replace w := w h_21 he
            refine T_run (n := 1) (pc' := 129) (lv' := [some (tR (some a0)), some (tI x1), some (tI x2), some (tI x3)]) (st' := [tR (some a0)]) (h' := h_21) gX11_function rfl ?_
            refine T_kn (v := 0) gX11_function rfl (by decide) ?_
            obtain ⟨ho, w⟩ := w
            refine T_ps (pi h_21 654 a0 0) gX11_function rfl rfl ⟨ho, fun h_22 he => ?_⟩
            replace w := w h_22 he
            refine T_run (n := 1) (pc' := 134) (lv' := [some (tR (some a0)), some (tI x1), some (tI x2), some (tI x3)]) (st' := [tR (some a0)]) (h' := h_22) gX11_function rfl ?_
            refine T_kn (v := 0) gX11_function rfl (by decide) ?_
            refine T_kn (v := 0) gX11_function rfl (by decide) ?_
            refine T_run (n := 1) (pc' := 137) (lv' := [some (tR (some a0)), some (tI x1), some (tI x2), some (tI x3)]) (st' := [tI x2, tI 0, tI 0, tR (some a0)]) (h' := h_22) gX11_function rfl ?_
            obtain ⟨ho, w⟩ := w
            refine T_cv (fun aa => [some (tR (some aa)), some (tI 0), some (tI 0), some (tI x2), none]) gX11_function rfl rfl rfl rfl (Nat.le_of_ble_eq_true rfl) gX11_begin (fun _ => Nat.le_of_ble_eq_true rfl) (fun _ => rfl) ⟨a0, rfl, ho, T_kv ?_⟩
            refine T.mono w (fun rr h_23 hw => ?_)
            obtain ⟨hr, w⟩ := hw
            refine ⟨hr, ?_⟩
            refine T_run (n := 1) (pc' := 141) (lv' := [some (tR (some a0)), some (tI x1), some (tI x2), some (tI x3)]) (st' := [tR (some a0)]) (h' := h_23) gX11_function rfl ?_
            obtain ⟨ho, w⟩ := w
            refine T_gs (tI (gi h_23 640 a0)) gX11_function rfl rfl ⟨ho, ?_⟩
            refine T_kn (v := 1) gX11_function rfl (by decide) ?_
            refine T_run (n := 1) (pc' := 146) (lv' := [some (tR (some a0)), some (tI x1), some (tI x2), some (tI x3)]) (st' := [tI ((gi h_23 640 a0) - 1)]) (h' := h_23) gX11_function rfl ?_
            exact T_ri gX11_function rfl rfl w
          · replace w := w.2 hc
            refine T_kn (v := (-1)) gX11_function rfl (by decide) ?_
            exact T_ri gX11_function rfl rfl w
set_option maxHeartbeats 4000000 in
set_option maxRecDepth 20000 in
theorem wX11_isLabel (a0 : Nat) (x1 : Int32) (h : Hp) (Q : Option TV → Hp → Prop) (w :
ob h a0 10 (
tX11_within x1 ((gi h 653 a0) - 1) h (rI (fun x_2 h_1 =>
((x_2 = 0 ∨ x_2 = 1) ∧ Q (some (tI x_2)) h_1))))) : tX11_isLabel a0 x1 h Q := by
  refine T_run (n := 2) (pc' := 2) (lv' := [some (tR (some a0)), some (tI x1)]) (st' := [tR (some a0), tI x1]) (h' := h) gX11_isLabel rfl ?_
  obtain ⟨ho, w⟩ := w
  refine T_gs (tI (gi h 653 a0)) gX11_isLabel rfl rfl ⟨ho, ?_⟩
  refine T_kn (v := 1) gX11_isLabel rfl (by decide) ?_
  refine T_run (n := 1) (pc' := 7) (lv' := [some (tR (some a0)), some (tI x1)]) (st' := [tI ((gi h 653 a0) - 1), tI x1]) (h' := h) gX11_isLabel rfl ?_
  refine T_cs (lv' := [some (tI x1), some (tI ((gi h 653 a0) - 1))]) gX11_isLabel rfl rfl rfl rfl (Nat.le_of_ble_eq_true rfl) gX11_within (Nat.le_of_ble_eq_true rfl) rfl (T_ki ?_)
  refine T.mono w (fun rr h_1 hw => ?_)
  obtain ⟨x_2, hr, w⟩ := hw
  refine ⟨x_2, hr, ?_⟩
  exact T_rz gX11_isLabel rfl rfl w.1 w.2
set_option maxHeartbeats 4000000 in
set_option maxRecDepth 20000 in
theorem wX11_inner (a0 : Nat) (h : Hp) (Q : Option TV → Hp → Prop) (w :
ob h a0 10 (
Q (some (tI ((gi h 653 a0) - 1))) h)) : tX11_inner a0 h Q := by
  refine T_run (n := 1) (pc' := 1) (lv' := [some (tR (some a0))]) (st' := [tR (some a0)]) (h' := h) gX11_inner rfl ?_
  obtain ⟨ho, w⟩ := w
  refine T_gs (tI (gi h 653 a0)) gX11_inner rfl rfl ⟨ho, ?_⟩
  refine T_kn (v := 1) gX11_inner rfl (by decide) ?_
  refine T_run (n := 1) (pc' := 6) (lv' := [some (tR (some a0))]) (st' := [tI ((gi h 653 a0) - 1)]) (h' := h) gX11_inner rfl ?_
  exact T_ri gX11_inner rfl rfl w
set_option maxHeartbeats 4000000 in
set_option maxRecDepth 20000 in
theorem wX11_wants (a0 : Nat) (x1 : Int32) (h : Hp) (Q : Option TV → Hp → Prop) (w :
ob h a0 10 (
ob h a0 10 (tX11_inner a0  h (rI (fun x_2 h_1 =>
dr (gr h 657 a0) (fun a_3 => ix h_1 kI a_3 (x_2 - x1) (
(if (ai h_1 a_3 (x_2 - x1).toNatClampNeg) = 3 then
ob h_1 a0 10 (
ob h_1 a0 10 (tX11_inner a0  h_1 (rI (fun x_8 h_7 =>
dr (gr h_1 658 a0) (fun a_9 => ix h_7 kI a_9 (x_8 - x1) (
Q (some (tI (ai h_7 a_9 (x_8 - x1).toNatClampNeg))) h_7))))))
else
ob h_1 a0 10 (
ob h_1 a0 10 (tX11_inner a0  h_1 (rI (fun x_5 h_4 =>
dr (gr h_1 659 a0) (fun a_6 => ix h_4 kI a_6 (x_5 - x1) (
Q (some (tI (ai h_4 a_6 (x_5 - x1).toNatClampNeg))) h_4)))))))))))))) : tX11_wants a0 x1 h Q := by
  refine T_run (n := 1) (pc' := 1) (lv' := [some (tR (some a0)), some (tI x1)]) (st' := [tR (some a0)]) (h' := h) gX11_wants rfl ?_
  obtain ⟨ho, w⟩ := w
  refine T_gs (tR (gr h 657 a0)) gX11_wants rfl rfl ⟨ho, ?_⟩
  refine T_run (n := 1) (pc' := 5) (lv' := [some (tR (some a0)), some (tI x1)]) (st' := [tR (some a0), tR (gr h 657 a0)]) (h' := h) gX11_wants rfl ?_
  obtain ⟨ho, w⟩ := w
  refine T_cv (fun aa => [some (tR (some aa))]) gX11_wants rfl rfl rfl rfl (Nat.le_of_ble_eq_true rfl) gX11_inner (fun _ => Nat.le_of_ble_eq_true rfl) (fun _ => rfl) ⟨a0, rfl, ho, T_ki ?_⟩
  refine T.mono w (fun rr h_1 hw => ?_)
  obtain ⟨x_2, hr, w⟩ := hw
  refine ⟨x_2, hr, ?_⟩
  refine T_run (n := 2) (pc' := 10) (lv' := [some (tR (some a0)), some (tI x1)]) (st' := [tI (x_2 - x1), tR (gr h 657 a0)]) (h' := h_1) gX11_wants rfl ?_
  obtain ⟨a_3, hr, tt, nn, ht, hk, hj, w⟩ := w
  refine T_ial gX11_wants rfl ⟨a_3, hr, tt, nn, ht, hk, hj, ?_⟩
  refine T_kn (v := 3) gX11_wants rfl (by decide) ?_
  replace w := c_ne w
  refine T_ic (tgt := 29) gX11_wants rfl (by decide) (fun hc => ?_) (fun hc => ?_)
  · replace w := w.1 hc
    refine T_run (n := 1) (pc' := 30) (lv' := [some (tR (some a0)), some (tI x1)]) (st' := [tR (some a0)]) (h' := h_1) gX11_wants rfl ?_
    obtain ⟨ho, w⟩ := w
    refine T_gs (tR (gr h_1 659 a0)) gX11_wants rfl rfl ⟨ho, ?_⟩
    refine T_run (n := 1) (pc' := 34) (lv' := [some (tR (some a0)), some (tI x1)]) (st' := [tR (some a0), tR (gr h_1 659 a0)]) (h' := h_1) gX11_wants rfl ?_
    obtain ⟨ho, w⟩ := w
    refine T_cv (fun aa => [some (tR (some aa))]) gX11_wants rfl rfl rfl rfl (Nat.le_of_ble_eq_true rfl) gX11_inner (fun _ => Nat.le_of_ble_eq_true rfl) (fun _ => rfl) ⟨a0, rfl, ho, T_ki ?_⟩
    refine T.mono w (fun rr h_4 hw => ?_)
    obtain ⟨x_5, hr, w⟩ := hw
    refine ⟨x_5, hr, ?_⟩
    refine T_run (n := 2) (pc' := 39) (lv' := [some (tR (some a0)), some (tI x1)]) (st' := [tI (x_5 - x1), tR (gr h_1 659 a0)]) (h' := h_4) gX11_wants rfl ?_
    obtain ⟨a_6, hr, tt, nn, ht, hk, hj, w⟩ := w
    refine T_ial gX11_wants rfl ⟨a_6, hr, tt, nn, ht, hk, hj, ?_⟩
    exact T_ri gX11_wants rfl rfl w
  · replace w := w.2 hc
    refine T_run (n := 1) (pc' := 16) (lv' := [some (tR (some a0)), some (tI x1)]) (st' := [tR (some a0)]) (h' := h_1) gX11_wants rfl ?_
    obtain ⟨ho, w⟩ := w
    refine T_gs (tR (gr h_1 658 a0)) gX11_wants rfl rfl ⟨ho, ?_⟩
    refine T_run (n := 1) (pc' := 20) (lv' := [some (tR (some a0)), some (tI x1)]) (st' := [tR (some a0), tR (gr h_1 658 a0)]) (h' := h_1) gX11_wants rfl ?_
    obtain ⟨ho, w⟩ := w
    refine T_cv (fun aa => [some (tR (some aa))]) gX11_wants rfl rfl rfl rfl (Nat.le_of_ble_eq_true rfl) gX11_inner (fun _ => Nat.le_of_ble_eq_true rfl) (fun _ => rfl) ⟨a0, rfl, ho, T_ki ?_⟩
    refine T.mono w (fun rr h_7 hw => ?_)
    obtain ⟨x_8, hr, w⟩ := hw
    refine ⟨x_8, hr, ?_⟩
    refine T_run (n := 2) (pc' := 25) (lv' := [some (tR (some a0)), some (tI x1)]) (st' := [tI (x_8 - x1), tR (gr h_1 658 a0)]) (h' := h_7) gX11_wants rfl ?_
    obtain ⟨a_9, hr, tt, nn, ht, hk, hj, w⟩ := w
    refine T_ial gX11_wants rfl ⟨a_9, hr, tt, nn, ht, hk, hj, ?_⟩
    refine T_goto (tgt := 40) gX11_wants rfl (by decide) ?_
    exact T_ri gX11_wants rfl rfl w
set_option maxHeartbeats 4000000 in
set_option maxRecDepth 20000 in
theorem wX11_has (a0 : Nat) (x1 : Int32) (h : Hp) (Q : Option TV → Hp → Prop) (w :
ob h a0 10 (
ob h a0 10 (tX11_inner a0  h (rI (fun x_2 h_1 =>
dr (gr h 661 a0) (fun a_3 => ix h_1 kI a_3 x_2 (
(if (ai h_1 a_3 x_2.toNatClampNeg) < x1 then
ob h_1 a0 10 (
ob h_1 a0 10 (tX11_inner a0  h_1 (rI (fun x_5 h_4 =>
dr (gr h_1 662 a0) (fun a_6 => ix h_4 kB a_6 x_5 (
(if (ai h_4 a_6 x_5.toNatClampNeg) = 0 then
Q (some (tI 0)) h_4
else
Q (some (tI 1)) h_4)))))))
else
Q (some (tI 1)) h_1)))))))) : tX11_has a0 x1 h Q := by
  refine T_run (n := 1) (pc' := 1) (lv' := [some (tR (some a0)), some (tI x1)]) (st' := [tR (some a0)]) (h' := h) gX11_has rfl ?_
  obtain ⟨ho, w⟩ := w
  refine T_gs (tR (gr h 661 a0)) gX11_has rfl rfl ⟨ho, ?_⟩
  refine T_run (n := 1) (pc' := 5) (lv' := [some (tR (some a0)), some (tI x1)]) (st' := [tR (some a0), tR (gr h 661 a0)]) (h' := h) gX11_has rfl ?_
  obtain ⟨ho, w⟩ := w
  refine T_cv (fun aa => [some (tR (some aa))]) gX11_has rfl rfl rfl rfl (Nat.le_of_ble_eq_true rfl) gX11_inner (fun _ => Nat.le_of_ble_eq_true rfl) (fun _ => rfl) ⟨a0, rfl, ho, T_ki ?_⟩
  refine T.mono w (fun rr h_1 hw => ?_)
  obtain ⟨x_2, hr, w⟩ := hw
  refine ⟨x_2, hr, ?_⟩
  obtain ⟨a_3, hr, tt, nn, ht, hk, hj, w⟩ := w
  refine T_ial gX11_has rfl ⟨a_3, hr, tt, nn, ht, hk, hj, ?_⟩
  refine T_run (n := 1) (pc' := 10) (lv' := [some (tR (some a0)), some (tI x1)]) (st' := [tI x1, tI (ai h_1 a_3 x_2.toNatClampNeg)]) (h' := h_1) gX11_has rfl ?_
  replace w := c_ge w
  refine T_ic (tgt := 25) gX11_has rfl (by decide) (fun hc => ?_) (fun hc => ?_)
  · replace w := w.1 hc
    refine T_kn (v := 1) gX11_has rfl (by decide) ?_
    refine T_goto (tgt := 30) gX11_has rfl (by decide) ?_
    exact T_rz gX11_has rfl rfl (Or.inr rfl) w
  · replace w := w.2 hc
    refine T_run (n := 1) (pc' := 14) (lv' := [some (tR (some a0)), some (tI x1)]) (st' := [tR (some a0)]) (h' := h_1) gX11_has rfl ?_
    obtain ⟨ho, w⟩ := w
    refine T_gs (tR (gr h_1 662 a0)) gX11_has rfl rfl ⟨ho, ?_⟩
    refine T_run (n := 1) (pc' := 18) (lv' := [some (tR (some a0)), some (tI x1)]) (st' := [tR (some a0), tR (gr h_1 662 a0)]) (h' := h_1) gX11_has rfl ?_
    obtain ⟨ho, w⟩ := w
    refine T_cv (fun aa => [some (tR (some aa))]) gX11_has rfl rfl rfl rfl (Nat.le_of_ble_eq_true rfl) gX11_inner (fun _ => Nat.le_of_ble_eq_true rfl) (fun _ => rfl) ⟨a0, rfl, ho, T_ki ?_⟩
    refine T.mono w (fun rr h_4 hw => ?_)
    obtain ⟨x_5, hr, w⟩ := hw
    refine ⟨x_5, hr, ?_⟩
    obtain ⟨a_6, hr, tt, nn, ht, hk, hj, w⟩ := w
    refine T_bal gX11_has rfl ⟨a_6, hr, tt, nn, ht, hk, hj, ?_⟩
    replace w := c_eq w
    refine T_if (tgt := 29) gX11_has rfl (by decide) (fun hc => ?_) (fun hc => ?_)
    · replace w := w.1 hc
      refine T_kn (v := 0) gX11_has rfl (by decide) ?_
      exact T_rz gX11_has rfl rfl (Or.inl rfl) w
    · replace w := w.2 hc
      refine T_kn (v := 1) gX11_has rfl (by decide) ?_
      refine T_goto (tgt := 30) gX11_has rfl (by decide) ?_
      exact T_rz gX11_has rfl rfl (Or.inr rfl) w
set_option maxHeartbeats 4000000 in
set_option maxRecDepth 20000 in
theorem wX11_die (a0 : Nat) (h : Hp) (Q : Option TV → Hp → Prop) (w :
ob h a0 10 (
ob h a0 10 (tX11_inner a0  h (rI (fun x_2 h_1 =>
dr (gr h 661 a0) (fun a_3 => ix h_1 kIs a_3 x_2 (∀ h_4, h_4 = si h_1 a_3 x_2.toNatClampNeg 0 →
ob h_4 a0 10 (
ob h_4 a0 10 (tX11_inner a0  h_4 (rI (fun x_6 h_5 =>
dr (gr h_4 662 a0) (fun a_7 => ix h_5 kZ a_7 x_6 (∀ h_8, h_8 = si h_5 a_7 x_6.toNatClampNeg (1 &&& 1) →
Q none h_8))))))))))))) : tX11_die a0 h Q := by
  refine T_run (n := 1) (pc' := 1) (lv' := [some (tR (some a0))]) (st' := [tR (some a0)]) (h' := h) gX11_die rfl ?_
  obtain ⟨ho, w⟩ := w
  refine T_gs (tR (gr h 661 a0)) gX11_die rfl rfl ⟨ho, ?_⟩
  refine T_run (n := 1) (pc' := 5) (lv' := [some (tR (some a0))]) (st' := [tR (some a0), tR (gr h 661 a0)]) (h' := h) gX11_die rfl ?_
  obtain ⟨ho, w⟩ := w
  refine T_cv (fun aa => [some (tR (some aa))]) gX11_die rfl rfl rfl rfl (Nat.le_of_ble_eq_true rfl) gX11_inner (fun _ => Nat.le_of_ble_eq_true rfl) (fun _ => rfl) ⟨a0, rfl, ho, T_ki ?_⟩
  refine T.mono w (fun rr h_1 hw => ?_)
  obtain ⟨x_2, hr, w⟩ := hw
  refine ⟨x_2, hr, ?_⟩
  refine T_kn (v := 0) gX11_die rfl (by decide) ?_
  obtain ⟨a_3, hr, tt, nn, ht, hk, hj, w⟩ := w
  refine T_ias gX11_die rfl ⟨a_3, hr, tt, nn, ht, hk, hj, fun h_4 he => ?_⟩
  replace w := w h_4 he
  refine T_run (n := 1) (pc' := 11) (lv' := [some (tR (some a0))]) (st' := [tR (some a0)]) (h' := h_4) gX11_die rfl ?_
  obtain ⟨ho, w⟩ := w
  refine T_gs (tR (gr h_4 662 a0)) gX11_die rfl rfl ⟨ho, ?_⟩
  refine T_run (n := 1) (pc' := 15) (lv' := [some (tR (some a0))]) (st' := [tR (some a0), tR (gr h_4 662 a0)]) (h' := h_4) gX11_die rfl ?_
  obtain ⟨ho, w⟩ := w
  refine T_cv (fun aa => [some (tR (some aa))]) gX11_die rfl rfl rfl rfl (Nat.le_of_ble_eq_true rfl) gX11_inner (fun _ => Nat.le_of_ble_eq_true rfl) (fun _ => rfl) ⟨a0, rfl, ho, T_ki ?_⟩
  refine T.mono w (fun rr h_5 hw => ?_)
  obtain ⟨x_6, hr, w⟩ := hw
  refine ⟨x_6, hr, ?_⟩
  refine T_kn (v := 1) gX11_die rfl (by decide) ?_
  obtain ⟨a_7, hr, tt, nn, ht, hk, hj, w⟩ := w
  refine T_zas gX11_die rfl ⟨a_7, hr, tt, nn, ht, hk, hj, fun h_8 he => ?_⟩
  replace w := w h_8 he
  exact T_rv gX11_die rfl rfl w
set_option maxHeartbeats 4000000 in
set_option maxRecDepth 20000 in
theorem wX11_entryTo (a0 : Nat) (x1 : Int32) (h : Hp) (Q : Option TV → Hp → Prop) (w :
ob h a0 10 (
(if (gi h 654 a0) = 0 then
Q (some (tI 0)) h
else
ob h a0 10 (tX11_isLabel a0 x1 h (rI (fun x_2 h_1 =>
(if x_2 = 0 then
Q (some (tI 0)) h_1
else
ob h_1 a0 10 (
(if (gi h_1 656 a0) = 0 then
ob h_1 a0 10 (tX11_wants a0 x1 h_1 (rI (fun x_4 h_3 =>
ob h_3 a0 10 (
(if x_4 = (gi h_3 655 a0) then
tX11_entryTo_53 a0 x1 h_3 Q
else
Q (some (tI 0)) h_3)))))
else
ob h_1 a0 10 (tX11_wants a0 x1 h_1 (rI (fun x_6 h_5 =>
ob h_5 a0 10 (tX11_has a0 x_6 h_5 (rI (fun x_8 h_7 =>
(if x_8 = 0 then
Q (some (tI 0)) h_7
else
tX11_entryTo_53 a0 x1 h_7 Q)))))))))))))))) : tX11_entryTo a0 x1 h Q := by
  refine T_run (n := 1) (pc' := 1) (lv' := [some (tR (some a0)), some (tI x1)]) (st' := [tR (some a0)]) (h' := h) gX11_entryTo rfl ?_
  obtain ⟨ho, w⟩ := w
  refine T_gs (tI (gi h 654 a0)) gX11_entryTo rfl rfl ⟨ho, ?_⟩
  replace w := c_eq w
  refine T_if (tgt := 15) gX11_entryTo rfl (by decide) (fun hc => ?_) (fun hc => ?_)
  · replace w := w.1 hc
    refine T_kn (v := 0) gX11_entryTo rfl (by decide) ?_
    exact T_rz gX11_entryTo rfl rfl (Or.inl rfl) w
  · replace w := w.2 hc
    refine T_run (n := 2) (pc' := 9) (lv' := [some (tR (some a0)), some (tI x1)]) (st' := [tI x1, tR (some a0)]) (h' := h) gX11_entryTo rfl ?_
    obtain ⟨ho, w⟩ := w
    refine T_cv (fun aa => [some (tR (some aa)), some (tI x1)]) gX11_entryTo rfl rfl rfl rfl (Nat.le_of_ble_eq_true rfl) gX11_isLabel (fun _ => Nat.le_of_ble_eq_true rfl) (fun _ => rfl) ⟨a0, rfl, ho, T_ki ?_⟩
    refine T.mono w (fun rr h_1 hw => ?_)
    obtain ⟨x_2, hr, w⟩ := hw
    refine ⟨x_2, hr, ?_⟩
    replace w := c_ne w
    refine T_if (tgt := 17) gX11_entryTo rfl (by decide) (fun hc => ?_) (fun hc => ?_)
    · replace w := w.1 hc
      refine T_run (n := 1) (pc' := 18) (lv' := [some (tR (some a0)), some (tI x1)]) (st' := [tR (some a0)]) (h' := h_1) gX11_entryTo rfl ?_
      obtain ⟨ho, w⟩ := w
      refine T_gs (tI (gi h_1 656 a0)) gX11_entryTo rfl rfl ⟨ho, ?_⟩
      replace w := c_eq w
      refine T_if (tgt := 39) gX11_entryTo rfl (by decide) (fun hc => ?_) (fun hc => ?_)
      · replace w := w.1 hc
        refine T_run (n := 2) (pc' := 41) (lv' := [some (tR (some a0)), some (tI x1)]) (st' := [tI x1, tR (some a0)]) (h' := h_1) gX11_entryTo rfl ?_
        obtain ⟨ho, w⟩ := w
        refine T_cv (fun aa => [some (tR (some aa)), some (tI x1)]) gX11_entryTo rfl rfl rfl rfl (Nat.le_of_ble_eq_true rfl) gX11_wants (fun _ => Nat.le_of_ble_eq_true rfl) (fun _ => rfl) ⟨a0, rfl, ho, T_ki ?_⟩
        refine T.mono w (fun rr h_3 hw => ?_)
        obtain ⟨x_4, hr, w⟩ := hw
        refine ⟨x_4, hr, ?_⟩
        refine T_run (n := 1) (pc' := 45) (lv' := [some (tR (some a0)), some (tI x1)]) (st' := [tR (some a0), tI x_4]) (h' := h_3) gX11_entryTo rfl ?_
        obtain ⟨ho, w⟩ := w
        refine T_gs (tI (gi h_3 655 a0)) gX11_entryTo rfl rfl ⟨ho, ?_⟩
        replace w := c_eq w
        refine T_ic (tgt := 53) gX11_entryTo rfl (by decide) (fun hc => ?_) (fun hc => ?_)
        · replace w := w.1 hc
          exact w
        · replace w := w.2 hc
          refine T_kn (v := 0) gX11_entryTo rfl (by decide) ?_
          exact T_rz gX11_entryTo rfl rfl (Or.inl rfl) w
      · replace w := w.2 hc
        refine T_run (n := 3) (pc' := 27) (lv' := [some (tR (some a0)), some (tI x1)]) (st' := [tI x1, tR (some a0), tR (some a0)]) (h' := h_1) gX11_entryTo rfl ?_
        obtain ⟨ho, w⟩ := w
        refine T_cv (fun aa => [some (tR (some aa)), some (tI x1)]) gX11_entryTo rfl rfl rfl rfl (Nat.le_of_ble_eq_true rfl) gX11_wants (fun _ => Nat.le_of_ble_eq_true rfl) (fun _ => rfl) ⟨a0, rfl, ho, T_ki ?_⟩
        refine T.mono w (fun rr h_5 hw => ?_)
        obtain ⟨x_6, hr, w⟩ := hw
        refine ⟨x_6, hr, ?_⟩
        obtain ⟨ho, w⟩ := w
        refine T_cv (fun aa => [some (tR (some aa)), some (tI x_6)]) gX11_entryTo rfl rfl rfl rfl (Nat.le_of_ble_eq_true rfl) gX11_has (fun _ => Nat.le_of_ble_eq_true rfl) (fun _ => rfl) ⟨a0, rfl, ho, T_ki ?_⟩
        refine T.mono w (fun rr h_7 hw => ?_)
        obtain ⟨x_8, hr, w⟩ := hw
        refine ⟨x_8, hr, ?_⟩
        replace w := c_ne w
        refine T_if (tgt := 53) gX11_entryTo rfl (by decide) (fun hc => ?_) (fun hc => ?_)
        · replace w := w.1 hc
          exact w
        · replace w := w.2 hc
          refine T_goto (tgt := 51) gX11_entryTo rfl (by decide) ?_
          refine T_kn (v := 0) gX11_entryTo rfl (by decide) ?_
          exact T_rz gX11_entryTo rfl rfl (Or.inl rfl) w
    · replace w := w.2 hc
      refine T_kn (v := 0) gX11_entryTo rfl (by decide) ?_
      exact T_rz gX11_entryTo rfl rfl (Or.inl rfl) w
set_option maxHeartbeats 4000000 in
set_option maxRecDepth 20000 in
theorem wX11_entryTo_53 (a0 : Nat) (x1 : Int32) (h : Hp) (Q : Option TV → Hp → Prop) (w :
ob h a0 10 (tX11_wants a0 x1 h (rI (fun x_2 h_1 =>
ob h_1 a0 10 (∀ h_3, h_3 = pi h_1 655 a0 x_2 →
ob h_3 a0 10 (∀ h_4, h_4 = pi h_3 656 a0 0 →
ob h_4 a0 10 (
ob h_4 a0 10 (∀ h_5, h_5 = pi h_4 654 a0 ((gi h_4 654 a0) - 1) →
ob h_5 a0 10 (
(if (gi h_5 654 a0) = 0 then
ob h_5 a0 10 (tX11_die a0  h_5 (rV (fun h_6 =>
Q (some (tI 1)) h_6)))
else
Q (some (tI 1)) h_5)))))))))) : tX11_entryTo_53 a0 x1 h Q := by
  refine T_run (n := 3) (pc' := 56) (lv' := [some (tR (some a0)), some (tI x1)]) (st' := [tI x1, tR (some a0), tR (some a0)]) (h' := h) gX11_entryTo rfl ?_
  obtain ⟨ho, w⟩ := w
  refine T_cv (fun aa => [some (tR (some aa)), some (tI x1)]) gX11_entryTo rfl rfl rfl rfl (Nat.le_of_ble_eq_true rfl) gX11_wants (fun _ => Nat.le_of_ble_eq_true rfl) (fun _ => rfl) ⟨a0, rfl, ho, T_ki ?_⟩
  refine T.mono w (fun rr h_1 hw => ?_)
  obtain ⟨x_2, hr, w⟩ := hw
  refine ⟨x_2, hr, ?_⟩
  obtain ⟨ho, w⟩ := w
  refine T_ps (pi h_1 655 a0 x_2) gX11_entryTo rfl rfl ⟨ho, fun h_3 he => ?_⟩
  replace w := w h_3 he
  refine T_run (n := 1) (pc' := 63) (lv' := [some (tR (some a0)), some (tI x1)]) (st' := [tR (some a0)]) (h' := h_3) gX11_entryTo rfl ?_
  refine T_kn (v := 0) gX11_entryTo rfl (by decide) ?_
  obtain ⟨ho, w⟩ := w
  refine T_ps (pi h_3 656 a0 0) gX11_entryTo rfl (putZ (Or.inl rfl)) ⟨ho, fun h_4 he => ?_⟩
  replace w := w h_4 he
  refine T_run (n := 2) (pc' := 69) (lv' := [some (tR (some a0)), some (tI x1)]) (st' := [tR (some a0), tR (some a0)]) (h' := h_4) gX11_entryTo rfl ?_
  obtain ⟨ho, w⟩ := w
  refine T_gs (tI (gi h_4 654 a0)) gX11_entryTo rfl rfl ⟨ho, ?_⟩
  refine T_kn (v := 1) gX11_entryTo rfl (by decide) ?_
  refine T_run (n := 1) (pc' := 74) (lv' := [some (tR (some a0)), some (tI x1)]) (st' := [tI ((gi h_4 654 a0) - 1), tR (some a0)]) (h' := h_4) gX11_entryTo rfl ?_
  obtain ⟨ho, w⟩ := w
  refine T_ps (pi h_4 654 a0 ((gi h_4 654 a0) - 1)) gX11_entryTo rfl rfl ⟨ho, fun h_5 he => ?_⟩
  replace w := w h_5 he
  refine T_run (n := 1) (pc' := 78) (lv' := [some (tR (some a0)), some (tI x1)]) (st' := [tR (some a0)]) (h' := h_5) gX11_entryTo rfl ?_
  obtain ⟨ho, w⟩ := w
  refine T_gs (tI (gi h_5 654 a0)) gX11_entryTo rfl rfl ⟨ho, ?_⟩
  replace w := c_ne w
  refine T_if (tgt := 88) gX11_entryTo rfl (by decide) (fun hc => ?_) (fun hc => ?_)
  · replace w := w.1 hc
    refine T_kn (v := 1) gX11_entryTo rfl (by decide) ?_
    exact T_rz gX11_entryTo rfl rfl (Or.inr rfl) w
  · replace w := w.2 hc
    refine T_run (n := 1) (pc' := 85) (lv' := [some (tR (some a0)), some (tI x1)]) (st' := [tR (some a0)]) (h' := h_5) gX11_entryTo rfl ?_
    obtain ⟨ho, w⟩ := w
    refine T_cv (fun aa => [some (tR (some aa))]) gX11_entryTo rfl rfl rfl rfl (Nat.le_of_ble_eq_true rfl) gX11_die (fun _ => Nat.le_of_ble_eq_true rfl) (fun _ => rfl) ⟨a0, rfl, ho, T_kv ?_⟩
    refine T.mono w (fun rr h_6 hw => ?_)
    obtain ⟨hr, w⟩ := hw
    refine ⟨hr, ?_⟩
    refine T_kn (v := 1) gX11_entryTo rfl (by decide) ?_
    exact T_rz gX11_entryTo rfl rfl (Or.inr rfl) w
set_option maxHeartbeats 4000000 in
set_option maxRecDepth 20000 in
theorem wX11_ends (a0 : Nat) (x1 : Int32) (h : Hp) (Q : Option TV → Hp → Prop) (w :
ob h a0 10 (tX11_has a0 x1 h (rI (fun x_2 h_1 =>
(if x_2 = 0 then
Q (some (tI 0)) h_1
else
ob h_1 a0 10 (tX11_die a0  h_1 (rV (fun h_3 =>
Q (some (tI 1)) h_3)))))))) : tX11_ends a0 x1 h Q := by
  refine T_run (n := 2) (pc' := 2) (lv' := [some (tR (some a0)), some (tI x1)]) (st' := [tI x1, tR (some a0)]) (h' := h) gX11_ends rfl ?_
  obtain ⟨ho, w⟩ := w
  refine T_cv (fun aa => [some (tR (some aa)), some (tI x1)]) gX11_ends rfl rfl rfl rfl (Nat.le_of_ble_eq_true rfl) gX11_has (fun _ => Nat.le_of_ble_eq_true rfl) (fun _ => rfl) ⟨a0, rfl, ho, T_ki ?_⟩
  refine T.mono w (fun rr h_1 hw => ?_)
  obtain ⟨x_2, hr, w⟩ := hw
  refine ⟨x_2, hr, ?_⟩
  replace w := c_ne w
  refine T_if (tgt := 10) gX11_ends rfl (by decide) (fun hc => ?_) (fun hc => ?_)
  · replace w := w.1 hc
    refine T_run (n := 1) (pc' := 11) (lv' := [some (tR (some a0)), some (tI x1)]) (st' := [tR (some a0)]) (h' := h_1) gX11_ends rfl ?_
    obtain ⟨ho, w⟩ := w
    refine T_cv (fun aa => [some (tR (some aa))]) gX11_ends rfl rfl rfl rfl (Nat.le_of_ble_eq_true rfl) gX11_die (fun _ => Nat.le_of_ble_eq_true rfl) (fun _ => rfl) ⟨a0, rfl, ho, T_kv ?_⟩
    refine T.mono w (fun rr h_3 hw => ?_)
    obtain ⟨hr, w⟩ := hw
    refine ⟨hr, ?_⟩
    refine T_kn (v := 1) gX11_ends rfl (by decide) ?_
    exact T_rz gX11_ends rfl rfl (Or.inr rfl) w
  · replace w := w.2 hc
    refine T_kn (v := 0) gX11_ends rfl (by decide) ?_
    exact T_rz gX11_ends rfl rfl (Or.inl rfl) w
set_option maxHeartbeats 4000000 in
set_option maxRecDepth 20000 in
theorem wX11_take (a0 : Nat) (x1 : Int32) (h : Hp) (Q : Option TV → Hp → Prop) (w :
ob h a0 10 (
ob h a0 10 (tX11_inner a0  h (rI (fun x_2 h_1 =>
ob h_1 a0 10 (
ob h_1 a0 10 (tX11_inner a0  h_1 (rI (fun x_4 h_3 =>
dr (gr h_1 661 a0) (fun a_5 => ix h_3 kI a_5 x_4 (
(if x1 < (ai h_3 a_5 x_4.toNatClampNeg) then
ob h_3 a0 10 (
ob h_3 a0 10 (tX11_inner a0  h_3 (rI (fun x_9 h_8 =>
dr (gr h_3 661 a0) (fun a_10 => ix h_8 kI a_10 x_9 (
dr (gr h 661 a0) (fun a_11 => ix h_8 kIs a_11 x_2 (∀ h_12, h_12 = si h_8 a_11 x_2.toNatClampNeg ((ai h_8 a_10 x_9.toNatClampNeg) - x1) →
Q none h_12))))))))
else
dr (gr h 661 a0) (fun a_6 => ix h_3 kIs a_6 x_2 (∀ h_7, h_7 = si h_3 a_6 x_2.toNatClampNeg 0 →
Q none h_7)))))))))))))) : tX11_take a0 x1 h Q := by
  refine T_run (n := 1) (pc' := 1) (lv' := [some (tR (some a0)), some (tI x1)]) (st' := [tR (some a0)]) (h' := h) gX11_take rfl ?_
  obtain ⟨ho, w⟩ := w
  refine T_gs (tR (gr h 661 a0)) gX11_take rfl rfl ⟨ho, ?_⟩
  refine T_run (n := 1) (pc' := 5) (lv' := [some (tR (some a0)), some (tI x1)]) (st' := [tR (some a0), tR (gr h 661 a0)]) (h' := h) gX11_take rfl ?_
  obtain ⟨ho, w⟩ := w
  refine T_cv (fun aa => [some (tR (some aa))]) gX11_take rfl rfl rfl rfl (Nat.le_of_ble_eq_true rfl) gX11_inner (fun _ => Nat.le_of_ble_eq_true rfl) (fun _ => rfl) ⟨a0, rfl, ho, T_ki ?_⟩
  refine T.mono w (fun rr h_1 hw => ?_)
  obtain ⟨x_2, hr, w⟩ := hw
  refine ⟨x_2, hr, ?_⟩
  refine T_run (n := 1) (pc' := 9) (lv' := [some (tR (some a0)), some (tI x1)]) (st' := [tR (some a0), tI x_2, tR (gr h 661 a0)]) (h' := h_1) gX11_take rfl ?_
  obtain ⟨ho, w⟩ := w
  refine T_gs (tR (gr h_1 661 a0)) gX11_take rfl rfl ⟨ho, ?_⟩
  refine T_run (n := 1) (pc' := 13) (lv' := [some (tR (some a0)), some (tI x1)]) (st' := [tR (some a0), tR (gr h_1 661 a0), tI x_2, tR (gr h 661 a0)]) (h' := h_1) gX11_take rfl ?_
  obtain ⟨ho, w⟩ := w
  refine T_cv (fun aa => [some (tR (some aa))]) gX11_take rfl rfl rfl rfl (Nat.le_of_ble_eq_true rfl) gX11_inner (fun _ => Nat.le_of_ble_eq_true rfl) (fun _ => rfl) ⟨a0, rfl, ho, T_ki ?_⟩
  refine T.mono w (fun rr h_3 hw => ?_)
  obtain ⟨x_4, hr, w⟩ := hw
  refine ⟨x_4, hr, ?_⟩
  obtain ⟨a_5, hr, tt, nn, ht, hk, hj, w⟩ := w
  refine T_ial gX11_take rfl ⟨a_5, hr, tt, nn, ht, hk, hj, ?_⟩
  refine T_run (n := 1) (pc' := 18) (lv' := [some (tR (some a0)), some (tI x1)]) (st' := [tI x1, tI (ai h_3 a_5 x_4.toNatClampNeg), tI x_2, tR (gr h 661 a0)]) (h' := h_3) gX11_take rfl ?_
  replace w := c_le w
  refine T_ic (tgt := 35) gX11_take rfl (by decide) (fun hc => ?_) (fun hc => ?_)
  · replace w := w.1 hc
    refine T_kn (v := 0) gX11_take rfl (by decide) ?_
    obtain ⟨a_6, hr, tt, nn, ht, hk, hj, w⟩ := w
    refine T_ias gX11_take rfl ⟨a_6, hr, tt, nn, ht, hk, hj, fun h_7 he => ?_⟩
    replace w := w h_7 he
    exact T_rv gX11_take rfl rfl w
  · replace w := w.2 hc
    refine T_run (n := 1) (pc' := 22) (lv' := [some (tR (some a0)), some (tI x1)]) (st' := [tR (some a0), tI x_2, tR (gr h 661 a0)]) (h' := h_3) gX11_take rfl ?_
    obtain ⟨ho, w⟩ := w
    refine T_gs (tR (gr h_3 661 a0)) gX11_take rfl rfl ⟨ho, ?_⟩
    refine T_run (n := 1) (pc' := 26) (lv' := [some (tR (some a0)), some (tI x1)]) (st' := [tR (some a0), tR (gr h_3 661 a0), tI x_2, tR (gr h 661 a0)]) (h' := h_3) gX11_take rfl ?_
    obtain ⟨ho, w⟩ := w
    refine T_cv (fun aa => [some (tR (some aa))]) gX11_take rfl rfl rfl rfl (Nat.le_of_ble_eq_true rfl) gX11_inner (fun _ => Nat.le_of_ble_eq_true rfl) (fun _ => rfl) ⟨a0, rfl, ho, T_ki ?_⟩
    refine T.mono w (fun rr h_8 hw => ?_)
    obtain ⟨x_9, hr, w⟩ := hw
    refine ⟨x_9, hr, ?_⟩
    obtain ⟨a_10, hr, tt, nn, ht, hk, hj, w⟩ := w
    refine T_ial gX11_take rfl ⟨a_10, hr, tt, nn, ht, hk, hj, ?_⟩
    refine T_run (n := 2) (pc' := 32) (lv' := [some (tR (some a0)), some (tI x1)]) (st' := [tI ((ai h_8 a_10 x_9.toNatClampNeg) - x1), tI x_2, tR (gr h 661 a0)]) (h' := h_8) gX11_take rfl ?_
    refine T_goto (tgt := 36) gX11_take rfl (by decide) ?_
    obtain ⟨a_11, hr, tt, nn, ht, hk, hj, w⟩ := w
    refine T_ias gX11_take rfl ⟨a_11, hr, tt, nn, ht, hk, hj, fun h_12 he => ?_⟩
    replace w := w h_12 he
    exact T_rv gX11_take rfl rfl w
set_option maxHeartbeats 4000000 in
set_option maxRecDepth 20000 in
theorem wX11_block (a0 : Nat) (x1 : Int32) (x2 : Int32) (x3 : Int32) (h : Hp) (Q : Option TV → Hp → Prop) (w :
(if x1 = 4 then
tX11_block_12 a0 x1 x2 x3 (1 + x2) h Q
else
tX11_block_12 a0 x1 x2 x3 x2 h Q)) : tX11_block a0 x1 x2 x3 h Q := by
  refine T_run (n := 1) (pc' := 1) (lv' := [some (tR (some a0)), some (tI x1), some (tI x2), some (tI x3), none]) (st' := [tI x1]) (h' := h) gX11_block rfl ?_
  refine T_kn (v := 4) gX11_block rfl (by decide) ?_
  replace w := c_ne w
  refine T_ic (tgt := 11) gX11_block rfl (by decide) (fun hc => ?_) (fun hc => ?_)
  · replace w := w.1 hc
    refine T_run (n := 1) (pc' := 12) (lv' := [some (tR (some a0)), some (tI x1), some (tI x2), some (tI x3), none]) (st' := [tI x2]) (h' := h) gX11_block rfl ?_
    exact w
  · replace w := w.2 hc
    refine T_kn (v := 1) gX11_block rfl (by decide) ?_
    refine T_run (n := 2) (pc' := 8) (lv' := [some (tR (some a0)), some (tI x1), some (tI x2), some (tI x3), none]) (st' := [tI (1 + x2)]) (h' := h) gX11_block rfl ?_
    refine T_goto (tgt := 12) gX11_block rfl (by decide) ?_
    exact w
set_option maxHeartbeats 4000000 in
set_option maxRecDepth 20000 in
theorem wX11_block_12 (a0 : Nat) (x1 : Int32) (x2 : Int32) (x3 : Int32) (s0 : Int32) (h : Hp) (Q : Option TV → Hp → Prop) (w :
tX11_within x2 4 h (rI (fun x_2 h_1 =>
(if x_2 = 0 then
Q (some (tI 0)) h_1
else
tX11_within x3 4 h_1 (rI (fun x_4 h_3 =>
(if x_4 = 0 then
Q (some (tI 0)) h_3
else
ob h_3 a0 10 (tX11_has a0 s0 h_3 (rI (fun x_6 h_5 =>
(if x_6 = 0 then
Q (some (tI 0)) h_5
else
ob h_5 a0 10 (tX11_take a0 s0 h_5 (rV (fun h_7 =>
ob h_7 a0 10 (tX11_begin a0 x1 x2 x3 h_7 (rV (fun h_9 =>
ob h_9 a0 10 (
ob h_9 a0 10 (
ob h_9 a0 10 (
ob h_9 a0 10 (tX11_inner a0  h_9 (rI (fun x_12 h_11 =>
dr (gr h_9 660 a0) (fun a_13 => ix h_11 kI a_13 x_12 (
dr (gr h_9 652 a0) (fun a_14 => ix h_11 kIs a_14 (gi h_9 641 a0) (∀ h_15, h_15 = si h_11 a_14 (gi h_9 641 a0).toNatClampNeg (ai h_11 a_13 x_12.toNatClampNeg) →
Q (some (tI 1)) h_15))))))))))))))))))))))))))) : tX11_block_12 a0 x1 x2 x3 s0 h Q := by
  refine T_run (n := 2) (pc' := 15) (lv' := [some (tR (some a0)), some (tI x1), some (tI x2), some (tI x3), some (tI s0)]) (st' := [tI x2]) (h' := h) gX11_block rfl ?_
  refine T_kn (v := 4) gX11_block rfl (by decide) ?_
  refine T_cs (lv' := [some (tI x2), some (tI 4)]) gX11_block rfl rfl rfl rfl (Nat.le_of_ble_eq_true rfl) gX11_within (Nat.le_of_ble_eq_true rfl) rfl (T_ki ?_)
  refine T.mono w (fun rr h_1 hw => ?_)
  obtain ⟨x_2, hr, w⟩ := hw
  refine ⟨x_2, hr, ?_⟩
  replace w := c_eq w
  refine T_if (tgt := 39) gX11_block rfl (by decide) (fun hc => ?_) (fun hc => ?_)
  · replace w := w.1 hc
    refine T_kn (v := 0) gX11_block rfl (by decide) ?_
    exact T_rz gX11_block rfl rfl (Or.inl rfl) w
  · replace w := w.2 hc
    refine T_run (n := 1) (pc' := 23) (lv' := [some (tR (some a0)), some (tI x1), some (tI x2), some (tI x3), some (tI s0)]) (st' := [tI x3]) (h' := h_1) gX11_block rfl ?_
    refine T_kn (v := 4) gX11_block rfl (by decide) ?_
    refine T_cs (lv' := [some (tI x3), some (tI 4)]) gX11_block rfl rfl rfl rfl (Nat.le_of_ble_eq_true rfl) gX11_within (Nat.le_of_ble_eq_true rfl) rfl (T_ki ?_)
    refine T.mono w (fun rr h_3 hw => ?_)
    obtain ⟨x_4, hr, w⟩ := hw
    refine ⟨x_4, hr, ?_⟩
    replace w := c_eq w
    refine T_if (tgt := 39) gX11_block rfl (by decide) (fun hc => ?_) (fun hc => ?_)
    · replace w := w.1 hc
      refine T_kn (v := 0) gX11_block rfl (by decide) ?_
      exact T_rz gX11_block rfl rfl (Or.inl rfl) w
    · replace w := w.2 hc
      refine T_run (n := 2) (pc' := 33) (lv' := [some (tR (some a0)), some (tI x1), some (tI x2), some (tI x3), some (tI s0)]) (st' := [tI s0, tR (some a0)]) (h' := h_3) gX11_block rfl ?_
      obtain ⟨ho, w⟩ := w
      refine T_cv (fun aa => [some (tR (some aa)), some (tI s0)]) gX11_block rfl rfl rfl rfl (Nat.le_of_ble_eq_true rfl) gX11_has (fun _ => Nat.le_of_ble_eq_true rfl) (fun _ => rfl) ⟨a0, rfl, ho, T_ki ?_⟩
      refine T.mono w (fun rr h_5 hw => ?_)
      obtain ⟨x_6, hr, w⟩ := hw
      refine ⟨x_6, hr, ?_⟩
      replace w := c_ne w
      refine T_if (tgt := 41) gX11_block rfl (by decide) (fun hc => ?_) (fun hc => ?_)
      · replace w := w.1 hc
        refine T_run (n := 2) (pc' := 44) (lv' := [some (tR (some a0)), some (tI x1), some (tI x2), some (tI x3), some (tI s0)]) (st' := [tI s0, tR (some a0)]) (h' := h_5) gX11_block rfl ?_
        obtain ⟨ho, w⟩ := w
        refine T_cv (fun aa => [some (tR (some aa)), some (tI s0)]) gX11_block rfl rfl rfl rfl (Nat.le_of_ble_eq_true rfl) gX11_take (fun _ => Nat.le_of_ble_eq_true rfl) (fun _ => rfl) ⟨a0, rfl, ho, T_kv ?_⟩
        refine T.mono w (fun rr h_7 hw => ?_)
        obtain ⟨hr, w⟩ := hw
        refine ⟨hr, ?_⟩
        refine T_run (n := 4) (pc' := 51) (lv' := [some (tR (some a0)), some (tI x1), some (tI x2), some (tI x3), some (tI s0)]) (st' := [tI x3, tI x2, tI x1, tR (some a0)]) (h' := h_7) gX11_block rfl ?_
        obtain ⟨ho, w⟩ := w
        refine T_cv (fun aa => [some (tR (some aa)), some (tI x1), some (tI x2), some (tI x3), none]) gX11_block rfl rfl rfl rfl (Nat.le_of_ble_eq_true rfl) gX11_begin (fun _ => Nat.le_of_ble_eq_true rfl) (fun _ => rfl) ⟨a0, rfl, ho, T_kv ?_⟩
        refine T.mono w (fun rr h_9 hw => ?_)
        obtain ⟨hr, w⟩ := hw
        refine ⟨hr, ?_⟩
        refine T_run (n := 1) (pc' := 55) (lv' := [some (tR (some a0)), some (tI x1), some (tI x2), some (tI x3), some (tI s0)]) (st' := [tR (some a0)]) (h' := h_9) gX11_block rfl ?_
        obtain ⟨ho, w⟩ := w
        refine T_gs (tR (gr h_9 652 a0)) gX11_block rfl rfl ⟨ho, ?_⟩
        refine T_run (n := 1) (pc' := 59) (lv' := [some (tR (some a0)), some (tI x1), some (tI x2), some (tI x3), some (tI s0)]) (st' := [tR (some a0), tR (gr h_9 652 a0)]) (h' := h_9) gX11_block rfl ?_
        obtain ⟨ho, w⟩ := w
        refine T_gs (tI (gi h_9 641 a0)) gX11_block rfl rfl ⟨ho, ?_⟩
        refine T_run (n := 1) (pc' := 63) (lv' := [some (tR (some a0)), some (tI x1), some (tI x2), some (tI x3), some (tI s0)]) (st' := [tR (some a0), tI (gi h_9 641 a0), tR (gr h_9 652 a0)]) (h' := h_9) gX11_block rfl ?_
        obtain ⟨ho, w⟩ := w
        refine T_gs (tR (gr h_9 660 a0)) gX11_block rfl rfl ⟨ho, ?_⟩
        refine T_run (n := 1) (pc' := 67) (lv' := [some (tR (some a0)), some (tI x1), some (tI x2), some (tI x3), some (tI s0)]) (st' := [tR (some a0), tR (gr h_9 660 a0), tI (gi h_9 641 a0), tR (gr h_9 652 a0)]) (h' := h_9) gX11_block rfl ?_
        obtain ⟨ho, w⟩ := w
        refine T_cv (fun aa => [some (tR (some aa))]) gX11_block rfl rfl rfl rfl (Nat.le_of_ble_eq_true rfl) gX11_inner (fun _ => Nat.le_of_ble_eq_true rfl) (fun _ => rfl) ⟨a0, rfl, ho, T_ki ?_⟩
        refine T.mono w (fun rr h_11 hw => ?_)
        obtain ⟨x_12, hr, w⟩ := hw
        refine ⟨x_12, hr, ?_⟩
        obtain ⟨a_13, hr, tt, nn, ht, hk, hj, w⟩ := w
        refine T_ial gX11_block rfl ⟨a_13, hr, tt, nn, ht, hk, hj, ?_⟩
        obtain ⟨a_14, hr, tt, nn, ht, hk, hj, w⟩ := w
        refine T_ias gX11_block rfl ⟨a_14, hr, tt, nn, ht, hk, hj, fun h_15 he => ?_⟩
        replace w := w h_15 he
        refine T_kn (v := 1) gX11_block rfl (by decide) ?_
        exact T_rz gX11_block rfl rfl (Or.inr rfl) w
      · replace w := w.2 hc
        refine T_kn (v := 0) gX11_block rfl (by decide) ?_
        exact T_rz gX11_block rfl rfl (Or.inl rfl) w
set_option maxHeartbeats 4000000 in
set_option maxRecDepth 20000 in
theorem wX11_isDone (a0 : Nat) (h : Hp) (Q : Option TV → Hp → Prop) (w :
ob h a0 10 (
ob h a0 10 (tX11_inner a0  h (rI (fun x_2 h_1 =>
dr (gr h 661 a0) (fun a_3 => ix h_1 kI a_3 x_2 (
ob h_1 a0 10 (
ob h_1 a0 10 (tX11_inner a0  h_1 (rI (fun x_5 h_4 =>
dr (gr h_1 659 a0) (fun a_6 => ix h_4 kI a_6 x_5 (
(if (ai h_1 a_3 x_2.toNatClampNeg) = (ai h_4 a_6 x_5.toNatClampNeg) then
Q (some (tI 1)) h_4
else
ob h_4 a0 10 (
ob h_4 a0 10 (tX11_inner a0  h_4 (rI (fun x_8 h_7 =>
dr (gr h_4 662 a0) (fun a_9 => ix h_7 kB a_9 x_8 (
(if (ai h_7 a_9 x_8.toNatClampNeg) = 0 then
Q (some (tI 0)) h_7
else
ob h_7 a0 10 (
ob h_7 a0 10 (tX11_inner a0  h_7 (rI (fun x_11 h_10 =>
dr (gr h_7 661 a0) (fun a_12 => ix h_10 kI a_12 x_11 (
ob h_10 a0 10 (
ob h_10 a0 10 (tX11_inner a0  h_10 (rI (fun x_14 h_13 =>
dr (gr h_10 659 a0) (fun a_15 => ix h_13 kI a_15 x_14 (
(if (ai h_10 a_12 x_11.toNatClampNeg) < (ai h_13 a_15 x_14.toNatClampNeg) then
Q (some (tI 1)) h_13
else
Q (some (tI 0)) h_13)))))))))))))))))))))))))))))))))) : tX11_isDone a0 h Q := by
  refine T_run (n := 1) (pc' := 1) (lv' := [some (tR (some a0))]) (st' := [tR (some a0)]) (h' := h) gX11_isDone rfl ?_
  obtain ⟨ho, w⟩ := w
  refine T_gs (tR (gr h 661 a0)) gX11_isDone rfl rfl ⟨ho, ?_⟩
  refine T_run (n := 1) (pc' := 5) (lv' := [some (tR (some a0))]) (st' := [tR (some a0), tR (gr h 661 a0)]) (h' := h) gX11_isDone rfl ?_
  obtain ⟨ho, w⟩ := w
  refine T_cv (fun aa => [some (tR (some aa))]) gX11_isDone rfl rfl rfl rfl (Nat.le_of_ble_eq_true rfl) gX11_inner (fun _ => Nat.le_of_ble_eq_true rfl) (fun _ => rfl) ⟨a0, rfl, ho, T_ki ?_⟩
  refine T.mono w (fun rr h_1 hw => ?_)
  obtain ⟨x_2, hr, w⟩ := hw
  refine ⟨x_2, hr, ?_⟩
  obtain ⟨a_3, hr, tt, nn, ht, hk, hj, w⟩ := w
  refine T_ial gX11_isDone rfl ⟨a_3, hr, tt, nn, ht, hk, hj, ?_⟩
  refine T_run (n := 1) (pc' := 10) (lv' := [some (tR (some a0))]) (st' := [tR (some a0), tI (ai h_1 a_3 x_2.toNatClampNeg)]) (h' := h_1) gX11_isDone rfl ?_
  obtain ⟨ho, w⟩ := w
  refine T_gs (tR (gr h_1 659 a0)) gX11_isDone rfl rfl ⟨ho, ?_⟩
  refine T_run (n := 1) (pc' := 14) (lv' := [some (tR (some a0))]) (st' := [tR (some a0), tR (gr h_1 659 a0), tI (ai h_1 a_3 x_2.toNatClampNeg)]) (h' := h_1) gX11_isDone rfl ?_
  obtain ⟨ho, w⟩ := w
  refine T_cv (fun aa => [some (tR (some aa))]) gX11_isDone rfl rfl rfl rfl (Nat.le_of_ble_eq_true rfl) gX11_inner (fun _ => Nat.le_of_ble_eq_true rfl) (fun _ => rfl) ⟨a0, rfl, ho, T_ki ?_⟩
  refine T.mono w (fun rr h_4 hw => ?_)
  obtain ⟨x_5, hr, w⟩ := hw
  refine ⟨x_5, hr, ?_⟩
  obtain ⟨a_6, hr, tt, nn, ht, hk, hj, w⟩ := w
  refine T_ial gX11_isDone rfl ⟨a_6, hr, tt, nn, ht, hk, hj, ?_⟩
  replace w := c_eq w
  refine T_ic (tgt := 54) gX11_isDone rfl (by decide) (fun hc => ?_) (fun hc => ?_)
  · replace w := w.1 hc
    refine T_kn (v := 1) gX11_isDone rfl (by decide) ?_
    refine T_goto (tgt := 59) gX11_isDone rfl (by decide) ?_
    exact T_rz gX11_isDone rfl rfl (Or.inr rfl) w
  · replace w := w.2 hc
    refine T_run (n := 1) (pc' := 22) (lv' := [some (tR (some a0))]) (st' := [tR (some a0)]) (h' := h_4) gX11_isDone rfl ?_
    obtain ⟨ho, w⟩ := w
    refine T_gs (tR (gr h_4 662 a0)) gX11_isDone rfl rfl ⟨ho, ?_⟩
    refine T_run (n := 1) (pc' := 26) (lv' := [some (tR (some a0))]) (st' := [tR (some a0), tR (gr h_4 662 a0)]) (h' := h_4) gX11_isDone rfl ?_
    obtain ⟨ho, w⟩ := w
    refine T_cv (fun aa => [some (tR (some aa))]) gX11_isDone rfl rfl rfl rfl (Nat.le_of_ble_eq_true rfl) gX11_inner (fun _ => Nat.le_of_ble_eq_true rfl) (fun _ => rfl) ⟨a0, rfl, ho, T_ki ?_⟩
    refine T.mono w (fun rr h_7 hw => ?_)
    obtain ⟨x_8, hr, w⟩ := hw
    refine ⟨x_8, hr, ?_⟩
    obtain ⟨a_9, hr, tt, nn, ht, hk, hj, w⟩ := w
    refine T_bal gX11_isDone rfl ⟨a_9, hr, tt, nn, ht, hk, hj, ?_⟩
    replace w := c_eq w
    refine T_if (tgt := 58) gX11_isDone rfl (by decide) (fun hc => ?_) (fun hc => ?_)
    · replace w := w.1 hc
      refine T_kn (v := 0) gX11_isDone rfl (by decide) ?_
      exact T_rz gX11_isDone rfl rfl (Or.inl rfl) w
    · replace w := w.2 hc
      refine T_run (n := 1) (pc' := 34) (lv' := [some (tR (some a0))]) (st' := [tR (some a0)]) (h' := h_7) gX11_isDone rfl ?_
      obtain ⟨ho, w⟩ := w
      refine T_gs (tR (gr h_7 661 a0)) gX11_isDone rfl rfl ⟨ho, ?_⟩
      refine T_run (n := 1) (pc' := 38) (lv' := [some (tR (some a0))]) (st' := [tR (some a0), tR (gr h_7 661 a0)]) (h' := h_7) gX11_isDone rfl ?_
      obtain ⟨ho, w⟩ := w
      refine T_cv (fun aa => [some (tR (some aa))]) gX11_isDone rfl rfl rfl rfl (Nat.le_of_ble_eq_true rfl) gX11_inner (fun _ => Nat.le_of_ble_eq_true rfl) (fun _ => rfl) ⟨a0, rfl, ho, T_ki ?_⟩
      refine T.mono w (fun rr h_10 hw => ?_)
      obtain ⟨x_11, hr, w⟩ := hw
      refine ⟨x_11, hr, ?_⟩
      obtain ⟨a_12, hr, tt, nn, ht, hk, hj, w⟩ := w
      refine T_ial gX11_isDone rfl ⟨a_12, hr, tt, nn, ht, hk, hj, ?_⟩
      refine T_run (n := 1) (pc' := 43) (lv' := [some (tR (some a0))]) (st' := [tR (some a0), tI (ai h_10 a_12 x_11.toNatClampNeg)]) (h' := h_10) gX11_isDone rfl ?_
      obtain ⟨ho, w⟩ := w
      refine T_gs (tR (gr h_10 659 a0)) gX11_isDone rfl rfl ⟨ho, ?_⟩
      refine T_run (n := 1) (pc' := 47) (lv' := [some (tR (some a0))]) (st' := [tR (some a0), tR (gr h_10 659 a0), tI (ai h_10 a_12 x_11.toNatClampNeg)]) (h' := h_10) gX11_isDone rfl ?_
      obtain ⟨ho, w⟩ := w
      refine T_cv (fun aa => [some (tR (some aa))]) gX11_isDone rfl rfl rfl rfl (Nat.le_of_ble_eq_true rfl) gX11_inner (fun _ => Nat.le_of_ble_eq_true rfl) (fun _ => rfl) ⟨a0, rfl, ho, T_ki ?_⟩
      refine T.mono w (fun rr h_13 hw => ?_)
      obtain ⟨x_14, hr, w⟩ := hw
      refine ⟨x_14, hr, ?_⟩
      obtain ⟨a_15, hr, tt, nn, ht, hk, hj, w⟩ := w
      refine T_ial gX11_isDone rfl ⟨a_15, hr, tt, nn, ht, hk, hj, ?_⟩
      replace w := c_ge w
      refine T_ic (tgt := 58) gX11_isDone rfl (by decide) (fun hc => ?_) (fun hc => ?_)
      · replace w := w.1 hc
        refine T_kn (v := 0) gX11_isDone rfl (by decide) ?_
        exact T_rz gX11_isDone rfl rfl (Or.inl rfl) w
      · replace w := w.2 hc
        refine T_kn (v := 1) gX11_isDone rfl (by decide) ?_
        refine T_goto (tgt := 59) gX11_isDone rfl (by decide) ?_
        exact T_rz gX11_isDone rfl rfl (Or.inr rfl) w
set_option maxHeartbeats 4000000 in
set_option maxRecDepth 20000 in
theorem wX11_otherwise (a0 : Nat) (h : Hp) (Q : Option TV → Hp → Prop) (w :
ob h a0 10 (
ob h a0 10 (tX11_inner a0  h (rI (fun x_2 h_1 =>
dr (gr h 657 a0) (fun a_3 => ix h_1 kI a_3 x_2 (
(if (ai h_1 a_3 x_2.toNatClampNeg) = 4 then
ob h_1 a0 10 (tX11_isDone a0  h_1 (rI (fun x_5 h_4 =>
(if x_5 = 0 then
Q (some (tI 0)) h_4
else
ob h_4 a0 10 (
ob h_4 a0 10 (tX11_inner a0  h_4 (rI (fun x_7 h_6 =>
dr (gr h_4 657 a0) (fun a_8 => ix h_6 kIs a_8 x_7 (∀ h_9, h_9 = si h_6 a_8 x_7.toNatClampNeg 5 →
ob h_9 a0 10 (
ob h_9 a0 10 (tX11_inner a0  h_9 (rI (fun x_11 h_10 =>
ob h_10 a0 10 (
ob h_10 a0 10 (tX11_inner a0  h_10 (rI (fun x_13 h_12 =>
dr (gr h_10 658 a0) (fun a_14 => ix h_12 kI a_14 x_13 (
dr (gr h_9 661 a0) (fun a_15 => ix h_12 kIs a_15 x_11 (∀ h_16, h_16 = si h_12 a_15 x_11.toNatClampNeg (ai h_12 a_14 x_13.toNatClampNeg) →
ob h_16 a0 10 (
ob h_16 a0 10 (tX11_inner a0  h_16 (rI (fun x_18 h_17 =>
dr (gr h_16 662 a0) (fun a_19 => ix h_17 kZ a_19 x_18 (∀ h_20, h_20 = si h_17 a_19 x_18.toNatClampNeg (0 &&& 1) →
Q (some (tI 1)) h_20))))))))))))))))))))))))))))
else
Q (some (tI 0)) h_1)))))))) : tX11_otherwise a0 h Q := by
  refine T_run (n := 1) (pc' := 1) (lv' := [some (tR (some a0))]) (st' := [tR (some a0)]) (h' := h) gX11_otherwise rfl ?_
  obtain ⟨ho, w⟩ := w
  refine T_gs (tR (gr h 657 a0)) gX11_otherwise rfl rfl ⟨ho, ?_⟩
  refine T_run (n := 1) (pc' := 5) (lv' := [some (tR (some a0))]) (st' := [tR (some a0), tR (gr h 657 a0)]) (h' := h) gX11_otherwise rfl ?_
  obtain ⟨ho, w⟩ := w
  refine T_cv (fun aa => [some (tR (some aa))]) gX11_otherwise rfl rfl rfl rfl (Nat.le_of_ble_eq_true rfl) gX11_inner (fun _ => Nat.le_of_ble_eq_true rfl) (fun _ => rfl) ⟨a0, rfl, ho, T_ki ?_⟩
  refine T.mono w (fun rr h_1 hw => ?_)
  obtain ⟨x_2, hr, w⟩ := hw
  refine ⟨x_2, hr, ?_⟩
  obtain ⟨a_3, hr, tt, nn, ht, hk, hj, w⟩ := w
  refine T_ial gX11_otherwise rfl ⟨a_3, hr, tt, nn, ht, hk, hj, ?_⟩
  refine T_kn (v := 4) gX11_otherwise rfl (by decide) ?_
  replace w := c_ne w
  refine T_ic (tgt := 20) gX11_otherwise rfl (by decide) (fun hc => ?_) (fun hc => ?_)
  · replace w := w.1 hc
    refine T_kn (v := 0) gX11_otherwise rfl (by decide) ?_
    exact T_rz gX11_otherwise rfl rfl (Or.inl rfl) w
  · replace w := w.2 hc
    refine T_run (n := 1) (pc' := 14) (lv' := [some (tR (some a0))]) (st' := [tR (some a0)]) (h' := h_1) gX11_otherwise rfl ?_
    obtain ⟨ho, w⟩ := w
    refine T_cv (fun aa => [some (tR (some aa))]) gX11_otherwise rfl rfl rfl rfl (Nat.le_of_ble_eq_true rfl) gX11_isDone (fun _ => Nat.le_of_ble_eq_true rfl) (fun _ => rfl) ⟨a0, rfl, ho, T_ki ?_⟩
    refine T.mono w (fun rr h_4 hw => ?_)
    obtain ⟨x_5, hr, w⟩ := hw
    refine ⟨x_5, hr, ?_⟩
    replace w := c_ne w
    refine T_if (tgt := 22) gX11_otherwise rfl (by decide) (fun hc => ?_) (fun hc => ?_)
    · replace w := w.1 hc
      refine T_run (n := 1) (pc' := 23) (lv' := [some (tR (some a0))]) (st' := [tR (some a0)]) (h' := h_4) gX11_otherwise rfl ?_
      obtain ⟨ho, w⟩ := w
      refine T_gs (tR (gr h_4 657 a0)) gX11_otherwise rfl rfl ⟨ho, ?_⟩
      refine T_run (n := 1) (pc' := 27) (lv' := [some (tR (some a0))]) (st' := [tR (some a0), tR (gr h_4 657 a0)]) (h' := h_4) gX11_otherwise rfl ?_
      obtain ⟨ho, w⟩ := w
      refine T_cv (fun aa => [some (tR (some aa))]) gX11_otherwise rfl rfl rfl rfl (Nat.le_of_ble_eq_true rfl) gX11_inner (fun _ => Nat.le_of_ble_eq_true rfl) (fun _ => rfl) ⟨a0, rfl, ho, T_ki ?_⟩
      refine T.mono w (fun rr h_6 hw => ?_)
      obtain ⟨x_7, hr, w⟩ := hw
      refine ⟨x_7, hr, ?_⟩
      refine T_kn (v := 5) gX11_otherwise rfl (by decide) ?_
      obtain ⟨a_8, hr, tt, nn, ht, hk, hj, w⟩ := w
      refine T_ias gX11_otherwise rfl ⟨a_8, hr, tt, nn, ht, hk, hj, fun h_9 he => ?_⟩
      replace w := w h_9 he
      refine T_run (n := 1) (pc' := 33) (lv' := [some (tR (some a0))]) (st' := [tR (some a0)]) (h' := h_9) gX11_otherwise rfl ?_
      obtain ⟨ho, w⟩ := w
      refine T_gs (tR (gr h_9 661 a0)) gX11_otherwise rfl rfl ⟨ho, ?_⟩
      refine T_run (n := 1) (pc' := 37) (lv' := [some (tR (some a0))]) (st' := [tR (some a0), tR (gr h_9 661 a0)]) (h' := h_9) gX11_otherwise rfl ?_
      obtain ⟨ho, w⟩ := w
      refine T_cv (fun aa => [some (tR (some aa))]) gX11_otherwise rfl rfl rfl rfl (Nat.le_of_ble_eq_true rfl) gX11_inner (fun _ => Nat.le_of_ble_eq_true rfl) (fun _ => rfl) ⟨a0, rfl, ho, T_ki ?_⟩
      refine T.mono w (fun rr h_10 hw => ?_)
      obtain ⟨x_11, hr, w⟩ := hw
      refine ⟨x_11, hr, ?_⟩
      refine T_run (n := 1) (pc' := 41) (lv' := [some (tR (some a0))]) (st' := [tR (some a0), tI x_11, tR (gr h_9 661 a0)]) (h' := h_10) gX11_otherwise rfl ?_
      obtain ⟨ho, w⟩ := w
      refine T_gs (tR (gr h_10 658 a0)) gX11_otherwise rfl rfl ⟨ho, ?_⟩
      refine T_run (n := 1) (pc' := 45) (lv' := [some (tR (some a0))]) (st' := [tR (some a0), tR (gr h_10 658 a0), tI x_11, tR (gr h_9 661 a0)]) (h' := h_10) gX11_otherwise rfl ?_
      obtain ⟨ho, w⟩ := w
      refine T_cv (fun aa => [some (tR (some aa))]) gX11_otherwise rfl rfl rfl rfl (Nat.le_of_ble_eq_true rfl) gX11_inner (fun _ => Nat.le_of_ble_eq_true rfl) (fun _ => rfl) ⟨a0, rfl, ho, T_ki ?_⟩
      refine T.mono w (fun rr h_12 hw => ?_)
      obtain ⟨x_13, hr, w⟩ := hw
      refine ⟨x_13, hr, ?_⟩
      obtain ⟨a_14, hr, tt, nn, ht, hk, hj, w⟩ := w
      refine T_ial gX11_otherwise rfl ⟨a_14, hr, tt, nn, ht, hk, hj, ?_⟩
      obtain ⟨a_15, hr, tt, nn, ht, hk, hj, w⟩ := w
      refine T_ias gX11_otherwise rfl ⟨a_15, hr, tt, nn, ht, hk, hj, fun h_16 he => ?_⟩
      replace w := w h_16 he
      refine T_run (n := 1) (pc' := 51) (lv' := [some (tR (some a0))]) (st' := [tR (some a0)]) (h' := h_16) gX11_otherwise rfl ?_
      obtain ⟨ho, w⟩ := w
      refine T_gs (tR (gr h_16 662 a0)) gX11_otherwise rfl rfl ⟨ho, ?_⟩
      refine T_run (n := 1) (pc' := 55) (lv' := [some (tR (some a0))]) (st' := [tR (some a0), tR (gr h_16 662 a0)]) (h' := h_16) gX11_otherwise rfl ?_
      obtain ⟨ho, w⟩ := w
      refine T_cv (fun aa => [some (tR (some aa))]) gX11_otherwise rfl rfl rfl rfl (Nat.le_of_ble_eq_true rfl) gX11_inner (fun _ => Nat.le_of_ble_eq_true rfl) (fun _ => rfl) ⟨a0, rfl, ho, T_ki ?_⟩
      refine T.mono w (fun rr h_17 hw => ?_)
      obtain ⟨x_18, hr, w⟩ := hw
      refine ⟨x_18, hr, ?_⟩
      refine T_kn (v := 0) gX11_otherwise rfl (by decide) ?_
      obtain ⟨a_19, hr, tt, nn, ht, hk, hj, w⟩ := w
      refine T_zas gX11_otherwise rfl ⟨a_19, hr, tt, nn, ht, hk, hj, fun h_20 he => ?_⟩
      replace w := w h_20 he
      refine T_kn (v := 1) gX11_otherwise rfl (by decide) ?_
      exact T_rz gX11_otherwise rfl rfl (Or.inr rfl) w
    · replace w := w.2 hc
      refine T_kn (v := 0) gX11_otherwise rfl (by decide) ?_
      exact T_rz gX11_otherwise rfl rfl (Or.inl rfl) w
set_option maxHeartbeats 4000000 in
set_option maxRecDepth 20000 in
theorem wX11_end (a0 : Nat) (h : Hp) (Q : Option TV → Hp → Prop) (w :
ob h a0 10 (tX11_isDone a0  h (rI (fun x_2 h_1 =>
(if x_2 = 0 then
Q (some (tI 0)) h_1
else
ob h_1 a0 10 (
ob h_1 a0 10 (tX11_inner a0  h_1 (rI (fun x_4 h_3 =>
dr (gr h_1 657 a0) (fun a_5 => ix h_3 kI a_5 x_4 (
(if (ai h_3 a_5 x_4.toNatClampNeg) = 4 then
ob h_3 a0 10 (
ob h_3 a0 10 (tX11_inner a0  h_3 (rI (fun x_7 h_6 =>
dr (gr h_3 658 a0) (fun a_8 => ix h_6 kI a_8 x_7 (
ob h_6 a0 10 (
ob h_6 a0 10 (tX11_inner a0  h_6 (rI (fun x_10 h_9 =>
dr (gr h_6 659 a0) (fun a_11 => ix h_9 kI a_11 x_10 (
(if (ai h_6 a_8 x_7.toNatClampNeg) = (ai h_9 a_11 x_10.toNatClampNeg) then
tX11_end_43 a0 h_9 Q
else
Q (some (tI 0)) h_9)))))))))))))
else
tX11_end_43 a0 h_3 Q)))))))))))) : tX11_end a0 h Q := by
  refine T_run (n := 1) (pc' := 1) (lv' := [some (tR (some a0)), none]) (st' := [tR (some a0)]) (h' := h) gX11_end rfl ?_
  obtain ⟨ho, w⟩ := w
  refine T_cv (fun aa => [some (tR (some aa))]) gX11_end rfl rfl rfl rfl (Nat.le_of_ble_eq_true rfl) gX11_isDone (fun _ => Nat.le_of_ble_eq_true rfl) (fun _ => rfl) ⟨a0, rfl, ho, T_ki ?_⟩
  refine T.mono w (fun rr h_1 hw => ?_)
  obtain ⟨x_2, hr, w⟩ := hw
  refine ⟨x_2, hr, ?_⟩
  replace w := c_eq w
  refine T_if (tgt := 41) gX11_end rfl (by decide) (fun hc => ?_) (fun hc => ?_)
  · replace w := w.1 hc
    refine T_kn (v := 0) gX11_end rfl (by decide) ?_
    exact T_rz gX11_end rfl rfl (Or.inl rfl) w
  · replace w := w.2 hc
    refine T_run (n := 1) (pc' := 8) (lv' := [some (tR (some a0)), none]) (st' := [tR (some a0)]) (h' := h_1) gX11_end rfl ?_
    obtain ⟨ho, w⟩ := w
    refine T_gs (tR (gr h_1 657 a0)) gX11_end rfl rfl ⟨ho, ?_⟩
    refine T_run (n := 1) (pc' := 12) (lv' := [some (tR (some a0)), none]) (st' := [tR (some a0), tR (gr h_1 657 a0)]) (h' := h_1) gX11_end rfl ?_
    obtain ⟨ho, w⟩ := w
    refine T_cv (fun aa => [some (tR (some aa))]) gX11_end rfl rfl rfl rfl (Nat.le_of_ble_eq_true rfl) gX11_inner (fun _ => Nat.le_of_ble_eq_true rfl) (fun _ => rfl) ⟨a0, rfl, ho, T_ki ?_⟩
    refine T.mono w (fun rr h_3 hw => ?_)
    obtain ⟨x_4, hr, w⟩ := hw
    refine ⟨x_4, hr, ?_⟩
    obtain ⟨a_5, hr, tt, nn, ht, hk, hj, w⟩ := w
    refine T_ial gX11_end rfl ⟨a_5, hr, tt, nn, ht, hk, hj, ?_⟩
    refine T_kn (v := 4) gX11_end rfl (by decide) ?_
    replace w := c_ne w
    refine T_ic (tgt := 43) gX11_end rfl (by decide) (fun hc => ?_) (fun hc => ?_)
    · replace w := w.1 hc
      exact w
    · replace w := w.2 hc
      refine T_run (n := 1) (pc' := 21) (lv' := [some (tR (some a0)), none]) (st' := [tR (some a0)]) (h' := h_3) gX11_end rfl ?_
      obtain ⟨ho, w⟩ := w
      refine T_gs (tR (gr h_3 658 a0)) gX11_end rfl rfl ⟨ho, ?_⟩
      refine T_run (n := 1) (pc' := 25) (lv' := [some (tR (some a0)), none]) (st' := [tR (some a0), tR (gr h_3 658 a0)]) (h' := h_3) gX11_end rfl ?_
      obtain ⟨ho, w⟩ := w
      refine T_cv (fun aa => [some (tR (some aa))]) gX11_end rfl rfl rfl rfl (Nat.le_of_ble_eq_true rfl) gX11_inner (fun _ => Nat.le_of_ble_eq_true rfl) (fun _ => rfl) ⟨a0, rfl, ho, T_ki ?_⟩
      refine T.mono w (fun rr h_6 hw => ?_)
      obtain ⟨x_7, hr, w⟩ := hw
      refine ⟨x_7, hr, ?_⟩
      obtain ⟨a_8, hr, tt, nn, ht, hk, hj, w⟩ := w
      refine T_ial gX11_end rfl ⟨a_8, hr, tt, nn, ht, hk, hj, ?_⟩
      refine T_run (n := 1) (pc' := 30) (lv' := [some (tR (some a0)), none]) (st' := [tR (some a0), tI (ai h_6 a_8 x_7.toNatClampNeg)]) (h' := h_6) gX11_end rfl ?_
      obtain ⟨ho, w⟩ := w
      refine T_gs (tR (gr h_6 659 a0)) gX11_end rfl rfl ⟨ho, ?_⟩
      refine T_run (n := 1) (pc' := 34) (lv' := [some (tR (some a0)), none]) (st' := [tR (some a0), tR (gr h_6 659 a0), tI (ai h_6 a_8 x_7.toNatClampNeg)]) (h' := h_6) gX11_end rfl ?_
      obtain ⟨ho, w⟩ := w
      refine T_cv (fun aa => [some (tR (some aa))]) gX11_end rfl rfl rfl rfl (Nat.le_of_ble_eq_true rfl) gX11_inner (fun _ => Nat.le_of_ble_eq_true rfl) (fun _ => rfl) ⟨a0, rfl, ho, T_ki ?_⟩
      refine T.mono w (fun rr h_9 hw => ?_)
      obtain ⟨x_10, hr, w⟩ := hw
      refine ⟨x_10, hr, ?_⟩
      obtain ⟨a_11, hr, tt, nn, ht, hk, hj, w⟩ := w
      refine T_ial gX11_end rfl ⟨a_11, hr, tt, nn, ht, hk, hj, ?_⟩
      replace w := c_eq w
      refine T_ic (tgt := 43) gX11_end rfl (by decide) (fun hc => ?_) (fun hc => ?_)
      · replace w := w.1 hc
        exact w
      · replace w := w.2 hc
        refine T_kn (v := 0) gX11_end rfl (by decide) ?_
        exact T_rz gX11_end rfl rfl (Or.inl rfl) w
set_option maxHeartbeats 4000000 in
set_option maxRecDepth 20000 in
theorem wX11_end_43 (a0 : Nat) (h : Hp) (Q : Option TV → Hp → Prop) (w :
ob h a0 10 (
ob h a0 10 (tX11_inner a0  h (rI (fun x_2 h_1 =>
dr (gr h 659 a0) (fun a_3 => ix h_1 kI a_3 x_2 (
ob h_1 a0 10 (
ob h_1 a0 10 (∀ h_4, h_4 = pi h_1 653 a0 ((gi h_1 653 a0) - 1) →
ob h_4 a0 10 (
(if 0 < (gi h_4 653 a0) then
ob h_4 a0 10 (
ob h_4 a0 10 (tX11_inner a0  h_4 (rI (fun x_6 h_5 =>
dr (gr h_4 661 a0) (fun a_7 => ix h_5 kI a_7 x_6 (
dr (gr h_4 661 a0) (fun a_8 => ix h_5 kIs a_8 x_6 (∀ h_9, h_9 = si h_5 a_8 x_6.toNatClampNeg ((ai h_5 a_7 x_6.toNatClampNeg) + (ai h_1 a_3 x_2.toNatClampNeg)) →
Q (some (tI 1)) h_9))))))))
else
Q (some (tI 1)) h_4))))))))))) : tX11_end_43 a0 h Q := by
  refine T_run (n := 1) (pc' := 44) (lv' := [some (tR (some a0)), none]) (st' := [tR (some a0)]) (h' := h) gX11_end rfl ?_
  obtain ⟨ho, w⟩ := w
  refine T_gs (tR (gr h 659 a0)) gX11_end rfl rfl ⟨ho, ?_⟩
  refine T_run (n := 1) (pc' := 48) (lv' := [some (tR (some a0)), none]) (st' := [tR (some a0), tR (gr h 659 a0)]) (h' := h) gX11_end rfl ?_
  obtain ⟨ho, w⟩ := w
  refine T_cv (fun aa => [some (tR (some aa))]) gX11_end rfl rfl rfl rfl (Nat.le_of_ble_eq_true rfl) gX11_inner (fun _ => Nat.le_of_ble_eq_true rfl) (fun _ => rfl) ⟨a0, rfl, ho, T_ki ?_⟩
  refine T.mono w (fun rr h_1 hw => ?_)
  obtain ⟨x_2, hr, w⟩ := hw
  refine ⟨x_2, hr, ?_⟩
  obtain ⟨a_3, hr, tt, nn, ht, hk, hj, w⟩ := w
  refine T_ial gX11_end rfl ⟨a_3, hr, tt, nn, ht, hk, hj, ?_⟩
  refine T_run (n := 3) (pc' := 55) (lv' := [some (tR (some a0)), some (tI (ai h_1 a_3 x_2.toNatClampNeg))]) (st' := [tR (some a0), tR (some a0)]) (h' := h_1) gX11_end rfl ?_
  obtain ⟨ho, w⟩ := w
  refine T_gs (tI (gi h_1 653 a0)) gX11_end rfl rfl ⟨ho, ?_⟩
  refine T_kn (v := 1) gX11_end rfl (by decide) ?_
  refine T_run (n := 1) (pc' := 60) (lv' := [some (tR (some a0)), some (tI (ai h_1 a_3 x_2.toNatClampNeg))]) (st' := [tI ((gi h_1 653 a0) - 1), tR (some a0)]) (h' := h_1) gX11_end rfl ?_
  obtain ⟨ho, w⟩ := w
  refine T_ps (pi h_1 653 a0 ((gi h_1 653 a0) - 1)) gX11_end rfl rfl ⟨ho, fun h_4 he => ?_⟩
  replace w := w h_4 he
  refine T_run (n := 1) (pc' := 64) (lv' := [some (tR (some a0)), some (tI (ai h_1 a_3 x_2.toNatClampNeg))]) (st' := [tR (some a0)]) (h' := h_4) gX11_end rfl ?_
  obtain ⟨ho, w⟩ := w
  refine T_gs (tI (gi h_4 653 a0)) gX11_end rfl rfl ⟨ho, ?_⟩
  replace w := c_le w
  refine T_if (tgt := 83) gX11_end rfl (by decide) (fun hc => ?_) (fun hc => ?_)
  · replace w := w.1 hc
    refine T_kn (v := 1) gX11_end rfl (by decide) ?_
    exact T_rz gX11_end rfl rfl (Or.inr rfl) w
  · replace w := w.2 hc
    refine T_run (n := 1) (pc' := 71) (lv' := [some (tR (some a0)), some (tI (ai h_1 a_3 x_2.toNatClampNeg))]) (st' := [tR (some a0)]) (h' := h_4) gX11_end rfl ?_
    obtain ⟨ho, w⟩ := w
    refine T_gs (tR (gr h_4 661 a0)) gX11_end rfl rfl ⟨ho, ?_⟩
    refine T_run (n := 1) (pc' := 75) (lv' := [some (tR (some a0)), some (tI (ai h_1 a_3 x_2.toNatClampNeg))]) (st' := [tR (some a0), tR (gr h_4 661 a0)]) (h' := h_4) gX11_end rfl ?_
    obtain ⟨ho, w⟩ := w
    refine T_cv (fun aa => [some (tR (some aa))]) gX11_end rfl rfl rfl rfl (Nat.le_of_ble_eq_true rfl) gX11_inner (fun _ => Nat.le_of_ble_eq_true rfl) (fun _ => rfl) ⟨a0, rfl, ho, T_ki ?_⟩
    refine T.mono w (fun rr h_5 hw => ?_)
    obtain ⟨x_6, hr, w⟩ := hw
    refine ⟨x_6, hr, ?_⟩
    refine T_run (n := 1) (pc' := 79) (lv' := [some (tR (some a0)), some (tI (ai h_1 a_3 x_2.toNatClampNeg))]) (st' := [tI x_6, tR (gr h_4 661 a0), tI x_6, tR (gr h_4 661 a0)]) (h' := h_5) gX11_end rfl ?_
    obtain ⟨a_7, hr, tt, nn, ht, hk, hj, w⟩ := w
    refine T_ial gX11_end rfl ⟨a_7, hr, tt, nn, ht, hk, hj, ?_⟩
    refine T_run (n := 2) (pc' := 82) (lv' := [some (tR (some a0)), some (tI (ai h_1 a_3 x_2.toNatClampNeg))]) (st' := [tI ((ai h_5 a_7 x_6.toNatClampNeg) + (ai h_1 a_3 x_2.toNatClampNeg)), tI x_6, tR (gr h_4 661 a0)]) (h' := h_5) gX11_end rfl ?_
    obtain ⟨a_8, hr, tt, nn, ht, hk, hj, w⟩ := w
    refine T_ias gX11_end rfl ⟨a_8, hr, tt, nn, ht, hk, hj, fun h_9 he => ?_⟩
    replace w := w h_9 he
    refine T_kn (v := 1) gX11_end rfl (by decide) ?_
    exact T_rz gX11_end rfl rfl (Or.inr rfl) w
set_option maxHeartbeats 4000000 in
set_option maxRecDepth 20000 in
theorem wX11_turn (a0 : Nat) (x1 : Int32) (x2 : Int32) (h : Hp) (Q : Option TV → Hp → Prop) (w :
ob h a0 10 (tX11_has a0 x1 h (rI (fun x_2 h_1 =>
(if x_2 = 0 then
Q (some (tI 0)) h_1
else
ob h_1 a0 10 (tX11_take a0 x1 h_1 (rV (fun h_3 =>
ob h_3 a0 10 (
ob h_3 a0 10 (tX11_inner a0  h_3 (rI (fun x_6 h_5 =>
dr (gr h_3 661 a0) (fun a_7 => ix h_5 kI a_7 x_6 (
dr (gr h_3 661 a0) (fun a_8 => ix h_5 kIs a_8 x_6 (∀ h_9, h_9 = si h_5 a_8 x_6.toNatClampNeg ((ai h_5 a_7 x_6.toNatClampNeg) + x2) →
Q (some (tI 1)) h_9)))))))))))))))) : tX11_turn a0 x1 x2 h Q := by
  refine T_run (n := 2) (pc' := 2) (lv' := [some (tR (some a0)), some (tI x1), some (tI x2)]) (st' := [tI x1, tR (some a0)]) (h' := h) gX11_turn rfl ?_
  obtain ⟨ho, w⟩ := w
  refine T_cv (fun aa => [some (tR (some aa)), some (tI x1)]) gX11_turn rfl rfl rfl rfl (Nat.le_of_ble_eq_true rfl) gX11_has (fun _ => Nat.le_of_ble_eq_true rfl) (fun _ => rfl) ⟨a0, rfl, ho, T_ki ?_⟩
  refine T.mono w (fun rr h_1 hw => ?_)
  obtain ⟨x_2, hr, w⟩ := hw
  refine ⟨x_2, hr, ?_⟩
  replace w := c_ne w
  refine T_if (tgt := 10) gX11_turn rfl (by decide) (fun hc => ?_) (fun hc => ?_)
  · replace w := w.1 hc
    refine T_run (n := 2) (pc' := 12) (lv' := [some (tR (some a0)), some (tI x1), some (tI x2)]) (st' := [tI x1, tR (some a0)]) (h' := h_1) gX11_turn rfl ?_
    obtain ⟨ho, w⟩ := w
    refine T_cv (fun aa => [some (tR (some aa)), some (tI x1)]) gX11_turn rfl rfl rfl rfl (Nat.le_of_ble_eq_true rfl) gX11_take (fun _ => Nat.le_of_ble_eq_true rfl) (fun _ => rfl) ⟨a0, rfl, ho, T_kv ?_⟩
    refine T.mono w (fun rr h_3 hw => ?_)
    obtain ⟨hr, w⟩ := hw
    refine ⟨hr, ?_⟩
    refine T_run (n := 1) (pc' := 16) (lv' := [some (tR (some a0)), some (tI x1), some (tI x2)]) (st' := [tR (some a0)]) (h' := h_3) gX11_turn rfl ?_
    obtain ⟨ho, w⟩ := w
    refine T_gs (tR (gr h_3 661 a0)) gX11_turn rfl rfl ⟨ho, ?_⟩
    refine T_run (n := 1) (pc' := 20) (lv' := [some (tR (some a0)), some (tI x1), some (tI x2)]) (st' := [tR (some a0), tR (gr h_3 661 a0)]) (h' := h_3) gX11_turn rfl ?_
    obtain ⟨ho, w⟩ := w
    refine T_cv (fun aa => [some (tR (some aa))]) gX11_turn rfl rfl rfl rfl (Nat.le_of_ble_eq_true rfl) gX11_inner (fun _ => Nat.le_of_ble_eq_true rfl) (fun _ => rfl) ⟨a0, rfl, ho, T_ki ?_⟩
    refine T.mono w (fun rr h_5 hw => ?_)
    obtain ⟨x_6, hr, w⟩ := hw
    refine ⟨x_6, hr, ?_⟩
    refine T_run (n := 1) (pc' := 24) (lv' := [some (tR (some a0)), some (tI x1), some (tI x2)]) (st' := [tI x_6, tR (gr h_3 661 a0), tI x_6, tR (gr h_3 661 a0)]) (h' := h_5) gX11_turn rfl ?_
    obtain ⟨a_7, hr, tt, nn, ht, hk, hj, w⟩ := w
    refine T_ial gX11_turn rfl ⟨a_7, hr, tt, nn, ht, hk, hj, ?_⟩
    refine T_run (n := 2) (pc' := 27) (lv' := [some (tR (some a0)), some (tI x1), some (tI x2)]) (st' := [tI ((ai h_5 a_7 x_6.toNatClampNeg) + x2), tI x_6, tR (gr h_3 661 a0)]) (h' := h_5) gX11_turn rfl ?_
    obtain ⟨a_8, hr, tt, nn, ht, hk, hj, w⟩ := w
    refine T_ias gX11_turn rfl ⟨a_8, hr, tt, nn, ht, hk, hj, fun h_9 he => ?_⟩
    replace w := w h_9 he
    refine T_kn (v := 1) gX11_turn rfl (by decide) ?_
    exact T_rz gX11_turn rfl rfl (Or.inr rfl) w
  · replace w := w.2 hc
    refine T_kn (v := 0) gX11_turn rfl (by decide) ?_
    exact T_rz gX11_turn rfl rfl (Or.inl rfl) w
set_option maxHeartbeats 4000000 in
set_option maxRecDepth 20000 in
theorem wX11_entries (a0 : Nat) (x1 : Int32) (h : Hp) (Q : Option TV → Hp → Prop) (w :
tX11_within x1 20 h (rI (fun x_2 h_1 =>
(if x_2 = 0 then
Q (some (tI 0)) h_1
else
ob h_1 a0 10 (tX11_has a0 1 h_1 (rI (fun x_4 h_3 =>
(if x_4 = 0 then
Q (some (tI 0)) h_3
else
ob h_3 a0 10 (tX11_take a0 1 h_3 (rV (fun h_5 =>
ob h_5 a0 10 (∀ h_7, h_7 = pi h_5 654 a0 (x1 + 1) →
ob h_7 a0 10 (∀ h_8, h_8 = pi h_7 656 a0 1 →
Q (some (tI 1)) h_8))))))))))))) : tX11_entries a0 x1 h Q := by
  refine T_run (n := 1) (pc' := 1) (lv' := [some (tR (some a0)), some (tI x1)]) (st' := [tI x1]) (h' := h) gX11_entries rfl ?_
  refine T_kb (v := 20) gX11_entries rfl (by decide) ?_
  refine T_cs (lv' := [some (tI x1), some (tI 20)]) gX11_entries rfl rfl rfl rfl (Nat.le_of_ble_eq_true rfl) gX11_within (Nat.le_of_ble_eq_true rfl) rfl (T_ki ?_)
  refine T.mono w (fun rr h_1 hw => ?_)
  obtain ⟨x_2, hr, w⟩ := hw
  refine ⟨x_2, hr, ?_⟩
  replace w := c_eq w
  refine T_if (tgt := 17) gX11_entries rfl (by decide) (fun hc => ?_) (fun hc => ?_)
  · replace w := w.1 hc
    refine T_kn (v := 0) gX11_entries rfl (by decide) ?_
    exact T_rz gX11_entries rfl rfl (Or.inl rfl) w
  · replace w := w.2 hc
    refine T_run (n := 1) (pc' := 10) (lv' := [some (tR (some a0)), some (tI x1)]) (st' := [tR (some a0)]) (h' := h_1) gX11_entries rfl ?_
    refine T_kn (v := 1) gX11_entries rfl (by decide) ?_
    obtain ⟨ho, w⟩ := w
    refine T_cv (fun aa => [some (tR (some aa)), some (tI 1)]) gX11_entries rfl rfl rfl rfl (Nat.le_of_ble_eq_true rfl) gX11_has (fun _ => Nat.le_of_ble_eq_true rfl) (fun _ => rfl) ⟨a0, rfl, ho, T_ki ?_⟩
    refine T.mono w (fun rr h_3 hw => ?_)
    obtain ⟨x_4, hr, w⟩ := hw
    refine ⟨x_4, hr, ?_⟩
    replace w := c_ne w
    refine T_if (tgt := 19) gX11_entries rfl (by decide) (fun hc => ?_) (fun hc => ?_)
    · replace w := w.1 hc
      refine T_run (n := 1) (pc' := 20) (lv' := [some (tR (some a0)), some (tI x1)]) (st' := [tR (some a0)]) (h' := h_3) gX11_entries rfl ?_
      refine T_kn (v := 1) gX11_entries rfl (by decide) ?_
      obtain ⟨ho, w⟩ := w
      refine T_cv (fun aa => [some (tR (some aa)), some (tI 1)]) gX11_entries rfl rfl rfl rfl (Nat.le_of_ble_eq_true rfl) gX11_take (fun _ => Nat.le_of_ble_eq_true rfl) (fun _ => rfl) ⟨a0, rfl, ho, T_kv ?_⟩
      refine T.mono w (fun rr h_5 hw => ?_)
      obtain ⟨hr, w⟩ := hw
      refine ⟨hr, ?_⟩
      refine T_run (n := 2) (pc' := 26) (lv' := [some (tR (some a0)), some (tI x1)]) (st' := [tI x1, tR (some a0)]) (h' := h_5) gX11_entries rfl ?_
      refine T_kn (v := 1) gX11_entries rfl (by decide) ?_
      refine T_run (n := 1) (pc' := 28) (lv' := [some (tR (some a0)), some (tI x1)]) (st' := [tI (x1 + 1), tR (some a0)]) (h' := h_5) gX11_entries rfl ?_
      obtain ⟨ho, w⟩ := w
      refine T_ps (pi h_5 654 a0 (x1 + 1)) gX11_entries rfl rfl ⟨ho, fun h_7 he => ?_⟩
      replace w := w h_7 he
      refine T_run (n := 1) (pc' := 32) (lv' := [some (tR (some a0)), some (tI x1)]) (st' := [tR (some a0)]) (h' := h_7) gX11_entries rfl ?_
      refine T_kn (v := 1) gX11_entries rfl (by decide) ?_
      obtain ⟨ho, w⟩ := w
      refine T_ps (pi h_7 656 a0 1) gX11_entries rfl (putZ (Or.inr rfl)) ⟨ho, fun h_8 he => ?_⟩
      replace w := w h_8 he
      refine T_kn (v := 1) gX11_entries rfl (by decide) ?_
      exact T_rz gX11_entries rfl rfl (Or.inr rfl) w
    · replace w := w.2 hc
      refine T_kn (v := 0) gX11_entries rfl (by decide) ?_
      exact T_rz gX11_entries rfl rfl (Or.inl rfl) w
set_option maxHeartbeats 4000000 in
set_option maxRecDepth 20000 in
theorem wX11_control (a0 : Nat) (x1 : Int32) (x2 : Int32) (x3 : Int32) (h : Hp) (Q : Option TV → Hp → Prop) (w :
(if x1 = 0 then
ob h a0 10 (tX11_ends a0 0 h (rI (fun x_2 h_1 =>
((x_2 = 0 ∨ x_2 = 1) ∧ Q (some (tI x_2)) h_1))))
else
(if x1 = 1 then
Q (some (tI 1)) h
else
(if x1 = 2 then
ob h a0 10 (tX11_block a0 x1 x2 x3 h (rI (fun x_4 h_3 =>
((x_4 = 0 ∨ x_4 = 1) ∧ Q (some (tI x_4)) h_3))))
else
(if x1 = 3 then
ob h a0 10 (tX11_block a0 x1 x2 x3 h (rI (fun x_6 h_5 =>
((x_6 = 0 ∨ x_6 = 1) ∧ Q (some (tI x_6)) h_5))))
else
(if x1 = 4 then
ob h a0 10 (tX11_block a0 x1 x2 x3 h (rI (fun x_8 h_7 =>
((x_8 = 0 ∨ x_8 = 1) ∧ Q (some (tI x_8)) h_7))))
else
(if x1 = 5 then
ob h a0 10 (tX11_otherwise a0  h (rI (fun x_10 h_9 =>
((x_10 = 0 ∨ x_10 = 1) ∧ Q (some (tI x_10)) h_9))))
else
(if x1 = 11 then
ob h a0 10 (tX11_end a0  h (rI (fun x_12 h_11 =>
((x_12 = 0 ∨ x_12 = 1) ∧ Q (some (tI x_12)) h_11))))
else
(if x1 = 12 then
ob h a0 10 (tX11_isLabel a0 x2 h (rI (fun x_14 h_13 =>
(if x_14 = 0 then
Q (some (tI 0)) h_13
else
ob h_13 a0 10 (tX11_wants a0 x2 h_13 (rI (fun x_16 h_15 =>
ob h_15 a0 10 (tX11_ends a0 x_16 h_15 (rI (fun x_18 h_17 =>
(if x_18 = 0 then
Q (some (tI 0)) h_17
else
Q (some (tI 1)) h_17)))))))))))
else
(if x1 = 13 then
ob h a0 10 (tX11_isLabel a0 x2 h (rI (fun x_20 h_19 =>
(if x_20 = 0 then
Q (some (tI 0)) h_19
else
ob h_19 a0 10 (tX11_wants a0 x2 h_19 (rI (fun x_22 h_21 =>
ob h_21 a0 10 (tX11_wants a0 x2 h_21 (rI (fun x_24 h_23 =>
ob h_23 a0 10 (tX11_turn a0 (1 + x_22) x_24 h_23 (rI (fun x_26 h_25 =>
(if x_26 = 0 then
Q (some (tI 0)) h_25
else
Q (some (tI 1)) h_25))))))))))))))
else
(if x1 = 14 then
ob h a0 10 (tX11_entries a0 x2 h (rI (fun x_28 h_27 =>
((x_28 = 0 ∨ x_28 = 1) ∧ Q (some (tI x_28)) h_27))))
else
(if x1 = 15 then
ob h a0 10 (
dr (gr h 659 a0) (fun a_29 => ix h kI a_29 (0 : Int32) (
ob h a0 10 (tX11_ends a0 (ai h a_29 (0 : Int32).toNatClampNeg) h (rI (fun x_31 h_30 =>
((x_31 = 0 ∨ x_31 = 1) ∧ Q (some (tI x_31)) h_30)))))))
else
(if x1 = 16 then
ob h a0 10 (
tX11_within x2 ((gi h 640 a0) - 1) h (rI (fun x_33 h_32 =>
(if x_33 = 0 then
Q (some (tI 0)) h_32
else
ob h_32 a0 10 (
dr (gr h_32 645 a0) (fun a_34 => ix h_32 kI a_34 x2 (
ob h_32 a0 10 (
dr (gr h_32 646 a0) (fun a_35 => ix h_32 kI a_35 x2 (
ob h_32 a0 10 (tX11_turn a0 (ai h_32 a_34 x2.toNatClampNeg) (ai h_32 a_35 x2.toNatClampNeg) h_32 (rI (fun x_37 h_36 =>
(if x_37 = 0 then
Q (some (tI 0)) h_36
else
Q (some (tI 1)) h_36))))))))))))))
else
tX11_within x2 8 h (rI (fun x_39 h_38 =>
(if x_39 = 0 then
Q (some (tI 0)) h_38
else
tX11_within x3 8 h_38 (rI (fun x_41 h_40 =>
(if x_41 = 0 then
Q (some (tI 0)) h_40
else
ob h_40 a0 10 (tX11_turn a0 (1 + x2) x3 h_40 (rI (fun x_43 h_42 =>
(if x_43 = 0 then
Q (some (tI 0)) h_42
else
Q (some (tI 1)) h_42))))))))))))))))))))))) : tX11_control a0 x1 x2 x3 h Q := by
  refine T_run (n := 1) (pc' := 1) (lv' := [some (tR (some a0)), some (tI x1), some (tI x2), some (tI x3)]) (st' := [tI x1]) (h' := h) gX11_control rfl ?_
  refine T_tsw (dt := 224) (cs := [(0, 84), (1, 90), (2, 92), (3, 92), (4, 92), (5, 100), (11, 105), (12, 110), (13, 136), (14, 169), (15, 175), (16, 186)]) gX11_control rfl (by decide) ?_
  refine sw_cons (fun hc => ?_) (fun hc => ?_)
  · rw [if_pos hc] at w
    refine T_run (n := 1) (pc' := 85) (lv' := [some (tR (some a0)), some (tI x1), some (tI x2), some (tI x3)]) (st' := [tR (some a0)]) (h' := h) gX11_control rfl ?_
    refine T_kn (v := 0) gX11_control rfl (by decide) ?_
    obtain ⟨ho, w⟩ := w
    refine T_cv (fun aa => [some (tR (some aa)), some (tI 0)]) gX11_control rfl rfl rfl rfl (Nat.le_of_ble_eq_true rfl) gX11_ends (fun _ => Nat.le_of_ble_eq_true rfl) (fun _ => rfl) ⟨a0, rfl, ho, T_ki ?_⟩
    refine T.mono w (fun rr h_1 hw => ?_)
    obtain ⟨x_2, hr, w⟩ := hw
    refine ⟨x_2, hr, ?_⟩
    exact T_rz gX11_control rfl rfl w.1 w.2
  rw [if_neg hc] at w
  refine sw_cons (fun hc => ?_) (fun hc => ?_)
  · rw [if_pos hc] at w
    refine T_kn (v := 1) gX11_control rfl (by decide) ?_
    exact T_rz gX11_control rfl rfl (Or.inr rfl) w
  rw [if_neg hc] at w
  refine sw_cons (fun hc => ?_) (fun hc => ?_)
  · rw [if_pos hc] at w
    refine T_run (n := 4) (pc' := 96) (lv' := [some (tR (some a0)), some (tI x1), some (tI x2), some (tI x3)]) (st' := [tI x3, tI x2, tI x1, tR (some a0)]) (h' := h) gX11_control rfl ?_
    obtain ⟨ho, w⟩ := w
    refine T_cv (fun aa => [some (tR (some aa)), some (tI x1), some (tI x2), some (tI x3), none]) gX11_control rfl rfl rfl rfl (Nat.le_of_ble_eq_true rfl) gX11_block (fun _ => Nat.le_of_ble_eq_true rfl) (fun _ => rfl) ⟨a0, rfl, ho, T_ki ?_⟩
    refine T.mono w (fun rr h_3 hw => ?_)
    obtain ⟨x_4, hr, w⟩ := hw
    refine ⟨x_4, hr, ?_⟩
    exact T_rz gX11_control rfl rfl w.1 w.2
  rw [if_neg hc] at w
  refine sw_cons (fun hc => ?_) (fun hc => ?_)
  · rw [if_pos hc] at w
    refine T_run (n := 4) (pc' := 96) (lv' := [some (tR (some a0)), some (tI x1), some (tI x2), some (tI x3)]) (st' := [tI x3, tI x2, tI x1, tR (some a0)]) (h' := h) gX11_control rfl ?_
    obtain ⟨ho, w⟩ := w
    refine T_cv (fun aa => [some (tR (some aa)), some (tI x1), some (tI x2), some (tI x3), none]) gX11_control rfl rfl rfl rfl (Nat.le_of_ble_eq_true rfl) gX11_block (fun _ => Nat.le_of_ble_eq_true rfl) (fun _ => rfl) ⟨a0, rfl, ho, T_ki ?_⟩
    refine T.mono w (fun rr h_5 hw => ?_)
    obtain ⟨x_6, hr, w⟩ := hw
    refine ⟨x_6, hr, ?_⟩
    exact T_rz gX11_control rfl rfl w.1 w.2
  rw [if_neg hc] at w
  refine sw_cons (fun hc => ?_) (fun hc => ?_)
  · rw [if_pos hc] at w
    refine T_run (n := 4) (pc' := 96) (lv' := [some (tR (some a0)), some (tI x1), some (tI x2), some (tI x3)]) (st' := [tI x3, tI x2, tI x1, tR (some a0)]) (h' := h) gX11_control rfl ?_
    obtain ⟨ho, w⟩ := w
    refine T_cv (fun aa => [some (tR (some aa)), some (tI x1), some (tI x2), some (tI x3), none]) gX11_control rfl rfl rfl rfl (Nat.le_of_ble_eq_true rfl) gX11_block (fun _ => Nat.le_of_ble_eq_true rfl) (fun _ => rfl) ⟨a0, rfl, ho, T_ki ?_⟩
    refine T.mono w (fun rr h_7 hw => ?_)
    obtain ⟨x_8, hr, w⟩ := hw
    refine ⟨x_8, hr, ?_⟩
    exact T_rz gX11_control rfl rfl w.1 w.2
  rw [if_neg hc] at w
  refine sw_cons (fun hc => ?_) (fun hc => ?_)
  · rw [if_pos hc] at w
    refine T_run (n := 1) (pc' := 101) (lv' := [some (tR (some a0)), some (tI x1), some (tI x2), some (tI x3)]) (st' := [tR (some a0)]) (h' := h) gX11_control rfl ?_
    obtain ⟨ho, w⟩ := w
    refine T_cv (fun aa => [some (tR (some aa))]) gX11_control rfl rfl rfl rfl (Nat.le_of_ble_eq_true rfl) gX11_otherwise (fun _ => Nat.le_of_ble_eq_true rfl) (fun _ => rfl) ⟨a0, rfl, ho, T_ki ?_⟩
    refine T.mono w (fun rr h_9 hw => ?_)
    obtain ⟨x_10, hr, w⟩ := hw
    refine ⟨x_10, hr, ?_⟩
    exact T_rz gX11_control rfl rfl w.1 w.2
  rw [if_neg hc] at w
  refine sw_cons (fun hc => ?_) (fun hc => ?_)
  · rw [if_pos hc] at w
    refine T_run (n := 1) (pc' := 106) (lv' := [some (tR (some a0)), some (tI x1), some (tI x2), some (tI x3)]) (st' := [tR (some a0)]) (h' := h) gX11_control rfl ?_
    obtain ⟨ho, w⟩ := w
    refine T_cv (fun aa => [some (tR (some aa)), none]) gX11_control rfl rfl rfl rfl (Nat.le_of_ble_eq_true rfl) gX11_end (fun _ => Nat.le_of_ble_eq_true rfl) (fun _ => rfl) ⟨a0, rfl, ho, T_ki ?_⟩
    refine T.mono w (fun rr h_11 hw => ?_)
    obtain ⟨x_12, hr, w⟩ := hw
    refine ⟨x_12, hr, ?_⟩
    exact T_rz gX11_control rfl rfl w.1 w.2
  rw [if_neg hc] at w
  refine sw_cons (fun hc => ?_) (fun hc => ?_)
  · rw [if_pos hc] at w
    refine T_run (n := 2) (pc' := 112) (lv' := [some (tR (some a0)), some (tI x1), some (tI x2), some (tI x3)]) (st' := [tI x2, tR (some a0)]) (h' := h) gX11_control rfl ?_
    obtain ⟨ho, w⟩ := w
    refine T_cv (fun aa => [some (tR (some aa)), some (tI x2)]) gX11_control rfl rfl rfl rfl (Nat.le_of_ble_eq_true rfl) gX11_isLabel (fun _ => Nat.le_of_ble_eq_true rfl) (fun _ => rfl) ⟨a0, rfl, ho, T_ki ?_⟩
    refine T.mono w (fun rr h_13 hw => ?_)
    obtain ⟨x_14, hr, w⟩ := hw
    refine ⟨x_14, hr, ?_⟩
    replace w := c_eq w
    refine T_if (tgt := 134) gX11_control rfl (by decide) (fun hc => ?_) (fun hc => ?_)
    · replace w := w.1 hc
      refine T_kn (v := 0) gX11_control rfl (by decide) ?_
      exact T_rz gX11_control rfl rfl (Or.inl rfl) w
    · replace w := w.2 hc
      refine T_run (n := 3) (pc' := 121) (lv' := [some (tR (some a0)), some (tI x1), some (tI x2), some (tI x3)]) (st' := [tI x2, tR (some a0), tR (some a0)]) (h' := h_13) gX11_control rfl ?_
      obtain ⟨ho, w⟩ := w
      refine T_cv (fun aa => [some (tR (some aa)), some (tI x2)]) gX11_control rfl rfl rfl rfl (Nat.le_of_ble_eq_true rfl) gX11_wants (fun _ => Nat.le_of_ble_eq_true rfl) (fun _ => rfl) ⟨a0, rfl, ho, T_ki ?_⟩
      refine T.mono w (fun rr h_15 hw => ?_)
      obtain ⟨x_16, hr, w⟩ := hw
      refine ⟨x_16, hr, ?_⟩
      obtain ⟨ho, w⟩ := w
      refine T_cv (fun aa => [some (tR (some aa)), some (tI x_16)]) gX11_control rfl rfl rfl rfl (Nat.le_of_ble_eq_true rfl) gX11_ends (fun _ => Nat.le_of_ble_eq_true rfl) (fun _ => rfl) ⟨a0, rfl, ho, T_ki ?_⟩
      refine T.mono w (fun rr h_17 hw => ?_)
      obtain ⟨x_18, hr, w⟩ := hw
      refine ⟨x_18, hr, ?_⟩
      replace w := c_eq w
      refine T_if (tgt := 134) gX11_control rfl (by decide) (fun hc => ?_) (fun hc => ?_)
      · replace w := w.1 hc
        refine T_kn (v := 0) gX11_control rfl (by decide) ?_
        exact T_rz gX11_control rfl rfl (Or.inl rfl) w
      · replace w := w.2 hc
        refine T_kn (v := 1) gX11_control rfl (by decide) ?_
        refine T_goto (tgt := 135) gX11_control rfl (by decide) ?_
        exact T_rz gX11_control rfl rfl (Or.inr rfl) w
  rw [if_neg hc] at w
  refine sw_cons (fun hc => ?_) (fun hc => ?_)
  · rw [if_pos hc] at w
    refine T_run (n := 2) (pc' := 138) (lv' := [some (tR (some a0)), some (tI x1), some (tI x2), some (tI x3)]) (st' := [tI x2, tR (some a0)]) (h' := h) gX11_control rfl ?_
    obtain ⟨ho, w⟩ := w
    refine T_cv (fun aa => [some (tR (some aa)), some (tI x2)]) gX11_control rfl rfl rfl rfl (Nat.le_of_ble_eq_true rfl) gX11_isLabel (fun _ => Nat.le_of_ble_eq_true rfl) (fun _ => rfl) ⟨a0, rfl, ho, T_ki ?_⟩
    refine T.mono w (fun rr h_19 hw => ?_)
    obtain ⟨x_20, hr, w⟩ := hw
    refine ⟨x_20, hr, ?_⟩
    replace w := c_eq w
    refine T_if (tgt := 167) gX11_control rfl (by decide) (fun hc => ?_) (fun hc => ?_)
    · replace w := w.1 hc
      refine T_kn (v := 0) gX11_control rfl (by decide) ?_
      exact T_rz gX11_control rfl rfl (Or.inl rfl) w
    · replace w := w.2 hc
      refine T_run (n := 1) (pc' := 145) (lv' := [some (tR (some a0)), some (tI x1), some (tI x2), some (tI x3)]) (st' := [tR (some a0)]) (h' := h_19) gX11_control rfl ?_
      refine T_kn (v := 1) gX11_control rfl (by decide) ?_
      refine T_run (n := 2) (pc' := 148) (lv' := [some (tR (some a0)), some (tI x1), some (tI x2), some (tI x3)]) (st' := [tI x2, tR (some a0), tI 1, tR (some a0)]) (h' := h_19) gX11_control rfl ?_
      obtain ⟨ho, w⟩ := w
      refine T_cv (fun aa => [some (tR (some aa)), some (tI x2)]) gX11_control rfl rfl rfl rfl (Nat.le_of_ble_eq_true rfl) gX11_wants (fun _ => Nat.le_of_ble_eq_true rfl) (fun _ => rfl) ⟨a0, rfl, ho, T_ki ?_⟩
      refine T.mono w (fun rr h_21 hw => ?_)
      obtain ⟨x_22, hr, w⟩ := hw
      refine ⟨x_22, hr, ?_⟩
      refine T_run (n := 3) (pc' := 154) (lv' := [some (tR (some a0)), some (tI x1), some (tI x2), some (tI x3)]) (st' := [tI x2, tR (some a0), tI (1 + x_22), tR (some a0)]) (h' := h_21) gX11_control rfl ?_
      obtain ⟨ho, w⟩ := w
      refine T_cv (fun aa => [some (tR (some aa)), some (tI x2)]) gX11_control rfl rfl rfl rfl (Nat.le_of_ble_eq_true rfl) gX11_wants (fun _ => Nat.le_of_ble_eq_true rfl) (fun _ => rfl) ⟨a0, rfl, ho, T_ki ?_⟩
      refine T.mono w (fun rr h_23 hw => ?_)
      obtain ⟨x_24, hr, w⟩ := hw
      refine ⟨x_24, hr, ?_⟩
      obtain ⟨ho, w⟩ := w
      refine T_cv (fun aa => [some (tR (some aa)), some (tI (1 + x_22)), some (tI x_24)]) gX11_control rfl rfl rfl rfl (Nat.le_of_ble_eq_true rfl) gX11_turn (fun _ => Nat.le_of_ble_eq_true rfl) (fun _ => rfl) ⟨a0, rfl, ho, T_ki ?_⟩
      refine T.mono w (fun rr h_25 hw => ?_)
      obtain ⟨x_26, hr, w⟩ := hw
      refine ⟨x_26, hr, ?_⟩
      replace w := c_eq w
      refine T_if (tgt := 167) gX11_control rfl (by decide) (fun hc => ?_) (fun hc => ?_)
      · replace w := w.1 hc
        refine T_kn (v := 0) gX11_control rfl (by decide) ?_
        exact T_rz gX11_control rfl rfl (Or.inl rfl) w
      · replace w := w.2 hc
        refine T_kn (v := 1) gX11_control rfl (by decide) ?_
        refine T_goto (tgt := 168) gX11_control rfl (by decide) ?_
        exact T_rz gX11_control rfl rfl (Or.inr rfl) w
  rw [if_neg hc] at w
  refine sw_cons (fun hc => ?_) (fun hc => ?_)
  · rw [if_pos hc] at w
    refine T_run (n := 2) (pc' := 171) (lv' := [some (tR (some a0)), some (tI x1), some (tI x2), some (tI x3)]) (st' := [tI x2, tR (some a0)]) (h' := h) gX11_control rfl ?_
    obtain ⟨ho, w⟩ := w
    refine T_cv (fun aa => [some (tR (some aa)), some (tI x2)]) gX11_control rfl rfl rfl rfl (Nat.le_of_ble_eq_true rfl) gX11_entries (fun _ => Nat.le_of_ble_eq_true rfl) (fun _ => rfl) ⟨a0, rfl, ho, T_ki ?_⟩
    refine T.mono w (fun rr h_27 hw => ?_)
    obtain ⟨x_28, hr, w⟩ := hw
    refine ⟨x_28, hr, ?_⟩
    exact T_rz gX11_control rfl rfl w.1 w.2
  rw [if_neg hc] at w
  refine sw_cons (fun hc => ?_) (fun hc => ?_)
  · rw [if_pos hc] at w
    refine T_run (n := 2) (pc' := 177) (lv' := [some (tR (some a0)), some (tI x1), some (tI x2), some (tI x3)]) (st' := [tR (some a0), tR (some a0)]) (h' := h) gX11_control rfl ?_
    obtain ⟨ho, w⟩ := w
    refine T_gs (tR (gr h 659 a0)) gX11_control rfl rfl ⟨ho, ?_⟩
    refine T_kn (v := 0) gX11_control rfl (by decide) ?_
    obtain ⟨a_29, hr, tt, nn, ht, hk, hj, w⟩ := w
    refine T_ial gX11_control rfl ⟨a_29, hr, tt, nn, ht, hk, hj, ?_⟩
    obtain ⟨ho, w⟩ := w
    refine T_cv (fun aa => [some (tR (some aa)), some (tI (ai h a_29 (0 : Int32).toNatClampNeg))]) gX11_control rfl rfl rfl rfl (Nat.le_of_ble_eq_true rfl) gX11_ends (fun _ => Nat.le_of_ble_eq_true rfl) (fun _ => rfl) ⟨a0, rfl, ho, T_ki ?_⟩
    refine T.mono w (fun rr h_30 hw => ?_)
    obtain ⟨x_31, hr, w⟩ := hw
    refine ⟨x_31, hr, ?_⟩
    exact T_rz gX11_control rfl rfl w.1 w.2
  rw [if_neg hc] at w
  refine sw_cons (fun hc => ?_) (fun hc => ?_)
  · rw [if_pos hc] at w
    refine T_run (n := 2) (pc' := 188) (lv' := [some (tR (some a0)), some (tI x1), some (tI x2), some (tI x3)]) (st' := [tR (some a0), tI x2]) (h' := h) gX11_control rfl ?_
    obtain ⟨ho, w⟩ := w
    refine T_gs (tI (gi h 640 a0)) gX11_control rfl rfl ⟨ho, ?_⟩
    refine T_kn (v := 1) gX11_control rfl (by decide) ?_
    refine T_run (n := 1) (pc' := 193) (lv' := [some (tR (some a0)), some (tI x1), some (tI x2), some (tI x3)]) (st' := [tI ((gi h 640 a0) - 1), tI x2]) (h' := h) gX11_control rfl ?_
    refine T_cs (lv' := [some (tI x2), some (tI ((gi h 640 a0) - 1))]) gX11_control rfl rfl rfl rfl (Nat.le_of_ble_eq_true rfl) gX11_within (Nat.le_of_ble_eq_true rfl) rfl (T_ki ?_)
    refine T.mono w (fun rr h_32 hw => ?_)
    obtain ⟨x_33, hr, w⟩ := hw
    refine ⟨x_33, hr, ?_⟩
    replace w := c_eq w
    refine T_if (tgt := 222) gX11_control rfl (by decide) (fun hc => ?_) (fun hc => ?_)
    · replace w := w.1 hc
      refine T_kn (v := 0) gX11_control rfl (by decide) ?_
      exact T_rz gX11_control rfl rfl (Or.inl rfl) w
    · replace w := w.2 hc
      refine T_run (n := 2) (pc' := 201) (lv' := [some (tR (some a0)), some (tI x1), some (tI x2), some (tI x3)]) (st' := [tR (some a0), tR (some a0)]) (h' := h_32) gX11_control rfl ?_
      obtain ⟨ho, w⟩ := w
      refine T_gs (tR (gr h_32 645 a0)) gX11_control rfl rfl ⟨ho, ?_⟩
      refine T_run (n := 1) (pc' := 205) (lv' := [some (tR (some a0)), some (tI x1), some (tI x2), some (tI x3)]) (st' := [tI x2, tR (gr h_32 645 a0), tR (some a0)]) (h' := h_32) gX11_control rfl ?_
      obtain ⟨a_34, hr, tt, nn, ht, hk, hj, w⟩ := w
      refine T_ial gX11_control rfl ⟨a_34, hr, tt, nn, ht, hk, hj, ?_⟩
      refine T_run (n := 1) (pc' := 207) (lv' := [some (tR (some a0)), some (tI x1), some (tI x2), some (tI x3)]) (st' := [tR (some a0), tI (ai h_32 a_34 x2.toNatClampNeg), tR (some a0)]) (h' := h_32) gX11_control rfl ?_
      obtain ⟨ho, w⟩ := w
      refine T_gs (tR (gr h_32 646 a0)) gX11_control rfl rfl ⟨ho, ?_⟩
      refine T_run (n := 1) (pc' := 211) (lv' := [some (tR (some a0)), some (tI x1), some (tI x2), some (tI x3)]) (st' := [tI x2, tR (gr h_32 646 a0), tI (ai h_32 a_34 x2.toNatClampNeg), tR (some a0)]) (h' := h_32) gX11_control rfl ?_
      obtain ⟨a_35, hr, tt, nn, ht, hk, hj, w⟩ := w
      refine T_ial gX11_control rfl ⟨a_35, hr, tt, nn, ht, hk, hj, ?_⟩
      obtain ⟨ho, w⟩ := w
      refine T_cv (fun aa => [some (tR (some aa)), some (tI (ai h_32 a_34 x2.toNatClampNeg)), some (tI (ai h_32 a_35 x2.toNatClampNeg))]) gX11_control rfl rfl rfl rfl (Nat.le_of_ble_eq_true rfl) gX11_turn (fun _ => Nat.le_of_ble_eq_true rfl) (fun _ => rfl) ⟨a0, rfl, ho, T_ki ?_⟩
      refine T.mono w (fun rr h_36 hw => ?_)
      obtain ⟨x_37, hr, w⟩ := hw
      refine ⟨x_37, hr, ?_⟩
      replace w := c_eq w
      refine T_if (tgt := 222) gX11_control rfl (by decide) (fun hc => ?_) (fun hc => ?_)
      · replace w := w.1 hc
        refine T_kn (v := 0) gX11_control rfl (by decide) ?_
        exact T_rz gX11_control rfl rfl (Or.inl rfl) w
      · replace w := w.2 hc
        refine T_kn (v := 1) gX11_control rfl (by decide) ?_
        refine T_goto (tgt := 223) gX11_control rfl (by decide) ?_
        exact T_rz gX11_control rfl rfl (Or.inr rfl) w
  rw [if_neg hc] at w
  refine T_run (n := 1) (pc' := 225) (lv' := [some (tR (some a0)), some (tI x1), some (tI x2), some (tI x3)]) (st' := [tI x2]) (h' := h) gX11_control rfl ?_
  refine T_kb (v := 8) gX11_control rfl (by decide) ?_
  refine T_cs (lv' := [some (tI x2), some (tI 8)]) gX11_control rfl rfl rfl rfl (Nat.le_of_ble_eq_true rfl) gX11_within (Nat.le_of_ble_eq_true rfl) rfl (T_ki ?_)
  refine T.mono w (fun rr h_38 hw => ?_)
  obtain ⟨x_39, hr, w⟩ := hw
  refine ⟨x_39, hr, ?_⟩
  replace w := c_eq w
  refine T_if (tgt := 257) gX11_control rfl (by decide) (fun hc => ?_) (fun hc => ?_)
  · replace w := w.1 hc
    refine T_kn (v := 0) gX11_control rfl (by decide) ?_
    exact T_rz gX11_control rfl rfl (Or.inl rfl) w
  · replace w := w.2 hc
    refine T_run (n := 1) (pc' := 234) (lv' := [some (tR (some a0)), some (tI x1), some (tI x2), some (tI x3)]) (st' := [tI x3]) (h' := h_38) gX11_control rfl ?_
    refine T_kb (v := 8) gX11_control rfl (by decide) ?_
    refine T_cs (lv' := [some (tI x3), some (tI 8)]) gX11_control rfl rfl rfl rfl (Nat.le_of_ble_eq_true rfl) gX11_within (Nat.le_of_ble_eq_true rfl) rfl (T_ki ?_)
    refine T.mono w (fun rr h_40 hw => ?_)
    obtain ⟨x_41, hr, w⟩ := hw
    refine ⟨x_41, hr, ?_⟩
    replace w := c_eq w
    refine T_if (tgt := 257) gX11_control rfl (by decide) (fun hc => ?_) (fun hc => ?_)
    · replace w := w.1 hc
      refine T_kn (v := 0) gX11_control rfl (by decide) ?_
      exact T_rz gX11_control rfl rfl (Or.inl rfl) w
    · replace w := w.2 hc
      refine T_run (n := 1) (pc' := 243) (lv' := [some (tR (some a0)), some (tI x1), some (tI x2), some (tI x3)]) (st' := [tR (some a0)]) (h' := h_40) gX11_control rfl ?_
      refine T_kn (v := 1) gX11_control rfl (by decide) ?_
      refine T_run (n := 3) (pc' := 247) (lv' := [some (tR (some a0)), some (tI x1), some (tI x2), some (tI x3)]) (st' := [tI x3, tI (1 + x2), tR (some a0)]) (h' := h_40) gX11_control rfl ?_
      obtain ⟨ho, w⟩ := w
      refine T_cv (fun aa => [some (tR (some aa)), some (tI (1 + x2)), some (tI x3)]) gX11_control rfl rfl rfl rfl (Nat.le_of_ble_eq_true rfl) gX11_turn (fun _ => Nat.le_of_ble_eq_true rfl) (fun _ => rfl) ⟨a0, rfl, ho, T_ki ?_⟩
      refine T.mono w (fun rr h_42 hw => ?_)
      obtain ⟨x_43, hr, w⟩ := hw
      refine ⟨x_43, hr, ?_⟩
      replace w := c_eq w
      refine T_if (tgt := 257) gX11_control rfl (by decide) (fun hc => ?_) (fun hc => ?_)
      · replace w := w.1 hc
        refine T_kn (v := 0) gX11_control rfl (by decide) ?_
        exact T_rz gX11_control rfl rfl (Or.inl rfl) w
      · replace w := w.2 hc
        refine T_kn (v := 1) gX11_control rfl (by decide) ?_
        refine T_goto (tgt := 258) gX11_control rfl (by decide) ?_
        exact T_rz gX11_control rfl rfl (Or.inr rfl) w
set_option maxHeartbeats 4000000 in
set_option maxRecDepth 20000 in
theorem wX11_plain (a0 : Nat) (x1 : Int32) (x2 : Int32) (h : Hp) (Q : Option TV → Hp → Prop) (w :
ob h a0 10 (
ob h a0 10 (
dr (gr h 645 a0) (fun a_1 => ix h kI a_1 ((gi h 640 a0) - 1) (
ob h a0 10 (
ob h a0 10 (
dr (gr h 647 a0) (fun a_2 => ix h kI a_2 ((gi h 640 a0) - 1) (
(if x1 = 26 then
ob h a0 10 (tX11_turn a0 1 0 h (rI (fun x_4 h_3 =>
((x_4 = 0 ∨ x_4 = 1) ∧ Q (some (tI x_4)) h_3))))
else
(if x1 = 27 then
ob h a0 10 (tX11_turn a0 3 1 h (rI (fun x_6 h_5 =>
((x_6 = 0 ∨ x_6 = 1) ∧ Q (some (tI x_6)) h_5))))
else
(if x1 = 32 then
tX11_within x2 (((ai h a_1 ((gi h 640 a0) - 1).toNatClampNeg) + (ai h a_2 ((gi h 640 a0) - 1).toNatClampNeg)) - 1) h (rI (fun x_8 h_7 =>
(if x_8 = 0 then
Q (some (tI 0)) h_7
else
ob h_7 a0 10 (tX11_turn a0 0 1 h_7 (rI (fun x_10 h_9 =>
(if x_10 = 0 then
Q (some (tI 0)) h_9
else
Q (some (tI 1)) h_9)))))))
else
(if x1 = 33 then
tX11_within x2 (((ai h a_1 ((gi h 640 a0) - 1).toNatClampNeg) + (ai h a_2 ((gi h 640 a0) - 1).toNatClampNeg)) - 1) h (rI (fun x_12 h_11 =>
(if x_12 = 0 then
Q (some (tI 0)) h_11
else
ob h_11 a0 10 (tX11_turn a0 1 0 h_11 (rI (fun x_14 h_13 =>
(if x_14 = 0 then
Q (some (tI 0)) h_13
else
Q (some (tI 1)) h_13)))))))
else
(if x1 = 34 then
tX11_within x2 (((ai h a_1 ((gi h 640 a0) - 1).toNatClampNeg) + (ai h a_2 ((gi h 640 a0) - 1).toNatClampNeg)) - 1) h (rI (fun x_16 h_15 =>
(if x_16 = 0 then
Q (some (tI 0)) h_15
else
ob h_15 a0 10 (tX11_turn a0 1 1 h_15 (rI (fun x_18 h_17 =>
(if x_18 = 0 then
Q (some (tI 0)) h_17
else
Q (some (tI 1)) h_17)))))))
else
(if x1 = 35 then
tX11_within x2 7 h (rI (fun x_20 h_19 =>
(if x_20 = 0 then
Q (some (tI 0)) h_19
else
ob h_19 a0 10 (tX11_turn a0 0 1 h_19 (rI (fun x_22 h_21 =>
(if x_22 = 0 then
Q (some (tI 0)) h_21
else
Q (some (tI 1)) h_21)))))))
else
(if x1 = 36 then
tX11_within x2 7 h (rI (fun x_24 h_23 =>
(if x_24 = 0 then
Q (some (tI 0)) h_23
else
ob h_23 a0 10 (tX11_turn a0 1 0 h_23 (rI (fun x_26 h_25 =>
(if x_26 = 0 then
Q (some (tI 0)) h_25
else
Q (some (tI 1)) h_25)))))))
else
(if x1 = 63 then
ob h a0 10 (tX11_turn a0 0 1 h (rI (fun x_28 h_27 =>
((x_28 = 0 ∨ x_28 = 1) ∧ Q (some (tI x_28)) h_27))))
else
(if x1 = 64 then
ob h a0 10 (tX11_turn a0 1 1 h (rI (fun x_30 h_29 =>
((x_30 = 0 ∨ x_30 = 1) ∧ Q (some (tI x_30)) h_29))))
else
(if x1 = 65 then
ob h a0 10 (tX11_turn a0 0 1 h (rI (fun x_32 h_31 =>
((x_32 = 0 ∨ x_32 = 1) ∧ Q (some (tI x_32)) h_31))))
else
(if x1 = 66 then
ob h a0 10 (tX11_turn a0 0 1 h (rI (fun x_34 h_33 =>
((x_34 = 0 ∨ x_34 = 1) ∧ Q (some (tI x_34)) h_33))))
else
(if x1 = 69 then
ob h a0 10 (tX11_turn a0 1 1 h (rI (fun x_36 h_35 =>
((x_36 = 0 ∨ x_36 = 1) ∧ Q (some (tI x_36)) h_35))))
else
(if x1 = 70 then
ob h a0 10 (tX11_turn a0 2 1 h (rI (fun x_38 h_37 =>
((x_38 = 0 ∨ x_38 = 1) ∧ Q (some (tI x_38)) h_37))))
else
(if x1 = 71 then
ob h a0 10 (tX11_turn a0 2 1 h (rI (fun x_40 h_39 =>
((x_40 = 0 ∨ x_40 = 1) ∧ Q (some (tI x_40)) h_39))))
else
(if x1 = 72 then
ob h a0 10 (tX11_turn a0 2 1 h (rI (fun x_42 h_41 =>
((x_42 = 0 ∨ x_42 = 1) ∧ Q (some (tI x_42)) h_41))))
else
(if x1 = 73 then
ob h a0 10 (tX11_turn a0 2 1 h (rI (fun x_44 h_43 =>
((x_44 = 0 ∨ x_44 = 1) ∧ Q (some (tI x_44)) h_43))))
else
(if x1 = 80 then
ob h a0 10 (tX11_turn a0 1 1 h (rI (fun x_46 h_45 =>
((x_46 = 0 ∨ x_46 = 1) ∧ Q (some (tI x_46)) h_45))))
else
(if x1 = 81 then
ob h a0 10 (tX11_turn a0 2 1 h (rI (fun x_48 h_47 =>
((x_48 = 0 ∨ x_48 = 1) ∧ Q (some (tI x_48)) h_47))))
else
(if x1 = 83 then
ob h a0 10 (tX11_turn a0 2 1 h (rI (fun x_50 h_49 =>
((x_50 = 0 ∨ x_50 = 1) ∧ Q (some (tI x_50)) h_49))))
else
(if x1 = 106 then
ob h a0 10 (tX11_turn a0 2 1 h (rI (fun x_52 h_51 =>
((x_52 = 0 ∨ x_52 = 1) ∧ Q (some (tI x_52)) h_51))))
else
(if x1 = 107 then
ob h a0 10 (tX11_turn a0 2 1 h (rI (fun x_54 h_53 =>
((x_54 = 0 ∨ x_54 = 1) ∧ Q (some (tI x_54)) h_53))))
else
(if x1 = 108 then
ob h a0 10 (tX11_turn a0 2 1 h (rI (fun x_56 h_55 =>
((x_56 = 0 ∨ x_56 = 1) ∧ Q (some (tI x_56)) h_55))))
else
(if x1 = 110 then
ob h a0 10 (tX11_turn a0 2 1 h (rI (fun x_58 h_57 =>
((x_58 = 0 ∨ x_58 = 1) ∧ Q (some (tI x_58)) h_57))))
else
(if x1 = 113 then
ob h a0 10 (tX11_turn a0 2 1 h (rI (fun x_60 h_59 =>
((x_60 = 0 ∨ x_60 = 1) ∧ Q (some (tI x_60)) h_59))))
else
(if x1 = 116 then
ob h a0 10 (tX11_turn a0 2 1 h (rI (fun x_62 h_61 =>
((x_62 = 0 ∨ x_62 = 1) ∧ Q (some (tI x_62)) h_61))))
else
(if x1 = 124 then
ob h a0 10 (tX11_turn a0 2 1 h (rI (fun x_64 h_63 =>
((x_64 = 0 ∨ x_64 = 1) ∧ Q (some (tI x_64)) h_63))))
else
(if x1 = 125 then
ob h a0 10 (tX11_turn a0 2 1 h (rI (fun x_66 h_65 =>
((x_66 = 0 ∨ x_66 = 1) ∧ Q (some (tI x_66)) h_65))))
else
(if x1 = 126 then
ob h a0 10 (tX11_turn a0 2 1 h (rI (fun x_68 h_67 =>
((x_68 = 0 ∨ x_68 = 1) ∧ Q (some (tI x_68)) h_67))))
else
(if x1 = 167 then
ob h a0 10 (tX11_turn a0 1 1 h (rI (fun x_70 h_69 =>
((x_70 = 0 ∨ x_70 = 1) ∧ Q (some (tI x_70)) h_69))))
else
(if x1 = 173 then
ob h a0 10 (tX11_turn a0 1 1 h (rI (fun x_72 h_71 =>
((x_72 = 0 ∨ x_72 = 1) ∧ Q (some (tI x_72)) h_71))))
else
tX11_within (x1 - 40) 13 h (rI (fun x_74 h_73 =>
(if x_74 = 0 then
tX11_within (x1 - 54) 8 h_73 (rI (fun x_76 h_75 =>
(if x_76 = 0 then
Q (some (tI 0)) h_75
else
ob h_75 a0 10 (tX11_turn a0 2 0 h_75 (rI (fun x_78 h_77 =>
(if x_78 = 0 then
Q (some (tI 0)) h_77
else
Q (some (tI 1)) h_77)))))))
else
ob h_73 a0 10 (tX11_turn a0 1 1 h_73 (rI (fun x_80 h_79 =>
((x_80 = 0 ∨ x_80 = 1) ∧ Q (some (tI x_80)) h_79)))))))))))))))))))))))))))))))))))))))))))))) : tX11_plain a0 x1 x2 h Q := by
  refine T_run (n := 1) (pc' := 1) (lv' := [some (tR (some a0)), some (tI x1), some (tI x2), none]) (st' := [tR (some a0)]) (h' := h) gX11_plain rfl ?_
  obtain ⟨ho, w⟩ := w
  refine T_gs (tR (gr h 645 a0)) gX11_plain rfl rfl ⟨ho, ?_⟩
  refine T_run (n := 1) (pc' := 5) (lv' := [some (tR (some a0)), some (tI x1), some (tI x2), none]) (st' := [tR (some a0), tR (gr h 645 a0)]) (h' := h) gX11_plain rfl ?_
  obtain ⟨ho, w⟩ := w
  refine T_gs (tI (gi h 640 a0)) gX11_plain rfl rfl ⟨ho, ?_⟩
  refine T_kn (v := 1) gX11_plain rfl (by decide) ?_
  refine T_run (n := 1) (pc' := 10) (lv' := [some (tR (some a0)), some (tI x1), some (tI x2), none]) (st' := [tI ((gi h 640 a0) - 1), tR (gr h 645 a0)]) (h' := h) gX11_plain rfl ?_
  obtain ⟨a_1, hr, tt, nn, ht, hk, hj, w⟩ := w
  refine T_ial gX11_plain rfl ⟨a_1, hr, tt, nn, ht, hk, hj, ?_⟩
  refine T_run (n := 1) (pc' := 12) (lv' := [some (tR (some a0)), some (tI x1), some (tI x2), none]) (st' := [tR (some a0), tI (ai h a_1 ((gi h 640 a0) - 1).toNatClampNeg)]) (h' := h) gX11_plain rfl ?_
  obtain ⟨ho, w⟩ := w
  refine T_gs (tR (gr h 647 a0)) gX11_plain rfl rfl ⟨ho, ?_⟩
  refine T_run (n := 1) (pc' := 16) (lv' := [some (tR (some a0)), some (tI x1), some (tI x2), none]) (st' := [tR (some a0), tR (gr h 647 a0), tI (ai h a_1 ((gi h 640 a0) - 1).toNatClampNeg)]) (h' := h) gX11_plain rfl ?_
  obtain ⟨ho, w⟩ := w
  refine T_gs (tI (gi h 640 a0)) gX11_plain rfl rfl ⟨ho, ?_⟩
  refine T_kn (v := 1) gX11_plain rfl (by decide) ?_
  refine T_run (n := 1) (pc' := 21) (lv' := [some (tR (some a0)), some (tI x1), some (tI x2), none]) (st' := [tI ((gi h 640 a0) - 1), tR (gr h 647 a0), tI (ai h a_1 ((gi h 640 a0) - 1).toNatClampNeg)]) (h' := h) gX11_plain rfl ?_
  obtain ⟨a_2, hr, tt, nn, ht, hk, hj, w⟩ := w
  refine T_ial gX11_plain rfl ⟨a_2, hr, tt, nn, ht, hk, hj, ?_⟩
  refine T_run (n := 3) (pc' := 25) (lv' := [some (tR (some a0)), some (tI x1), some (tI x2), some (tI ((ai h a_1 ((gi h 640 a0) - 1).toNatClampNeg) + (ai h a_2 ((gi h 640 a0) - 1).toNatClampNeg)))]) (st' := [tI x1]) (h' := h) gX11_plain rfl ?_
  refine T_lsw (dt := 434) (cs := [(26, 276), (27, 283), (32, 290), (33, 315), (34, 340), (35, 365), (36, 389), (63, 413), (64, 420), (65, 413), (66, 413), (69, 420), (70, 427), (71, 427), (72, 427), (73, 427), (80, 420), (81, 427), (83, 427), (106, 427), (107, 427), (108, 427), (110, 427), (113, 427), (116, 427), (124, 427), (125, 427), (126, 427), (167, 420), (173, 420)]) gX11_plain rfl (by decide) (by decide) ?_
  refine sw_cons (fun hc => ?_) (fun hc => ?_)
  · rw [if_pos hc] at w
    refine T_run (n := 1) (pc' := 277) (lv' := [some (tR (some a0)), some (tI x1), some (tI x2), some (tI ((ai h a_1 ((gi h 640 a0) - 1).toNatClampNeg) + (ai h a_2 ((gi h 640 a0) - 1).toNatClampNeg)))]) (st' := [tR (some a0)]) (h' := h) gX11_plain rfl ?_
    refine T_kn (v := 1) gX11_plain rfl (by decide) ?_
    refine T_kn (v := 0) gX11_plain rfl (by decide) ?_
    obtain ⟨ho, w⟩ := w
    refine T_cv (fun aa => [some (tR (some aa)), some (tI 1), some (tI 0)]) gX11_plain rfl rfl rfl rfl (Nat.le_of_ble_eq_true rfl) gX11_turn (fun _ => Nat.le_of_ble_eq_true rfl) (fun _ => rfl) ⟨a0, rfl, ho, T_ki ?_⟩
    refine T.mono w (fun rr h_3 hw => ?_)
    obtain ⟨x_4, hr, w⟩ := hw
    refine ⟨x_4, hr, ?_⟩
    exact T_rz gX11_plain rfl rfl w.1 w.2
  rw [if_neg hc] at w
  refine sw_cons (fun hc => ?_) (fun hc => ?_)
  · rw [if_pos hc] at w
    refine T_run (n := 1) (pc' := 284) (lv' := [some (tR (some a0)), some (tI x1), some (tI x2), some (tI ((ai h a_1 ((gi h 640 a0) - 1).toNatClampNeg) + (ai h a_2 ((gi h 640 a0) - 1).toNatClampNeg)))]) (st' := [tR (some a0)]) (h' := h) gX11_plain rfl ?_
    refine T_kn (v := 3) gX11_plain rfl (by decide) ?_
    refine T_kn (v := 1) gX11_plain rfl (by decide) ?_
    obtain ⟨ho, w⟩ := w
    refine T_cv (fun aa => [some (tR (some aa)), some (tI 3), some (tI 1)]) gX11_plain rfl rfl rfl rfl (Nat.le_of_ble_eq_true rfl) gX11_turn (fun _ => Nat.le_of_ble_eq_true rfl) (fun _ => rfl) ⟨a0, rfl, ho, T_ki ?_⟩
    refine T.mono w (fun rr h_5 hw => ?_)
    obtain ⟨x_6, hr, w⟩ := hw
    refine ⟨x_6, hr, ?_⟩
    exact T_rz gX11_plain rfl rfl w.1 w.2
  rw [if_neg hc] at w
  refine sw_cons (fun hc => ?_) (fun hc => ?_)
  · rw [if_pos hc] at w
    refine T_run (n := 2) (pc' := 292) (lv' := [some (tR (some a0)), some (tI x1), some (tI x2), some (tI ((ai h a_1 ((gi h 640 a0) - 1).toNatClampNeg) + (ai h a_2 ((gi h 640 a0) - 1).toNatClampNeg)))]) (st' := [tI ((ai h a_1 ((gi h 640 a0) - 1).toNatClampNeg) + (ai h a_2 ((gi h 640 a0) - 1).toNatClampNeg)), tI x2]) (h' := h) gX11_plain rfl ?_
    refine T_kn (v := 1) gX11_plain rfl (by decide) ?_
    refine T_run (n := 1) (pc' := 294) (lv' := [some (tR (some a0)), some (tI x1), some (tI x2), some (tI ((ai h a_1 ((gi h 640 a0) - 1).toNatClampNeg) + (ai h a_2 ((gi h 640 a0) - 1).toNatClampNeg)))]) (st' := [tI (((ai h a_1 ((gi h 640 a0) - 1).toNatClampNeg) + (ai h a_2 ((gi h 640 a0) - 1).toNatClampNeg)) - 1), tI x2]) (h' := h) gX11_plain rfl ?_
    refine T_cs (lv' := [some (tI x2), some (tI (((ai h a_1 ((gi h 640 a0) - 1).toNatClampNeg) + (ai h a_2 ((gi h 640 a0) - 1).toNatClampNeg)) - 1))]) gX11_plain rfl rfl rfl rfl (Nat.le_of_ble_eq_true rfl) gX11_within (Nat.le_of_ble_eq_true rfl) rfl (T_ki ?_)
    refine T.mono w (fun rr h_7 hw => ?_)
    obtain ⟨x_8, hr, w⟩ := hw
    refine ⟨x_8, hr, ?_⟩
    replace w := c_eq w
    refine T_if (tgt := 313) gX11_plain rfl (by decide) (fun hc => ?_) (fun hc => ?_)
    · replace w := w.1 hc
      refine T_kn (v := 0) gX11_plain rfl (by decide) ?_
      exact T_rz gX11_plain rfl rfl (Or.inl rfl) w
    · replace w := w.2 hc
      refine T_run (n := 1) (pc' := 301) (lv' := [some (tR (some a0)), some (tI x1), some (tI x2), some (tI ((ai h a_1 ((gi h 640 a0) - 1).toNatClampNeg) + (ai h a_2 ((gi h 640 a0) - 1).toNatClampNeg)))]) (st' := [tR (some a0)]) (h' := h_7) gX11_plain rfl ?_
      refine T_kn (v := 0) gX11_plain rfl (by decide) ?_
      refine T_kn (v := 1) gX11_plain rfl (by decide) ?_
      obtain ⟨ho, w⟩ := w
      refine T_cv (fun aa => [some (tR (some aa)), some (tI 0), some (tI 1)]) gX11_plain rfl rfl rfl rfl (Nat.le_of_ble_eq_true rfl) gX11_turn (fun _ => Nat.le_of_ble_eq_true rfl) (fun _ => rfl) ⟨a0, rfl, ho, T_ki ?_⟩
      refine T.mono w (fun rr h_9 hw => ?_)
      obtain ⟨x_10, hr, w⟩ := hw
      refine ⟨x_10, hr, ?_⟩
      replace w := c_eq w
      refine T_if (tgt := 313) gX11_plain rfl (by decide) (fun hc => ?_) (fun hc => ?_)
      · replace w := w.1 hc
        refine T_kn (v := 0) gX11_plain rfl (by decide) ?_
        exact T_rz gX11_plain rfl rfl (Or.inl rfl) w
      · replace w := w.2 hc
        refine T_kn (v := 1) gX11_plain rfl (by decide) ?_
        refine T_goto (tgt := 314) gX11_plain rfl (by decide) ?_
        exact T_rz gX11_plain rfl rfl (Or.inr rfl) w
  rw [if_neg hc] at w
  refine sw_cons (fun hc => ?_) (fun hc => ?_)
  · rw [if_pos hc] at w
    refine T_run (n := 2) (pc' := 317) (lv' := [some (tR (some a0)), some (tI x1), some (tI x2), some (tI ((ai h a_1 ((gi h 640 a0) - 1).toNatClampNeg) + (ai h a_2 ((gi h 640 a0) - 1).toNatClampNeg)))]) (st' := [tI ((ai h a_1 ((gi h 640 a0) - 1).toNatClampNeg) + (ai h a_2 ((gi h 640 a0) - 1).toNatClampNeg)), tI x2]) (h' := h) gX11_plain rfl ?_
    refine T_kn (v := 1) gX11_plain rfl (by decide) ?_
    refine T_run (n := 1) (pc' := 319) (lv' := [some (tR (some a0)), some (tI x1), some (tI x2), some (tI ((ai h a_1 ((gi h 640 a0) - 1).toNatClampNeg) + (ai h a_2 ((gi h 640 a0) - 1).toNatClampNeg)))]) (st' := [tI (((ai h a_1 ((gi h 640 a0) - 1).toNatClampNeg) + (ai h a_2 ((gi h 640 a0) - 1).toNatClampNeg)) - 1), tI x2]) (h' := h) gX11_plain rfl ?_
    refine T_cs (lv' := [some (tI x2), some (tI (((ai h a_1 ((gi h 640 a0) - 1).toNatClampNeg) + (ai h a_2 ((gi h 640 a0) - 1).toNatClampNeg)) - 1))]) gX11_plain rfl rfl rfl rfl (Nat.le_of_ble_eq_true rfl) gX11_within (Nat.le_of_ble_eq_true rfl) rfl (T_ki ?_)
    refine T.mono w (fun rr h_11 hw => ?_)
    obtain ⟨x_12, hr, w⟩ := hw
    refine ⟨x_12, hr, ?_⟩
    replace w := c_eq w
    refine T_if (tgt := 338) gX11_plain rfl (by decide) (fun hc => ?_) (fun hc => ?_)
    · replace w := w.1 hc
      refine T_kn (v := 0) gX11_plain rfl (by decide) ?_
      exact T_rz gX11_plain rfl rfl (Or.inl rfl) w
    · replace w := w.2 hc
      refine T_run (n := 1) (pc' := 326) (lv' := [some (tR (some a0)), some (tI x1), some (tI x2), some (tI ((ai h a_1 ((gi h 640 a0) - 1).toNatClampNeg) + (ai h a_2 ((gi h 640 a0) - 1).toNatClampNeg)))]) (st' := [tR (some a0)]) (h' := h_11) gX11_plain rfl ?_
      refine T_kn (v := 1) gX11_plain rfl (by decide) ?_
      refine T_kn (v := 0) gX11_plain rfl (by decide) ?_
      obtain ⟨ho, w⟩ := w
      refine T_cv (fun aa => [some (tR (some aa)), some (tI 1), some (tI 0)]) gX11_plain rfl rfl rfl rfl (Nat.le_of_ble_eq_true rfl) gX11_turn (fun _ => Nat.le_of_ble_eq_true rfl) (fun _ => rfl) ⟨a0, rfl, ho, T_ki ?_⟩
      refine T.mono w (fun rr h_13 hw => ?_)
      obtain ⟨x_14, hr, w⟩ := hw
      refine ⟨x_14, hr, ?_⟩
      replace w := c_eq w
      refine T_if (tgt := 338) gX11_plain rfl (by decide) (fun hc => ?_) (fun hc => ?_)
      · replace w := w.1 hc
        refine T_kn (v := 0) gX11_plain rfl (by decide) ?_
        exact T_rz gX11_plain rfl rfl (Or.inl rfl) w
      · replace w := w.2 hc
        refine T_kn (v := 1) gX11_plain rfl (by decide) ?_
        refine T_goto (tgt := 339) gX11_plain rfl (by decide) ?_
        exact T_rz gX11_plain rfl rfl (Or.inr rfl) w
  rw [if_neg hc] at w
  refine sw_cons (fun hc => ?_) (fun hc => ?_)
  · rw [if_pos hc] at w
    refine T_run (n := 2) (pc' := 342) (lv' := [some (tR (some a0)), some (tI x1), some (tI x2), some (tI ((ai h a_1 ((gi h 640 a0) - 1).toNatClampNeg) + (ai h a_2 ((gi h 640 a0) - 1).toNatClampNeg)))]) (st' := [tI ((ai h a_1 ((gi h 640 a0) - 1).toNatClampNeg) + (ai h a_2 ((gi h 640 a0) - 1).toNatClampNeg)), tI x2]) (h' := h) gX11_plain rfl ?_
    refine T_kn (v := 1) gX11_plain rfl (by decide) ?_
    refine T_run (n := 1) (pc' := 344) (lv' := [some (tR (some a0)), some (tI x1), some (tI x2), some (tI ((ai h a_1 ((gi h 640 a0) - 1).toNatClampNeg) + (ai h a_2 ((gi h 640 a0) - 1).toNatClampNeg)))]) (st' := [tI (((ai h a_1 ((gi h 640 a0) - 1).toNatClampNeg) + (ai h a_2 ((gi h 640 a0) - 1).toNatClampNeg)) - 1), tI x2]) (h' := h) gX11_plain rfl ?_
    refine T_cs (lv' := [some (tI x2), some (tI (((ai h a_1 ((gi h 640 a0) - 1).toNatClampNeg) + (ai h a_2 ((gi h 640 a0) - 1).toNatClampNeg)) - 1))]) gX11_plain rfl rfl rfl rfl (Nat.le_of_ble_eq_true rfl) gX11_within (Nat.le_of_ble_eq_true rfl) rfl (T_ki ?_)
    refine T.mono w (fun rr h_15 hw => ?_)
    obtain ⟨x_16, hr, w⟩ := hw
    refine ⟨x_16, hr, ?_⟩
    replace w := c_eq w
    refine T_if (tgt := 363) gX11_plain rfl (by decide) (fun hc => ?_) (fun hc => ?_)
    · replace w := w.1 hc
      refine T_kn (v := 0) gX11_plain rfl (by decide) ?_
      exact T_rz gX11_plain rfl rfl (Or.inl rfl) w
    · replace w := w.2 hc
      refine T_run (n := 1) (pc' := 351) (lv' := [some (tR (some a0)), some (tI x1), some (tI x2), some (tI ((ai h a_1 ((gi h 640 a0) - 1).toNatClampNeg) + (ai h a_2 ((gi h 640 a0) - 1).toNatClampNeg)))]) (st' := [tR (some a0)]) (h' := h_15) gX11_plain rfl ?_
      refine T_kn (v := 1) gX11_plain rfl (by decide) ?_
      refine T_kn (v := 1) gX11_plain rfl (by decide) ?_
      obtain ⟨ho, w⟩ := w
      refine T_cv (fun aa => [some (tR (some aa)), some (tI 1), some (tI 1)]) gX11_plain rfl rfl rfl rfl (Nat.le_of_ble_eq_true rfl) gX11_turn (fun _ => Nat.le_of_ble_eq_true rfl) (fun _ => rfl) ⟨a0, rfl, ho, T_ki ?_⟩
      refine T.mono w (fun rr h_17 hw => ?_)
      obtain ⟨x_18, hr, w⟩ := hw
      refine ⟨x_18, hr, ?_⟩
      replace w := c_eq w
      refine T_if (tgt := 363) gX11_plain rfl (by decide) (fun hc => ?_) (fun hc => ?_)
      · replace w := w.1 hc
        refine T_kn (v := 0) gX11_plain rfl (by decide) ?_
        exact T_rz gX11_plain rfl rfl (Or.inl rfl) w
      · replace w := w.2 hc
        refine T_kn (v := 1) gX11_plain rfl (by decide) ?_
        refine T_goto (tgt := 364) gX11_plain rfl (by decide) ?_
        exact T_rz gX11_plain rfl rfl (Or.inr rfl) w
  rw [if_neg hc] at w
  refine sw_cons (fun hc => ?_) (fun hc => ?_)
  · rw [if_pos hc] at w
    refine T_run (n := 1) (pc' := 366) (lv' := [some (tR (some a0)), some (tI x1), some (tI x2), some (tI ((ai h a_1 ((gi h 640 a0) - 1).toNatClampNeg) + (ai h a_2 ((gi h 640 a0) - 1).toNatClampNeg)))]) (st' := [tI x2]) (h' := h) gX11_plain rfl ?_
    refine T_kb (v := 7) gX11_plain rfl (by decide) ?_
    refine T_cs (lv' := [some (tI x2), some (tI 7)]) gX11_plain rfl rfl rfl rfl (Nat.le_of_ble_eq_true rfl) gX11_within (Nat.le_of_ble_eq_true rfl) rfl (T_ki ?_)
    refine T.mono w (fun rr h_19 hw => ?_)
    obtain ⟨x_20, hr, w⟩ := hw
    refine ⟨x_20, hr, ?_⟩
    replace w := c_eq w
    refine T_if (tgt := 387) gX11_plain rfl (by decide) (fun hc => ?_) (fun hc => ?_)
    · replace w := w.1 hc
      refine T_kn (v := 0) gX11_plain rfl (by decide) ?_
      exact T_rz gX11_plain rfl rfl (Or.inl rfl) w
    · replace w := w.2 hc
      refine T_run (n := 1) (pc' := 375) (lv' := [some (tR (some a0)), some (tI x1), some (tI x2), some (tI ((ai h a_1 ((gi h 640 a0) - 1).toNatClampNeg) + (ai h a_2 ((gi h 640 a0) - 1).toNatClampNeg)))]) (st' := [tR (some a0)]) (h' := h_19) gX11_plain rfl ?_
      refine T_kn (v := 0) gX11_plain rfl (by decide) ?_
      refine T_kn (v := 1) gX11_plain rfl (by decide) ?_
      obtain ⟨ho, w⟩ := w
      refine T_cv (fun aa => [some (tR (some aa)), some (tI 0), some (tI 1)]) gX11_plain rfl rfl rfl rfl (Nat.le_of_ble_eq_true rfl) gX11_turn (fun _ => Nat.le_of_ble_eq_true rfl) (fun _ => rfl) ⟨a0, rfl, ho, T_ki ?_⟩
      refine T.mono w (fun rr h_21 hw => ?_)
      obtain ⟨x_22, hr, w⟩ := hw
      refine ⟨x_22, hr, ?_⟩
      replace w := c_eq w
      refine T_if (tgt := 387) gX11_plain rfl (by decide) (fun hc => ?_) (fun hc => ?_)
      · replace w := w.1 hc
        refine T_kn (v := 0) gX11_plain rfl (by decide) ?_
        exact T_rz gX11_plain rfl rfl (Or.inl rfl) w
      · replace w := w.2 hc
        refine T_kn (v := 1) gX11_plain rfl (by decide) ?_
        refine T_goto (tgt := 388) gX11_plain rfl (by decide) ?_
        exact T_rz gX11_plain rfl rfl (Or.inr rfl) w
  rw [if_neg hc] at w
  refine sw_cons (fun hc => ?_) (fun hc => ?_)
  · rw [if_pos hc] at w
    refine T_run (n := 1) (pc' := 390) (lv' := [some (tR (some a0)), some (tI x1), some (tI x2), some (tI ((ai h a_1 ((gi h 640 a0) - 1).toNatClampNeg) + (ai h a_2 ((gi h 640 a0) - 1).toNatClampNeg)))]) (st' := [tI x2]) (h' := h) gX11_plain rfl ?_
    refine T_kb (v := 7) gX11_plain rfl (by decide) ?_
    refine T_cs (lv' := [some (tI x2), some (tI 7)]) gX11_plain rfl rfl rfl rfl (Nat.le_of_ble_eq_true rfl) gX11_within (Nat.le_of_ble_eq_true rfl) rfl (T_ki ?_)
    refine T.mono w (fun rr h_23 hw => ?_)
    obtain ⟨x_24, hr, w⟩ := hw
    refine ⟨x_24, hr, ?_⟩
    replace w := c_eq w
    refine T_if (tgt := 411) gX11_plain rfl (by decide) (fun hc => ?_) (fun hc => ?_)
    · replace w := w.1 hc
      refine T_kn (v := 0) gX11_plain rfl (by decide) ?_
      exact T_rz gX11_plain rfl rfl (Or.inl rfl) w
    · replace w := w.2 hc
      refine T_run (n := 1) (pc' := 399) (lv' := [some (tR (some a0)), some (tI x1), some (tI x2), some (tI ((ai h a_1 ((gi h 640 a0) - 1).toNatClampNeg) + (ai h a_2 ((gi h 640 a0) - 1).toNatClampNeg)))]) (st' := [tR (some a0)]) (h' := h_23) gX11_plain rfl ?_
      refine T_kn (v := 1) gX11_plain rfl (by decide) ?_
      refine T_kn (v := 0) gX11_plain rfl (by decide) ?_
      obtain ⟨ho, w⟩ := w
      refine T_cv (fun aa => [some (tR (some aa)), some (tI 1), some (tI 0)]) gX11_plain rfl rfl rfl rfl (Nat.le_of_ble_eq_true rfl) gX11_turn (fun _ => Nat.le_of_ble_eq_true rfl) (fun _ => rfl) ⟨a0, rfl, ho, T_ki ?_⟩
      refine T.mono w (fun rr h_25 hw => ?_)
      obtain ⟨x_26, hr, w⟩ := hw
      refine ⟨x_26, hr, ?_⟩
      replace w := c_eq w
      refine T_if (tgt := 411) gX11_plain rfl (by decide) (fun hc => ?_) (fun hc => ?_)
      · replace w := w.1 hc
        refine T_kn (v := 0) gX11_plain rfl (by decide) ?_
        exact T_rz gX11_plain rfl rfl (Or.inl rfl) w
      · replace w := w.2 hc
        refine T_kn (v := 1) gX11_plain rfl (by decide) ?_
        refine T_goto (tgt := 412) gX11_plain rfl (by decide) ?_
        exact T_rz gX11_plain rfl rfl (Or.inr rfl) w
  rw [if_neg hc] at w
  refine sw_cons (fun hc => ?_) (fun hc => ?_)
  · rw [if_pos hc] at w
    refine T_run (n := 1) (pc' := 414) (lv' := [some (tR (some a0)), some (tI x1), some (tI x2), some (tI ((ai h a_1 ((gi h 640 a0) - 1).toNatClampNeg) + (ai h a_2 ((gi h 640 a0) - 1).toNatClampNeg)))]) (st' := [tR (some a0)]) (h' := h) gX11_plain rfl ?_
    refine T_kn (v := 0) gX11_plain rfl (by decide) ?_
    refine T_kn (v := 1) gX11_plain rfl (by decide) ?_
    obtain ⟨ho, w⟩ := w
    refine T_cv (fun aa => [some (tR (some aa)), some (tI 0), some (tI 1)]) gX11_plain rfl rfl rfl rfl (Nat.le_of_ble_eq_true rfl) gX11_turn (fun _ => Nat.le_of_ble_eq_true rfl) (fun _ => rfl) ⟨a0, rfl, ho, T_ki ?_⟩
    refine T.mono w (fun rr h_27 hw => ?_)
    obtain ⟨x_28, hr, w⟩ := hw
    refine ⟨x_28, hr, ?_⟩
    exact T_rz gX11_plain rfl rfl w.1 w.2
  rw [if_neg hc] at w
  refine sw_cons (fun hc => ?_) (fun hc => ?_)
  · rw [if_pos hc] at w
    refine T_run (n := 1) (pc' := 421) (lv' := [some (tR (some a0)), some (tI x1), some (tI x2), some (tI ((ai h a_1 ((gi h 640 a0) - 1).toNatClampNeg) + (ai h a_2 ((gi h 640 a0) - 1).toNatClampNeg)))]) (st' := [tR (some a0)]) (h' := h) gX11_plain rfl ?_
    refine T_kn (v := 1) gX11_plain rfl (by decide) ?_
    refine T_kn (v := 1) gX11_plain rfl (by decide) ?_
    obtain ⟨ho, w⟩ := w
    refine T_cv (fun aa => [some (tR (some aa)), some (tI 1), some (tI 1)]) gX11_plain rfl rfl rfl rfl (Nat.le_of_ble_eq_true rfl) gX11_turn (fun _ => Nat.le_of_ble_eq_true rfl) (fun _ => rfl) ⟨a0, rfl, ho, T_ki ?_⟩
    refine T.mono w (fun rr h_29 hw => ?_)
    obtain ⟨x_30, hr, w⟩ := hw
    refine ⟨x_30, hr, ?_⟩
    exact T_rz gX11_plain rfl rfl w.1 w.2
  rw [if_neg hc] at w
  refine sw_cons (fun hc => ?_) (fun hc => ?_)
  · rw [if_pos hc] at w
    refine T_run (n := 1) (pc' := 414) (lv' := [some (tR (some a0)), some (tI x1), some (tI x2), some (tI ((ai h a_1 ((gi h 640 a0) - 1).toNatClampNeg) + (ai h a_2 ((gi h 640 a0) - 1).toNatClampNeg)))]) (st' := [tR (some a0)]) (h' := h) gX11_plain rfl ?_
    refine T_kn (v := 0) gX11_plain rfl (by decide) ?_
    refine T_kn (v := 1) gX11_plain rfl (by decide) ?_
    obtain ⟨ho, w⟩ := w
    refine T_cv (fun aa => [some (tR (some aa)), some (tI 0), some (tI 1)]) gX11_plain rfl rfl rfl rfl (Nat.le_of_ble_eq_true rfl) gX11_turn (fun _ => Nat.le_of_ble_eq_true rfl) (fun _ => rfl) ⟨a0, rfl, ho, T_ki ?_⟩
    refine T.mono w (fun rr h_31 hw => ?_)
    obtain ⟨x_32, hr, w⟩ := hw
    refine ⟨x_32, hr, ?_⟩
    exact T_rz gX11_plain rfl rfl w.1 w.2
  rw [if_neg hc] at w
  refine sw_cons (fun hc => ?_) (fun hc => ?_)
  · rw [if_pos hc] at w
    refine T_run (n := 1) (pc' := 414) (lv' := [some (tR (some a0)), some (tI x1), some (tI x2), some (tI ((ai h a_1 ((gi h 640 a0) - 1).toNatClampNeg) + (ai h a_2 ((gi h 640 a0) - 1).toNatClampNeg)))]) (st' := [tR (some a0)]) (h' := h) gX11_plain rfl ?_
    refine T_kn (v := 0) gX11_plain rfl (by decide) ?_
    refine T_kn (v := 1) gX11_plain rfl (by decide) ?_
    obtain ⟨ho, w⟩ := w
    refine T_cv (fun aa => [some (tR (some aa)), some (tI 0), some (tI 1)]) gX11_plain rfl rfl rfl rfl (Nat.le_of_ble_eq_true rfl) gX11_turn (fun _ => Nat.le_of_ble_eq_true rfl) (fun _ => rfl) ⟨a0, rfl, ho, T_ki ?_⟩
    refine T.mono w (fun rr h_33 hw => ?_)
    obtain ⟨x_34, hr, w⟩ := hw
    refine ⟨x_34, hr, ?_⟩
    exact T_rz gX11_plain rfl rfl w.1 w.2
  rw [if_neg hc] at w
  refine sw_cons (fun hc => ?_) (fun hc => ?_)
  · rw [if_pos hc] at w
    refine T_run (n := 1) (pc' := 421) (lv' := [some (tR (some a0)), some (tI x1), some (tI x2), some (tI ((ai h a_1 ((gi h 640 a0) - 1).toNatClampNeg) + (ai h a_2 ((gi h 640 a0) - 1).toNatClampNeg)))]) (st' := [tR (some a0)]) (h' := h) gX11_plain rfl ?_
    refine T_kn (v := 1) gX11_plain rfl (by decide) ?_
    refine T_kn (v := 1) gX11_plain rfl (by decide) ?_
    obtain ⟨ho, w⟩ := w
    refine T_cv (fun aa => [some (tR (some aa)), some (tI 1), some (tI 1)]) gX11_plain rfl rfl rfl rfl (Nat.le_of_ble_eq_true rfl) gX11_turn (fun _ => Nat.le_of_ble_eq_true rfl) (fun _ => rfl) ⟨a0, rfl, ho, T_ki ?_⟩
    refine T.mono w (fun rr h_35 hw => ?_)
    obtain ⟨x_36, hr, w⟩ := hw
    refine ⟨x_36, hr, ?_⟩
    exact T_rz gX11_plain rfl rfl w.1 w.2
  rw [if_neg hc] at w
  refine sw_cons (fun hc => ?_) (fun hc => ?_)
  · rw [if_pos hc] at w
    refine T_run (n := 1) (pc' := 428) (lv' := [some (tR (some a0)), some (tI x1), some (tI x2), some (tI ((ai h a_1 ((gi h 640 a0) - 1).toNatClampNeg) + (ai h a_2 ((gi h 640 a0) - 1).toNatClampNeg)))]) (st' := [tR (some a0)]) (h' := h) gX11_plain rfl ?_
    refine T_kn (v := 2) gX11_plain rfl (by decide) ?_
    refine T_kn (v := 1) gX11_plain rfl (by decide) ?_
    obtain ⟨ho, w⟩ := w
    refine T_cv (fun aa => [some (tR (some aa)), some (tI 2), some (tI 1)]) gX11_plain rfl rfl rfl rfl (Nat.le_of_ble_eq_true rfl) gX11_turn (fun _ => Nat.le_of_ble_eq_true rfl) (fun _ => rfl) ⟨a0, rfl, ho, T_ki ?_⟩
    refine T.mono w (fun rr h_37 hw => ?_)
    obtain ⟨x_38, hr, w⟩ := hw
    refine ⟨x_38, hr, ?_⟩
    exact T_rz gX11_plain rfl rfl w.1 w.2
  rw [if_neg hc] at w
  refine sw_cons (fun hc => ?_) (fun hc => ?_)
  · rw [if_pos hc] at w
    refine T_run (n := 1) (pc' := 428) (lv' := [some (tR (some a0)), some (tI x1), some (tI x2), some (tI ((ai h a_1 ((gi h 640 a0) - 1).toNatClampNeg) + (ai h a_2 ((gi h 640 a0) - 1).toNatClampNeg)))]) (st' := [tR (some a0)]) (h' := h) gX11_plain rfl ?_
    refine T_kn (v := 2) gX11_plain rfl (by decide) ?_
    refine T_kn (v := 1) gX11_plain rfl (by decide) ?_
    obtain ⟨ho, w⟩ := w
    refine T_cv (fun aa => [some (tR (some aa)), some (tI 2), some (tI 1)]) gX11_plain rfl rfl rfl rfl (Nat.le_of_ble_eq_true rfl) gX11_turn (fun _ => Nat.le_of_ble_eq_true rfl) (fun _ => rfl) ⟨a0, rfl, ho, T_ki ?_⟩
    refine T.mono w (fun rr h_39 hw => ?_)
    obtain ⟨x_40, hr, w⟩ := hw
    refine ⟨x_40, hr, ?_⟩
    exact T_rz gX11_plain rfl rfl w.1 w.2
  rw [if_neg hc] at w
  refine sw_cons (fun hc => ?_) (fun hc => ?_)
  · rw [if_pos hc] at w
    refine T_run (n := 1) (pc' := 428) (lv' := [some (tR (some a0)), some (tI x1), some (tI x2), some (tI ((ai h a_1 ((gi h 640 a0) - 1).toNatClampNeg) + (ai h a_2 ((gi h 640 a0) - 1).toNatClampNeg)))]) (st' := [tR (some a0)]) (h' := h) gX11_plain rfl ?_
    refine T_kn (v := 2) gX11_plain rfl (by decide) ?_
    refine T_kn (v := 1) gX11_plain rfl (by decide) ?_
    obtain ⟨ho, w⟩ := w
    refine T_cv (fun aa => [some (tR (some aa)), some (tI 2), some (tI 1)]) gX11_plain rfl rfl rfl rfl (Nat.le_of_ble_eq_true rfl) gX11_turn (fun _ => Nat.le_of_ble_eq_true rfl) (fun _ => rfl) ⟨a0, rfl, ho, T_ki ?_⟩
    refine T.mono w (fun rr h_41 hw => ?_)
    obtain ⟨x_42, hr, w⟩ := hw
    refine ⟨x_42, hr, ?_⟩
    exact T_rz gX11_plain rfl rfl w.1 w.2
  rw [if_neg hc] at w
  refine sw_cons (fun hc => ?_) (fun hc => ?_)
  · rw [if_pos hc] at w
    refine T_run (n := 1) (pc' := 428) (lv' := [some (tR (some a0)), some (tI x1), some (tI x2), some (tI ((ai h a_1 ((gi h 640 a0) - 1).toNatClampNeg) + (ai h a_2 ((gi h 640 a0) - 1).toNatClampNeg)))]) (st' := [tR (some a0)]) (h' := h) gX11_plain rfl ?_
    refine T_kn (v := 2) gX11_plain rfl (by decide) ?_
    refine T_kn (v := 1) gX11_plain rfl (by decide) ?_
    obtain ⟨ho, w⟩ := w
    refine T_cv (fun aa => [some (tR (some aa)), some (tI 2), some (tI 1)]) gX11_plain rfl rfl rfl rfl (Nat.le_of_ble_eq_true rfl) gX11_turn (fun _ => Nat.le_of_ble_eq_true rfl) (fun _ => rfl) ⟨a0, rfl, ho, T_ki ?_⟩
    refine T.mono w (fun rr h_43 hw => ?_)
    obtain ⟨x_44, hr, w⟩ := hw
    refine ⟨x_44, hr, ?_⟩
    exact T_rz gX11_plain rfl rfl w.1 w.2
  rw [if_neg hc] at w
  refine sw_cons (fun hc => ?_) (fun hc => ?_)
  · rw [if_pos hc] at w
    refine T_run (n := 1) (pc' := 421) (lv' := [some (tR (some a0)), some (tI x1), some (tI x2), some (tI ((ai h a_1 ((gi h 640 a0) - 1).toNatClampNeg) + (ai h a_2 ((gi h 640 a0) - 1).toNatClampNeg)))]) (st' := [tR (some a0)]) (h' := h) gX11_plain rfl ?_
    refine T_kn (v := 1) gX11_plain rfl (by decide) ?_
    refine T_kn (v := 1) gX11_plain rfl (by decide) ?_
    obtain ⟨ho, w⟩ := w
    refine T_cv (fun aa => [some (tR (some aa)), some (tI 1), some (tI 1)]) gX11_plain rfl rfl rfl rfl (Nat.le_of_ble_eq_true rfl) gX11_turn (fun _ => Nat.le_of_ble_eq_true rfl) (fun _ => rfl) ⟨a0, rfl, ho, T_ki ?_⟩
    refine T.mono w (fun rr h_45 hw => ?_)
    obtain ⟨x_46, hr, w⟩ := hw
    refine ⟨x_46, hr, ?_⟩
    exact T_rz gX11_plain rfl rfl w.1 w.2
  rw [if_neg hc] at w
  refine sw_cons (fun hc => ?_) (fun hc => ?_)
  · rw [if_pos hc] at w
    refine T_run (n := 1) (pc' := 428) (lv' := [some (tR (some a0)), some (tI x1), some (tI x2), some (tI ((ai h a_1 ((gi h 640 a0) - 1).toNatClampNeg) + (ai h a_2 ((gi h 640 a0) - 1).toNatClampNeg)))]) (st' := [tR (some a0)]) (h' := h) gX11_plain rfl ?_
    refine T_kn (v := 2) gX11_plain rfl (by decide) ?_
    refine T_kn (v := 1) gX11_plain rfl (by decide) ?_
    obtain ⟨ho, w⟩ := w
    refine T_cv (fun aa => [some (tR (some aa)), some (tI 2), some (tI 1)]) gX11_plain rfl rfl rfl rfl (Nat.le_of_ble_eq_true rfl) gX11_turn (fun _ => Nat.le_of_ble_eq_true rfl) (fun _ => rfl) ⟨a0, rfl, ho, T_ki ?_⟩
    refine T.mono w (fun rr h_47 hw => ?_)
    obtain ⟨x_48, hr, w⟩ := hw
    refine ⟨x_48, hr, ?_⟩
    exact T_rz gX11_plain rfl rfl w.1 w.2
  rw [if_neg hc] at w
  refine sw_cons (fun hc => ?_) (fun hc => ?_)
  · rw [if_pos hc] at w
    refine T_run (n := 1) (pc' := 428) (lv' := [some (tR (some a0)), some (tI x1), some (tI x2), some (tI ((ai h a_1 ((gi h 640 a0) - 1).toNatClampNeg) + (ai h a_2 ((gi h 640 a0) - 1).toNatClampNeg)))]) (st' := [tR (some a0)]) (h' := h) gX11_plain rfl ?_
    refine T_kn (v := 2) gX11_plain rfl (by decide) ?_
    refine T_kn (v := 1) gX11_plain rfl (by decide) ?_
    obtain ⟨ho, w⟩ := w
    refine T_cv (fun aa => [some (tR (some aa)), some (tI 2), some (tI 1)]) gX11_plain rfl rfl rfl rfl (Nat.le_of_ble_eq_true rfl) gX11_turn (fun _ => Nat.le_of_ble_eq_true rfl) (fun _ => rfl) ⟨a0, rfl, ho, T_ki ?_⟩
    refine T.mono w (fun rr h_49 hw => ?_)
    obtain ⟨x_50, hr, w⟩ := hw
    refine ⟨x_50, hr, ?_⟩
    exact T_rz gX11_plain rfl rfl w.1 w.2
  rw [if_neg hc] at w
  refine sw_cons (fun hc => ?_) (fun hc => ?_)
  · rw [if_pos hc] at w
    refine T_run (n := 1) (pc' := 428) (lv' := [some (tR (some a0)), some (tI x1), some (tI x2), some (tI ((ai h a_1 ((gi h 640 a0) - 1).toNatClampNeg) + (ai h a_2 ((gi h 640 a0) - 1).toNatClampNeg)))]) (st' := [tR (some a0)]) (h' := h) gX11_plain rfl ?_
    refine T_kn (v := 2) gX11_plain rfl (by decide) ?_
    refine T_kn (v := 1) gX11_plain rfl (by decide) ?_
    obtain ⟨ho, w⟩ := w
    refine T_cv (fun aa => [some (tR (some aa)), some (tI 2), some (tI 1)]) gX11_plain rfl rfl rfl rfl (Nat.le_of_ble_eq_true rfl) gX11_turn (fun _ => Nat.le_of_ble_eq_true rfl) (fun _ => rfl) ⟨a0, rfl, ho, T_ki ?_⟩
    refine T.mono w (fun rr h_51 hw => ?_)
    obtain ⟨x_52, hr, w⟩ := hw
    refine ⟨x_52, hr, ?_⟩
    exact T_rz gX11_plain rfl rfl w.1 w.2
  rw [if_neg hc] at w
  refine sw_cons (fun hc => ?_) (fun hc => ?_)
  · rw [if_pos hc] at w
    refine T_run (n := 1) (pc' := 428) (lv' := [some (tR (some a0)), some (tI x1), some (tI x2), some (tI ((ai h a_1 ((gi h 640 a0) - 1).toNatClampNeg) + (ai h a_2 ((gi h 640 a0) - 1).toNatClampNeg)))]) (st' := [tR (some a0)]) (h' := h) gX11_plain rfl ?_
    refine T_kn (v := 2) gX11_plain rfl (by decide) ?_
    refine T_kn (v := 1) gX11_plain rfl (by decide) ?_
    obtain ⟨ho, w⟩ := w
    refine T_cv (fun aa => [some (tR (some aa)), some (tI 2), some (tI 1)]) gX11_plain rfl rfl rfl rfl (Nat.le_of_ble_eq_true rfl) gX11_turn (fun _ => Nat.le_of_ble_eq_true rfl) (fun _ => rfl) ⟨a0, rfl, ho, T_ki ?_⟩
    refine T.mono w (fun rr h_53 hw => ?_)
    obtain ⟨x_54, hr, w⟩ := hw
    refine ⟨x_54, hr, ?_⟩
    exact T_rz gX11_plain rfl rfl w.1 w.2
  rw [if_neg hc] at w
  refine sw_cons (fun hc => ?_) (fun hc => ?_)
  · rw [if_pos hc] at w
    refine T_run (n := 1) (pc' := 428) (lv' := [some (tR (some a0)), some (tI x1), some (tI x2), some (tI ((ai h a_1 ((gi h 640 a0) - 1).toNatClampNeg) + (ai h a_2 ((gi h 640 a0) - 1).toNatClampNeg)))]) (st' := [tR (some a0)]) (h' := h) gX11_plain rfl ?_
    refine T_kn (v := 2) gX11_plain rfl (by decide) ?_
    refine T_kn (v := 1) gX11_plain rfl (by decide) ?_
    obtain ⟨ho, w⟩ := w
    refine T_cv (fun aa => [some (tR (some aa)), some (tI 2), some (tI 1)]) gX11_plain rfl rfl rfl rfl (Nat.le_of_ble_eq_true rfl) gX11_turn (fun _ => Nat.le_of_ble_eq_true rfl) (fun _ => rfl) ⟨a0, rfl, ho, T_ki ?_⟩
    refine T.mono w (fun rr h_55 hw => ?_)
    obtain ⟨x_56, hr, w⟩ := hw
    refine ⟨x_56, hr, ?_⟩
    exact T_rz gX11_plain rfl rfl w.1 w.2
  rw [if_neg hc] at w
  refine sw_cons (fun hc => ?_) (fun hc => ?_)
  · rw [if_pos hc] at w
    refine T_run (n := 1) (pc' := 428) (lv' := [some (tR (some a0)), some (tI x1), some (tI x2), some (tI ((ai h a_1 ((gi h 640 a0) - 1).toNatClampNeg) + (ai h a_2 ((gi h 640 a0) - 1).toNatClampNeg)))]) (st' := [tR (some a0)]) (h' := h) gX11_plain rfl ?_
    refine T_kn (v := 2) gX11_plain rfl (by decide) ?_
    refine T_kn (v := 1) gX11_plain rfl (by decide) ?_
    obtain ⟨ho, w⟩ := w
    refine T_cv (fun aa => [some (tR (some aa)), some (tI 2), some (tI 1)]) gX11_plain rfl rfl rfl rfl (Nat.le_of_ble_eq_true rfl) gX11_turn (fun _ => Nat.le_of_ble_eq_true rfl) (fun _ => rfl) ⟨a0, rfl, ho, T_ki ?_⟩
    refine T.mono w (fun rr h_57 hw => ?_)
    obtain ⟨x_58, hr, w⟩ := hw
    refine ⟨x_58, hr, ?_⟩
    exact T_rz gX11_plain rfl rfl w.1 w.2
  rw [if_neg hc] at w
  refine sw_cons (fun hc => ?_) (fun hc => ?_)
  · rw [if_pos hc] at w
    refine T_run (n := 1) (pc' := 428) (lv' := [some (tR (some a0)), some (tI x1), some (tI x2), some (tI ((ai h a_1 ((gi h 640 a0) - 1).toNatClampNeg) + (ai h a_2 ((gi h 640 a0) - 1).toNatClampNeg)))]) (st' := [tR (some a0)]) (h' := h) gX11_plain rfl ?_
    refine T_kn (v := 2) gX11_plain rfl (by decide) ?_
    refine T_kn (v := 1) gX11_plain rfl (by decide) ?_
    obtain ⟨ho, w⟩ := w
    refine T_cv (fun aa => [some (tR (some aa)), some (tI 2), some (tI 1)]) gX11_plain rfl rfl rfl rfl (Nat.le_of_ble_eq_true rfl) gX11_turn (fun _ => Nat.le_of_ble_eq_true rfl) (fun _ => rfl) ⟨a0, rfl, ho, T_ki ?_⟩
    refine T.mono w (fun rr h_59 hw => ?_)
    obtain ⟨x_60, hr, w⟩ := hw
    refine ⟨x_60, hr, ?_⟩
    exact T_rz gX11_plain rfl rfl w.1 w.2
  rw [if_neg hc] at w
  refine sw_cons (fun hc => ?_) (fun hc => ?_)
  · rw [if_pos hc] at w
    refine T_run (n := 1) (pc' := 428) (lv' := [some (tR (some a0)), some (tI x1), some (tI x2), some (tI ((ai h a_1 ((gi h 640 a0) - 1).toNatClampNeg) + (ai h a_2 ((gi h 640 a0) - 1).toNatClampNeg)))]) (st' := [tR (some a0)]) (h' := h) gX11_plain rfl ?_
    refine T_kn (v := 2) gX11_plain rfl (by decide) ?_
    refine T_kn (v := 1) gX11_plain rfl (by decide) ?_
    obtain ⟨ho, w⟩ := w
    refine T_cv (fun aa => [some (tR (some aa)), some (tI 2), some (tI 1)]) gX11_plain rfl rfl rfl rfl (Nat.le_of_ble_eq_true rfl) gX11_turn (fun _ => Nat.le_of_ble_eq_true rfl) (fun _ => rfl) ⟨a0, rfl, ho, T_ki ?_⟩
    refine T.mono w (fun rr h_61 hw => ?_)
    obtain ⟨x_62, hr, w⟩ := hw
    refine ⟨x_62, hr, ?_⟩
    exact T_rz gX11_plain rfl rfl w.1 w.2
  rw [if_neg hc] at w
  refine sw_cons (fun hc => ?_) (fun hc => ?_)
  · rw [if_pos hc] at w
    refine T_run (n := 1) (pc' := 428) (lv' := [some (tR (some a0)), some (tI x1), some (tI x2), some (tI ((ai h a_1 ((gi h 640 a0) - 1).toNatClampNeg) + (ai h a_2 ((gi h 640 a0) - 1).toNatClampNeg)))]) (st' := [tR (some a0)]) (h' := h) gX11_plain rfl ?_
    refine T_kn (v := 2) gX11_plain rfl (by decide) ?_
    refine T_kn (v := 1) gX11_plain rfl (by decide) ?_
    obtain ⟨ho, w⟩ := w
    refine T_cv (fun aa => [some (tR (some aa)), some (tI 2), some (tI 1)]) gX11_plain rfl rfl rfl rfl (Nat.le_of_ble_eq_true rfl) gX11_turn (fun _ => Nat.le_of_ble_eq_true rfl) (fun _ => rfl) ⟨a0, rfl, ho, T_ki ?_⟩
    refine T.mono w (fun rr h_63 hw => ?_)
    obtain ⟨x_64, hr, w⟩ := hw
    refine ⟨x_64, hr, ?_⟩
    exact T_rz gX11_plain rfl rfl w.1 w.2
  rw [if_neg hc] at w
  refine sw_cons (fun hc => ?_) (fun hc => ?_)
  · rw [if_pos hc] at w
    refine T_run (n := 1) (pc' := 428) (lv' := [some (tR (some a0)), some (tI x1), some (tI x2), some (tI ((ai h a_1 ((gi h 640 a0) - 1).toNatClampNeg) + (ai h a_2 ((gi h 640 a0) - 1).toNatClampNeg)))]) (st' := [tR (some a0)]) (h' := h) gX11_plain rfl ?_
    refine T_kn (v := 2) gX11_plain rfl (by decide) ?_
    refine T_kn (v := 1) gX11_plain rfl (by decide) ?_
    obtain ⟨ho, w⟩ := w
    refine T_cv (fun aa => [some (tR (some aa)), some (tI 2), some (tI 1)]) gX11_plain rfl rfl rfl rfl (Nat.le_of_ble_eq_true rfl) gX11_turn (fun _ => Nat.le_of_ble_eq_true rfl) (fun _ => rfl) ⟨a0, rfl, ho, T_ki ?_⟩
    refine T.mono w (fun rr h_65 hw => ?_)
    obtain ⟨x_66, hr, w⟩ := hw
    refine ⟨x_66, hr, ?_⟩
    exact T_rz gX11_plain rfl rfl w.1 w.2
  rw [if_neg hc] at w
  refine sw_cons (fun hc => ?_) (fun hc => ?_)
  · rw [if_pos hc] at w
    refine T_run (n := 1) (pc' := 428) (lv' := [some (tR (some a0)), some (tI x1), some (tI x2), some (tI ((ai h a_1 ((gi h 640 a0) - 1).toNatClampNeg) + (ai h a_2 ((gi h 640 a0) - 1).toNatClampNeg)))]) (st' := [tR (some a0)]) (h' := h) gX11_plain rfl ?_
    refine T_kn (v := 2) gX11_plain rfl (by decide) ?_
    refine T_kn (v := 1) gX11_plain rfl (by decide) ?_
    obtain ⟨ho, w⟩ := w
    refine T_cv (fun aa => [some (tR (some aa)), some (tI 2), some (tI 1)]) gX11_plain rfl rfl rfl rfl (Nat.le_of_ble_eq_true rfl) gX11_turn (fun _ => Nat.le_of_ble_eq_true rfl) (fun _ => rfl) ⟨a0, rfl, ho, T_ki ?_⟩
    refine T.mono w (fun rr h_67 hw => ?_)
    obtain ⟨x_68, hr, w⟩ := hw
    refine ⟨x_68, hr, ?_⟩
    exact T_rz gX11_plain rfl rfl w.1 w.2
  rw [if_neg hc] at w
  refine sw_cons (fun hc => ?_) (fun hc => ?_)
  · rw [if_pos hc] at w
    refine T_run (n := 1) (pc' := 421) (lv' := [some (tR (some a0)), some (tI x1), some (tI x2), some (tI ((ai h a_1 ((gi h 640 a0) - 1).toNatClampNeg) + (ai h a_2 ((gi h 640 a0) - 1).toNatClampNeg)))]) (st' := [tR (some a0)]) (h' := h) gX11_plain rfl ?_
    refine T_kn (v := 1) gX11_plain rfl (by decide) ?_
    refine T_kn (v := 1) gX11_plain rfl (by decide) ?_
    obtain ⟨ho, w⟩ := w
    refine T_cv (fun aa => [some (tR (some aa)), some (tI 1), some (tI 1)]) gX11_plain rfl rfl rfl rfl (Nat.le_of_ble_eq_true rfl) gX11_turn (fun _ => Nat.le_of_ble_eq_true rfl) (fun _ => rfl) ⟨a0, rfl, ho, T_ki ?_⟩
    refine T.mono w (fun rr h_69 hw => ?_)
    obtain ⟨x_70, hr, w⟩ := hw
    refine ⟨x_70, hr, ?_⟩
    exact T_rz gX11_plain rfl rfl w.1 w.2
  rw [if_neg hc] at w
  refine sw_cons (fun hc => ?_) (fun hc => ?_)
  · rw [if_pos hc] at w
    refine T_run (n := 1) (pc' := 421) (lv' := [some (tR (some a0)), some (tI x1), some (tI x2), some (tI ((ai h a_1 ((gi h 640 a0) - 1).toNatClampNeg) + (ai h a_2 ((gi h 640 a0) - 1).toNatClampNeg)))]) (st' := [tR (some a0)]) (h' := h) gX11_plain rfl ?_
    refine T_kn (v := 1) gX11_plain rfl (by decide) ?_
    refine T_kn (v := 1) gX11_plain rfl (by decide) ?_
    obtain ⟨ho, w⟩ := w
    refine T_cv (fun aa => [some (tR (some aa)), some (tI 1), some (tI 1)]) gX11_plain rfl rfl rfl rfl (Nat.le_of_ble_eq_true rfl) gX11_turn (fun _ => Nat.le_of_ble_eq_true rfl) (fun _ => rfl) ⟨a0, rfl, ho, T_ki ?_⟩
    refine T.mono w (fun rr h_71 hw => ?_)
    obtain ⟨x_72, hr, w⟩ := hw
    refine ⟨x_72, hr, ?_⟩
    exact T_rz gX11_plain rfl rfl w.1 w.2
  rw [if_neg hc] at w
  refine T_run (n := 1) (pc' := 435) (lv' := [some (tR (some a0)), some (tI x1), some (tI x2), some (tI ((ai h a_1 ((gi h 640 a0) - 1).toNatClampNeg) + (ai h a_2 ((gi h 640 a0) - 1).toNatClampNeg)))]) (st' := [tI x1]) (h' := h) gX11_plain rfl ?_
  refine T_kb (v := 40) gX11_plain rfl (by decide) ?_
  refine T_run (n := 1) (pc' := 438) (lv' := [some (tR (some a0)), some (tI x1), some (tI x2), some (tI ((ai h a_1 ((gi h 640 a0) - 1).toNatClampNeg) + (ai h a_2 ((gi h 640 a0) - 1).toNatClampNeg)))]) (st' := [tI (x1 - 40)]) (h' := h) gX11_plain rfl ?_
  refine T_kb (v := 13) gX11_plain rfl (by decide) ?_
  refine T_cs (lv' := [some (tI (x1 - 40)), some (tI 13)]) gX11_plain rfl rfl rfl rfl (Nat.le_of_ble_eq_true rfl) gX11_within (Nat.le_of_ble_eq_true rfl) rfl (T_ki ?_)
  refine T.mono w (fun rr h_73 hw => ?_)
  obtain ⟨x_74, hr, w⟩ := hw
  refine ⟨x_74, hr, ?_⟩
  replace w := c_eq w
  refine T_if (tgt := 455) gX11_plain rfl (by decide) (fun hc => ?_) (fun hc => ?_)
  · replace w := w.1 hc
    refine T_run (n := 1) (pc' := 456) (lv' := [some (tR (some a0)), some (tI x1), some (tI x2), some (tI ((ai h a_1 ((gi h 640 a0) - 1).toNatClampNeg) + (ai h a_2 ((gi h 640 a0) - 1).toNatClampNeg)))]) (st' := [tI x1]) (h' := h_73) gX11_plain rfl ?_
    refine T_kb (v := 54) gX11_plain rfl (by decide) ?_
    refine T_run (n := 1) (pc' := 459) (lv' := [some (tR (some a0)), some (tI x1), some (tI x2), some (tI ((ai h a_1 ((gi h 640 a0) - 1).toNatClampNeg) + (ai h a_2 ((gi h 640 a0) - 1).toNatClampNeg)))]) (st' := [tI (x1 - 54)]) (h' := h_73) gX11_plain rfl ?_
    refine T_kb (v := 8) gX11_plain rfl (by decide) ?_
    refine T_cs (lv' := [some (tI (x1 - 54)), some (tI 8)]) gX11_plain rfl rfl rfl rfl (Nat.le_of_ble_eq_true rfl) gX11_within (Nat.le_of_ble_eq_true rfl) rfl (T_ki ?_)
    refine T.mono w (fun rr h_75 hw => ?_)
    obtain ⟨x_76, hr, w⟩ := hw
    refine ⟨x_76, hr, ?_⟩
    replace w := c_eq w
    refine T_if (tgt := 480) gX11_plain rfl (by decide) (fun hc => ?_) (fun hc => ?_)
    · replace w := w.1 hc
      refine T_kn (v := 0) gX11_plain rfl (by decide) ?_
      exact T_rz gX11_plain rfl rfl (Or.inl rfl) w
    · replace w := w.2 hc
      refine T_run (n := 1) (pc' := 468) (lv' := [some (tR (some a0)), some (tI x1), some (tI x2), some (tI ((ai h a_1 ((gi h 640 a0) - 1).toNatClampNeg) + (ai h a_2 ((gi h 640 a0) - 1).toNatClampNeg)))]) (st' := [tR (some a0)]) (h' := h_75) gX11_plain rfl ?_
      refine T_kn (v := 2) gX11_plain rfl (by decide) ?_
      refine T_kn (v := 0) gX11_plain rfl (by decide) ?_
      obtain ⟨ho, w⟩ := w
      refine T_cv (fun aa => [some (tR (some aa)), some (tI 2), some (tI 0)]) gX11_plain rfl rfl rfl rfl (Nat.le_of_ble_eq_true rfl) gX11_turn (fun _ => Nat.le_of_ble_eq_true rfl) (fun _ => rfl) ⟨a0, rfl, ho, T_ki ?_⟩
      refine T.mono w (fun rr h_77 hw => ?_)
      obtain ⟨x_78, hr, w⟩ := hw
      refine ⟨x_78, hr, ?_⟩
      replace w := c_eq w
      refine T_if (tgt := 480) gX11_plain rfl (by decide) (fun hc => ?_) (fun hc => ?_)
      · replace w := w.1 hc
        refine T_kn (v := 0) gX11_plain rfl (by decide) ?_
        exact T_rz gX11_plain rfl rfl (Or.inl rfl) w
      · replace w := w.2 hc
        refine T_kn (v := 1) gX11_plain rfl (by decide) ?_
        refine T_goto (tgt := 481) gX11_plain rfl (by decide) ?_
        exact T_rz gX11_plain rfl rfl (Or.inr rfl) w
  · replace w := w.2 hc
    refine T_run (n := 1) (pc' := 447) (lv' := [some (tR (some a0)), some (tI x1), some (tI x2), some (tI ((ai h a_1 ((gi h 640 a0) - 1).toNatClampNeg) + (ai h a_2 ((gi h 640 a0) - 1).toNatClampNeg)))]) (st' := [tR (some a0)]) (h' := h_73) gX11_plain rfl ?_
    refine T_kn (v := 1) gX11_plain rfl (by decide) ?_
    refine T_kn (v := 1) gX11_plain rfl (by decide) ?_
    obtain ⟨ho, w⟩ := w
    refine T_cv (fun aa => [some (tR (some aa)), some (tI 1), some (tI 1)]) gX11_plain rfl rfl rfl rfl (Nat.le_of_ble_eq_true rfl) gX11_turn (fun _ => Nat.le_of_ble_eq_true rfl) (fun _ => rfl) ⟨a0, rfl, ho, T_ki ?_⟩
    refine T.mono w (fun rr h_79 hw => ?_)
    obtain ⟨x_80, hr, w⟩ := hw
    refine ⟨x_80, hr, ?_⟩
    refine T_goto (tgt := 481) gX11_plain rfl (by decide) ?_
    exact T_rz gX11_plain rfl rfl w.1 w.2
set_option maxHeartbeats 4000000 in
set_option maxRecDepth 20000 in
theorem wX11_code (a0 : Nat) (x1 : Int32) (x2 : Int32) (x3 : Int32) (h : Hp) (Q : Option TV → Hp → Prop) (w :
ob h a0 10 (
(if (gi h 642 a0) = 0 then
Q (some (tI (-1))) h
else
ob h a0 10 (
(if (gi h 641 a0) = 1500 then
Q (some (tI (-1))) h
else
ob h a0 10 (
(if 0 < (gi h 654 a0) then
(if x1 = 6 then
tX11_code_43 a0 x1 x2 x3 h Q
else
Q (some (tI (-1))) h)
else
(if x1 = 6 then
Q (some (tI (-1))) h
else
tX11_code_43 a0 x1 x2 x3 h Q)))))))) : tX11_code a0 x1 x2 x3 h Q := by
  refine T_run (n := 1) (pc' := 1) (lv' := [some (tR (some a0)), some (tI x1), some (tI x2), some (tI x3), none, none, none]) (st' := [tR (some a0)]) (h' := h) gX11_code rfl ?_
  obtain ⟨ho, w⟩ := w
  refine T_gs (tI (gi h 642 a0)) gX11_code rfl rfl ⟨ho, ?_⟩
  replace w := c_eq w
  refine T_if (tgt := 17) gX11_code rfl (by decide) (fun hc => ?_) (fun hc => ?_)
  · replace w := w.1 hc
    refine T_kn (v := (-1)) gX11_code rfl (by decide) ?_
    exact T_ri gX11_code rfl rfl w
  · replace w := w.2 hc
    refine T_run (n := 1) (pc' := 8) (lv' := [some (tR (some a0)), some (tI x1), some (tI x2), some (tI x3), none, none, none]) (st' := [tR (some a0)]) (h' := h) gX11_code rfl ?_
    obtain ⟨ho, w⟩ := w
    refine T_gs (tI (gi h 641 a0)) gX11_code rfl rfl ⟨ho, ?_⟩
    refine T_ks (v := 1500) gX11_code rfl (by decide) ?_
    replace w := c_ne w
    refine T_ic (tgt := 19) gX11_code rfl (by decide) (fun hc => ?_) (fun hc => ?_)
    · replace w := w.1 hc
      refine T_run (n := 1) (pc' := 20) (lv' := [some (tR (some a0)), some (tI x1), some (tI x2), some (tI x3), none, none, none]) (st' := [tR (some a0)]) (h' := h) gX11_code rfl ?_
      obtain ⟨ho, w⟩ := w
      refine T_gs (tI (gi h 654 a0)) gX11_code rfl rfl ⟨ho, ?_⟩
      replace w := c_le w
      refine T_if (tgt := 35) gX11_code rfl (by decide) (fun hc => ?_) (fun hc => ?_)
      · replace w := w.1 hc
        refine T_run (n := 1) (pc' := 36) (lv' := [some (tR (some a0)), some (tI x1), some (tI x2), some (tI x3), none, none, none]) (st' := [tI x1]) (h' := h) gX11_code rfl ?_
        refine T_kb (v := 6) gX11_code rfl (by decide) ?_
        replace w := c_ne w
        refine T_ic (tgt := 43) gX11_code rfl (by decide) (fun hc => ?_) (fun hc => ?_)
        · replace w := w.1 hc
          exact w
        · replace w := w.2 hc
          refine T_kn (v := (-1)) gX11_code rfl (by decide) ?_
          exact T_ri gX11_code rfl rfl w
      · replace w := w.2 hc
        refine T_run (n := 1) (pc' := 27) (lv' := [some (tR (some a0)), some (tI x1), some (tI x2), some (tI x3), none, none, none]) (st' := [tI x1]) (h' := h) gX11_code rfl ?_
        refine T_kb (v := 6) gX11_code rfl (by decide) ?_
        replace w := c_eq w
        refine T_ic (tgt := 43) gX11_code rfl (by decide) (fun hc => ?_) (fun hc => ?_)
        · replace w := w.1 hc
          exact w
        · replace w := w.2 hc
          refine T_goto (tgt := 41) gX11_code rfl (by decide) ?_
          refine T_kn (v := (-1)) gX11_code rfl (by decide) ?_
          exact T_ri gX11_code rfl rfl w
    · replace w := w.2 hc
      refine T_kn (v := (-1)) gX11_code rfl (by decide) ?_
      exact T_ri gX11_code rfl rfl w
set_option maxHeartbeats 4000000 in
set_option maxRecDepth 20000 in
theorem wX11_code_43 (a0 : Nat) (x1 : Int32) (x2 : Int32) (x3 : Int32) (h : Hp) (Q : Option TV → Hp → Prop) (w :
(if x1 = 6 then
ob h a0 10 (tX11_entryTo a0 x2 h (rI (fun x_6 h_5 =>
tX11_code_108 a0 x1 x2 x3 x_6 h_5 Q)))
else
(if x1 < 6 then
tX11_code_80 a0 x1 x2 x3 h Q
else
(if x1 = 11 then
tX11_code_80 a0 x1 x2 x3 h Q
else
tX11_within (x1 - 12) 5 h (rI (fun x_2 h_1 =>
(if x_2 = 0 then
ob h_1 a0 10 (tX11_plain a0 x1 x2 h_1 (rI (fun x_4 h_3 =>
tX11_code_108 a0 x1 x2 x3 x_4 h_3 Q)))
else
tX11_code_80 a0 x1 x2 x3 h_1 Q))))))) : tX11_code_43 a0 x1 x2 x3 h Q := by
  refine T_run (n := 1) (pc' := 44) (lv' := [some (tR (some a0)), some (tI x1), some (tI x2), some (tI x3), none, none, none]) (st' := [tI x1]) (h' := h) gX11_code rfl ?_
  refine T_kb (v := 6) gX11_code rfl (by decide) ?_
  replace w := c_ne w
  refine T_ic (tgt := 57) gX11_code rfl (by decide) (fun hc => ?_) (fun hc => ?_)
  · replace w := w.1 hc
    refine T_run (n := 1) (pc' := 58) (lv' := [some (tR (some a0)), some (tI x1), some (tI x2), some (tI x3), none, none, none]) (st' := [tI x1]) (h' := h) gX11_code rfl ?_
    refine T_kb (v := 6) gX11_code rfl (by decide) ?_
    replace w := c_lt w
    refine T_ic (tgt := 80) gX11_code rfl (by decide) (fun hc => ?_) (fun hc => ?_)
    · replace w := w.1 hc
      exact w
    · replace w := w.2 hc
      refine T_run (n := 1) (pc' := 64) (lv' := [some (tR (some a0)), some (tI x1), some (tI x2), some (tI x3), none, none, none]) (st' := [tI x1]) (h' := h) gX11_code rfl ?_
      refine T_kb (v := 11) gX11_code rfl (by decide) ?_
      replace w := c_eq w
      refine T_ic (tgt := 80) gX11_code rfl (by decide) (fun hc => ?_) (fun hc => ?_)
      · replace w := w.1 hc
        exact w
      · replace w := w.2 hc
        refine T_run (n := 1) (pc' := 70) (lv' := [some (tR (some a0)), some (tI x1), some (tI x2), some (tI x3), none, none, none]) (st' := [tI x1]) (h' := h) gX11_code rfl ?_
        refine T_kb (v := 12) gX11_code rfl (by decide) ?_
        refine T_run (n := 1) (pc' := 73) (lv' := [some (tR (some a0)), some (tI x1), some (tI x2), some (tI x3), none, none, none]) (st' := [tI (x1 - 12)]) (h' := h) gX11_code rfl ?_
        refine T_kn (v := 5) gX11_code rfl (by decide) ?_
        refine T_cs (lv' := [some (tI (x1 - 12)), some (tI 5)]) gX11_code rfl rfl rfl rfl (Nat.le_of_ble_eq_true rfl) gX11_within (Nat.le_of_ble_eq_true rfl) rfl (T_ki ?_)
        refine T.mono w (fun rr h_1 hw => ?_)
        obtain ⟨x_2, hr, w⟩ := hw
        refine ⟨x_2, hr, ?_⟩
        replace w := c_eq w
        refine T_if (tgt := 102) gX11_code rfl (by decide) (fun hc => ?_) (fun hc => ?_)
        · replace w := w.1 hc
          refine T_run (n := 3) (pc' := 105) (lv' := [some (tR (some a0)), some (tI x1), some (tI x2), some (tI x3), none, none, none]) (st' := [tI x2, tI x1, tR (some a0)]) (h' := h_1) gX11_code rfl ?_
          obtain ⟨ho, w⟩ := w
          refine T_cv (fun aa => [some (tR (some aa)), some (tI x1), some (tI x2), none]) gX11_code rfl rfl rfl rfl (Nat.le_of_ble_eq_true rfl) gX11_plain (fun _ => Nat.le_of_ble_eq_true rfl) (fun _ => rfl) ⟨a0, rfl, ho, T_ki ?_⟩
          refine T.mono w (fun rr h_3 hw => ?_)
          obtain ⟨x_4, hr, w⟩ := hw
          refine ⟨x_4, hr, ?_⟩
          exact w
        · replace w := w.2 hc
          exact w
  · replace w := w.2 hc
    refine T_run (n := 2) (pc' := 51) (lv' := [some (tR (some a0)), some (tI x1), some (tI x2), some (tI x3), none, none, none]) (st' := [tI x2, tR (some a0)]) (h' := h) gX11_code rfl ?_
    obtain ⟨ho, w⟩ := w
    refine T_cv (fun aa => [some (tR (some aa)), some (tI x2)]) gX11_code rfl rfl rfl rfl (Nat.le_of_ble_eq_true rfl) gX11_entryTo (fun _ => Nat.le_of_ble_eq_true rfl) (fun _ => rfl) ⟨a0, rfl, ho, T_ki ?_⟩
    refine T.mono w (fun rr h_5 hw => ?_)
    obtain ⟨x_6, hr, w⟩ := hw
    refine ⟨x_6, hr, ?_⟩
    refine T_goto (tgt := 108) gX11_code rfl (by decide) ?_
    exact w
set_option maxHeartbeats 4000000 in
set_option maxRecDepth 20000 in
theorem wX11_code_80 (a0 : Nat) (x1 : Int32) (x2 : Int32) (x3 : Int32) (h : Hp) (Q : Option TV → Hp → Prop) (w :
(if x1 < 0 then
tX11_code_98 a0 x1 x2 x3 h Q
else
ob h a0 10 (tX11_control a0 x1 x2 x3 h (rI (fun x_2 h_1 =>
(if x_2 = 0 then
tX11_code_98 a0 x1 x2 x3 h_1 Q
else
tX11_code_108 a0 x1 x2 x3 1 h_1 Q)))))) : tX11_code_80 a0 x1 x2 x3 h Q := by
  refine T_run (n := 1) (pc' := 81) (lv' := [some (tR (some a0)), some (tI x1), some (tI x2), some (tI x3), none, none, none]) (st' := [tI x1]) (h' := h) gX11_code rfl ?_
  replace w := c_lt w
  refine T_if (tgt := 98) gX11_code rfl (by decide) (fun hc => ?_) (fun hc => ?_)
  · replace w := w.1 hc
    exact w
  · replace w := w.2 hc
    refine T_run (n := 4) (pc' := 88) (lv' := [some (tR (some a0)), some (tI x1), some (tI x2), some (tI x3), none, none, none]) (st' := [tI x3, tI x2, tI x1, tR (some a0)]) (h' := h) gX11_code rfl ?_
    obtain ⟨ho, w⟩ := w
    refine T_cv (fun aa => [some (tR (some aa)), some (tI x1), some (tI x2), some (tI x3)]) gX11_code rfl rfl rfl rfl (Nat.le_of_ble_eq_true rfl) gX11_control (fun _ => Nat.le_of_ble_eq_true rfl) (fun _ => rfl) ⟨a0, rfl, ho, T_ki ?_⟩
    refine T.mono w (fun rr h_1 hw => ?_)
    obtain ⟨x_2, hr, w⟩ := hw
    refine ⟨x_2, hr, ?_⟩
    replace w := c_eq w
    refine T_if (tgt := 98) gX11_code rfl (by decide) (fun hc => ?_) (fun hc => ?_)
    · replace w := w.1 hc
      exact w
    · replace w := w.2 hc
      refine T_kn (v := 1) gX11_code rfl (by decide) ?_
      refine T_goto (tgt := 108) gX11_code rfl (by decide) ?_
      exact w
set_option maxHeartbeats 4000000 in
set_option maxRecDepth 20000 in
theorem wX11_code_98 (a0 : Nat) (x1 : Int32) (x2 : Int32) (x3 : Int32) (h : Hp) (Q : Option TV → Hp → Prop) (w :
tX11_code_108 a0 x1 x2 x3 0 h Q) : tX11_code_98 a0 x1 x2 x3 h Q := by
  refine T_kn (v := 0) gX11_code rfl (by decide) ?_
  refine T_goto (tgt := 108) gX11_code rfl (by decide) ?_
  exact w
set_option maxHeartbeats 4000000 in
set_option maxRecDepth 20000 in
theorem wX11_code_108 (a0 : Nat) (x1 : Int32) (x2 : Int32) (x3 : Int32) (s0 : Int32) (h : Hp) (Q : Option TV → Hp → Prop) (w :
(if s0 = 0 then
Q (some (tI (-1))) h
else
ob h a0 10 (
ob h a0 10 (
dr (gr h 649 a0) (fun a_1 => ix h kIs a_1 (gi h 641 a0) (∀ h_2, h_2 = si h a_1 (gi h 641 a0).toNatClampNeg x1 →
ob h_2 a0 10 (
ob h_2 a0 10 (
dr (gr h_2 650 a0) (fun a_3 => ix h_2 kIs a_3 (gi h_2 641 a0) (∀ h_4, h_4 = si h_2 a_3 (gi h_2 641 a0).toNatClampNeg x2 →
ob h_4 a0 10 (
ob h_4 a0 10 (
dr (gr h_4 651 a0) (fun a_5 => ix h_4 kIs a_5 (gi h_4 641 a0) (∀ h_6, h_6 = si h_4 a_5 (gi h_4 641 a0).toNatClampNeg x3 →
ob h_6 a0 10 (
ob h_6 a0 10 (∀ h_7, h_7 = pi h_6 641 a0 ((gi h_6 641 a0) + 1) →
ob h_7 a0 10 (
ob h_7 a0 10 (
ob h_7 a0 10 (
ob h_7 a0 10 (
dr (gr h_7 643 a0) (fun a_8 => ix h_7 kI a_8 ((gi h_7 640 a0) - 1) (
dr (gr h_7 644 a0) (fun a_9 => ix h_7 kIs a_9 ((gi h_7 640 a0) - 1) (∀ h_10, h_10 = si h_7 a_9 ((gi h_7 640 a0) - 1).toNatClampNeg ((gi h_7 641 a0) - (ai h_7 a_8 ((gi h_7 640 a0) - 1).toNatClampNeg)) →
ob h_10 a0 10 (
(if (gi h_10 653 a0) = 0 then
ob h_10 a0 10 (∀ h_23, h_23 = pi h_10 642 a0 0 →
ob h_23 a0 10 (
Q (some (tI (gi h_23 641 a0))) h_23))
else
ob h_10 a0 10 (
ob h_10 a0 10 (tX11_inner a0  h_10 (rI (fun x_12 h_11 =>
dr (gr h_10 660 a0) (fun a_13 => ix h_11 kI a_13 x_12 (
ob h_11 a0 10 (
ob h_11 a0 10 (tX11_inner a0  h_11 (rI (fun x_15 h_14 =>
dr (gr h_11 661 a0) (fun a_16 => ix h_14 kI a_16 x_15 (
ob h_14 a0 10 (
ob h_14 a0 10 (
dr (gr h_14 648 a0) (fun a_17 => ix h_14 kI a_17 ((gi h_7 640 a0) - 1) (
(if (ai h_14 a_17 ((gi h_7 640 a0) - 1).toNatClampNeg) < ((ai h_11 a_13 x_12.toNatClampNeg) + (ai h_14 a_16 x_15.toNatClampNeg)) then
dr (gr h_14 648 a0) (fun a_21 => ix h_14 kIs a_21 ((gi h_7 640 a0) - 1) (∀ h_22, h_22 = si h_14 a_21 ((gi h_7 640 a0) - 1).toNatClampNeg ((ai h_11 a_13 x_12.toNatClampNeg) + (ai h_14 a_16 x_15.toNatClampNeg)) →
ob h_22 a0 10 (
Q (some (tI (gi h_22 641 a0))) h_22)))
else
ob h_14 a0 10 (
dr (gr h_14 648 a0) (fun a_18 => ix h_14 kI a_18 ((gi h_7 640 a0) - 1) (
dr (gr h_14 648 a0) (fun a_19 => ix h_14 kIs a_19 ((gi h_7 640 a0) - 1) (∀ h_20, h_20 = si h_14 a_19 ((gi h_7 640 a0) - 1).toNatClampNeg (ai h_14 a_18 ((gi h_7 640 a0) - 1).toNatClampNeg) →
ob h_20 a0 10 (
Q (some (tI (gi h_20 641 a0))) h_20))))))))))))))))))))))))))))))))))))))))))))))))) : tX11_code_108 a0 x1 x2 x3 s0 h Q := by
  refine T_run (n := 2) (pc' := 112) (lv' := [some (tR (some a0)), some (tI x1), some (tI x2), some (tI x3), some (tI s0), none, none]) (st' := [tI s0]) (h' := h) gX11_code rfl ?_
  replace w := c_ne w
  refine T_if (tgt := 117) gX11_code rfl (by decide) (fun hc => ?_) (fun hc => ?_)
  · replace w := w.1 hc
    refine T_run (n := 1) (pc' := 118) (lv' := [some (tR (some a0)), some (tI x1), some (tI x2), some (tI x3), some (tI s0), none, none]) (st' := [tR (some a0)]) (h' := h) gX11_code rfl ?_
    obtain ⟨ho, w⟩ := w
    refine T_gs (tR (gr h 649 a0)) gX11_code rfl rfl ⟨ho, ?_⟩
    refine T_run (n := 1) (pc' := 122) (lv' := [some (tR (some a0)), some (tI x1), some (tI x2), some (tI x3), some (tI s0), none, none]) (st' := [tR (some a0), tR (gr h 649 a0)]) (h' := h) gX11_code rfl ?_
    obtain ⟨ho, w⟩ := w
    refine T_gs (tI (gi h 641 a0)) gX11_code rfl rfl ⟨ho, ?_⟩
    refine T_run (n := 1) (pc' := 126) (lv' := [some (tR (some a0)), some (tI x1), some (tI x2), some (tI x3), some (tI s0), none, none]) (st' := [tI x1, tI (gi h 641 a0), tR (gr h 649 a0)]) (h' := h) gX11_code rfl ?_
    obtain ⟨a_1, hr, tt, nn, ht, hk, hj, w⟩ := w
    refine T_ias gX11_code rfl ⟨a_1, hr, tt, nn, ht, hk, hj, fun h_2 he => ?_⟩
    replace w := w h_2 he
    refine T_run (n := 1) (pc' := 128) (lv' := [some (tR (some a0)), some (tI x1), some (tI x2), some (tI x3), some (tI s0), none, none]) (st' := [tR (some a0)]) (h' := h_2) gX11_code rfl ?_
    obtain ⟨ho, w⟩ := w
    refine T_gs (tR (gr h_2 650 a0)) gX11_code rfl rfl ⟨ho, ?_⟩
    refine T_run (n := 1) (pc' := 132) (lv' := [some (tR (some a0)), some (tI x1), some (tI x2), some (tI x3), some (tI s0), none, none]) (st' := [tR (some a0), tR (gr h_2 650 a0)]) (h' := h_2) gX11_code rfl ?_
    obtain ⟨ho, w⟩ := w
    refine T_gs (tI (gi h_2 641 a0)) gX11_code rfl rfl ⟨ho, ?_⟩
    refine T_run (n := 1) (pc' := 136) (lv' := [some (tR (some a0)), some (tI x1), some (tI x2), some (tI x3), some (tI s0), none, none]) (st' := [tI x2, tI (gi h_2 641 a0), tR (gr h_2 650 a0)]) (h' := h_2) gX11_code rfl ?_
    obtain ⟨a_3, hr, tt, nn, ht, hk, hj, w⟩ := w
    refine T_ias gX11_code rfl ⟨a_3, hr, tt, nn, ht, hk, hj, fun h_4 he => ?_⟩
    replace w := w h_4 he
    refine T_run (n := 1) (pc' := 138) (lv' := [some (tR (some a0)), some (tI x1), some (tI x2), some (tI x3), some (tI s0), none, none]) (st' := [tR (some a0)]) (h' := h_4) gX11_code rfl ?_
    obtain ⟨ho, w⟩ := w
    refine T_gs (tR (gr h_4 651 a0)) gX11_code rfl rfl ⟨ho, ?_⟩
    refine T_run (n := 1) (pc' := 142) (lv' := [some (tR (some a0)), some (tI x1), some (tI x2), some (tI x3), some (tI s0), none, none]) (st' := [tR (some a0), tR (gr h_4 651 a0)]) (h' := h_4) gX11_code rfl ?_
    obtain ⟨ho, w⟩ := w
    refine T_gs (tI (gi h_4 641 a0)) gX11_code rfl rfl ⟨ho, ?_⟩
    refine T_run (n := 1) (pc' := 146) (lv' := [some (tR (some a0)), some (tI x1), some (tI x2), some (tI x3), some (tI s0), none, none]) (st' := [tI x3, tI (gi h_4 641 a0), tR (gr h_4 651 a0)]) (h' := h_4) gX11_code rfl ?_
    obtain ⟨a_5, hr, tt, nn, ht, hk, hj, w⟩ := w
    refine T_ias gX11_code rfl ⟨a_5, hr, tt, nn, ht, hk, hj, fun h_6 he => ?_⟩
    replace w := w h_6 he
    refine T_run (n := 2) (pc' := 149) (lv' := [some (tR (some a0)), some (tI x1), some (tI x2), some (tI x3), some (tI s0), none, none]) (st' := [tR (some a0), tR (some a0)]) (h' := h_6) gX11_code rfl ?_
    obtain ⟨ho, w⟩ := w
    refine T_gs (tI (gi h_6 641 a0)) gX11_code rfl rfl ⟨ho, ?_⟩
    refine T_kn (v := 1) gX11_code rfl (by decide) ?_
    refine T_run (n := 1) (pc' := 154) (lv' := [some (tR (some a0)), some (tI x1), some (tI x2), some (tI x3), some (tI s0), none, none]) (st' := [tI ((gi h_6 641 a0) + 1), tR (some a0)]) (h' := h_6) gX11_code rfl ?_
    obtain ⟨ho, w⟩ := w
    refine T_ps (pi h_6 641 a0 ((gi h_6 641 a0) + 1)) gX11_code rfl rfl ⟨ho, fun h_7 he => ?_⟩
    replace w := w h_7 he
    refine T_run (n := 1) (pc' := 158) (lv' := [some (tR (some a0)), some (tI x1), some (tI x2), some (tI x3), some (tI s0), none, none]) (st' := [tR (some a0)]) (h' := h_7) gX11_code rfl ?_
    obtain ⟨ho, w⟩ := w
    refine T_gs (tI (gi h_7 640 a0)) gX11_code rfl rfl ⟨ho, ?_⟩
    refine T_kn (v := 1) gX11_code rfl (by decide) ?_
    refine T_run (n := 3) (pc' := 166) (lv' := [some (tR (some a0)), some (tI x1), some (tI x2), some (tI x3), some (tI s0), some (tI ((gi h_7 640 a0) - 1)), none]) (st' := [tR (some a0)]) (h' := h_7) gX11_code rfl ?_
    obtain ⟨ho, w⟩ := w
    refine T_gs (tR (gr h_7 644 a0)) gX11_code rfl rfl ⟨ho, ?_⟩
    refine T_run (n := 2) (pc' := 172) (lv' := [some (tR (some a0)), some (tI x1), some (tI x2), some (tI x3), some (tI s0), some (tI ((gi h_7 640 a0) - 1)), none]) (st' := [tR (some a0), tI ((gi h_7 640 a0) - 1), tR (gr h_7 644 a0)]) (h' := h_7) gX11_code rfl ?_
    obtain ⟨ho, w⟩ := w
    refine T_gs (tI (gi h_7 641 a0)) gX11_code rfl rfl ⟨ho, ?_⟩
    refine T_run (n := 1) (pc' := 176) (lv' := [some (tR (some a0)), some (tI x1), some (tI x2), some (tI x3), some (tI s0), some (tI ((gi h_7 640 a0) - 1)), none]) (st' := [tR (some a0), tI (gi h_7 641 a0), tI ((gi h_7 640 a0) - 1), tR (gr h_7 644 a0)]) (h' := h_7) gX11_code rfl ?_
    obtain ⟨ho, w⟩ := w
    refine T_gs (tR (gr h_7 643 a0)) gX11_code rfl rfl ⟨ho, ?_⟩
    refine T_run (n := 1) (pc' := 181) (lv' := [some (tR (some a0)), some (tI x1), some (tI x2), some (tI x3), some (tI s0), some (tI ((gi h_7 640 a0) - 1)), none]) (st' := [tI ((gi h_7 640 a0) - 1), tR (gr h_7 643 a0), tI (gi h_7 641 a0), tI ((gi h_7 640 a0) - 1), tR (gr h_7 644 a0)]) (h' := h_7) gX11_code rfl ?_
    obtain ⟨a_8, hr, tt, nn, ht, hk, hj, w⟩ := w
    refine T_ial gX11_code rfl ⟨a_8, hr, tt, nn, ht, hk, hj, ?_⟩
    refine T_run (n := 1) (pc' := 183) (lv' := [some (tR (some a0)), some (tI x1), some (tI x2), some (tI x3), some (tI s0), some (tI ((gi h_7 640 a0) - 1)), none]) (st' := [tI ((gi h_7 641 a0) - (ai h_7 a_8 ((gi h_7 640 a0) - 1).toNatClampNeg)), tI ((gi h_7 640 a0) - 1), tR (gr h_7 644 a0)]) (h' := h_7) gX11_code rfl ?_
    obtain ⟨a_9, hr, tt, nn, ht, hk, hj, w⟩ := w
    refine T_ias gX11_code rfl ⟨a_9, hr, tt, nn, ht, hk, hj, fun h_10 he => ?_⟩
    replace w := w h_10 he
    refine T_run (n := 1) (pc' := 185) (lv' := [some (tR (some a0)), some (tI x1), some (tI x2), some (tI x3), some (tI s0), some (tI ((gi h_7 640 a0) - 1)), none]) (st' := [tR (some a0)]) (h' := h_10) gX11_code rfl ?_
    obtain ⟨ho, w⟩ := w
    refine T_gs (tI (gi h_10 653 a0)) gX11_code rfl rfl ⟨ho, ?_⟩
    replace w := c_ne w
    refine T_if (tgt := 199) gX11_code rfl (by decide) (fun hc => ?_) (fun hc => ?_)
    · replace w := w.1 hc
      refine T_run (n := 1) (pc' := 200) (lv' := [some (tR (some a0)), some (tI x1), some (tI x2), some (tI x3), some (tI s0), some (tI ((gi h_7 640 a0) - 1)), none]) (st' := [tR (some a0)]) (h' := h_10) gX11_code rfl ?_
      obtain ⟨ho, w⟩ := w
      refine T_gs (tR (gr h_10 660 a0)) gX11_code rfl rfl ⟨ho, ?_⟩
      refine T_run (n := 1) (pc' := 204) (lv' := [some (tR (some a0)), some (tI x1), some (tI x2), some (tI x3), some (tI s0), some (tI ((gi h_7 640 a0) - 1)), none]) (st' := [tR (some a0), tR (gr h_10 660 a0)]) (h' := h_10) gX11_code rfl ?_
      obtain ⟨ho, w⟩ := w
      refine T_cv (fun aa => [some (tR (some aa))]) gX11_code rfl rfl rfl rfl (Nat.le_of_ble_eq_true rfl) gX11_inner (fun _ => Nat.le_of_ble_eq_true rfl) (fun _ => rfl) ⟨a0, rfl, ho, T_ki ?_⟩
      refine T.mono w (fun rr h_11 hw => ?_)
      obtain ⟨x_12, hr, w⟩ := hw
      refine ⟨x_12, hr, ?_⟩
      obtain ⟨a_13, hr, tt, nn, ht, hk, hj, w⟩ := w
      refine T_ial gX11_code rfl ⟨a_13, hr, tt, nn, ht, hk, hj, ?_⟩
      refine T_run (n := 1) (pc' := 209) (lv' := [some (tR (some a0)), some (tI x1), some (tI x2), some (tI x3), some (tI s0), some (tI ((gi h_7 640 a0) - 1)), none]) (st' := [tR (some a0), tI (ai h_11 a_13 x_12.toNatClampNeg)]) (h' := h_11) gX11_code rfl ?_
      obtain ⟨ho, w⟩ := w
      refine T_gs (tR (gr h_11 661 a0)) gX11_code rfl rfl ⟨ho, ?_⟩
      refine T_run (n := 1) (pc' := 213) (lv' := [some (tR (some a0)), some (tI x1), some (tI x2), some (tI x3), some (tI s0), some (tI ((gi h_7 640 a0) - 1)), none]) (st' := [tR (some a0), tR (gr h_11 661 a0), tI (ai h_11 a_13 x_12.toNatClampNeg)]) (h' := h_11) gX11_code rfl ?_
      obtain ⟨ho, w⟩ := w
      refine T_cv (fun aa => [some (tR (some aa))]) gX11_code rfl rfl rfl rfl (Nat.le_of_ble_eq_true rfl) gX11_inner (fun _ => Nat.le_of_ble_eq_true rfl) (fun _ => rfl) ⟨a0, rfl, ho, T_ki ?_⟩
      refine T.mono w (fun rr h_14 hw => ?_)
      obtain ⟨x_15, hr, w⟩ := hw
      refine ⟨x_15, hr, ?_⟩
      obtain ⟨a_16, hr, tt, nn, ht, hk, hj, w⟩ := w
      refine T_ial gX11_code rfl ⟨a_16, hr, tt, nn, ht, hk, hj, ?_⟩
      refine T_run (n := 3) (pc' := 221) (lv' := [some (tR (some a0)), some (tI x1), some (tI x2), some (tI x3), some (tI s0), some (tI ((gi h_7 640 a0) - 1)), some (tI ((ai h_11 a_13 x_12.toNatClampNeg) + (ai h_14 a_16 x_15.toNatClampNeg)))]) (st' := [tR (some a0)]) (h' := h_14) gX11_code rfl ?_
      obtain ⟨ho, w⟩ := w
      refine T_gs (tR (gr h_14 648 a0)) gX11_code rfl rfl ⟨ho, ?_⟩
      refine T_run (n := 3) (pc' := 229) (lv' := [some (tR (some a0)), some (tI x1), some (tI x2), some (tI x3), some (tI s0), some (tI ((gi h_7 640 a0) - 1)), some (tI ((ai h_11 a_13 x_12.toNatClampNeg) + (ai h_14 a_16 x_15.toNatClampNeg)))]) (st' := [tR (some a0), tI ((ai h_11 a_13 x_12.toNatClampNeg) + (ai h_14 a_16 x_15.toNatClampNeg)), tI ((gi h_7 640 a0) - 1), tR (gr h_14 648 a0)]) (h' := h_14) gX11_code rfl ?_
      obtain ⟨ho, w⟩ := w
      refine T_gs (tR (gr h_14 648 a0)) gX11_code rfl rfl ⟨ho, ?_⟩
      refine T_run (n := 1) (pc' := 234) (lv' := [some (tR (some a0)), some (tI x1), some (tI x2), some (tI x3), some (tI s0), some (tI ((gi h_7 640 a0) - 1)), some (tI ((ai h_11 a_13 x_12.toNatClampNeg) + (ai h_14 a_16 x_15.toNatClampNeg)))]) (st' := [tI ((gi h_7 640 a0) - 1), tR (gr h_14 648 a0), tI ((ai h_11 a_13 x_12.toNatClampNeg) + (ai h_14 a_16 x_15.toNatClampNeg)), tI ((gi h_7 640 a0) - 1), tR (gr h_14 648 a0)]) (h' := h_14) gX11_code rfl ?_
      obtain ⟨a_17, hr, tt, nn, ht, hk, hj, w⟩ := w
      refine T_ial gX11_code rfl ⟨a_17, hr, tt, nn, ht, hk, hj, ?_⟩
      replace w := c_le w
      refine T_ic (tgt := 243) gX11_code rfl (by decide) (fun hc => ?_) (fun hc => ?_)
      · replace w := w.1 hc
        refine T_run (n := 1) (pc' := 244) (lv' := [some (tR (some a0)), some (tI x1), some (tI x2), some (tI x3), some (tI s0), some (tI ((gi h_7 640 a0) - 1)), some (tI ((ai h_11 a_13 x_12.toNatClampNeg) + (ai h_14 a_16 x_15.toNatClampNeg)))]) (st' := [tR (some a0), tI ((gi h_7 640 a0) - 1), tR (gr h_14 648 a0)]) (h' := h_14) gX11_code rfl ?_
        obtain ⟨ho, w⟩ := w
        refine T_gs (tR (gr h_14 648 a0)) gX11_code rfl rfl ⟨ho, ?_⟩
        refine T_run (n := 1) (pc' := 249) (lv' := [some (tR (some a0)), some (tI x1), some (tI x2), some (tI x3), some (tI s0), some (tI ((gi h_7 640 a0) - 1)), some (tI ((ai h_11 a_13 x_12.toNatClampNeg) + (ai h_14 a_16 x_15.toNatClampNeg)))]) (st' := [tI ((gi h_7 640 a0) - 1), tR (gr h_14 648 a0), tI ((gi h_7 640 a0) - 1), tR (gr h_14 648 a0)]) (h' := h_14) gX11_code rfl ?_
        obtain ⟨a_18, hr, tt, nn, ht, hk, hj, w⟩ := w
        refine T_ial gX11_code rfl ⟨a_18, hr, tt, nn, ht, hk, hj, ?_⟩
        obtain ⟨a_19, hr, tt, nn, ht, hk, hj, w⟩ := w
        refine T_ias gX11_code rfl ⟨a_19, hr, tt, nn, ht, hk, hj, fun h_20 he => ?_⟩
        replace w := w h_20 he
        refine T_run (n := 1) (pc' := 252) (lv' := [some (tR (some a0)), some (tI x1), some (tI x2), some (tI x3), some (tI s0), some (tI ((gi h_7 640 a0) - 1)), some (tI ((ai h_11 a_13 x_12.toNatClampNeg) + (ai h_14 a_16 x_15.toNatClampNeg)))]) (st' := [tR (some a0)]) (h' := h_20) gX11_code rfl ?_
        obtain ⟨ho, w⟩ := w
        refine T_gs (tI (gi h_20 641 a0)) gX11_code rfl rfl ⟨ho, ?_⟩
        exact T_ri gX11_code rfl rfl w
      · replace w := w.2 hc
        refine T_run (n := 1) (pc' := 240) (lv' := [some (tR (some a0)), some (tI x1), some (tI x2), some (tI x3), some (tI s0), some (tI ((gi h_7 640 a0) - 1)), some (tI ((ai h_11 a_13 x_12.toNatClampNeg) + (ai h_14 a_16 x_15.toNatClampNeg)))]) (st' := [tI ((ai h_11 a_13 x_12.toNatClampNeg) + (ai h_14 a_16 x_15.toNatClampNeg)), tI ((gi h_7 640 a0) - 1), tR (gr h_14 648 a0)]) (h' := h_14) gX11_code rfl ?_
        refine T_goto (tgt := 250) gX11_code rfl (by decide) ?_
        obtain ⟨a_21, hr, tt, nn, ht, hk, hj, w⟩ := w
        refine T_ias gX11_code rfl ⟨a_21, hr, tt, nn, ht, hk, hj, fun h_22 he => ?_⟩
        replace w := w h_22 he
        refine T_run (n := 1) (pc' := 252) (lv' := [some (tR (some a0)), some (tI x1), some (tI x2), some (tI x3), some (tI s0), some (tI ((gi h_7 640 a0) - 1)), some (tI ((ai h_11 a_13 x_12.toNatClampNeg) + (ai h_14 a_16 x_15.toNatClampNeg)))]) (st' := [tR (some a0)]) (h' := h_22) gX11_code rfl ?_
        obtain ⟨ho, w⟩ := w
        refine T_gs (tI (gi h_22 641 a0)) gX11_code rfl rfl ⟨ho, ?_⟩
        exact T_ri gX11_code rfl rfl w
    · replace w := w.2 hc
      refine T_run (n := 1) (pc' := 192) (lv' := [some (tR (some a0)), some (tI x1), some (tI x2), some (tI x3), some (tI s0), some (tI ((gi h_7 640 a0) - 1)), none]) (st' := [tR (some a0)]) (h' := h_10) gX11_code rfl ?_
      refine T_kn (v := 0) gX11_code rfl (by decide) ?_
      obtain ⟨ho, w⟩ := w
      refine T_ps (pi h_10 642 a0 0) gX11_code rfl (putZ (Or.inl rfl)) ⟨ho, fun h_23 he => ?_⟩
      replace w := w h_23 he
      refine T_goto (tgt := 251) gX11_code rfl (by decide) ?_
      refine T_run (n := 1) (pc' := 252) (lv' := [some (tR (some a0)), some (tI x1), some (tI x2), some (tI x3), some (tI s0), some (tI ((gi h_7 640 a0) - 1)), none]) (st' := [tR (some a0)]) (h' := h_23) gX11_code rfl ?_
      obtain ⟨ho, w⟩ := w
      refine T_gs (tI (gi h_23 641 a0)) gX11_code rfl rfl ⟨ho, ?_⟩
      exact T_ri gX11_code rfl rfl w
  · replace w := w.2 hc
    refine T_kn (v := (-1)) gX11_code rfl (by decide) ?_
    exact T_ri gX11_code rfl rfl w
set_option maxHeartbeats 4000000 in
set_option maxRecDepth 20000 in
theorem wX11_drop (a0 : Nat) (h : Hp) (Q : Option TV → Hp → Prop) (w :
ob h a0 10 (
(if (gi h 642 a0) = 0 then
Q (some (tI 0)) h
else
ob h a0 10 (
ob h a0 10 (∀ h_1, h_1 = pi h 640 a0 ((gi h 640 a0) - 1) →
ob h_1 a0 10 (
ob h_1 a0 10 (
dr (gr h_1 643 a0) (fun a_2 => ix h_1 kI a_2 (gi h_1 640 a0) (
ob h_1 a0 10 (∀ h_3, h_3 = pi h_1 641 a0 (ai h_1 a_2 (gi h_1 640 a0).toNatClampNeg) →
ob h_3 a0 10 (∀ h_4, h_4 = pi h_3 642 a0 0 →
ob h_4 a0 10 (∀ h_5, h_5 = pi h_4 653 a0 0 →
Q (some (tI 1)) h_5)))))))))))) : tX11_drop a0 h Q := by
  refine T_run (n := 1) (pc' := 1) (lv' := [some (tR (some a0))]) (st' := [tR (some a0)]) (h' := h) gX11_drop rfl ?_
  obtain ⟨ho, w⟩ := w
  refine T_gs (tI (gi h 642 a0)) gX11_drop rfl rfl ⟨ho, ?_⟩
  replace w := c_ne w
  refine T_if (tgt := 9) gX11_drop rfl (by decide) (fun hc => ?_) (fun hc => ?_)
  · replace w := w.1 hc
    refine T_run (n := 2) (pc' := 11) (lv' := [some (tR (some a0))]) (st' := [tR (some a0), tR (some a0)]) (h' := h) gX11_drop rfl ?_
    obtain ⟨ho, w⟩ := w
    refine T_gs (tI (gi h 640 a0)) gX11_drop rfl rfl ⟨ho, ?_⟩
    refine T_kn (v := 1) gX11_drop rfl (by decide) ?_
    refine T_run (n := 1) (pc' := 16) (lv' := [some (tR (some a0))]) (st' := [tI ((gi h 640 a0) - 1), tR (some a0)]) (h' := h) gX11_drop rfl ?_
    obtain ⟨ho, w⟩ := w
    refine T_ps (pi h 640 a0 ((gi h 640 a0) - 1)) gX11_drop rfl rfl ⟨ho, fun h_1 he => ?_⟩
    replace w := w h_1 he
    refine T_run (n := 2) (pc' := 21) (lv' := [some (tR (some a0))]) (st' := [tR (some a0), tR (some a0)]) (h' := h_1) gX11_drop rfl ?_
    obtain ⟨ho, w⟩ := w
    refine T_gs (tR (gr h_1 643 a0)) gX11_drop rfl rfl ⟨ho, ?_⟩
    refine T_run (n := 1) (pc' := 25) (lv' := [some (tR (some a0))]) (st' := [tR (some a0), tR (gr h_1 643 a0), tR (some a0)]) (h' := h_1) gX11_drop rfl ?_
    obtain ⟨ho, w⟩ := w
    refine T_gs (tI (gi h_1 640 a0)) gX11_drop rfl rfl ⟨ho, ?_⟩
    obtain ⟨a_2, hr, tt, nn, ht, hk, hj, w⟩ := w
    refine T_ial gX11_drop rfl ⟨a_2, hr, tt, nn, ht, hk, hj, ?_⟩
    obtain ⟨ho, w⟩ := w
    refine T_ps (pi h_1 641 a0 (ai h_1 a_2 (gi h_1 640 a0).toNatClampNeg)) gX11_drop rfl rfl ⟨ho, fun h_3 he => ?_⟩
    replace w := w h_3 he
    refine T_run (n := 1) (pc' := 33) (lv' := [some (tR (some a0))]) (st' := [tR (some a0)]) (h' := h_3) gX11_drop rfl ?_
    refine T_kn (v := 0) gX11_drop rfl (by decide) ?_
    obtain ⟨ho, w⟩ := w
    refine T_ps (pi h_3 642 a0 0) gX11_drop rfl (putZ (Or.inl rfl)) ⟨ho, fun h_4 he => ?_⟩
    replace w := w h_4 he
    refine T_run (n := 1) (pc' := 38) (lv' := [some (tR (some a0))]) (st' := [tR (some a0)]) (h' := h_4) gX11_drop rfl ?_
    refine T_kn (v := 0) gX11_drop rfl (by decide) ?_
    obtain ⟨ho, w⟩ := w
    refine T_ps (pi h_4 653 a0 0) gX11_drop rfl rfl ⟨ho, fun h_5 he => ?_⟩
    replace w := w h_5 he
    refine T_kn (v := 1) gX11_drop rfl (by decide) ?_
    exact T_rz gX11_drop rfl rfl (Or.inr rfl) w
  · replace w := w.2 hc
    refine T_kn (v := 0) gX11_drop rfl (by decide) ?_
    exact T_rz gX11_drop rfl rfl (Or.inl rfl) w
set_option maxHeartbeats 4000000 in
set_option maxRecDepth 20000 in
theorem wX11_isWhole (a0 : Nat) (x1 : Int32) (h : Hp) (Q : Option TV → Hp → Prop) (w :
(if x1 < 0 then
Q (some (tI 0)) h
else
ob h a0 10 (
(if (gi h 642 a0) = 0 then
ob h a0 10 (
tX11_isWhole_25 a0 (gi h 640 a0) x1 h Q)
else
ob h a0 10 (
tX11_isWhole_25 a0 ((gi h 640 a0) - 1) x1 h Q))))) : tX11_isWhole a0 x1 h Q := by
  refine T_run (n := 1) (pc' := 1) (lv' := [some (tR (some a0)), some (tI x1)]) (st' := [tI x1]) (h' := h) gX11_isWhole rfl ?_
  replace w := c_lt w
  refine T_if (tgt := 32) gX11_isWhole rfl (by decide) (fun hc => ?_) (fun hc => ?_)
  · replace w := w.1 hc
    refine T_kn (v := 0) gX11_isWhole rfl (by decide) ?_
    exact T_rz gX11_isWhole rfl rfl (Or.inl rfl) w
  · replace w := w.2 hc
    refine T_run (n := 2) (pc' := 6) (lv' := [some (tR (some a0)), some (tI x1)]) (st' := [tR (some a0), tI x1]) (h' := h) gX11_isWhole rfl ?_
    obtain ⟨ho, w⟩ := w
    refine T_gs (tI (gi h 642 a0)) gX11_isWhole rfl rfl ⟨ho, ?_⟩
    replace w := c_eq w
    refine T_if (tgt := 21) gX11_isWhole rfl (by decide) (fun hc => ?_) (fun hc => ?_)
    · replace w := w.1 hc
      refine T_run (n := 1) (pc' := 22) (lv' := [some (tR (some a0)), some (tI x1)]) (st' := [tR (some a0), tI x1]) (h' := h) gX11_isWhole rfl ?_
      obtain ⟨ho, w⟩ := w
      refine T_gs (tI (gi h 640 a0)) gX11_isWhole rfl rfl ⟨ho, ?_⟩
      exact T_wk w (leE (leN le0))
    · replace w := w.2 hc
      refine T_run (n := 1) (pc' := 13) (lv' := [some (tR (some a0)), some (tI x1)]) (st' := [tR (some a0), tI x1]) (h' := h) gX11_isWhole rfl ?_
      obtain ⟨ho, w⟩ := w
      refine T_gs (tI (gi h 640 a0)) gX11_isWhole rfl rfl ⟨ho, ?_⟩
      refine T_kn (v := 1) gX11_isWhole rfl (by decide) ?_
      refine T_run (n := 1) (pc' := 18) (lv' := [some (tR (some a0)), some (tI x1)]) (st' := [tI ((gi h 640 a0) - 1), tI x1]) (h' := h) gX11_isWhole rfl ?_
      refine T_goto (tgt := 25) gX11_isWhole rfl (by decide) ?_
      exact T_wk w (leE (leN le0))
set_option maxHeartbeats 4000000 in
set_option maxRecDepth 20000 in
theorem wX11_isWhole_25 (a0 : Nat) (s0 : Int32) (s1 : Int32) (h : Hp) (Q : Option TV → Hp → Prop) (w :
(if s1 < s0 then
Q (some (tI 1)) h
else
Q (some (tI 0)) h)) : tX11_isWhole_25 a0 s0 s1 h Q := by
  replace w := c_ge w
  refine T_ic (tgt := 32) gX11_isWhole rfl (by decide) (fun hc => ?_) (fun hc => ?_)
  · replace w := w.1 hc
    refine T_kn (v := 0) gX11_isWhole rfl (by decide) ?_
    exact T_rz gX11_isWhole rfl rfl (Or.inl rfl) w
  · replace w := w.2 hc
    refine T_kn (v := 1) gX11_isWhole rfl (by decide) ?_
    refine T_goto (tgt := 33) gX11_isWhole rfl (by decide) ?_
    exact T_rz gX11_isWhole rfl rfl (Or.inr rfl) w
set_option maxHeartbeats 4000000 in
set_option maxRecDepth 20000 in
theorem wX11_entry (a0 : Nat) (x1 : Int32) (x2 : Int32) (h : Hp) (Q : Option TV → Hp → Prop) (w :
tX11_within x1 29 h (rI (fun x_2 h_1 =>
(if x_2 = 0 then
Q (some (tI 0)) h_1
else
(if x2 = (-1) then
ob h_1 a0 10 (
dr (gr h_1 663 a0) (fun a_3 => ix h_1 kIs a_3 x1 (∀ h_4, h_4 = si h_1 a_3 x1.toNatClampNeg x2 →
Q (some (tI 1)) h_4)))
else
ob h_1 a0 10 (tX11_isWhole a0 x2 h_1 (rI (fun x_6 h_5 =>
(if x_6 = 0 then
Q (some (tI 0)) h_5
else
ob h_5 a0 10 (
dr (gr h_5 663 a0) (fun a_7 => ix h_5 kIs a_7 x1 (∀ h_8, h_8 = si h_5 a_7 x1.toNatClampNeg x2 →
Q (some (tI 1)) h_8)))))))))))) : tX11_entry a0 x1 x2 h Q := by
  refine T_run (n := 1) (pc' := 1) (lv' := [some (tR (some a0)), some (tI x1), some (tI x2)]) (st' := [tI x1]) (h' := h) gX11_entry rfl ?_
  refine T_kb (v := 29) gX11_entry rfl (by decide) ?_
  refine T_cs (lv' := [some (tI x1), some (tI 29)]) gX11_entry rfl rfl rfl rfl (Nat.le_of_ble_eq_true rfl) gX11_within (Nat.le_of_ble_eq_true rfl) rfl (T_ki ?_)
  refine T.mono w (fun rr h_1 hw => ?_)
  obtain ⟨x_2, hr, w⟩ := hw
  refine ⟨x_2, hr, ?_⟩
  replace w := c_eq w
  refine T_if (tgt := 22) gX11_entry rfl (by decide) (fun hc => ?_) (fun hc => ?_)
  · replace w := w.1 hc
    refine T_kn (v := 0) gX11_entry rfl (by decide) ?_
    exact T_rz gX11_entry rfl rfl (Or.inl rfl) w
  · replace w := w.2 hc
    refine T_run (n := 1) (pc' := 10) (lv' := [some (tR (some a0)), some (tI x1), some (tI x2)]) (st' := [tI x2]) (h' := h_1) gX11_entry rfl ?_
    refine T_kn (v := (-1)) gX11_entry rfl (by decide) ?_
    replace w := c_eq w
    refine T_ic (tgt := 24) gX11_entry rfl (by decide) (fun hc => ?_) (fun hc => ?_)
    · replace w := w.1 hc
      refine T_run (n := 1) (pc' := 25) (lv' := [some (tR (some a0)), some (tI x1), some (tI x2)]) (st' := [tR (some a0)]) (h' := h_1) gX11_entry rfl ?_
      obtain ⟨ho, w⟩ := w
      refine T_gs (tR (gr h_1 663 a0)) gX11_entry rfl rfl ⟨ho, ?_⟩
      refine T_run (n := 2) (pc' := 30) (lv' := [some (tR (some a0)), some (tI x1), some (tI x2)]) (st' := [tI x2, tI x1, tR (gr h_1 663 a0)]) (h' := h_1) gX11_entry rfl ?_
      obtain ⟨a_3, hr, tt, nn, ht, hk, hj, w⟩ := w
      refine T_ias gX11_entry rfl ⟨a_3, hr, tt, nn, ht, hk, hj, fun h_4 he => ?_⟩
      replace w := w h_4 he
      refine T_kn (v := 1) gX11_entry rfl (by decide) ?_
      exact T_rz gX11_entry rfl rfl (Or.inr rfl) w
    · replace w := w.2 hc
      refine T_run (n := 2) (pc' := 16) (lv' := [some (tR (some a0)), some (tI x1), some (tI x2)]) (st' := [tI x2, tR (some a0)]) (h' := h_1) gX11_entry rfl ?_
      obtain ⟨ho, w⟩ := w
      refine T_cv (fun aa => [some (tR (some aa)), some (tI x2)]) gX11_entry rfl rfl rfl rfl (Nat.le_of_ble_eq_true rfl) gX11_isWhole (fun _ => Nat.le_of_ble_eq_true rfl) (fun _ => rfl) ⟨a0, rfl, ho, T_ki ?_⟩
      refine T.mono w (fun rr h_5 hw => ?_)
      obtain ⟨x_6, hr, w⟩ := hw
      refine ⟨x_6, hr, ?_⟩
      replace w := c_ne w
      refine T_if (tgt := 24) gX11_entry rfl (by decide) (fun hc => ?_) (fun hc => ?_)
      · replace w := w.1 hc
        refine T_run (n := 1) (pc' := 25) (lv' := [some (tR (some a0)), some (tI x1), some (tI x2)]) (st' := [tR (some a0)]) (h' := h_5) gX11_entry rfl ?_
        obtain ⟨ho, w⟩ := w
        refine T_gs (tR (gr h_5 663 a0)) gX11_entry rfl rfl ⟨ho, ?_⟩
        refine T_run (n := 2) (pc' := 30) (lv' := [some (tR (some a0)), some (tI x1), some (tI x2)]) (st' := [tI x2, tI x1, tR (gr h_5 663 a0)]) (h' := h_5) gX11_entry rfl ?_
        obtain ⟨a_7, hr, tt, nn, ht, hk, hj, w⟩ := w
        refine T_ias gX11_entry rfl ⟨a_7, hr, tt, nn, ht, hk, hj, fun h_8 he => ?_⟩
        replace w := w h_8 he
        refine T_kn (v := 1) gX11_entry rfl (by decide) ?_
        exact T_rz gX11_entry rfl rfl (Or.inr rfl) w
      · replace w := w.2 hc
        refine T_kn (v := 0) gX11_entry rfl (by decide) ?_
        exact T_rz gX11_entry rfl rfl (Or.inl rfl) w
set_option maxHeartbeats 4000000 in
set_option maxRecDepth 20000 in
theorem wX11_argument (a0 : Nat) (y1 : Int64) (h : Hp) (Q : Option TV → Hp → Prop) (w :
ob h a0 10 (
(if (gi h 667 a0) = 8 then
Q (some (tI (-1))) h
else
ob h a0 10 (
ob h a0 10 (
dr (gr h 675 a0) (fun a_1 => ix h kJ a_1 (gi h 667 a0) (∀ h_2, h_2 = sl h a_1 (gi h 667 a0).toNatClampNeg y1 →
ob h_2 a0 10 (
ob h_2 a0 10 (∀ h_3, h_3 = pi h_2 667 a0 ((gi h_2 667 a0) + 1) →
ob h_3 a0 10 (
Q (some (tI (gi h_3 667 a0))) h_3)))))))))) : tX11_argument a0 y1 h Q := by
  refine T_run (n := 1) (pc' := 1) (lv' := [some (tR (some a0)), some (tL y1), none]) (st' := [tR (some a0)]) (h' := h) gX11_argument rfl ?_
  obtain ⟨ho, w⟩ := w
  refine T_gs (tI (gi h 667 a0)) gX11_argument rfl rfl ⟨ho, ?_⟩
  refine T_kb (v := 8) gX11_argument rfl (by decide) ?_
  replace w := c_ne w
  refine T_ic (tgt := 11) gX11_argument rfl (by decide) (fun hc => ?_) (fun hc => ?_)
  · replace w := w.1 hc
    refine T_run (n := 1) (pc' := 12) (lv' := [some (tR (some a0)), some (tL y1), none]) (st' := [tR (some a0)]) (h' := h) gX11_argument rfl ?_
    obtain ⟨ho, w⟩ := w
    refine T_gs (tR (gr h 675 a0)) gX11_argument rfl rfl ⟨ho, ?_⟩
    refine T_run (n := 1) (pc' := 16) (lv' := [some (tR (some a0)), some (tL y1), none]) (st' := [tR (some a0), tR (gr h 675 a0)]) (h' := h) gX11_argument rfl ?_
    obtain ⟨ho, w⟩ := w
    refine T_gs (tI (gi h 667 a0)) gX11_argument rfl rfl ⟨ho, ?_⟩
    refine T_run (n := 1) (pc' := 20) (lv' := [some (tR (some a0)), some (tL y1), none]) (st' := [tL y1, tI (gi h 667 a0), tR (gr h 675 a0)]) (h' := h) gX11_argument rfl ?_
    obtain ⟨a_1, hr, tt, nn, ht, hk, hj, w⟩ := w
    refine T_las gX11_argument rfl ⟨a_1, hr, tt, nn, ht, hk, hj, fun h_2 he => ?_⟩
    replace w := w h_2 he
    refine T_run (n := 2) (pc' := 23) (lv' := [some (tR (some a0)), some (tL y1), none]) (st' := [tR (some a0), tR (some a0)]) (h' := h_2) gX11_argument rfl ?_
    obtain ⟨ho, w⟩ := w
    refine T_gs (tI (gi h_2 667 a0)) gX11_argument rfl rfl ⟨ho, ?_⟩
    refine T_kn (v := 1) gX11_argument rfl (by decide) ?_
    refine T_run (n := 1) (pc' := 28) (lv' := [some (tR (some a0)), some (tL y1), none]) (st' := [tI ((gi h_2 667 a0) + 1), tR (some a0)]) (h' := h_2) gX11_argument rfl ?_
    obtain ⟨ho, w⟩ := w
    refine T_ps (pi h_2 667 a0 ((gi h_2 667 a0) + 1)) gX11_argument rfl rfl ⟨ho, fun h_3 he => ?_⟩
    replace w := w h_3 he
    refine T_run (n := 1) (pc' := 32) (lv' := [some (tR (some a0)), some (tL y1), none]) (st' := [tR (some a0)]) (h' := h_3) gX11_argument rfl ?_
    obtain ⟨ho, w⟩ := w
    refine T_gs (tI (gi h_3 667 a0)) gX11_argument rfl rfl ⟨ho, ?_⟩
    exact T_ri gX11_argument rfl rfl w
  · replace w := w.2 hc
    refine T_kn (v := (-1)) gX11_argument rfl (by decide) ?_
    exact T_ri gX11_argument rfl rfl w
set_option maxHeartbeats 4000000 in
set_option maxRecDepth 20000 in
theorem wX11_push (a0 : Nat) (y1 : Int64) (h : Hp) (Q : Option TV → Hp → Prop) (w :
ob h a0 10 (
ob h a0 10 (
dr (gr h 676 a0) (fun a_1 => ix h kJ a_1 (gi h 672 a0) (∀ h_2, h_2 = sl h a_1 (gi h 672 a0).toNatClampNeg y1 →
ob h_2 a0 10 (
ob h_2 a0 10 (∀ h_3, h_3 = pi h_2 672 a0 ((gi h_2 672 a0) + 1) →
Q none h_3))))))) : tX11_push a0 y1 h Q := by
  refine T_run (n := 1) (pc' := 1) (lv' := [some (tR (some a0)), some (tL y1), none]) (st' := [tR (some a0)]) (h' := h) gX11_push rfl ?_
  obtain ⟨ho, w⟩ := w
  refine T_gs (tR (gr h 676 a0)) gX11_push rfl rfl ⟨ho, ?_⟩
  refine T_run (n := 1) (pc' := 5) (lv' := [some (tR (some a0)), some (tL y1), none]) (st' := [tR (some a0), tR (gr h 676 a0)]) (h' := h) gX11_push rfl ?_
  obtain ⟨ho, w⟩ := w
  refine T_gs (tI (gi h 672 a0)) gX11_push rfl rfl ⟨ho, ?_⟩
  refine T_run (n := 1) (pc' := 9) (lv' := [some (tR (some a0)), some (tL y1), none]) (st' := [tL y1, tI (gi h 672 a0), tR (gr h 676 a0)]) (h' := h) gX11_push rfl ?_
  obtain ⟨a_1, hr, tt, nn, ht, hk, hj, w⟩ := w
  refine T_las gX11_push rfl ⟨a_1, hr, tt, nn, ht, hk, hj, fun h_2 he => ?_⟩
  replace w := w h_2 he
  refine T_run (n := 2) (pc' := 12) (lv' := [some (tR (some a0)), some (tL y1), none]) (st' := [tR (some a0), tR (some a0)]) (h' := h_2) gX11_push rfl ?_
  obtain ⟨ho, w⟩ := w
  refine T_gs (tI (gi h_2 672 a0)) gX11_push rfl rfl ⟨ho, ?_⟩
  refine T_kn (v := 1) gX11_push rfl (by decide) ?_
  refine T_run (n := 1) (pc' := 17) (lv' := [some (tR (some a0)), some (tL y1), none]) (st' := [tI ((gi h_2 672 a0) + 1), tR (some a0)]) (h' := h_2) gX11_push rfl ?_
  obtain ⟨ho, w⟩ := w
  refine T_ps (pi h_2 672 a0 ((gi h_2 672 a0) + 1)) gX11_push rfl rfl ⟨ho, fun h_3 he => ?_⟩
  replace w := w h_3 he
  exact T_rv gX11_push rfl rfl w
set_option maxHeartbeats 4000000 in
set_option maxRecDepth 20000 in
theorem wX11_namesOf (a0 : Nat) (x1 : Int32) (h : Hp) (Q : Option TV → Hp → Prop) (w :
ob h a0 10 (
dr (gr h 645 a0) (fun a_1 => ix h kI a_1 x1 (
ob h a0 10 (
dr (gr h 647 a0) (fun a_2 => ix h kI a_2 x1 (
Q (some (tI ((ai h a_1 x1.toNatClampNeg) + (ai h a_2 x1.toNatClampNeg)))) h))))))) : tX11_namesOf a0 x1 h Q := by
  refine T_run (n := 1) (pc' := 1) (lv' := [some (tR (some a0)), some (tI x1)]) (st' := [tR (some a0)]) (h' := h) gX11_namesOf rfl ?_
  obtain ⟨ho, w⟩ := w
  refine T_gs (tR (gr h 645 a0)) gX11_namesOf rfl rfl ⟨ho, ?_⟩
  refine T_run (n := 1) (pc' := 5) (lv' := [some (tR (some a0)), some (tI x1)]) (st' := [tI x1, tR (gr h 645 a0)]) (h' := h) gX11_namesOf rfl ?_
  obtain ⟨a_1, hr, tt, nn, ht, hk, hj, w⟩ := w
  refine T_ial gX11_namesOf rfl ⟨a_1, hr, tt, nn, ht, hk, hj, ?_⟩
  refine T_run (n := 1) (pc' := 7) (lv' := [some (tR (some a0)), some (tI x1)]) (st' := [tR (some a0), tI (ai h a_1 x1.toNatClampNeg)]) (h' := h) gX11_namesOf rfl ?_
  obtain ⟨ho, w⟩ := w
  refine T_gs (tR (gr h 647 a0)) gX11_namesOf rfl rfl ⟨ho, ?_⟩
  refine T_run (n := 1) (pc' := 11) (lv' := [some (tR (some a0)), some (tI x1)]) (st' := [tI x1, tR (gr h 647 a0), tI (ai h a_1 x1.toNatClampNeg)]) (h' := h) gX11_namesOf rfl ?_
  obtain ⟨a_2, hr, tt, nn, ht, hk, hj, w⟩ := w
  refine T_ial gX11_namesOf rfl ⟨a_2, hr, tt, nn, ht, hk, hj, ?_⟩
  refine T_run (n := 1) (pc' := 13) (lv' := [some (tR (some a0)), some (tI x1)]) (st' := [tI ((ai h a_1 x1.toNatClampNeg) + (ai h a_2 x1.toNatClampNeg))]) (h' := h) gX11_namesOf rfl ?_
  exact T_ri gX11_namesOf rfl rfl w
set_option maxHeartbeats 4000000 in
set_option maxRecDepth 20000 in
theorem wX11_asks (a0 : Nat) (x1 : Int32) (h : Hp) (Q : Option TV → Hp → Prop) (w :
ob h a0 10 (tX11_namesOf a0 x1 h (rI (fun x_2 h_1 =>
ob h_1 a0 10 (
dr (gr h_1 648 a0) (fun a_3 => ix h_1 kI a_3 x1 (
Q (some (tI (x_2 + (ai h_1 a_3 x1.toNatClampNeg)))) h_1))))))) : tX11_asks a0 x1 h Q := by
  refine T_run (n := 2) (pc' := 2) (lv' := [some (tR (some a0)), some (tI x1)]) (st' := [tI x1, tR (some a0)]) (h' := h) gX11_asks rfl ?_
  obtain ⟨ho, w⟩ := w
  refine T_cv (fun aa => [some (tR (some aa)), some (tI x1)]) gX11_asks rfl rfl rfl rfl (Nat.le_of_ble_eq_true rfl) gX11_namesOf (fun _ => Nat.le_of_ble_eq_true rfl) (fun _ => rfl) ⟨a0, rfl, ho, T_ki ?_⟩
  refine T.mono w (fun rr h_1 hw => ?_)
  obtain ⟨x_2, hr, w⟩ := hw
  refine ⟨x_2, hr, ?_⟩
  refine T_run (n := 1) (pc' := 6) (lv' := [some (tR (some a0)), some (tI x1)]) (st' := [tR (some a0), tI x_2]) (h' := h_1) gX11_asks rfl ?_
  obtain ⟨ho, w⟩ := w
  refine T_gs (tR (gr h_1 648 a0)) gX11_asks rfl rfl ⟨ho, ?_⟩
  refine T_run (n := 1) (pc' := 10) (lv' := [some (tR (some a0)), some (tI x1)]) (st' := [tI x1, tR (gr h_1 648 a0), tI x_2]) (h' := h_1) gX11_asks rfl ?_
  obtain ⟨a_3, hr, tt, nn, ht, hk, hj, w⟩ := w
  refine T_ial gX11_asks rfl ⟨a_3, hr, tt, nn, ht, hk, hj, ?_⟩
  refine T_run (n := 1) (pc' := 12) (lv' := [some (tR (some a0)), some (tI x1)]) (st' := [tI (x_2 + (ai h_1 a_3 x1.toNatClampNeg))]) (h' := h_1) gX11_asks rfl ?_
  exact T_ri gX11_asks rfl rfl w
set_option maxHeartbeats 4000000 in
set_option maxRecDepth 20000 in
theorem wX11_enter (a0 : Nat) (x1 : Int32) (h : Hp) (Q : Option TV → Hp → Prop) (w :
ob h a0 10 (
(if (gi h 671 a0) = 30 then
ob h a0 10 (∀ h_1, h_1 = pi h 668 a0 4 →
Q none h_1)
else
ob h a0 10 (
ob h a0 10 (tX11_asks a0 x1 h (rI (fun x_3 h_2 =>
(if 220 < ((gi h 673 a0) + x_3) then
ob h_2 a0 10 (∀ h_15, h_15 = pi h_2 668 a0 4 →
Q none h_15)
else
ob h_2 a0 10 (
ob h_2 a0 10 (tX11_asks a0 x1 h_2 (rI (fun x_5 h_4 =>
ob h_4 a0 10 (∀ h_6, h_6 = pi h_4 673 a0 ((gi h_2 673 a0) + x_5) →
ob h_6 a0 10 (
ob h_6 a0 10 (
dr (gr h_6 677 a0) (fun a_7 => ix h_6 kIs a_7 (gi h_6 671 a0) (∀ h_8, h_8 = si h_6 a_7 (gi h_6 671 a0).toNatClampNeg x1 →
ob h_8 a0 10 (
ob h_8 a0 10 (
ob h_8 a0 10 (
ob h_8 a0 10 (
dr (gr h_8 645 a0) (fun a_9 => ix h_8 kI a_9 x1 (
dr (gr h_8 678 a0) (fun a_10 => ix h_8 kIs a_10 (gi h_8 671 a0) (∀ h_11, h_11 = si h_8 a_10 (gi h_8 671 a0).toNatClampNeg ((gi h_8 672 a0) - (ai h_8 a_9 x1.toNatClampNeg)) →
ob h_11 a0 10 (
ob h_11 a0 10 (
ob h_11 a0 10 (
dr (gr h_11 679 a0) (fun a_12 => ix h_11 kIs a_12 (gi h_11 671 a0) (∀ h_13, h_13 = si h_11 a_12 (gi h_11 671 a0).toNatClampNeg ((gi h_11 674 a0) + 1) →
ob h_13 a0 10 (
ob h_13 a0 10 (∀ h_14, h_14 = pi h_13 671 a0 ((gi h_13 671 a0) + 1) →
tX11_enter_102 a0 x1 0 h_14 Q)))))))))))))))))))))))))))))))) : tX11_enter a0 x1 h Q := by
  refine T_run (n := 1) (pc' := 1) (lv' := [some (tR (some a0)), some (tI x1), none]) (st' := [tR (some a0)]) (h' := h) gX11_enter rfl ?_
  obtain ⟨ho, w⟩ := w
  refine T_gs (tI (gi h 671 a0)) gX11_enter rfl rfl ⟨ho, ?_⟩
  refine T_kb (v := 30) gX11_enter rfl (by decide) ?_
  replace w := c_eq w
  refine T_ic (tgt := 25) gX11_enter rfl (by decide) (fun hc => ?_) (fun hc => ?_)
  · replace w := w.1 hc
    refine T_run (n := 1) (pc' := 26) (lv' := [some (tR (some a0)), some (tI x1), none]) (st' := [tR (some a0)]) (h' := h) gX11_enter rfl ?_
    refine T_kn (v := 4) gX11_enter rfl (by decide) ?_
    obtain ⟨ho, w⟩ := w
    refine T_ps (pi h 668 a0 4) gX11_enter rfl rfl ⟨ho, fun h_1 he => ?_⟩
    replace w := w h_1 he
    exact T_rv gX11_enter rfl rfl w
  · replace w := w.2 hc
    refine T_run (n := 1) (pc' := 10) (lv' := [some (tR (some a0)), some (tI x1), none]) (st' := [tR (some a0)]) (h' := h) gX11_enter rfl ?_
    obtain ⟨ho, w⟩ := w
    refine T_gs (tI (gi h 673 a0)) gX11_enter rfl rfl ⟨ho, ?_⟩
    refine T_run (n := 2) (pc' := 15) (lv' := [some (tR (some a0)), some (tI x1), none]) (st' := [tI x1, tR (some a0), tI (gi h 673 a0)]) (h' := h) gX11_enter rfl ?_
    obtain ⟨ho, w⟩ := w
    refine T_cv (fun aa => [some (tR (some aa)), some (tI x1)]) gX11_enter rfl rfl rfl rfl (Nat.le_of_ble_eq_true rfl) gX11_asks (fun _ => Nat.le_of_ble_eq_true rfl) (fun _ => rfl) ⟨a0, rfl, ho, T_ki ?_⟩
    refine T.mono w (fun rr h_2 hw => ?_)
    obtain ⟨x_3, hr, w⟩ := hw
    refine ⟨x_3, hr, ?_⟩
    refine T_run (n := 1) (pc' := 19) (lv' := [some (tR (some a0)), some (tI x1), none]) (st' := [tI ((gi h 673 a0) + x_3)]) (h' := h_2) gX11_enter rfl ?_
    refine T_ks (v := 220) gX11_enter rfl (by decide) ?_
    replace w := c_le w
    refine T_ic (tgt := 31) gX11_enter rfl (by decide) (fun hc => ?_) (fun hc => ?_)
    · replace w := w.1 hc
      refine T_run (n := 2) (pc' := 33) (lv' := [some (tR (some a0)), some (tI x1), none]) (st' := [tR (some a0), tR (some a0)]) (h' := h_2) gX11_enter rfl ?_
      obtain ⟨ho, w⟩ := w
      refine T_gs (tI (gi h_2 673 a0)) gX11_enter rfl rfl ⟨ho, ?_⟩
      refine T_run (n := 2) (pc' := 38) (lv' := [some (tR (some a0)), some (tI x1), none]) (st' := [tI x1, tR (some a0), tI (gi h_2 673 a0), tR (some a0)]) (h' := h_2) gX11_enter rfl ?_
      obtain ⟨ho, w⟩ := w
      refine T_cv (fun aa => [some (tR (some aa)), some (tI x1)]) gX11_enter rfl rfl rfl rfl (Nat.le_of_ble_eq_true rfl) gX11_asks (fun _ => Nat.le_of_ble_eq_true rfl) (fun _ => rfl) ⟨a0, rfl, ho, T_ki ?_⟩
      refine T.mono w (fun rr h_4 hw => ?_)
      obtain ⟨x_5, hr, w⟩ := hw
      refine ⟨x_5, hr, ?_⟩
      refine T_run (n := 1) (pc' := 42) (lv' := [some (tR (some a0)), some (tI x1), none]) (st' := [tI ((gi h_2 673 a0) + x_5), tR (some a0)]) (h' := h_4) gX11_enter rfl ?_
      obtain ⟨ho, w⟩ := w
      refine T_ps (pi h_4 673 a0 ((gi h_2 673 a0) + x_5)) gX11_enter rfl rfl ⟨ho, fun h_6 he => ?_⟩
      replace w := w h_6 he
      refine T_run (n := 1) (pc' := 46) (lv' := [some (tR (some a0)), some (tI x1), none]) (st' := [tR (some a0)]) (h' := h_6) gX11_enter rfl ?_
      obtain ⟨ho, w⟩ := w
      refine T_gs (tR (gr h_6 677 a0)) gX11_enter rfl rfl ⟨ho, ?_⟩
      refine T_run (n := 1) (pc' := 50) (lv' := [some (tR (some a0)), some (tI x1), none]) (st' := [tR (some a0), tR (gr h_6 677 a0)]) (h' := h_6) gX11_enter rfl ?_
      obtain ⟨ho, w⟩ := w
      refine T_gs (tI (gi h_6 671 a0)) gX11_enter rfl rfl ⟨ho, ?_⟩
      refine T_run (n := 1) (pc' := 54) (lv' := [some (tR (some a0)), some (tI x1), none]) (st' := [tI x1, tI (gi h_6 671 a0), tR (gr h_6 677 a0)]) (h' := h_6) gX11_enter rfl ?_
      obtain ⟨a_7, hr, tt, nn, ht, hk, hj, w⟩ := w
      refine T_ias gX11_enter rfl ⟨a_7, hr, tt, nn, ht, hk, hj, fun h_8 he => ?_⟩
      replace w := w h_8 he
      refine T_run (n := 1) (pc' := 56) (lv' := [some (tR (some a0)), some (tI x1), none]) (st' := [tR (some a0)]) (h' := h_8) gX11_enter rfl ?_
      obtain ⟨ho, w⟩ := w
      refine T_gs (tR (gr h_8 678 a0)) gX11_enter rfl rfl ⟨ho, ?_⟩
      refine T_run (n := 1) (pc' := 60) (lv' := [some (tR (some a0)), some (tI x1), none]) (st' := [tR (some a0), tR (gr h_8 678 a0)]) (h' := h_8) gX11_enter rfl ?_
      obtain ⟨ho, w⟩ := w
      refine T_gs (tI (gi h_8 671 a0)) gX11_enter rfl rfl ⟨ho, ?_⟩
      refine T_run (n := 1) (pc' := 64) (lv' := [some (tR (some a0)), some (tI x1), none]) (st' := [tR (some a0), tI (gi h_8 671 a0), tR (gr h_8 678 a0)]) (h' := h_8) gX11_enter rfl ?_
      obtain ⟨ho, w⟩ := w
      refine T_gs (tI (gi h_8 672 a0)) gX11_enter rfl rfl ⟨ho, ?_⟩
      refine T_run (n := 1) (pc' := 68) (lv' := [some (tR (some a0)), some (tI x1), none]) (st' := [tR (some a0), tI (gi h_8 672 a0), tI (gi h_8 671 a0), tR (gr h_8 678 a0)]) (h' := h_8) gX11_enter rfl ?_
      obtain ⟨ho, w⟩ := w
      refine T_gs (tR (gr h_8 645 a0)) gX11_enter rfl rfl ⟨ho, ?_⟩
      refine T_run (n := 1) (pc' := 72) (lv' := [some (tR (some a0)), some (tI x1), none]) (st' := [tI x1, tR (gr h_8 645 a0), tI (gi h_8 672 a0), tI (gi h_8 671 a0), tR (gr h_8 678 a0)]) (h' := h_8) gX11_enter rfl ?_
      obtain ⟨a_9, hr, tt, nn, ht, hk, hj, w⟩ := w
      refine T_ial gX11_enter rfl ⟨a_9, hr, tt, nn, ht, hk, hj, ?_⟩
      refine T_run (n := 1) (pc' := 74) (lv' := [some (tR (some a0)), some (tI x1), none]) (st' := [tI ((gi h_8 672 a0) - (ai h_8 a_9 x1.toNatClampNeg)), tI (gi h_8 671 a0), tR (gr h_8 678 a0)]) (h' := h_8) gX11_enter rfl ?_
      obtain ⟨a_10, hr, tt, nn, ht, hk, hj, w⟩ := w
      refine T_ias gX11_enter rfl ⟨a_10, hr, tt, nn, ht, hk, hj, fun h_11 he => ?_⟩
      replace w := w h_11 he
      refine T_run (n := 1) (pc' := 76) (lv' := [some (tR (some a0)), some (tI x1), none]) (st' := [tR (some a0)]) (h' := h_11) gX11_enter rfl ?_
      obtain ⟨ho, w⟩ := w
      refine T_gs (tR (gr h_11 679 a0)) gX11_enter rfl rfl ⟨ho, ?_⟩
      refine T_run (n := 1) (pc' := 80) (lv' := [some (tR (some a0)), some (tI x1), none]) (st' := [tR (some a0), tR (gr h_11 679 a0)]) (h' := h_11) gX11_enter rfl ?_
      obtain ⟨ho, w⟩ := w
      refine T_gs (tI (gi h_11 671 a0)) gX11_enter rfl rfl ⟨ho, ?_⟩
      refine T_run (n := 1) (pc' := 84) (lv' := [some (tR (some a0)), some (tI x1), none]) (st' := [tR (some a0), tI (gi h_11 671 a0), tR (gr h_11 679 a0)]) (h' := h_11) gX11_enter rfl ?_
      obtain ⟨ho, w⟩ := w
      refine T_gs (tI (gi h_11 674 a0)) gX11_enter rfl rfl ⟨ho, ?_⟩
      refine T_kn (v := 1) gX11_enter rfl (by decide) ?_
      refine T_run (n := 1) (pc' := 89) (lv' := [some (tR (some a0)), some (tI x1), none]) (st' := [tI ((gi h_11 674 a0) + 1), tI (gi h_11 671 a0), tR (gr h_11 679 a0)]) (h' := h_11) gX11_enter rfl ?_
      obtain ⟨a_12, hr, tt, nn, ht, hk, hj, w⟩ := w
      refine T_ias gX11_enter rfl ⟨a_12, hr, tt, nn, ht, hk, hj, fun h_13 he => ?_⟩
      replace w := w h_13 he
      refine T_run (n := 2) (pc' := 92) (lv' := [some (tR (some a0)), some (tI x1), none]) (st' := [tR (some a0), tR (some a0)]) (h' := h_13) gX11_enter rfl ?_
      obtain ⟨ho, w⟩ := w
      refine T_gs (tI (gi h_13 671 a0)) gX11_enter rfl rfl ⟨ho, ?_⟩
      refine T_kn (v := 1) gX11_enter rfl (by decide) ?_
      refine T_run (n := 1) (pc' := 97) (lv' := [some (tR (some a0)), some (tI x1), none]) (st' := [tI ((gi h_13 671 a0) + 1), tR (some a0)]) (h' := h_13) gX11_enter rfl ?_
      obtain ⟨ho, w⟩ := w
      refine T_ps (pi h_13 671 a0 ((gi h_13 671 a0) + 1)) gX11_enter rfl rfl ⟨ho, fun h_14 he => ?_⟩
      replace w := w h_14 he
      refine T_kn (v := 0) gX11_enter rfl (by decide) ?_
      refine T_run (n := 1) (pc' := 102) (lv' := [some (tR (some a0)), some (tI x1), some (tI 0)]) (st' := []) (h' := h_14) gX11_enter rfl ?_
      exact w
    · replace w := w.2 hc
      refine T_run (n := 1) (pc' := 26) (lv' := [some (tR (some a0)), some (tI x1), none]) (st' := [tR (some a0)]) (h' := h_2) gX11_enter rfl ?_
      refine T_kn (v := 4) gX11_enter rfl (by decide) ?_
      obtain ⟨ho, w⟩ := w
      refine T_ps (pi h_2 668 a0 4) gX11_enter rfl rfl ⟨ho, fun h_15 he => ?_⟩
      replace w := w h_15 he
      exact T_rv gX11_enter rfl rfl w
set_option maxHeartbeats 4000000 in
set_option maxRecDepth 20000 in
theorem wX11_enter_102 (a0 : Nat) (x1 : Int32) (x2 : Int32) (h : Hp) (Q : Option TV → Hp → Prop) (w :
ob h a0 10 (
dr (gr h 647 a0) (fun a_1 => ix h kI a_1 x1 (
(if x2 < (ai h a_1 x1.toNatClampNeg) then
ob h a0 10 (tX11_push a0 0 h (rV (fun h_4 =>
tX11_enter_102 a0 x1 (x2 + 1) h_4 Q)))
else
ob h a0 10 (
dr (gr h 643 a0) (fun a_2 => ix h kI a_2 x1 (
ob h a0 10 (∀ h_3, h_3 = pi h 674 a0 (ai h a_2 x1.toNatClampNeg) →
Q none h_3))))))))) : tX11_enter_102 a0 x1 x2 h Q := by
  refine T_run (n := 2) (pc' := 104) (lv' := [some (tR (some a0)), some (tI x1), some (tI x2)]) (st' := [tR (some a0), tI x2]) (h' := h) gX11_enter rfl ?_
  obtain ⟨ho, w⟩ := w
  refine T_gs (tR (gr h 647 a0)) gX11_enter rfl rfl ⟨ho, ?_⟩
  refine T_run (n := 1) (pc' := 108) (lv' := [some (tR (some a0)), some (tI x1), some (tI x2)]) (st' := [tI x1, tR (gr h 647 a0), tI x2]) (h' := h) gX11_enter rfl ?_
  obtain ⟨a_1, hr, tt, nn, ht, hk, hj, w⟩ := w
  refine T_ial gX11_enter rfl ⟨a_1, hr, tt, nn, ht, hk, hj, ?_⟩
  replace w := c_ge w
  refine T_ic (tgt := 123) gX11_enter rfl (by decide) (fun hc => ?_) (fun hc => ?_)
  · replace w := w.1 hc
    refine T_run (n := 2) (pc' := 125) (lv' := [some (tR (some a0)), some (tI x1), some (tI x2)]) (st' := [tR (some a0), tR (some a0)]) (h' := h) gX11_enter rfl ?_
    obtain ⟨ho, w⟩ := w
    refine T_gs (tR (gr h 643 a0)) gX11_enter rfl rfl ⟨ho, ?_⟩
    refine T_run (n := 1) (pc' := 129) (lv' := [some (tR (some a0)), some (tI x1), some (tI x2)]) (st' := [tI x1, tR (gr h 643 a0), tR (some a0)]) (h' := h) gX11_enter rfl ?_
    obtain ⟨a_2, hr, tt, nn, ht, hk, hj, w⟩ := w
    refine T_ial gX11_enter rfl ⟨a_2, hr, tt, nn, ht, hk, hj, ?_⟩
    obtain ⟨ho, w⟩ := w
    refine T_ps (pi h 674 a0 (ai h a_2 x1.toNatClampNeg)) gX11_enter rfl rfl ⟨ho, fun h_3 he => ?_⟩
    replace w := w h_3 he
    exact T_rv gX11_enter rfl rfl w
  · replace w := w.2 hc
    refine T_run (n := 1) (pc' := 113) (lv' := [some (tR (some a0)), some (tI x1), some (tI x2)]) (st' := [tR (some a0)]) (h' := h) gX11_enter rfl ?_
    refine T_kj (v := 0) gX11_enter rfl (by decide) ?_
    obtain ⟨ho, w⟩ := w
    refine T_cv (fun aa => [some (tR (some aa)), some (tL 0), none]) gX11_enter rfl rfl rfl rfl (Nat.le_of_ble_eq_true rfl) gX11_push (fun _ => Nat.le_of_ble_eq_true rfl) (fun _ => rfl) ⟨a0, rfl, ho, T_kv ?_⟩
    refine T.mono w (fun rr h_4 hw => ?_)
    obtain ⟨hr, w⟩ := hw
    refine ⟨hr, ?_⟩
    refine T_inc (x := x2) (c := 1) (lv' := [some (tR (some a0)), some (tI x1), some (tI (x2 + 1))]) gX11_enter rfl rfl (by decide) rfl ?_
    refine T_goto (tgt := 102) gX11_enter rfl (by decide) ?_
    exact w
set_option maxHeartbeats 4000000 in
set_option maxRecDepth 20000 in
theorem wX11_begins (x0 : Int32) (h : Hp) (Q : Option TV → Hp → Prop) (w :
(if 1 < x0 then
(if x0 < 5 then
Q (some (tI 1)) h
else
Q (some (tI 0)) h)
else
Q (some (tI 0)) h)) : tX11_begins x0 h Q := by
  refine T_run (n := 1) (pc' := 1) (lv' := [some (tI x0)]) (st' := [tI x0]) (h' := h) gX11_begins rfl ?_
  refine T_kn (v := 1) gX11_begins rfl (by decide) ?_
  replace w := c_le w
  refine T_ic (tgt := 14) gX11_begins rfl (by decide) (fun hc => ?_) (fun hc => ?_)
  · replace w := w.1 hc
    refine T_kn (v := 0) gX11_begins rfl (by decide) ?_
    exact T_rz gX11_begins rfl rfl (Or.inl rfl) w
  · replace w := w.2 hc
    refine T_run (n := 1) (pc' := 6) (lv' := [some (tI x0)]) (st' := [tI x0]) (h' := h) gX11_begins rfl ?_
    refine T_kn (v := 5) gX11_begins rfl (by decide) ?_
    replace w := c_ge w
    refine T_ic (tgt := 14) gX11_begins rfl (by decide) (fun hc => ?_) (fun hc => ?_)
    · replace w := w.1 hc
      refine T_kn (v := 0) gX11_begins rfl (by decide) ?_
      exact T_rz gX11_begins rfl rfl (Or.inl rfl) w
    · replace w := w.2 hc
      refine T_kn (v := 1) gX11_begins rfl (by decide) ?_
      refine T_goto (tgt := 15) gX11_begins rfl (by decide) ?_
      exact T_rz gX11_begins rfl rfl (Or.inr rfl) w
set_option maxHeartbeats 4000000 in
set_option maxRecDepth 20000 in
theorem wX11_endOf (a0 : Nat) (x1 : Int32) (x2 : Int32) (h : Hp) (Q : Option TV → Hp → Prop) (w :
tX11_endOf_5 a0 x2 0 x1 h Q) : tX11_endOf a0 x1 x2 h Q := by
  refine T_kn (v := 0) gX11_endOf rfl (by decide) ?_
  refine T_run (n := 3) (pc' := 5) (lv' := [some (tR (some a0)), some (tI x1), some (tI x2), some (tI 0), some (tI x1)]) (st' := []) (h' := h) gX11_endOf rfl ?_
  exact T_wk w (leE (leN (leE (leE (leE le0)))))
set_option maxHeartbeats 4000000 in
set_option maxRecDepth 20000 in
theorem wX11_endOf_5 (a0 : Nat) (x2 : Int32) (x3 : Int32) (x4 : Int32) (h : Hp) (Q : Option TV → Hp → Prop) (w :
(if 0 < x3 then
tX11_endOf_36 a0 x2 x3 x4 h Q
else
ob h a0 10 (
dr (gr h 649 a0) (fun a_1 => ix h kI a_1 x4 (
(if (ai h a_1 x4.toNatClampNeg) = 11 then
Q (some (tI x4)) h
else
(if x2 = 0 then
tX11_endOf_36 a0 x2 x3 x4 h Q
else
ob h a0 10 (
dr (gr h 649 a0) (fun a_2 => ix h kI a_2 x4 (
(if (ai h a_2 x4.toNatClampNeg) = 5 then
Q (some (tI x4)) h
else
tX11_endOf_36 a0 x2 x3 x4 h Q))))))))))) : tX11_endOf_5 a0 x2 x3 x4 h Q := by
  refine T_run (n := 1) (pc' := 6) (lv' := [some (tR (some a0)), none, some (tI x2), some (tI x3), some (tI x4)]) (st' := [tI x3]) (h' := h) gX11_endOf rfl ?_
  replace w := c_gt w
  refine T_if (tgt := 36) gX11_endOf rfl (by decide) (fun hc => ?_) (fun hc => ?_)
  · replace w := w.1 hc
    exact w
  · replace w := w.2 hc
    refine T_run (n := 1) (pc' := 10) (lv' := [some (tR (some a0)), none, some (tI x2), some (tI x3), some (tI x4)]) (st' := [tR (some a0)]) (h' := h) gX11_endOf rfl ?_
    obtain ⟨ho, w⟩ := w
    refine T_gs (tR (gr h 649 a0)) gX11_endOf rfl rfl ⟨ho, ?_⟩
    refine T_run (n := 1) (pc' := 15) (lv' := [some (tR (some a0)), none, some (tI x2), some (tI x3), some (tI x4)]) (st' := [tI x4, tR (gr h 649 a0)]) (h' := h) gX11_endOf rfl ?_
    obtain ⟨a_1, hr, tt, nn, ht, hk, hj, w⟩ := w
    refine T_ial gX11_endOf rfl ⟨a_1, hr, tt, nn, ht, hk, hj, ?_⟩
    refine T_kb (v := 11) gX11_endOf rfl (by decide) ?_
    replace w := c_eq w
    refine T_ic (tgt := 79) gX11_endOf rfl (by decide) (fun hc => ?_) (fun hc => ?_)
    · replace w := w.1 hc
      refine T_run (n := 1) (pc' := 81) (lv' := [some (tR (some a0)), none, some (tI x2), some (tI x3), some (tI x4)]) (st' := [tI x4]) (h' := h) gX11_endOf rfl ?_
      exact T_ri gX11_endOf rfl rfl w
    · replace w := w.2 hc
      refine T_run (n := 1) (pc' := 22) (lv' := [some (tR (some a0)), none, some (tI x2), some (tI x3), some (tI x4)]) (st' := [tI x2]) (h' := h) gX11_endOf rfl ?_
      replace w := c_eq w
      refine T_if (tgt := 36) gX11_endOf rfl (by decide) (fun hc => ?_) (fun hc => ?_)
      · replace w := w.1 hc
        exact w
      · replace w := w.2 hc
        refine T_run (n := 1) (pc' := 26) (lv' := [some (tR (some a0)), none, some (tI x2), some (tI x3), some (tI x4)]) (st' := [tR (some a0)]) (h' := h) gX11_endOf rfl ?_
        obtain ⟨ho, w⟩ := w
        refine T_gs (tR (gr h 649 a0)) gX11_endOf rfl rfl ⟨ho, ?_⟩
        refine T_run (n := 1) (pc' := 31) (lv' := [some (tR (some a0)), none, some (tI x2), some (tI x3), some (tI x4)]) (st' := [tI x4, tR (gr h 649 a0)]) (h' := h) gX11_endOf rfl ?_
        obtain ⟨a_2, hr, tt, nn, ht, hk, hj, w⟩ := w
        refine T_ial gX11_endOf rfl ⟨a_2, hr, tt, nn, ht, hk, hj, ?_⟩
        refine T_kn (v := 5) gX11_endOf rfl (by decide) ?_
        replace w := c_eq w
        refine T_ic (tgt := 79) gX11_endOf rfl (by decide) (fun hc => ?_) (fun hc => ?_)
        · replace w := w.1 hc
          refine T_run (n := 1) (pc' := 81) (lv' := [some (tR (some a0)), none, some (tI x2), some (tI x3), some (tI x4)]) (st' := [tI x4]) (h' := h) gX11_endOf rfl ?_
          exact T_ri gX11_endOf rfl rfl w
        · replace w := w.2 hc
          exact w
set_option maxHeartbeats 4000000 in
set_option maxRecDepth 20000 in
theorem wX11_endOf_36 (a0 : Nat) (x2 : Int32) (x3 : Int32) (x4 : Int32) (h : Hp) (Q : Option TV → Hp → Prop) (w :
ob h a0 10 (
dr (gr h 649 a0) (fun a_1 => ix h kI a_1 x4 (
tX11_begins (ai h a_1 x4.toNatClampNeg) h (rI (fun x_3 h_2 =>
(if x_3 = 0 then
ob h_2 a0 10 (
dr (gr h_2 649 a0) (fun a_4 => ix h_2 kI a_4 x4 (
(if (ai h_2 a_4 x4.toNatClampNeg) = 11 then
tX11_endOf_71 a0 x2 x4 (-1) x3 h_2 Q
else
tX11_endOf_71 a0 x2 x4 0 x3 h_2 Q))))
else
tX11_endOf_71 a0 x2 x4 1 x3 h_2 Q))))))) : tX11_endOf_36 a0 x2 x3 x4 h Q := by
  refine T_run (n := 2) (pc' := 38) (lv' := [some (tR (some a0)), none, some (tI x2), some (tI x3), some (tI x4)]) (st' := [tR (some a0), tI x3]) (h' := h) gX11_endOf rfl ?_
  obtain ⟨ho, w⟩ := w
  refine T_gs (tR (gr h 649 a0)) gX11_endOf rfl rfl ⟨ho, ?_⟩
  refine T_run (n := 1) (pc' := 43) (lv' := [some (tR (some a0)), none, some (tI x2), some (tI x3), some (tI x4)]) (st' := [tI x4, tR (gr h 649 a0), tI x3]) (h' := h) gX11_endOf rfl ?_
  obtain ⟨a_1, hr, tt, nn, ht, hk, hj, w⟩ := w
  refine T_ial gX11_endOf rfl ⟨a_1, hr, tt, nn, ht, hk, hj, ?_⟩
  refine T_cs (lv' := [some (tI (ai h a_1 x4.toNatClampNeg))]) gX11_endOf rfl rfl rfl rfl (Nat.le_of_ble_eq_true rfl) gX11_begins (Nat.le_of_ble_eq_true rfl) rfl (T_ki ?_)
  refine T.mono w (fun rr h_2 hw => ?_)
  obtain ⟨x_3, hr, w⟩ := hw
  refine ⟨x_3, hr, ?_⟩
  replace w := c_eq w
  refine T_if (tgt := 54) gX11_endOf rfl (by decide) (fun hc => ?_) (fun hc => ?_)
  · replace w := w.1 hc
    refine T_run (n := 1) (pc' := 55) (lv' := [some (tR (some a0)), none, some (tI x2), some (tI x3), some (tI x4)]) (st' := [tR (some a0), tI x3]) (h' := h_2) gX11_endOf rfl ?_
    obtain ⟨ho, w⟩ := w
    refine T_gs (tR (gr h_2 649 a0)) gX11_endOf rfl rfl ⟨ho, ?_⟩
    refine T_run (n := 1) (pc' := 60) (lv' := [some (tR (some a0)), none, some (tI x2), some (tI x3), some (tI x4)]) (st' := [tI x4, tR (gr h_2 649 a0), tI x3]) (h' := h_2) gX11_endOf rfl ?_
    obtain ⟨a_4, hr, tt, nn, ht, hk, hj, w⟩ := w
    refine T_ial gX11_endOf rfl ⟨a_4, hr, tt, nn, ht, hk, hj, ?_⟩
    refine T_kb (v := 11) gX11_endOf rfl (by decide) ?_
    replace w := c_ne w
    refine T_ic (tgt := 70) gX11_endOf rfl (by decide) (fun hc => ?_) (fun hc => ?_)
    · replace w := w.1 hc
      refine T_kn (v := 0) gX11_endOf rfl (by decide) ?_
      exact T_wk w (leE (leN (leE (leN (leE le0)))))
    · replace w := w.2 hc
      refine T_kn (v := (-1)) gX11_endOf rfl (by decide) ?_
      refine T_goto (tgt := 71) gX11_endOf rfl (by decide) ?_
      exact T_wk w (leE (leN (leE (leN (leE le0)))))
  · replace w := w.2 hc
    refine T_kn (v := 1) gX11_endOf rfl (by decide) ?_
    refine T_goto (tgt := 71) gX11_endOf rfl (by decide) ?_
    exact T_wk w (leE (leN (leE (leN (leE le0)))))
set_option maxHeartbeats 4000000 in
set_option maxRecDepth 20000 in
theorem wX11_endOf_71 (a0 : Nat) (x2 : Int32) (x4 : Int32) (s0 : Int32) (s1 : Int32) (h : Hp) (Q : Option TV → Hp → Prop) (w :
tX11_endOf_5 a0 x2 (s1 + s0) (x4 + 1) h Q) : tX11_endOf_71 a0 x2 x4 s0 s1 h Q := by
  refine T_run (n := 2) (pc' := 73) (lv' := [some (tR (some a0)), none, some (tI x2), some (tI (s1 + s0)), some (tI x4)]) (st' := []) (h' := h) gX11_endOf rfl ?_
  refine T_inc (x := x4) (c := 1) (lv' := [some (tR (some a0)), none, some (tI x2), some (tI (s1 + s0)), some (tI (x4 + 1))]) gX11_endOf rfl rfl (by decide) rfl ?_
  refine T_goto (tgt := 5) gX11_endOf rfl (by decide) ?_
  exact w
set_option maxHeartbeats 4000000 in
set_option maxRecDepth 20000 in
theorem wX11_keep (a0 : Nat) (x1 : Int32) (x2 : Int32) (h : Hp) (Q : Option TV → Hp → Prop) (w :
tX11_keep_2 a0 x1 x2 0 h Q) : tX11_keep a0 x1 x2 h Q := by
  refine T_kn (v := 0) gX11_keep rfl (by decide) ?_
  refine T_run (n := 1) (pc' := 2) (lv' := [some (tR (some a0)), some (tI x1), some (tI x2), some (tI 0)]) (st' := []) (h' := h) gX11_keep rfl ?_
  exact w
set_option maxHeartbeats 4000000 in
set_option maxRecDepth 20000 in
theorem wX11_keep_2 (a0 : Nat) (x1 : Int32) (x2 : Int32) (x3 : Int32) (h : Hp) (Q : Option TV → Hp → Prop) (w :
(if x3 < x1 then
ob h a0 10 (
ob h a0 10 (
ob h a0 10 (
dr (gr h 676 a0) (fun a_2 => ix h kJ a_2 (((gi h 672 a0) - x1) + x3) (
dr (gr h 676 a0) (fun a_3 => ix h kJ a_3 (x2 + x3) (∀ h_4, h_4 = sl h a_3 (x2 + x3).toNatClampNeg (al h a_2 (((gi h 672 a0) - x1) + x3).toNatClampNeg) →
tX11_keep_2 a0 x1 x2 (x3 + 1) h_4 Q)))))))
else
ob h a0 10 (∀ h_1, h_1 = pi h 672 a0 (x2 + x1) →
Q none h_1))) : tX11_keep_2 a0 x1 x2 x3 h Q := by
  refine T_run (n := 2) (pc' := 4) (lv' := [some (tR (some a0)), some (tI x1), some (tI x2), some (tI x3)]) (st' := [tI x1, tI x3]) (h' := h) gX11_keep rfl ?_
  replace w := c_ge w
  refine T_ic (tgt := 34) gX11_keep rfl (by decide) (fun hc => ?_) (fun hc => ?_)
  · replace w := w.1 hc
    refine T_run (n := 4) (pc' := 38) (lv' := [some (tR (some a0)), some (tI x1), some (tI x2), some (tI x3)]) (st' := [tI (x2 + x1), tR (some a0)]) (h' := h) gX11_keep rfl ?_
    obtain ⟨ho, w⟩ := w
    refine T_ps (pi h 672 a0 (x2 + x1)) gX11_keep rfl rfl ⟨ho, fun h_1 he => ?_⟩
    replace w := w h_1 he
    exact T_rv gX11_keep rfl rfl w
  · replace w := w.2 hc
    refine T_run (n := 1) (pc' := 8) (lv' := [some (tR (some a0)), some (tI x1), some (tI x2), some (tI x3)]) (st' := [tR (some a0)]) (h' := h) gX11_keep rfl ?_
    obtain ⟨ho, w⟩ := w
    refine T_gs (tR (gr h 676 a0)) gX11_keep rfl rfl ⟨ho, ?_⟩
    refine T_run (n := 4) (pc' := 15) (lv' := [some (tR (some a0)), some (tI x1), some (tI x2), some (tI x3)]) (st' := [tR (some a0), tI (x2 + x3), tR (gr h 676 a0)]) (h' := h) gX11_keep rfl ?_
    obtain ⟨ho, w⟩ := w
    refine T_gs (tR (gr h 676 a0)) gX11_keep rfl rfl ⟨ho, ?_⟩
    refine T_run (n := 1) (pc' := 19) (lv' := [some (tR (some a0)), some (tI x1), some (tI x2), some (tI x3)]) (st' := [tR (some a0), tR (gr h 676 a0), tI (x2 + x3), tR (gr h 676 a0)]) (h' := h) gX11_keep rfl ?_
    obtain ⟨ho, w⟩ := w
    refine T_gs (tI (gi h 672 a0)) gX11_keep rfl rfl ⟨ho, ?_⟩
    refine T_run (n := 4) (pc' := 26) (lv' := [some (tR (some a0)), some (tI x1), some (tI x2), some (tI x3)]) (st' := [tI (((gi h 672 a0) - x1) + x3), tR (gr h 676 a0), tI (x2 + x3), tR (gr h 676 a0)]) (h' := h) gX11_keep rfl ?_
    obtain ⟨a_2, hr, tt, nn, ht, hk, hj, w⟩ := w
    refine T_lal gX11_keep rfl ⟨a_2, hr, tt, nn, ht, hk, hj, ?_⟩
    obtain ⟨a_3, hr, tt, nn, ht, hk, hj, w⟩ := w
    refine T_las gX11_keep rfl ⟨a_3, hr, tt, nn, ht, hk, hj, fun h_4 he => ?_⟩
    replace w := w h_4 he
    refine T_inc (x := x3) (c := 1) (lv' := [some (tR (some a0)), some (tI x1), some (tI x2), some (tI (x3 + 1))]) gX11_keep rfl rfl (by decide) rfl ?_
    refine T_goto (tgt := 2) gX11_keep rfl (by decide) ?_
    exact w
set_option maxHeartbeats 4000000 in
set_option maxRecDepth 20000 in
theorem wX11_back (a0 : Nat) (h : Hp) (Q : Option TV → Hp → Prop) (w :
ob h a0 10 (
ob h a0 10 (
dr (gr h 677 a0) (fun a_1 => ix h kI a_1 ((gi h 671 a0) - 1) (
ob h a0 10 (
dr (gr h 646 a0) (fun a_2 => ix h kI a_2 (ai h a_1 ((gi h 671 a0) - 1).toNatClampNeg) (
ob h a0 10 (
ob h a0 10 (
dr (gr h 678 a0) (fun a_3 => ix h kI a_3 ((gi h 671 a0) - 1) (
ob h a0 10 (tX11_keep a0 (ai h a_2 (ai h a_1 ((gi h 671 a0) - 1).toNatClampNeg).toNatClampNeg) (ai h a_3 ((gi h 671 a0) - 1).toNatClampNeg) h (rV (fun h_4 =>
ob h_4 a0 10 (
ob h_4 a0 10 (∀ h_6, h_6 = pi h_4 671 a0 ((gi h_4 671 a0) - 1) →
ob h_6 a0 10 (
ob h_6 a0 10 (tX11_asks a0 (ai h a_1 ((gi h 671 a0) - 1).toNatClampNeg) h_6 (rI (fun x_8 h_7 =>
ob h_7 a0 10 (∀ h_9, h_9 = pi h_7 673 a0 ((gi h_6 673 a0) - x_8) →
ob h_9 a0 10 (
ob h_9 a0 10 (
dr (gr h_9 679 a0) (fun a_10 => ix h_9 kI a_10 (gi h_9 671 a0) (
ob h_9 a0 10 (∀ h_11, h_11 = pi h_9 674 a0 (ai h_9 a_10 (gi h_9 671 a0).toNatClampNeg) →
ob h_11 a0 10 (
(if 0 < (gi h_11 671 a0) then
Q none h_11
else
ob h_11 a0 10 (∀ h_12, h_12 = pi h_11 668 a0 2 →
ob h_12 a0 10 (
dr (gr h_12 646 a0) (fun a_13 => ix h_12 kI a_13 (ai h a_1 ((gi h 671 a0) - 1).toNatClampNeg) (
ob h_12 a0 10 (∀ h_14, h_14 = pi h_12 680 a0 (ai h_12 a_13 (ai h a_1 ((gi h 671 a0) - 1).toNatClampNeg).toNatClampNeg) →
tX11_back_95 a0 0 h_14 Q)))))))))))))))))))))))))))))))))) : tX11_back a0 h Q := by
  refine T_run (n := 1) (pc' := 1) (lv' := [some (tR (some a0)), none, none]) (st' := [tR (some a0)]) (h' := h) gX11_back rfl ?_
  obtain ⟨ho, w⟩ := w
  refine T_gs (tR (gr h 677 a0)) gX11_back rfl rfl ⟨ho, ?_⟩
  refine T_run (n := 1) (pc' := 5) (lv' := [some (tR (some a0)), none, none]) (st' := [tR (some a0), tR (gr h 677 a0)]) (h' := h) gX11_back rfl ?_
  obtain ⟨ho, w⟩ := w
  refine T_gs (tI (gi h 671 a0)) gX11_back rfl rfl ⟨ho, ?_⟩
  refine T_kn (v := 1) gX11_back rfl (by decide) ?_
  refine T_run (n := 1) (pc' := 10) (lv' := [some (tR (some a0)), none, none]) (st' := [tI ((gi h 671 a0) - 1), tR (gr h 677 a0)]) (h' := h) gX11_back rfl ?_
  obtain ⟨a_1, hr, tt, nn, ht, hk, hj, w⟩ := w
  refine T_ial gX11_back rfl ⟨a_1, hr, tt, nn, ht, hk, hj, ?_⟩
  refine T_run (n := 3) (pc' := 14) (lv' := [some (tR (some a0)), some (tI (ai h a_1 ((gi h 671 a0) - 1).toNatClampNeg)), none]) (st' := [tR (some a0), tR (some a0)]) (h' := h) gX11_back rfl ?_
  obtain ⟨ho, w⟩ := w
  refine T_gs (tR (gr h 646 a0)) gX11_back rfl rfl ⟨ho, ?_⟩
  refine T_run (n := 1) (pc' := 18) (lv' := [some (tR (some a0)), some (tI (ai h a_1 ((gi h 671 a0) - 1).toNatClampNeg)), none]) (st' := [tI (ai h a_1 ((gi h 671 a0) - 1).toNatClampNeg), tR (gr h 646 a0), tR (some a0)]) (h' := h) gX11_back rfl ?_
  obtain ⟨a_2, hr, tt, nn, ht, hk, hj, w⟩ := w
  refine T_ial gX11_back rfl ⟨a_2, hr, tt, nn, ht, hk, hj, ?_⟩
  refine T_run (n := 1) (pc' := 20) (lv' := [some (tR (some a0)), some (tI (ai h a_1 ((gi h 671 a0) - 1).toNatClampNeg)), none]) (st' := [tR (some a0), tI (ai h a_2 (ai h a_1 ((gi h 671 a0) - 1).toNatClampNeg).toNatClampNeg), tR (some a0)]) (h' := h) gX11_back rfl ?_
  obtain ⟨ho, w⟩ := w
  refine T_gs (tR (gr h 678 a0)) gX11_back rfl rfl ⟨ho, ?_⟩
  refine T_run (n := 1) (pc' := 24) (lv' := [some (tR (some a0)), some (tI (ai h a_1 ((gi h 671 a0) - 1).toNatClampNeg)), none]) (st' := [tR (some a0), tR (gr h 678 a0), tI (ai h a_2 (ai h a_1 ((gi h 671 a0) - 1).toNatClampNeg).toNatClampNeg), tR (some a0)]) (h' := h) gX11_back rfl ?_
  obtain ⟨ho, w⟩ := w
  refine T_gs (tI (gi h 671 a0)) gX11_back rfl rfl ⟨ho, ?_⟩
  refine T_kn (v := 1) gX11_back rfl (by decide) ?_
  refine T_run (n := 1) (pc' := 29) (lv' := [some (tR (some a0)), some (tI (ai h a_1 ((gi h 671 a0) - 1).toNatClampNeg)), none]) (st' := [tI ((gi h 671 a0) - 1), tR (gr h 678 a0), tI (ai h a_2 (ai h a_1 ((gi h 671 a0) - 1).toNatClampNeg).toNatClampNeg), tR (some a0)]) (h' := h) gX11_back rfl ?_
  obtain ⟨a_3, hr, tt, nn, ht, hk, hj, w⟩ := w
  refine T_ial gX11_back rfl ⟨a_3, hr, tt, nn, ht, hk, hj, ?_⟩
  obtain ⟨ho, w⟩ := w
  refine T_cv (fun aa => [some (tR (some aa)), some (tI (ai h a_2 (ai h a_1 ((gi h 671 a0) - 1).toNatClampNeg).toNatClampNeg)), some (tI (ai h a_3 ((gi h 671 a0) - 1).toNatClampNeg)), none]) gX11_back rfl rfl rfl rfl (Nat.le_of_ble_eq_true rfl) gX11_keep (fun _ => Nat.le_of_ble_eq_true rfl) (fun _ => rfl) ⟨a0, rfl, ho, T_kv ?_⟩
  refine T.mono w (fun rr h_4 hw => ?_)
  obtain ⟨hr, w⟩ := hw
  refine ⟨hr, ?_⟩
  refine T_run (n := 2) (pc' := 35) (lv' := [some (tR (some a0)), some (tI (ai h a_1 ((gi h 671 a0) - 1).toNatClampNeg)), none]) (st' := [tR (some a0), tR (some a0)]) (h' := h_4) gX11_back rfl ?_
  obtain ⟨ho, w⟩ := w
  refine T_gs (tI (gi h_4 671 a0)) gX11_back rfl rfl ⟨ho, ?_⟩
  refine T_kn (v := 1) gX11_back rfl (by decide) ?_
  refine T_run (n := 1) (pc' := 40) (lv' := [some (tR (some a0)), some (tI (ai h a_1 ((gi h 671 a0) - 1).toNatClampNeg)), none]) (st' := [tI ((gi h_4 671 a0) - 1), tR (some a0)]) (h' := h_4) gX11_back rfl ?_
  obtain ⟨ho, w⟩ := w
  refine T_ps (pi h_4 671 a0 ((gi h_4 671 a0) - 1)) gX11_back rfl rfl ⟨ho, fun h_6 he => ?_⟩
  replace w := w h_6 he
  refine T_run (n := 2) (pc' := 45) (lv' := [some (tR (some a0)), some (tI (ai h a_1 ((gi h 671 a0) - 1).toNatClampNeg)), none]) (st' := [tR (some a0), tR (some a0)]) (h' := h_6) gX11_back rfl ?_
  obtain ⟨ho, w⟩ := w
  refine T_gs (tI (gi h_6 673 a0)) gX11_back rfl rfl ⟨ho, ?_⟩
  refine T_run (n := 2) (pc' := 50) (lv' := [some (tR (some a0)), some (tI (ai h a_1 ((gi h 671 a0) - 1).toNatClampNeg)), none]) (st' := [tI (ai h a_1 ((gi h 671 a0) - 1).toNatClampNeg), tR (some a0), tI (gi h_6 673 a0), tR (some a0)]) (h' := h_6) gX11_back rfl ?_
  obtain ⟨ho, w⟩ := w
  refine T_cv (fun aa => [some (tR (some aa)), some (tI (ai h a_1 ((gi h 671 a0) - 1).toNatClampNeg))]) gX11_back rfl rfl rfl rfl (Nat.le_of_ble_eq_true rfl) gX11_asks (fun _ => Nat.le_of_ble_eq_true rfl) (fun _ => rfl) ⟨a0, rfl, ho, T_ki ?_⟩
  refine T.mono w (fun rr h_7 hw => ?_)
  obtain ⟨x_8, hr, w⟩ := hw
  refine ⟨x_8, hr, ?_⟩
  refine T_run (n := 1) (pc' := 54) (lv' := [some (tR (some a0)), some (tI (ai h a_1 ((gi h 671 a0) - 1).toNatClampNeg)), none]) (st' := [tI ((gi h_6 673 a0) - x_8), tR (some a0)]) (h' := h_7) gX11_back rfl ?_
  obtain ⟨ho, w⟩ := w
  refine T_ps (pi h_7 673 a0 ((gi h_6 673 a0) - x_8)) gX11_back rfl rfl ⟨ho, fun h_9 he => ?_⟩
  replace w := w h_9 he
  refine T_run (n := 2) (pc' := 59) (lv' := [some (tR (some a0)), some (tI (ai h a_1 ((gi h 671 a0) - 1).toNatClampNeg)), none]) (st' := [tR (some a0), tR (some a0)]) (h' := h_9) gX11_back rfl ?_
  obtain ⟨ho, w⟩ := w
  refine T_gs (tR (gr h_9 679 a0)) gX11_back rfl rfl ⟨ho, ?_⟩
  refine T_run (n := 1) (pc' := 63) (lv' := [some (tR (some a0)), some (tI (ai h a_1 ((gi h 671 a0) - 1).toNatClampNeg)), none]) (st' := [tR (some a0), tR (gr h_9 679 a0), tR (some a0)]) (h' := h_9) gX11_back rfl ?_
  obtain ⟨ho, w⟩ := w
  refine T_gs (tI (gi h_9 671 a0)) gX11_back rfl rfl ⟨ho, ?_⟩
  obtain ⟨a_10, hr, tt, nn, ht, hk, hj, w⟩ := w
  refine T_ial gX11_back rfl ⟨a_10, hr, tt, nn, ht, hk, hj, ?_⟩
  obtain ⟨ho, w⟩ := w
  refine T_ps (pi h_9 674 a0 (ai h_9 a_10 (gi h_9 671 a0).toNatClampNeg)) gX11_back rfl rfl ⟨ho, fun h_11 he => ?_⟩
  replace w := w h_11 he
  refine T_run (n := 1) (pc' := 71) (lv' := [some (tR (some a0)), some (tI (ai h a_1 ((gi h 671 a0) - 1).toNatClampNeg)), none]) (st' := [tR (some a0)]) (h' := h_11) gX11_back rfl ?_
  obtain ⟨ho, w⟩ := w
  refine T_gs (tI (gi h_11 671 a0)) gX11_back rfl rfl ⟨ho, ?_⟩
  replace w := c_le w
  refine T_if (tgt := 78) gX11_back rfl (by decide) (fun hc => ?_) (fun hc => ?_)
  · replace w := w.1 hc
    refine T_run (n := 1) (pc' := 79) (lv' := [some (tR (some a0)), some (tI (ai h a_1 ((gi h 671 a0) - 1).toNatClampNeg)), none]) (st' := [tR (some a0)]) (h' := h_11) gX11_back rfl ?_
    refine T_kn (v := 2) gX11_back rfl (by decide) ?_
    obtain ⟨ho, w⟩ := w
    refine T_ps (pi h_11 668 a0 2) gX11_back rfl rfl ⟨ho, fun h_12 he => ?_⟩
    replace w := w h_12 he
    refine T_run (n := 2) (pc' := 85) (lv' := [some (tR (some a0)), some (tI (ai h a_1 ((gi h 671 a0) - 1).toNatClampNeg)), none]) (st' := [tR (some a0), tR (some a0)]) (h' := h_12) gX11_back rfl ?_
    obtain ⟨ho, w⟩ := w
    refine T_gs (tR (gr h_12 646 a0)) gX11_back rfl rfl ⟨ho, ?_⟩
    refine T_run (n := 1) (pc' := 89) (lv' := [some (tR (some a0)), some (tI (ai h a_1 ((gi h 671 a0) - 1).toNatClampNeg)), none]) (st' := [tI (ai h a_1 ((gi h 671 a0) - 1).toNatClampNeg), tR (gr h_12 646 a0), tR (some a0)]) (h' := h_12) gX11_back rfl ?_
    obtain ⟨a_13, hr, tt, nn, ht, hk, hj, w⟩ := w
    refine T_ial gX11_back rfl ⟨a_13, hr, tt, nn, ht, hk, hj, ?_⟩
    obtain ⟨ho, w⟩ := w
    refine T_ps (pi h_12 680 a0 (ai h_12 a_13 (ai h a_1 ((gi h 671 a0) - 1).toNatClampNeg).toNatClampNeg)) gX11_back rfl rfl ⟨ho, fun h_14 he => ?_⟩
    replace w := w h_14 he
    refine T_kn (v := 0) gX11_back rfl (by decide) ?_
    refine T_run (n := 1) (pc' := 95) (lv' := [some (tR (some a0)), some (tI (ai h a_1 ((gi h 671 a0) - 1).toNatClampNeg)), some (tI 0)]) (st' := []) (h' := h_14) gX11_back rfl ?_
    exact T_wk w (leE (leN (leE le0)))
  · replace w := w.2 hc
    exact T_rv gX11_back rfl rfl w
set_option maxHeartbeats 4000000 in
set_option maxRecDepth 20000 in
theorem wX11_back_95 (a0 : Nat) (x2 : Int32) (h : Hp) (Q : Option TV → Hp → Prop) (w :
ob h a0 10 (
(if x2 < (gi h 680 a0) then
ob h a0 10 (
ob h a0 10 (
dr (gr h 676 a0) (fun a_1 => ix h kJ a_1 x2 (
dr (gr h 681 a0) (fun a_2 => ix h kJ a_2 x2 (∀ h_3, h_3 = sl h a_2 x2.toNatClampNeg (al h a_1 x2.toNatClampNeg) →
tX11_back_95 a0 (x2 + 1) h_3 Q))))))
else
Q none h))) : tX11_back_95 a0 x2 h Q := by
  refine T_run (n := 2) (pc' := 97) (lv' := [some (tR (some a0)), none, some (tI x2)]) (st' := [tR (some a0), tI x2]) (h' := h) gX11_back rfl ?_
  obtain ⟨ho, w⟩ := w
  refine T_gs (tI (gi h 680 a0)) gX11_back rfl rfl ⟨ho, ?_⟩
  replace w := c_ge w
  refine T_ic (tgt := 121) gX11_back rfl (by decide) (fun hc => ?_) (fun hc => ?_)
  · replace w := w.1 hc
    exact T_rv gX11_back rfl rfl w
  · replace w := w.2 hc
    refine T_run (n := 1) (pc' := 104) (lv' := [some (tR (some a0)), none, some (tI x2)]) (st' := [tR (some a0)]) (h' := h) gX11_back rfl ?_
    obtain ⟨ho, w⟩ := w
    refine T_gs (tR (gr h 681 a0)) gX11_back rfl rfl ⟨ho, ?_⟩
    refine T_run (n := 2) (pc' := 109) (lv' := [some (tR (some a0)), none, some (tI x2)]) (st' := [tR (some a0), tI x2, tR (gr h 681 a0)]) (h' := h) gX11_back rfl ?_
    obtain ⟨ho, w⟩ := w
    refine T_gs (tR (gr h 676 a0)) gX11_back rfl rfl ⟨ho, ?_⟩
    refine T_run (n := 1) (pc' := 113) (lv' := [some (tR (some a0)), none, some (tI x2)]) (st' := [tI x2, tR (gr h 676 a0), tI x2, tR (gr h 681 a0)]) (h' := h) gX11_back rfl ?_
    obtain ⟨a_1, hr, tt, nn, ht, hk, hj, w⟩ := w
    refine T_lal gX11_back rfl ⟨a_1, hr, tt, nn, ht, hk, hj, ?_⟩
    obtain ⟨a_2, hr, tt, nn, ht, hk, hj, w⟩ := w
    refine T_las gX11_back rfl ⟨a_2, hr, tt, nn, ht, hk, hj, fun h_3 he => ?_⟩
    replace w := w h_3 he
    refine T_inc (x := x2) (c := 1) (lv' := [some (tR (some a0)), none, some (tI (x2 + 1))]) gX11_back rfl rfl (by decide) rfl ?_
    refine T_goto (tgt := 95) gX11_back rfl (by decide) ?_
    exact w
set_option maxHeartbeats 4000000 in
set_option maxRecDepth 20000 in
theorem wX11_pass (a0 : Nat) (h : Hp) (Q : Option TV → Hp → Prop) (w :
ob h a0 10 (
(if (gi h 668 a0) = 1 then
ob h a0 10 (
ob h a0 10 (
dr (gr h 649 a0) (fun a_1 => ix h kI a_1 (gi h 674 a0) (
(if (ai h a_1 (gi h 674 a0).toNatClampNeg) = 2 then
tX11_pass_61 a0 h Q
else
ob h a0 10 (
ob h a0 10 (
dr (gr h 649 a0) (fun a_2 => ix h kI a_2 (gi h 674 a0) (
(if (ai h a_2 (gi h 674 a0).toNatClampNeg) = 3 then
tX11_pass_61 a0 h Q
else
ob h a0 10 (
ob h a0 10 (
dr (gr h 649 a0) (fun a_3 => ix h kI a_3 (gi h 674 a0) (
(if (ai h a_3 (gi h 674 a0).toNatClampNeg) = 5 then
tX11_pass_61 a0 h Q
else
ob h a0 10 (
ob h a0 10 (
dr (gr h 649 a0) (fun a_4 => ix h kI a_4 (gi h 674 a0) (
(if (ai h a_4 (gi h 674 a0).toNatClampNeg) = 11 then
tX11_pass_61 a0 h Q
else
Q none h))))))))))))))))))))
else
Q none h))) : tX11_pass a0 h Q := by
  refine T_run (n := 1) (pc' := 1) (lv' := [some (tR (some a0)), none]) (st' := [tR (some a0)]) (h' := h) gX11_pass rfl ?_
  obtain ⟨ho, w⟩ := w
  refine T_gs (tI (gi h 668 a0)) gX11_pass rfl rfl ⟨ho, ?_⟩
  refine T_kn (v := 1) gX11_pass rfl (by decide) ?_
  replace w := c_ne w
  refine T_ic (tgt := 160) gX11_pass rfl (by decide) (fun hc => ?_) (fun hc => ?_)
  · replace w := w.1 hc
    exact T_rv gX11_pass rfl rfl w
  · replace w := w.2 hc
    refine T_run (n := 1) (pc' := 9) (lv' := [some (tR (some a0)), none]) (st' := [tR (some a0)]) (h' := h) gX11_pass rfl ?_
    obtain ⟨ho, w⟩ := w
    refine T_gs (tR (gr h 649 a0)) gX11_pass rfl rfl ⟨ho, ?_⟩
    refine T_run (n := 1) (pc' := 13) (lv' := [some (tR (some a0)), none]) (st' := [tR (some a0), tR (gr h 649 a0)]) (h' := h) gX11_pass rfl ?_
    obtain ⟨ho, w⟩ := w
    refine T_gs (tI (gi h 674 a0)) gX11_pass rfl rfl ⟨ho, ?_⟩
    obtain ⟨a_1, hr, tt, nn, ht, hk, hj, w⟩ := w
    refine T_ial gX11_pass rfl ⟨a_1, hr, tt, nn, ht, hk, hj, ?_⟩
    refine T_kn (v := 2) gX11_pass rfl (by decide) ?_
    replace w := c_eq w
    refine T_ic (tgt := 61) gX11_pass rfl (by decide) (fun hc => ?_) (fun hc => ?_)
    · replace w := w.1 hc
      exact w
    · replace w := w.2 hc
      refine T_run (n := 1) (pc' := 22) (lv' := [some (tR (some a0)), none]) (st' := [tR (some a0)]) (h' := h) gX11_pass rfl ?_
      obtain ⟨ho, w⟩ := w
      refine T_gs (tR (gr h 649 a0)) gX11_pass rfl rfl ⟨ho, ?_⟩
      refine T_run (n := 1) (pc' := 26) (lv' := [some (tR (some a0)), none]) (st' := [tR (some a0), tR (gr h 649 a0)]) (h' := h) gX11_pass rfl ?_
      obtain ⟨ho, w⟩ := w
      refine T_gs (tI (gi h 674 a0)) gX11_pass rfl rfl ⟨ho, ?_⟩
      obtain ⟨a_2, hr, tt, nn, ht, hk, hj, w⟩ := w
      refine T_ial gX11_pass rfl ⟨a_2, hr, tt, nn, ht, hk, hj, ?_⟩
      refine T_kn (v := 3) gX11_pass rfl (by decide) ?_
      replace w := c_eq w
      refine T_ic (tgt := 61) gX11_pass rfl (by decide) (fun hc => ?_) (fun hc => ?_)
      · replace w := w.1 hc
        exact w
      · replace w := w.2 hc
        refine T_run (n := 1) (pc' := 35) (lv' := [some (tR (some a0)), none]) (st' := [tR (some a0)]) (h' := h) gX11_pass rfl ?_
        obtain ⟨ho, w⟩ := w
        refine T_gs (tR (gr h 649 a0)) gX11_pass rfl rfl ⟨ho, ?_⟩
        refine T_run (n := 1) (pc' := 39) (lv' := [some (tR (some a0)), none]) (st' := [tR (some a0), tR (gr h 649 a0)]) (h' := h) gX11_pass rfl ?_
        obtain ⟨ho, w⟩ := w
        refine T_gs (tI (gi h 674 a0)) gX11_pass rfl rfl ⟨ho, ?_⟩
        obtain ⟨a_3, hr, tt, nn, ht, hk, hj, w⟩ := w
        refine T_ial gX11_pass rfl ⟨a_3, hr, tt, nn, ht, hk, hj, ?_⟩
        refine T_kn (v := 5) gX11_pass rfl (by decide) ?_
        replace w := c_eq w
        refine T_ic (tgt := 61) gX11_pass rfl (by decide) (fun hc => ?_) (fun hc => ?_)
        · replace w := w.1 hc
          exact w
        · replace w := w.2 hc
          refine T_run (n := 1) (pc' := 48) (lv' := [some (tR (some a0)), none]) (st' := [tR (some a0)]) (h' := h) gX11_pass rfl ?_
          obtain ⟨ho, w⟩ := w
          refine T_gs (tR (gr h 649 a0)) gX11_pass rfl rfl ⟨ho, ?_⟩
          refine T_run (n := 1) (pc' := 52) (lv' := [some (tR (some a0)), none]) (st' := [tR (some a0), tR (gr h 649 a0)]) (h' := h) gX11_pass rfl ?_
          obtain ⟨ho, w⟩ := w
          refine T_gs (tI (gi h 674 a0)) gX11_pass rfl rfl ⟨ho, ?_⟩
          obtain ⟨a_4, hr, tt, nn, ht, hk, hj, w⟩ := w
          refine T_ial gX11_pass rfl ⟨a_4, hr, tt, nn, ht, hk, hj, ?_⟩
          refine T_kb (v := 11) gX11_pass rfl (by decide) ?_
          replace w := c_ne w
          refine T_ic (tgt := 160) gX11_pass rfl (by decide) (fun hc => ?_) (fun hc => ?_)
          · replace w := w.1 hc
            exact T_rv gX11_pass rfl rfl w
          · replace w := w.2 hc
            exact w
set_option maxHeartbeats 4000000 in
set_option maxRecDepth 20000 in
theorem wX11_pass_61 (a0 : Nat) (h : Hp) (Q : Option TV → Hp → Prop) (w :
ob h a0 10 (
ob h a0 10 (
dr (gr h 677 a0) (fun a_1 => ix h kI a_1 ((gi h 671 a0) - 1) (
ob h a0 10 (
ob h a0 10 (
dr (gr h 649 a0) (fun a_2 => ix h kI a_2 (gi h 674 a0) (
(if (ai h a_2 (gi h 674 a0).toNatClampNeg) = 5 then
ob h a0 10 (
ob h a0 10 (tX11_endOf a0 ((gi h 674 a0) + 1) 0 h (rI (fun x_9 h_8 =>
ob h_8 a0 10 (∀ h_10, h_10 = pi h_8 674 a0 x_9 →
tX11_pass_157 a0 h_10 Q)))))
else
ob h a0 10 (
ob h a0 10 (
dr (gr h 649 a0) (fun a_3 => ix h kI a_3 (gi h 674 a0) (
(if (ai h a_3 (gi h 674 a0).toNatClampNeg) = 11 then
ob h a0 10 (
ob h a0 10 (
dr (gr h 643 a0) (fun a_4 => ix h kI a_4 (ai h a_1 ((gi h 671 a0) - 1).toNatClampNeg) (
ob h a0 10 (
dr (gr h 644 a0) (fun a_5 => ix h kI a_5 (ai h a_1 ((gi h 671 a0) - 1).toNatClampNeg) (
(if (gi h 674 a0) = (((ai h a_4 (ai h a_1 ((gi h 671 a0) - 1).toNatClampNeg).toNatClampNeg) + (ai h a_5 (ai h a_1 ((gi h 671 a0) - 1).toNatClampNeg).toNatClampNeg)) - 1) then
ob h a0 10 (tX11_back a0  h (rV (fun h_6 =>
tX11_pass_157 a0 h_6 Q)))
else
tX11_pass_147 a0 h Q))))))))
else
tX11_pass_147 a0 h Q))))))))))))))) : tX11_pass_61 a0 h Q := by
  refine T_run (n := 1) (pc' := 62) (lv' := [some (tR (some a0)), none]) (st' := [tR (some a0)]) (h' := h) gX11_pass rfl ?_
  obtain ⟨ho, w⟩ := w
  refine T_gs (tR (gr h 677 a0)) gX11_pass rfl rfl ⟨ho, ?_⟩
  refine T_run (n := 1) (pc' := 66) (lv' := [some (tR (some a0)), none]) (st' := [tR (some a0), tR (gr h 677 a0)]) (h' := h) gX11_pass rfl ?_
  obtain ⟨ho, w⟩ := w
  refine T_gs (tI (gi h 671 a0)) gX11_pass rfl rfl ⟨ho, ?_⟩
  refine T_kn (v := 1) gX11_pass rfl (by decide) ?_
  refine T_run (n := 1) (pc' := 71) (lv' := [some (tR (some a0)), none]) (st' := [tI ((gi h 671 a0) - 1), tR (gr h 677 a0)]) (h' := h) gX11_pass rfl ?_
  obtain ⟨a_1, hr, tt, nn, ht, hk, hj, w⟩ := w
  refine T_ial gX11_pass rfl ⟨a_1, hr, tt, nn, ht, hk, hj, ?_⟩
  refine T_run (n := 2) (pc' := 74) (lv' := [some (tR (some a0)), some (tI (ai h a_1 ((gi h 671 a0) - 1).toNatClampNeg))]) (st' := [tR (some a0)]) (h' := h) gX11_pass rfl ?_
  obtain ⟨ho, w⟩ := w
  refine T_gs (tR (gr h 649 a0)) gX11_pass rfl rfl ⟨ho, ?_⟩
  refine T_run (n := 1) (pc' := 78) (lv' := [some (tR (some a0)), some (tI (ai h a_1 ((gi h 671 a0) - 1).toNatClampNeg))]) (st' := [tR (some a0), tR (gr h 649 a0)]) (h' := h) gX11_pass rfl ?_
  obtain ⟨ho, w⟩ := w
  refine T_gs (tI (gi h 674 a0)) gX11_pass rfl rfl ⟨ho, ?_⟩
  obtain ⟨a_2, hr, tt, nn, ht, hk, hj, w⟩ := w
  refine T_ial gX11_pass rfl ⟨a_2, hr, tt, nn, ht, hk, hj, ?_⟩
  refine T_kn (v := 5) gX11_pass rfl (by decide) ?_
  replace w := c_ne w
  refine T_ic (tgt := 104) gX11_pass rfl (by decide) (fun hc => ?_) (fun hc => ?_)
  · replace w := w.1 hc
    refine T_run (n := 1) (pc' := 105) (lv' := [some (tR (some a0)), some (tI (ai h a_1 ((gi h 671 a0) - 1).toNatClampNeg))]) (st' := [tR (some a0)]) (h' := h) gX11_pass rfl ?_
    obtain ⟨ho, w⟩ := w
    refine T_gs (tR (gr h 649 a0)) gX11_pass rfl rfl ⟨ho, ?_⟩
    refine T_run (n := 1) (pc' := 109) (lv' := [some (tR (some a0)), some (tI (ai h a_1 ((gi h 671 a0) - 1).toNatClampNeg))]) (st' := [tR (some a0), tR (gr h 649 a0)]) (h' := h) gX11_pass rfl ?_
    obtain ⟨ho, w⟩ := w
    refine T_gs (tI (gi h 674 a0)) gX11_pass rfl rfl ⟨ho, ?_⟩
    obtain ⟨a_3, hr, tt, nn, ht, hk, hj, w⟩ := w
    refine T_ial gX11_pass rfl ⟨a_3, hr, tt, nn, ht, hk, hj, ?_⟩
    refine T_kb (v := 11) gX11_pass rfl (by decide) ?_
    replace w := c_ne w
    refine T_ic (tgt := 147) gX11_pass rfl (by decide) (fun hc => ?_) (fun hc => ?_)
    · replace w := w.1 hc
      exact T_wk w (leE (leN le0))
    · replace w := w.2 hc
      refine T_run (n := 1) (pc' := 119) (lv' := [some (tR (some a0)), some (tI (ai h a_1 ((gi h 671 a0) - 1).toNatClampNeg))]) (st' := [tR (some a0)]) (h' := h) gX11_pass rfl ?_
      obtain ⟨ho, w⟩ := w
      refine T_gs (tI (gi h 674 a0)) gX11_pass rfl rfl ⟨ho, ?_⟩
      refine T_run (n := 1) (pc' := 123) (lv' := [some (tR (some a0)), some (tI (ai h a_1 ((gi h 671 a0) - 1).toNatClampNeg))]) (st' := [tR (some a0), tI (gi h 674 a0)]) (h' := h) gX11_pass rfl ?_
      obtain ⟨ho, w⟩ := w
      refine T_gs (tR (gr h 643 a0)) gX11_pass rfl rfl ⟨ho, ?_⟩
      refine T_run (n := 1) (pc' := 127) (lv' := [some (tR (some a0)), some (tI (ai h a_1 ((gi h 671 a0) - 1).toNatClampNeg))]) (st' := [tI (ai h a_1 ((gi h 671 a0) - 1).toNatClampNeg), tR (gr h 643 a0), tI (gi h 674 a0)]) (h' := h) gX11_pass rfl ?_
      obtain ⟨a_4, hr, tt, nn, ht, hk, hj, w⟩ := w
      refine T_ial gX11_pass rfl ⟨a_4, hr, tt, nn, ht, hk, hj, ?_⟩
      refine T_run (n := 1) (pc' := 129) (lv' := [some (tR (some a0)), some (tI (ai h a_1 ((gi h 671 a0) - 1).toNatClampNeg))]) (st' := [tR (some a0), tI (ai h a_4 (ai h a_1 ((gi h 671 a0) - 1).toNatClampNeg).toNatClampNeg), tI (gi h 674 a0)]) (h' := h) gX11_pass rfl ?_
      obtain ⟨ho, w⟩ := w
      refine T_gs (tR (gr h 644 a0)) gX11_pass rfl rfl ⟨ho, ?_⟩
      refine T_run (n := 1) (pc' := 133) (lv' := [some (tR (some a0)), some (tI (ai h a_1 ((gi h 671 a0) - 1).toNatClampNeg))]) (st' := [tI (ai h a_1 ((gi h 671 a0) - 1).toNatClampNeg), tR (gr h 644 a0), tI (ai h a_4 (ai h a_1 ((gi h 671 a0) - 1).toNatClampNeg).toNatClampNeg), tI (gi h 674 a0)]) (h' := h) gX11_pass rfl ?_
      obtain ⟨a_5, hr, tt, nn, ht, hk, hj, w⟩ := w
      refine T_ial gX11_pass rfl ⟨a_5, hr, tt, nn, ht, hk, hj, ?_⟩
      refine T_run (n := 1) (pc' := 135) (lv' := [some (tR (some a0)), some (tI (ai h a_1 ((gi h 671 a0) - 1).toNatClampNeg))]) (st' := [tI ((ai h a_4 (ai h a_1 ((gi h 671 a0) - 1).toNatClampNeg).toNatClampNeg) + (ai h a_5 (ai h a_1 ((gi h 671 a0) - 1).toNatClampNeg).toNatClampNeg)), tI (gi h 674 a0)]) (h' := h) gX11_pass rfl ?_
      refine T_kn (v := 1) gX11_pass rfl (by decide) ?_
      refine T_run (n := 1) (pc' := 137) (lv' := [some (tR (some a0)), some (tI (ai h a_1 ((gi h 671 a0) - 1).toNatClampNeg))]) (st' := [tI (((ai h a_4 (ai h a_1 ((gi h 671 a0) - 1).toNatClampNeg).toNatClampNeg) + (ai h a_5 (ai h a_1 ((gi h 671 a0) - 1).toNatClampNeg).toNatClampNeg)) - 1), tI (gi h 674 a0)]) (h' := h) gX11_pass rfl ?_
      replace w := c_ne w
      refine T_ic (tgt := 147) gX11_pass rfl (by decide) (fun hc => ?_) (fun hc => ?_)
      · replace w := w.1 hc
        exact T_wk w (leE (leN le0))
      · replace w := w.2 hc
        refine T_run (n := 1) (pc' := 141) (lv' := [some (tR (some a0)), some (tI (ai h a_1 ((gi h 671 a0) - 1).toNatClampNeg))]) (st' := [tR (some a0)]) (h' := h) gX11_pass rfl ?_
        obtain ⟨ho, w⟩ := w
        refine T_cv (fun aa => [some (tR (some aa)), none, none]) gX11_pass rfl rfl rfl rfl (Nat.le_of_ble_eq_true rfl) gX11_back (fun _ => Nat.le_of_ble_eq_true rfl) (fun _ => rfl) ⟨a0, rfl, ho, T_kv ?_⟩
        refine T.mono w (fun rr h_6 hw => ?_)
        obtain ⟨hr, w⟩ := hw
        refine ⟨hr, ?_⟩
        refine T_goto (tgt := 157) gX11_pass rfl (by decide) ?_
        exact T_wk w (leE (leN le0))
  · replace w := w.2 hc
    refine T_run (n := 3) (pc' := 89) (lv' := [some (tR (some a0)), some (tI (ai h a_1 ((gi h 671 a0) - 1).toNatClampNeg))]) (st' := [tR (some a0), tR (some a0), tR (some a0)]) (h' := h) gX11_pass rfl ?_
    obtain ⟨ho, w⟩ := w
    refine T_gs (tI (gi h 674 a0)) gX11_pass rfl rfl ⟨ho, ?_⟩
    refine T_kn (v := 1) gX11_pass rfl (by decide) ?_
    refine T_run (n := 1) (pc' := 94) (lv' := [some (tR (some a0)), some (tI (ai h a_1 ((gi h 671 a0) - 1).toNatClampNeg))]) (st' := [tI ((gi h 674 a0) + 1), tR (some a0), tR (some a0)]) (h' := h) gX11_pass rfl ?_
    refine T_kn (v := 0) gX11_pass rfl (by decide) ?_
    obtain ⟨ho, w⟩ := w
    refine T_cv (fun aa => [some (tR (some aa)), some (tI ((gi h 674 a0) + 1)), some (tI 0), none, none]) gX11_pass rfl rfl rfl rfl (Nat.le_of_ble_eq_true rfl) gX11_endOf (fun _ => Nat.le_of_ble_eq_true rfl) (fun _ => rfl) ⟨a0, rfl, ho, T_ki ?_⟩
    refine T.mono w (fun rr h_8 hw => ?_)
    obtain ⟨x_9, hr, w⟩ := hw
    refine ⟨x_9, hr, ?_⟩
    obtain ⟨ho, w⟩ := w
    refine T_ps (pi h_8 674 a0 x_9) gX11_pass rfl rfl ⟨ho, fun h_10 he => ?_⟩
    replace w := w h_10 he
    refine T_goto (tgt := 157) gX11_pass rfl (by decide) ?_
    exact T_wk w (leE (leN le0))
set_option maxHeartbeats 4000000 in
set_option maxRecDepth 20000 in
theorem wX11_pass_147 (a0 : Nat) (h : Hp) (Q : Option TV → Hp → Prop) (w :
ob h a0 10 (
ob h a0 10 (∀ h_1, h_1 = pi h 674 a0 ((gi h 674 a0) + 1) →
tX11_pass_157 a0 h_1 Q))) : tX11_pass_147 a0 h Q := by
  refine T_run (n := 2) (pc' := 149) (lv' := [some (tR (some a0)), none]) (st' := [tR (some a0), tR (some a0)]) (h' := h) gX11_pass rfl ?_
  obtain ⟨ho, w⟩ := w
  refine T_gs (tI (gi h 674 a0)) gX11_pass rfl rfl ⟨ho, ?_⟩
  refine T_kn (v := 1) gX11_pass rfl (by decide) ?_
  refine T_run (n := 1) (pc' := 154) (lv' := [some (tR (some a0)), none]) (st' := [tI ((gi h 674 a0) + 1), tR (some a0)]) (h' := h) gX11_pass rfl ?_
  obtain ⟨ho, w⟩ := w
  refine T_ps (pi h 674 a0 ((gi h 674 a0) + 1)) gX11_pass rfl rfl ⟨ho, fun h_1 he => ?_⟩
  replace w := w h_1 he
  exact w
set_option maxHeartbeats 4000000 in
set_option maxRecDepth 20000 in
theorem wX11_pass_157 (a0 : Nat) (h : Hp) (Q : Option TV → Hp → Prop) (w :
ob h a0 10 (
(if (gi h 668 a0) = 1 then
ob h a0 10 (
ob h a0 10 (
dr (gr h 649 a0) (fun a_1 => ix h kI a_1 (gi h 674 a0) (
(if (ai h a_1 (gi h 674 a0).toNatClampNeg) = 2 then
tX11_pass_61 a0 h Q
else
ob h a0 10 (
ob h a0 10 (
dr (gr h 649 a0) (fun a_2 => ix h kI a_2 (gi h 674 a0) (
(if (ai h a_2 (gi h 674 a0).toNatClampNeg) = 3 then
tX11_pass_61 a0 h Q
else
ob h a0 10 (
ob h a0 10 (
dr (gr h 649 a0) (fun a_3 => ix h kI a_3 (gi h 674 a0) (
(if (ai h a_3 (gi h 674 a0).toNatClampNeg) = 5 then
tX11_pass_61 a0 h Q
else
ob h a0 10 (
ob h a0 10 (
dr (gr h 649 a0) (fun a_4 => ix h kI a_4 (gi h 674 a0) (
(if (ai h a_4 (gi h 674 a0).toNatClampNeg) = 11 then
tX11_pass_61 a0 h Q
else
Q none h))))))))))))))))))))
else
Q none h))) : tX11_pass_157 a0 h Q := by
  refine T_goto (tgt := 0) gX11_pass rfl (by decide) ?_
  refine T_run (n := 1) (pc' := 1) (lv' := [some (tR (some a0)), none]) (st' := [tR (some a0)]) (h' := h) gX11_pass rfl ?_
  obtain ⟨ho, w⟩ := w
  refine T_gs (tI (gi h 668 a0)) gX11_pass rfl rfl ⟨ho, ?_⟩
  refine T_kn (v := 1) gX11_pass rfl (by decide) ?_
  replace w := c_ne w
  refine T_ic (tgt := 160) gX11_pass rfl (by decide) (fun hc => ?_) (fun hc => ?_)
  · replace w := w.1 hc
    exact T_rv gX11_pass rfl rfl w
  · replace w := w.2 hc
    refine T_run (n := 1) (pc' := 9) (lv' := [some (tR (some a0)), none]) (st' := [tR (some a0)]) (h' := h) gX11_pass rfl ?_
    obtain ⟨ho, w⟩ := w
    refine T_gs (tR (gr h 649 a0)) gX11_pass rfl rfl ⟨ho, ?_⟩
    refine T_run (n := 1) (pc' := 13) (lv' := [some (tR (some a0)), none]) (st' := [tR (some a0), tR (gr h 649 a0)]) (h' := h) gX11_pass rfl ?_
    obtain ⟨ho, w⟩ := w
    refine T_gs (tI (gi h 674 a0)) gX11_pass rfl rfl ⟨ho, ?_⟩
    obtain ⟨a_1, hr, tt, nn, ht, hk, hj, w⟩ := w
    refine T_ial gX11_pass rfl ⟨a_1, hr, tt, nn, ht, hk, hj, ?_⟩
    refine T_kn (v := 2) gX11_pass rfl (by decide) ?_
    replace w := c_eq w
    refine T_ic (tgt := 61) gX11_pass rfl (by decide) (fun hc => ?_) (fun hc => ?_)
    · replace w := w.1 hc
      exact w
    · replace w := w.2 hc
      refine T_run (n := 1) (pc' := 22) (lv' := [some (tR (some a0)), none]) (st' := [tR (some a0)]) (h' := h) gX11_pass rfl ?_
      obtain ⟨ho, w⟩ := w
      refine T_gs (tR (gr h 649 a0)) gX11_pass rfl rfl ⟨ho, ?_⟩
      refine T_run (n := 1) (pc' := 26) (lv' := [some (tR (some a0)), none]) (st' := [tR (some a0), tR (gr h 649 a0)]) (h' := h) gX11_pass rfl ?_
      obtain ⟨ho, w⟩ := w
      refine T_gs (tI (gi h 674 a0)) gX11_pass rfl rfl ⟨ho, ?_⟩
      obtain ⟨a_2, hr, tt, nn, ht, hk, hj, w⟩ := w
      refine T_ial gX11_pass rfl ⟨a_2, hr, tt, nn, ht, hk, hj, ?_⟩
      refine T_kn (v := 3) gX11_pass rfl (by decide) ?_
      replace w := c_eq w
      refine T_ic (tgt := 61) gX11_pass rfl (by decide) (fun hc => ?_) (fun hc => ?_)
      · replace w := w.1 hc
        exact w
      · replace w := w.2 hc
        refine T_run (n := 1) (pc' := 35) (lv' := [some (tR (some a0)), none]) (st' := [tR (some a0)]) (h' := h) gX11_pass rfl ?_
        obtain ⟨ho, w⟩ := w
        refine T_gs (tR (gr h 649 a0)) gX11_pass rfl rfl ⟨ho, ?_⟩
        refine T_run (n := 1) (pc' := 39) (lv' := [some (tR (some a0)), none]) (st' := [tR (some a0), tR (gr h 649 a0)]) (h' := h) gX11_pass rfl ?_
        obtain ⟨ho, w⟩ := w
        refine T_gs (tI (gi h 674 a0)) gX11_pass rfl rfl ⟨ho, ?_⟩
        obtain ⟨a_3, hr, tt, nn, ht, hk, hj, w⟩ := w
        refine T_ial gX11_pass rfl ⟨a_3, hr, tt, nn, ht, hk, hj, ?_⟩
        refine T_kn (v := 5) gX11_pass rfl (by decide) ?_
        replace w := c_eq w
        refine T_ic (tgt := 61) gX11_pass rfl (by decide) (fun hc => ?_) (fun hc => ?_)
        · replace w := w.1 hc
          exact w
        · replace w := w.2 hc
          refine T_run (n := 1) (pc' := 48) (lv' := [some (tR (some a0)), none]) (st' := [tR (some a0)]) (h' := h) gX11_pass rfl ?_
          obtain ⟨ho, w⟩ := w
          refine T_gs (tR (gr h 649 a0)) gX11_pass rfl rfl ⟨ho, ?_⟩
          refine T_run (n := 1) (pc' := 52) (lv' := [some (tR (some a0)), none]) (st' := [tR (some a0), tR (gr h 649 a0)]) (h' := h) gX11_pass rfl ?_
          obtain ⟨ho, w⟩ := w
          refine T_gs (tI (gi h 674 a0)) gX11_pass rfl rfl ⟨ho, ?_⟩
          obtain ⟨a_4, hr, tt, nn, ht, hk, hj, w⟩ := w
          refine T_ial gX11_pass rfl ⟨a_4, hr, tt, nn, ht, hk, hj, ?_⟩
          refine T_kb (v := 11) gX11_pass rfl (by decide) ?_
          replace w := c_ne w
          refine T_ic (tgt := 160) gX11_pass rfl (by decide) (fun hc => ?_) (fun hc => ?_)
          · replace w := w.1 hc
            exact T_rv gX11_pass rfl rfl w
          · replace w := w.2 hc
            exact w
set_option maxHeartbeats 4000000 in
set_option maxRecDepth 20000 in
theorem wX11_call (a0 : Nat) (x1 : Int32) (h : Hp) (Q : Option TV → Hp → Prop) (w :
ob h a0 10 (tX11_isWhole a0 x1 h (rI (fun x_2 h_1 =>
(if x_2 = 0 then
Q (some (tI 0)) h_1
else
ob h_1 a0 10 (
ob h_1 a0 10 (
dr (gr h_1 645 a0) (fun a_3 => ix h_1 kI a_3 x1 (
(if (gi h_1 667 a0) = (ai h_1 a_3 x1.toNatClampNeg) then
ob h_1 a0 10 (∀ h_4, h_4 = pi h_1 668 a0 1 →
ob h_4 a0 10 (∀ h_5, h_5 = pi h_4 670 a0 0 →
ob h_5 a0 10 (∀ h_6, h_6 = pi h_5 671 a0 0 →
ob h_6 a0 10 (∀ h_7, h_7 = pi h_6 672 a0 0 →
ob h_7 a0 10 (∀ h_8, h_8 = pi h_7 673 a0 0 →
ob h_8 a0 10 (∀ h_9, h_9 = pi h_8 680 a0 0 →
tX11_call_55 a0 x1 0 h_9 Q))))))
else
Q (some (tI 0)) h_1)))))))))) : tX11_call a0 x1 h Q := by
  refine T_run (n := 2) (pc' := 2) (lv' := [some (tR (some a0)), some (tI x1), none]) (st' := [tI x1, tR (some a0)]) (h' := h) gX11_call rfl ?_
  obtain ⟨ho, w⟩ := w
  refine T_cv (fun aa => [some (tR (some aa)), some (tI x1)]) gX11_call rfl rfl rfl rfl (Nat.le_of_ble_eq_true rfl) gX11_isWhole (fun _ => Nat.le_of_ble_eq_true rfl) (fun _ => rfl) ⟨a0, rfl, ho, T_ki ?_⟩
  refine T.mono w (fun rr h_1 hw => ?_)
  obtain ⟨x_2, hr, w⟩ := hw
  refine ⟨x_2, hr, ?_⟩
  replace w := c_eq w
  refine T_if (tgt := 21) gX11_call rfl (by decide) (fun hc => ?_) (fun hc => ?_)
  · replace w := w.1 hc
    refine T_kn (v := 0) gX11_call rfl (by decide) ?_
    exact T_rz gX11_call rfl rfl (Or.inl rfl) w
  · replace w := w.2 hc
    refine T_run (n := 1) (pc' := 9) (lv' := [some (tR (some a0)), some (tI x1), none]) (st' := [tR (some a0)]) (h' := h_1) gX11_call rfl ?_
    obtain ⟨ho, w⟩ := w
    refine T_gs (tI (gi h_1 667 a0)) gX11_call rfl rfl ⟨ho, ?_⟩
    refine T_run (n := 1) (pc' := 13) (lv' := [some (tR (some a0)), some (tI x1), none]) (st' := [tR (some a0), tI (gi h_1 667 a0)]) (h' := h_1) gX11_call rfl ?_
    obtain ⟨ho, w⟩ := w
    refine T_gs (tR (gr h_1 645 a0)) gX11_call rfl rfl ⟨ho, ?_⟩
    refine T_run (n := 1) (pc' := 17) (lv' := [some (tR (some a0)), some (tI x1), none]) (st' := [tI x1, tR (gr h_1 645 a0), tI (gi h_1 667 a0)]) (h' := h_1) gX11_call rfl ?_
    obtain ⟨a_3, hr, tt, nn, ht, hk, hj, w⟩ := w
    refine T_ial gX11_call rfl ⟨a_3, hr, tt, nn, ht, hk, hj, ?_⟩
    replace w := c_eq w
    refine T_ic (tgt := 23) gX11_call rfl (by decide) (fun hc => ?_) (fun hc => ?_)
    · replace w := w.1 hc
      refine T_run (n := 1) (pc' := 24) (lv' := [some (tR (some a0)), some (tI x1), none]) (st' := [tR (some a0)]) (h' := h_1) gX11_call rfl ?_
      refine T_kn (v := 1) gX11_call rfl (by decide) ?_
      obtain ⟨ho, w⟩ := w
      refine T_ps (pi h_1 668 a0 1) gX11_call rfl rfl ⟨ho, fun h_4 he => ?_⟩
      replace w := w h_4 he
      refine T_run (n := 1) (pc' := 29) (lv' := [some (tR (some a0)), some (tI x1), none]) (st' := [tR (some a0)]) (h' := h_4) gX11_call rfl ?_
      refine T_kn (v := 0) gX11_call rfl (by decide) ?_
      obtain ⟨ho, w⟩ := w
      refine T_ps (pi h_4 670 a0 0) gX11_call rfl rfl ⟨ho, fun h_5 he => ?_⟩
      replace w := w h_5 he
      refine T_run (n := 1) (pc' := 34) (lv' := [some (tR (some a0)), some (tI x1), none]) (st' := [tR (some a0)]) (h' := h_5) gX11_call rfl ?_
      refine T_kn (v := 0) gX11_call rfl (by decide) ?_
      obtain ⟨ho, w⟩ := w
      refine T_ps (pi h_5 671 a0 0) gX11_call rfl rfl ⟨ho, fun h_6 he => ?_⟩
      replace w := w h_6 he
      refine T_run (n := 1) (pc' := 39) (lv' := [some (tR (some a0)), some (tI x1), none]) (st' := [tR (some a0)]) (h' := h_6) gX11_call rfl ?_
      refine T_kn (v := 0) gX11_call rfl (by decide) ?_
      obtain ⟨ho, w⟩ := w
      refine T_ps (pi h_6 672 a0 0) gX11_call rfl rfl ⟨ho, fun h_7 he => ?_⟩
      replace w := w h_7 he
      refine T_run (n := 1) (pc' := 44) (lv' := [some (tR (some a0)), some (tI x1), none]) (st' := [tR (some a0)]) (h' := h_7) gX11_call rfl ?_
      refine T_kn (v := 0) gX11_call rfl (by decide) ?_
      obtain ⟨ho, w⟩ := w
      refine T_ps (pi h_7 673 a0 0) gX11_call rfl rfl ⟨ho, fun h_8 he => ?_⟩
      replace w := w h_8 he
      refine T_run (n := 1) (pc' := 49) (lv' := [some (tR (some a0)), some (tI x1), none]) (st' := [tR (some a0)]) (h' := h_8) gX11_call rfl ?_
      refine T_kn (v := 0) gX11_call rfl (by decide) ?_
      obtain ⟨ho, w⟩ := w
      refine T_ps (pi h_8 680 a0 0) gX11_call rfl rfl ⟨ho, fun h_9 he => ?_⟩
      replace w := w h_9 he
      refine T_kn (v := 0) gX11_call rfl (by decide) ?_
      refine T_run (n := 1) (pc' := 55) (lv' := [some (tR (some a0)), some (tI x1), some (tI 0)]) (st' := []) (h' := h_9) gX11_call rfl ?_
      exact w
    · replace w := w.2 hc
      refine T_kn (v := 0) gX11_call rfl (by decide) ?_
      exact T_rz gX11_call rfl rfl (Or.inl rfl) w
set_option maxHeartbeats 4000000 in
set_option maxRecDepth 20000 in
theorem wX11_call_55 (a0 : Nat) (x1 : Int32) (x2 : Int32) (h : Hp) (Q : Option TV → Hp → Prop) (w :
ob h a0 10 (
(if x2 < (gi h 667 a0) then
ob h a0 10 (
dr (gr h 675 a0) (fun a_7 => ix h kJ a_7 x2 (
ob h a0 10 (tX11_push a0 (al h a_7 x2.toNatClampNeg) h (rV (fun h_8 =>
tX11_call_55 a0 x1 (x2 + 1) h_8 Q))))))
else
ob h a0 10 (∀ h_1, h_1 = pi h 667 a0 0 →
ob h_1 a0 10 (∀ h_2, h_2 = pi h_1 674 a0 0 →
ob h_2 a0 10 (tX11_enter a0 x1 h_2 (rV (fun h_3 =>
ob h_3 a0 10 (tX11_pass a0  h_3 (rV (fun h_5 =>
Q (some (tI 1)) h_5))))))))))) : tX11_call_55 a0 x1 x2 h Q := by
  refine T_run (n := 2) (pc' := 57) (lv' := [some (tR (some a0)), some (tI x1), some (tI x2)]) (st' := [tR (some a0), tI x2]) (h' := h) gX11_call rfl ?_
  obtain ⟨ho, w⟩ := w
  refine T_gs (tI (gi h 667 a0)) gX11_call rfl rfl ⟨ho, ?_⟩
  replace w := c_ge w
  refine T_ic (tgt := 79) gX11_call rfl (by decide) (fun hc => ?_) (fun hc => ?_)
  · replace w := w.1 hc
    refine T_run (n := 1) (pc' := 80) (lv' := [some (tR (some a0)), some (tI x1), some (tI x2)]) (st' := [tR (some a0)]) (h' := h) gX11_call rfl ?_
    refine T_kn (v := 0) gX11_call rfl (by decide) ?_
    obtain ⟨ho, w⟩ := w
    refine T_ps (pi h 667 a0 0) gX11_call rfl rfl ⟨ho, fun h_1 he => ?_⟩
    replace w := w h_1 he
    refine T_run (n := 1) (pc' := 85) (lv' := [some (tR (some a0)), some (tI x1), some (tI x2)]) (st' := [tR (some a0)]) (h' := h_1) gX11_call rfl ?_
    refine T_kn (v := 0) gX11_call rfl (by decide) ?_
    obtain ⟨ho, w⟩ := w
    refine T_ps (pi h_1 674 a0 0) gX11_call rfl rfl ⟨ho, fun h_2 he => ?_⟩
    replace w := w h_2 he
    refine T_run (n := 2) (pc' := 91) (lv' := [some (tR (some a0)), some (tI x1), some (tI x2)]) (st' := [tI x1, tR (some a0)]) (h' := h_2) gX11_call rfl ?_
    obtain ⟨ho, w⟩ := w
    refine T_cv (fun aa => [some (tR (some aa)), some (tI x1), none]) gX11_call rfl rfl rfl rfl (Nat.le_of_ble_eq_true rfl) gX11_enter (fun _ => Nat.le_of_ble_eq_true rfl) (fun _ => rfl) ⟨a0, rfl, ho, T_kv ?_⟩
    refine T.mono w (fun rr h_3 hw => ?_)
    obtain ⟨hr, w⟩ := hw
    refine ⟨hr, ?_⟩
    refine T_run (n := 1) (pc' := 95) (lv' := [some (tR (some a0)), some (tI x1), some (tI x2)]) (st' := [tR (some a0)]) (h' := h_3) gX11_call rfl ?_
    obtain ⟨ho, w⟩ := w
    refine T_cv (fun aa => [some (tR (some aa)), none]) gX11_call rfl rfl rfl rfl (Nat.le_of_ble_eq_true rfl) gX11_pass (fun _ => Nat.le_of_ble_eq_true rfl) (fun _ => rfl) ⟨a0, rfl, ho, T_kv ?_⟩
    refine T.mono w (fun rr h_5 hw => ?_)
    obtain ⟨hr, w⟩ := hw
    refine ⟨hr, ?_⟩
    refine T_kn (v := 1) gX11_call rfl (by decide) ?_
    exact T_rz gX11_call rfl rfl (Or.inr rfl) w
  · replace w := w.2 hc
    refine T_run (n := 2) (pc' := 65) (lv' := [some (tR (some a0)), some (tI x1), some (tI x2)]) (st' := [tR (some a0), tR (some a0)]) (h' := h) gX11_call rfl ?_
    obtain ⟨ho, w⟩ := w
    refine T_gs (tR (gr h 675 a0)) gX11_call rfl rfl ⟨ho, ?_⟩
    refine T_run (n := 1) (pc' := 69) (lv' := [some (tR (some a0)), some (tI x1), some (tI x2)]) (st' := [tI x2, tR (gr h 675 a0), tR (some a0)]) (h' := h) gX11_call rfl ?_
    obtain ⟨a_7, hr, tt, nn, ht, hk, hj, w⟩ := w
    refine T_lal gX11_call rfl ⟨a_7, hr, tt, nn, ht, hk, hj, ?_⟩
    obtain ⟨ho, w⟩ := w
    refine T_cv (fun aa => [some (tR (some aa)), some (tL (al h a_7 x2.toNatClampNeg)), none]) gX11_call rfl rfl rfl rfl (Nat.le_of_ble_eq_true rfl) gX11_push (fun _ => Nat.le_of_ble_eq_true rfl) (fun _ => rfl) ⟨a0, rfl, ho, T_kv ?_⟩
    refine T.mono w (fun rr h_8 hw => ?_)
    obtain ⟨hr, w⟩ := hw
    refine ⟨hr, ?_⟩
    refine T_inc (x := x2) (c := 1) (lv' := [some (tR (some a0)), some (tI x1), some (tI (x2 + 1))]) gX11_call rfl rfl (by decide) rfl ?_
    refine T_goto (tgt := 55) gX11_call rfl (by decide) ?_
    exact w
set_option maxHeartbeats 4000000 in
set_option maxRecDepth 20000 in
theorem wX11_traps (a0 : Nat) (x1 : Int32) (h : Hp) (Q : Option TV → Hp → Prop) (w :
ob h a0 10 (∀ h_1, h_1 = pi h 668 a0 3 →
ob h_1 a0 10 (∀ h_2, h_2 = pi h_1 669 a0 x1 →
Q none h_2))) : tX11_traps a0 x1 h Q := by
  refine T_run (n := 1) (pc' := 1) (lv' := [some (tR (some a0)), some (tI x1)]) (st' := [tR (some a0)]) (h' := h) gX11_traps rfl ?_
  refine T_kn (v := 3) gX11_traps rfl (by decide) ?_
  obtain ⟨ho, w⟩ := w
  refine T_ps (pi h 668 a0 3) gX11_traps rfl rfl ⟨ho, fun h_1 he => ?_⟩
  replace w := w h_1 he
  refine T_run (n := 2) (pc' := 7) (lv' := [some (tR (some a0)), some (tI x1)]) (st' := [tI x1, tR (some a0)]) (h' := h_1) gX11_traps rfl ?_
  obtain ⟨ho, w⟩ := w
  refine T_ps (pi h_1 669 a0 x1) gX11_traps rfl rfl ⟨ho, fun h_2 he => ?_⟩
  replace w := w h_2 he
  exact T_rv gX11_traps rfl rfl w
set_option maxHeartbeats 4000000 in
set_option maxRecDepth 20000 in
theorem wX11_pop (a0 : Nat) (h : Hp) (Q : Option TV → Hp → Prop) (w :
ob h a0 10 (
ob h a0 10 (∀ h_1, h_1 = pi h 672 a0 ((gi h 672 a0) - 1) →
ob h_1 a0 10 (
ob h_1 a0 10 (
dr (gr h_1 676 a0) (fun a_2 => ix h_1 kJ a_2 (gi h_1 672 a0) (
Q (some (tL (al h_1 a_2 (gi h_1 672 a0).toNatClampNeg))) h_1))))))) : tX11_pop a0 h Q := by
  refine T_run (n := 2) (pc' := 2) (lv' := [some (tR (some a0))]) (st' := [tR (some a0), tR (some a0)]) (h' := h) gX11_pop rfl ?_
  obtain ⟨ho, w⟩ := w
  refine T_gs (tI (gi h 672 a0)) gX11_pop rfl rfl ⟨ho, ?_⟩
  refine T_kn (v := 1) gX11_pop rfl (by decide) ?_
  refine T_run (n := 1) (pc' := 7) (lv' := [some (tR (some a0))]) (st' := [tI ((gi h 672 a0) - 1), tR (some a0)]) (h' := h) gX11_pop rfl ?_
  obtain ⟨ho, w⟩ := w
  refine T_ps (pi h 672 a0 ((gi h 672 a0) - 1)) gX11_pop rfl rfl ⟨ho, fun h_1 he => ?_⟩
  replace w := w h_1 he
  refine T_run (n := 1) (pc' := 11) (lv' := [some (tR (some a0))]) (st' := [tR (some a0)]) (h' := h_1) gX11_pop rfl ?_
  obtain ⟨ho, w⟩ := w
  refine T_gs (tR (gr h_1 676 a0)) gX11_pop rfl rfl ⟨ho, ?_⟩
  refine T_run (n := 1) (pc' := 15) (lv' := [some (tR (some a0))]) (st' := [tR (some a0), tR (gr h_1 676 a0)]) (h' := h_1) gX11_pop rfl ?_
  obtain ⟨ho, w⟩ := w
  refine T_gs (tI (gi h_1 672 a0)) gX11_pop rfl rfl ⟨ho, ?_⟩
  obtain ⟨a_2, hr, tt, nn, ht, hk, hj, w⟩ := w
  refine T_lal gX11_pop rfl ⟨a_2, hr, tt, nn, ht, hk, hj, ?_⟩
  exact T_rl gX11_pop rfl rfl w
set_option maxHeartbeats 4000000 in
set_option maxRecDepth 20000 in
theorem wX11_isTrue (y0 : Int64) (h : Hp) (Q : Option TV → Hp → Prop) (w :
(if (y0 &&& 4294967295) = 0 then
Q (some (tI 0)) h
else
Q (some (tI 1)) h)) : tX11_isTrue y0 h Q := by
  refine T_run (n := 1) (pc' := 1) (lv' := [some (tL y0), none]) (st' := [tL y0]) (h' := h) gX11_isTrue rfl ?_
  refine T_kl2 (v := 4294967295) gX11_isTrue rfl (by decide) ?_
  refine T_run (n := 1) (pc' := 5) (lv' := [some (tL y0), none]) (st' := [tL (y0 &&& 4294967295)]) (h' := h) gX11_isTrue rfl ?_
  refine T_kj (v := 0) gX11_isTrue rfl (by decide) ?_
  refine T_run (n := 1) (pc' := 7) (lv' := [some (tL y0), none]) (st' := [tI (lg_cmp (y0 &&& 4294967295) 0)]) (h' := h) gX11_isTrue rfl ?_
  replace w := c_eq (if_iff (lg_eq (y0 &&& 4294967295) 0) w)
  refine T_if (tgt := 14) gX11_isTrue rfl (by decide) (fun hc => ?_) (fun hc => ?_)
  · replace w := w.1 hc
    refine T_kn (v := 0) gX11_isTrue rfl (by decide) ?_
    exact T_rz gX11_isTrue rfl rfl (Or.inl rfl) w
  · replace w := w.2 hc
    refine T_kn (v := 1) gX11_isTrue rfl (by decide) ?_
    refine T_goto (tgt := 15) gX11_isTrue rfl (by decide) ?_
    exact T_rz gX11_isTrue rfl rfl (Or.inr rfl) w
set_option maxHeartbeats 4000000 in
set_option maxRecDepth 20000 in
theorem wX11_condition (a0 : Nat) (x1 : Int32) (h : Hp) (Q : Option TV → Hp → Prop) (w :
ob h a0 10 (tX11_pop a0  h (rL (fun y_2 h_1 =>
tX11_isTrue y_2 h_1 (rI (fun x_4 h_3 =>
ob h_3 a0 10 (
ob h_3 a0 10 (tX11_endOf a0 ((gi h_3 674 a0) + 1) 1 h_3 (rI (fun x_6 h_5 =>
(if x_4 = 0 then
ob h_5 a0 10 (
dr (gr h_5 649 a0) (fun a_7 => ix h_5 kI a_7 x_6 (
(if (ai h_5 a_7 x_6.toNatClampNeg) = 5 then
ob h_5 a0 10 (∀ h_9, h_9 = pi h_5 674 a0 (x_6 + 1) →
Q none h_9)
else
ob h_5 a0 10 (∀ h_8, h_8 = pi h_5 674 a0 x_6 →
Q none h_8)))))
else
ob h_5 a0 10 (
ob h_5 a0 10 (∀ h_10, h_10 = pi h_5 674 a0 ((gi h_5 674 a0) + 1) →
Q none h_10))))))))))))) : tX11_condition a0 x1 h Q := by
  refine T_run (n := 1) (pc' := 1) (lv' := [some (tR (some a0)), some (tI x1), none, none]) (st' := [tR (some a0)]) (h' := h) gX11_condition rfl ?_
  obtain ⟨ho, w⟩ := w
  refine T_cv (fun aa => [some (tR (some aa))]) gX11_condition rfl rfl rfl rfl (Nat.le_of_ble_eq_true rfl) gX11_pop (fun _ => Nat.le_of_ble_eq_true rfl) (fun _ => rfl) ⟨a0, rfl, ho, T_kl ?_⟩
  refine T.mono w (fun rr h_1 hw => ?_)
  obtain ⟨y_2, hr, w⟩ := hw
  refine ⟨y_2, hr, ?_⟩
  refine T_cs (lv' := [some (tL y_2), none]) gX11_condition rfl rfl rfl rfl (Nat.le_of_ble_eq_true rfl) gX11_isTrue (Nat.le_of_ble_eq_true rfl) rfl (T_ki ?_)
  refine T.mono w (fun rr h_3 hw => ?_)
  obtain ⟨x_4, hr, w⟩ := hw
  refine ⟨x_4, hr, ?_⟩
  refine T_run (n := 3) (pc' := 10) (lv' := [some (tR (some a0)), some (tI x1), some (tI x_4), none]) (st' := [tR (some a0), tR (some a0)]) (h' := h_3) gX11_condition rfl ?_
  obtain ⟨ho, w⟩ := w
  refine T_gs (tI (gi h_3 674 a0)) gX11_condition rfl rfl ⟨ho, ?_⟩
  refine T_kn (v := 1) gX11_condition rfl (by decide) ?_
  refine T_run (n := 1) (pc' := 15) (lv' := [some (tR (some a0)), some (tI x1), some (tI x_4), none]) (st' := [tI ((gi h_3 674 a0) + 1), tR (some a0)]) (h' := h_3) gX11_condition rfl ?_
  refine T_kn (v := 1) gX11_condition rfl (by decide) ?_
  obtain ⟨ho, w⟩ := w
  refine T_cv (fun aa => [some (tR (some aa)), some (tI ((gi h_3 674 a0) + 1)), some (tI 1), none, none]) gX11_condition rfl rfl rfl rfl (Nat.le_of_ble_eq_true rfl) gX11_endOf (fun _ => Nat.le_of_ble_eq_true rfl) (fun _ => rfl) ⟨a0, rfl, ho, T_ki ?_⟩
  refine T.mono w (fun rr h_5 hw => ?_)
  obtain ⟨x_6, hr, w⟩ := hw
  refine ⟨x_6, hr, ?_⟩
  refine T_run (n := 3) (pc' := 22) (lv' := [some (tR (some a0)), some (tI x1), some (tI x_4), some (tI x_6)]) (st' := [tI x_4, tR (some a0)]) (h' := h_5) gX11_condition rfl ?_
  replace w := c_eq w
  refine T_if (tgt := 34) gX11_condition rfl (by decide) (fun hc => ?_) (fun hc => ?_)
  · replace w := w.1 hc
    refine T_run (n := 1) (pc' := 35) (lv' := [some (tR (some a0)), some (tI x1), some (tI x_4), some (tI x_6)]) (st' := [tR (some a0), tR (some a0)]) (h' := h_5) gX11_condition rfl ?_
    obtain ⟨ho, w⟩ := w
    refine T_gs (tR (gr h_5 649 a0)) gX11_condition rfl rfl ⟨ho, ?_⟩
    refine T_run (n := 1) (pc' := 39) (lv' := [some (tR (some a0)), some (tI x1), some (tI x_4), some (tI x_6)]) (st' := [tI x_6, tR (gr h_5 649 a0), tR (some a0)]) (h' := h_5) gX11_condition rfl ?_
    obtain ⟨a_7, hr, tt, nn, ht, hk, hj, w⟩ := w
    refine T_ial gX11_condition rfl ⟨a_7, hr, tt, nn, ht, hk, hj, ?_⟩
    refine T_kn (v := 5) gX11_condition rfl (by decide) ?_
    replace w := c_ne w
    refine T_ic (tgt := 50) gX11_condition rfl (by decide) (fun hc => ?_) (fun hc => ?_)
    · replace w := w.1 hc
      refine T_run (n := 1) (pc' := 51) (lv' := [some (tR (some a0)), some (tI x1), some (tI x_4), some (tI x_6)]) (st' := [tI x_6, tR (some a0)]) (h' := h_5) gX11_condition rfl ?_
      obtain ⟨ho, w⟩ := w
      refine T_ps (pi h_5 674 a0 x_6) gX11_condition rfl rfl ⟨ho, fun h_8 he => ?_⟩
      replace w := w h_8 he
      exact T_rv gX11_condition rfl rfl w
    · replace w := w.2 hc
      refine T_run (n := 1) (pc' := 45) (lv' := [some (tR (some a0)), some (tI x1), some (tI x_4), some (tI x_6)]) (st' := [tI x_6, tR (some a0)]) (h' := h_5) gX11_condition rfl ?_
      refine T_kn (v := 1) gX11_condition rfl (by decide) ?_
      refine T_run (n := 1) (pc' := 47) (lv' := [some (tR (some a0)), some (tI x1), some (tI x_4), some (tI x_6)]) (st' := [tI (x_6 + 1), tR (some a0)]) (h' := h_5) gX11_condition rfl ?_
      refine T_goto (tgt := 51) gX11_condition rfl (by decide) ?_
      obtain ⟨ho, w⟩ := w
      refine T_ps (pi h_5 674 a0 (x_6 + 1)) gX11_condition rfl rfl ⟨ho, fun h_9 he => ?_⟩
      replace w := w h_9 he
      exact T_rv gX11_condition rfl rfl w
  · replace w := w.2 hc
    refine T_run (n := 1) (pc' := 26) (lv' := [some (tR (some a0)), some (tI x1), some (tI x_4), some (tI x_6)]) (st' := [tR (some a0), tR (some a0)]) (h' := h_5) gX11_condition rfl ?_
    obtain ⟨ho, w⟩ := w
    refine T_gs (tI (gi h_5 674 a0)) gX11_condition rfl rfl ⟨ho, ?_⟩
    refine T_kn (v := 1) gX11_condition rfl (by decide) ?_
    refine T_run (n := 1) (pc' := 31) (lv' := [some (tR (some a0)), some (tI x1), some (tI x_4), some (tI x_6)]) (st' := [tI ((gi h_5 674 a0) + 1), tR (some a0)]) (h' := h_5) gX11_condition rfl ?_
    refine T_goto (tgt := 51) gX11_condition rfl (by decide) ?_
    obtain ⟨ho, w⟩ := w
    refine T_ps (pi h_5 674 a0 ((gi h_5 674 a0) + 1)) gX11_condition rfl rfl ⟨ho, fun h_10 he => ?_⟩
    replace w := w h_10 he
    exact T_rv gX11_condition rfl rfl w
set_option maxHeartbeats 4000000 in
set_option maxRecDepth 20000 in
theorem wX11_beginOf (a0 : Nat) (x1 : Int32) (x2 : Int32) (h : Hp) (Q : Option TV → Hp → Prop) (w :
tX11_beginOf_10 a0 0 x2 (x1 - 1) h Q) : tX11_beginOf a0 x1 x2 h Q := by
  refine T_kn (v := 0) gX11_beginOf rfl (by decide) ?_
  refine T_run (n := 4) (pc' := 6) (lv' := [some (tR (some a0)), some (tI x1), some (tI x2), some (tI 0), some (tI x2), none]) (st' := [tI x1]) (h' := h) gX11_beginOf rfl ?_
  refine T_kn (v := 1) gX11_beginOf rfl (by decide) ?_
  refine T_run (n := 2) (pc' := 10) (lv' := [some (tR (some a0)), some (tI x1), some (tI x2), some (tI 0), some (tI x2), some (tI (x1 - 1))]) (st' := []) (h' := h) gX11_beginOf rfl ?_
  exact T_wk w (leE (leN (leN (leE (leE (leE le0))))))
set_option maxHeartbeats 4000000 in
set_option maxRecDepth 20000 in
theorem wX11_beginOf_10 (a0 : Nat) (x3 : Int32) (x4 : Int32) (x5 : Int32) (h : Hp) (Q : Option TV → Hp → Prop) (w :
ob h a0 10 (
ob h a0 10 (
ob h a0 10 (
dr (gr h 677 a0) (fun a_1 => ix h kI a_1 ((gi h 671 a0) - 1) (
dr (gr h 643 a0) (fun a_2 => ix h kI a_2 (ai h a_1 ((gi h 671 a0) - 1).toNatClampNeg) (
(if x5 < (ai h a_2 (ai h a_1 ((gi h 671 a0) - 1).toNatClampNeg).toNatClampNeg) then
Q (some (tI (-1))) h
else
ob h a0 10 (
dr (gr h 649 a0) (fun a_3 => ix h kI a_3 x5 (
(if (ai h a_3 x5.toNatClampNeg) = 11 then
tX11_beginOf_46 a0 (x3 + 1) x4 x5 h Q
else
tX11_beginOf_46 a0 x3 x4 x5 h Q))))))))))))) : tX11_beginOf_10 a0 x3 x4 x5 h Q := by
  refine T_run (n := 2) (pc' := 13) (lv' := [some (tR (some a0)), none, none, some (tI x3), some (tI x4), some (tI x5)]) (st' := [tR (some a0), tI x5]) (h' := h) gX11_beginOf rfl ?_
  obtain ⟨ho, w⟩ := w
  refine T_gs (tR (gr h 643 a0)) gX11_beginOf rfl rfl ⟨ho, ?_⟩
  refine T_run (n := 1) (pc' := 17) (lv' := [some (tR (some a0)), none, none, some (tI x3), some (tI x4), some (tI x5)]) (st' := [tR (some a0), tR (gr h 643 a0), tI x5]) (h' := h) gX11_beginOf rfl ?_
  obtain ⟨ho, w⟩ := w
  refine T_gs (tR (gr h 677 a0)) gX11_beginOf rfl rfl ⟨ho, ?_⟩
  refine T_run (n := 1) (pc' := 21) (lv' := [some (tR (some a0)), none, none, some (tI x3), some (tI x4), some (tI x5)]) (st' := [tR (some a0), tR (gr h 677 a0), tR (gr h 643 a0), tI x5]) (h' := h) gX11_beginOf rfl ?_
  obtain ⟨ho, w⟩ := w
  refine T_gs (tI (gi h 671 a0)) gX11_beginOf rfl rfl ⟨ho, ?_⟩
  refine T_kn (v := 1) gX11_beginOf rfl (by decide) ?_
  refine T_run (n := 1) (pc' := 26) (lv' := [some (tR (some a0)), none, none, some (tI x3), some (tI x4), some (tI x5)]) (st' := [tI ((gi h 671 a0) - 1), tR (gr h 677 a0), tR (gr h 643 a0), tI x5]) (h' := h) gX11_beginOf rfl ?_
  obtain ⟨a_1, hr, tt, nn, ht, hk, hj, w⟩ := w
  refine T_ial gX11_beginOf rfl ⟨a_1, hr, tt, nn, ht, hk, hj, ?_⟩
  obtain ⟨a_2, hr, tt, nn, ht, hk, hj, w⟩ := w
  refine T_ial gX11_beginOf rfl ⟨a_2, hr, tt, nn, ht, hk, hj, ?_⟩
  replace w := c_lt w
  refine T_ic (tgt := 103) gX11_beginOf rfl (by decide) (fun hc => ?_) (fun hc => ?_)
  · replace w := w.1 hc
    refine T_kn (v := (-1)) gX11_beginOf rfl (by decide) ?_
    exact T_ri gX11_beginOf rfl rfl w
  · replace w := w.2 hc
    refine T_run (n := 1) (pc' := 32) (lv' := [some (tR (some a0)), none, none, some (tI x3), some (tI x4), some (tI x5)]) (st' := [tR (some a0)]) (h' := h) gX11_beginOf rfl ?_
    obtain ⟨ho, w⟩ := w
    refine T_gs (tR (gr h 649 a0)) gX11_beginOf rfl rfl ⟨ho, ?_⟩
    refine T_run (n := 1) (pc' := 37) (lv' := [some (tR (some a0)), none, none, some (tI x3), some (tI x4), some (tI x5)]) (st' := [tI x5, tR (gr h 649 a0)]) (h' := h) gX11_beginOf rfl ?_
    obtain ⟨a_3, hr, tt, nn, ht, hk, hj, w⟩ := w
    refine T_ial gX11_beginOf rfl ⟨a_3, hr, tt, nn, ht, hk, hj, ?_⟩
    refine T_kb (v := 11) gX11_beginOf rfl (by decide) ?_
    replace w := c_ne w
    refine T_ic (tgt := 46) gX11_beginOf rfl (by decide) (fun hc => ?_) (fun hc => ?_)
    · replace w := w.1 hc
      exact w
    · replace w := w.2 hc
      refine T_inc (x := x3) (c := 1) (lv' := [some (tR (some a0)), none, none, some (tI (x3 + 1)), some (tI x4), some (tI x5)]) gX11_beginOf rfl rfl (by decide) rfl ?_
      exact w
set_option maxHeartbeats 4000000 in
set_option maxRecDepth 20000 in
theorem wX11_beginOf_46 (a0 : Nat) (x3 : Int32) (x4 : Int32) (x5 : Int32) (h : Hp) (Q : Option TV → Hp → Prop) (w :
ob h a0 10 (
dr (gr h 649 a0) (fun a_1 => ix h kI a_1 x5 (
tX11_begins (ai h a_1 x5.toNatClampNeg) h (rI (fun x_3 h_2 =>
(if x_3 = 0 then
tX11_beginOf_97 a0 x3 x4 x5 h_2 Q
else
(if x3 = 0 then
(if x4 = 0 then
Q (some (tI x5)) h_2
else
tX11_beginOf_71 a0 x3 x4 x5 h_2 Q)
else
tX11_beginOf_71 a0 x3 x4 x5 h_2 Q)))))))) : tX11_beginOf_46 a0 x3 x4 x5 h Q := by
  refine T_run (n := 1) (pc' := 47) (lv' := [some (tR (some a0)), none, none, some (tI x3), some (tI x4), some (tI x5)]) (st' := [tR (some a0)]) (h' := h) gX11_beginOf rfl ?_
  obtain ⟨ho, w⟩ := w
  refine T_gs (tR (gr h 649 a0)) gX11_beginOf rfl rfl ⟨ho, ?_⟩
  refine T_run (n := 1) (pc' := 52) (lv' := [some (tR (some a0)), none, none, some (tI x3), some (tI x4), some (tI x5)]) (st' := [tI x5, tR (gr h 649 a0)]) (h' := h) gX11_beginOf rfl ?_
  obtain ⟨a_1, hr, tt, nn, ht, hk, hj, w⟩ := w
  refine T_ial gX11_beginOf rfl ⟨a_1, hr, tt, nn, ht, hk, hj, ?_⟩
  refine T_cs (lv' := [some (tI (ai h a_1 x5.toNatClampNeg))]) gX11_beginOf rfl rfl rfl rfl (Nat.le_of_ble_eq_true rfl) gX11_begins (Nat.le_of_ble_eq_true rfl) rfl (T_ki ?_)
  refine T.mono w (fun rr h_2 hw => ?_)
  obtain ⟨x_3, hr, w⟩ := hw
  refine ⟨x_3, hr, ?_⟩
  replace w := c_eq w
  refine T_if (tgt := 97) gX11_beginOf rfl (by decide) (fun hc => ?_) (fun hc => ?_)
  · replace w := w.1 hc
    exact w
  · replace w := w.2 hc
    refine T_run (n := 1) (pc' := 60) (lv' := [some (tR (some a0)), none, none, some (tI x3), some (tI x4), some (tI x5)]) (st' := [tI x3]) (h' := h_2) gX11_beginOf rfl ?_
    replace w := c_ne w
    refine T_if (tgt := 71) gX11_beginOf rfl (by decide) (fun hc => ?_) (fun hc => ?_)
    · replace w := w.1 hc
      exact w
    · replace w := w.2 hc
      refine T_run (n := 1) (pc' := 65) (lv' := [some (tR (some a0)), none, none, some (tI x3), some (tI x4), some (tI x5)]) (st' := [tI x4]) (h' := h_2) gX11_beginOf rfl ?_
      replace w := c_ne w
      refine T_if (tgt := 71) gX11_beginOf rfl (by decide) (fun hc => ?_) (fun hc => ?_)
      · replace w := w.1 hc
        exact w
      · replace w := w.2 hc
        refine T_run (n := 1) (pc' := 70) (lv' := [some (tR (some a0)), none, none, some (tI x3), some (tI x4), some (tI x5)]) (st' := [tI x5]) (h' := h_2) gX11_beginOf rfl ?_
        exact T_ri gX11_beginOf rfl rfl w
set_option maxHeartbeats 4000000 in
set_option maxRecDepth 20000 in
theorem wX11_beginOf_71 (a0 : Nat) (x3 : Int32) (x4 : Int32) (x5 : Int32) (h : Hp) (Q : Option TV → Hp → Prop) (w :
(if x3 = 0 then
tX11_beginOf_82 a0 x3 x5 1 x4 h Q
else
tX11_beginOf_82 a0 x3 x5 0 x4 h Q)) : tX11_beginOf_71 a0 x3 x4 x5 h Q := by
  refine T_run (n := 2) (pc' := 74) (lv' := [some (tR (some a0)), none, none, some (tI x3), some (tI x4), some (tI x5)]) (st' := [tI x3, tI x4]) (h' := h) gX11_beginOf rfl ?_
  replace w := c_ne w
  refine T_if (tgt := 81) gX11_beginOf rfl (by decide) (fun hc => ?_) (fun hc => ?_)
  · replace w := w.1 hc
    refine T_kn (v := 0) gX11_beginOf rfl (by decide) ?_
    exact T_wk w (leE (leN (leN (leE (leN (leE le0))))))
  · replace w := w.2 hc
    refine T_kn (v := 1) gX11_beginOf rfl (by decide) ?_
    refine T_goto (tgt := 82) gX11_beginOf rfl (by decide) ?_
    exact T_wk w (leE (leN (leN (leE (leN (leE le0))))))
set_option maxHeartbeats 4000000 in
set_option maxRecDepth 20000 in
theorem wX11_beginOf_82 (a0 : Nat) (x3 : Int32) (x5 : Int32) (s0 : Int32) (s1 : Int32) (h : Hp) (Q : Option TV → Hp → Prop) (w :
(if 0 < x3 then
tX11_beginOf_95 a0 (s1 - s0) x5 1 x3 h Q
else
tX11_beginOf_95 a0 (s1 - s0) x5 0 x3 h Q)) : tX11_beginOf_82 a0 x3 x5 s0 s1 h Q := by
  refine T_run (n := 4) (pc' := 87) (lv' := [some (tR (some a0)), none, none, some (tI x3), some (tI (s1 - s0)), some (tI x5)]) (st' := [tI x3, tI x3]) (h' := h) gX11_beginOf rfl ?_
  replace w := c_le w
  refine T_if (tgt := 94) gX11_beginOf rfl (by decide) (fun hc => ?_) (fun hc => ?_)
  · replace w := w.1 hc
    refine T_kn (v := 0) gX11_beginOf rfl (by decide) ?_
    exact T_wk w (leE (leN (leN (leN (leE (leE le0))))))
  · replace w := w.2 hc
    refine T_kn (v := 1) gX11_beginOf rfl (by decide) ?_
    refine T_goto (tgt := 95) gX11_beginOf rfl (by decide) ?_
    exact T_wk w (leE (leN (leN (leN (leE (leE le0))))))
set_option maxHeartbeats 4000000 in
set_option maxRecDepth 20000 in
theorem wX11_beginOf_95 (a0 : Nat) (x4 : Int32) (x5 : Int32) (s0 : Int32) (s1 : Int32) (h : Hp) (Q : Option TV → Hp → Prop) (w :
tX11_beginOf_97 a0 (s1 - s0) x4 x5 h Q) : tX11_beginOf_95 a0 x4 x5 s0 s1 h Q := by
  refine T_run (n := 2) (pc' := 97) (lv' := [some (tR (some a0)), none, none, some (tI (s1 - s0)), some (tI x4), some (tI x5)]) (st' := []) (h' := h) gX11_beginOf rfl ?_
  exact w
set_option maxHeartbeats 4000000 in
set_option maxRecDepth 20000 in
theorem wX11_beginOf_97 (a0 : Nat) (x3 : Int32) (x4 : Int32) (x5 : Int32) (h : Hp) (Q : Option TV → Hp → Prop) (w :
tX11_beginOf_10 a0 x3 x4 (x5 + (-1)) h Q) : tX11_beginOf_97 a0 x3 x4 x5 h Q := by
  refine T_inc (x := x5) (c := (-1)) (lv' := [some (tR (some a0)), none, none, some (tI x3), some (tI x4), some (tI (x5 + (-1)))]) gX11_beginOf rfl rfl (by decide) rfl ?_
  refine T_goto (tgt := 10) gX11_beginOf rfl (by decide) ?_
  exact w
set_option maxHeartbeats 4000000 in
set_option maxRecDepth 20000 in
theorem wX11_base (a0 : Nat) (h : Hp) (Q : Option TV → Hp → Prop) (w :
ob h a0 10 (
ob h a0 10 (
dr (gr h 678 a0) (fun a_1 => ix h kI a_1 ((gi h 671 a0) - 1) (
ob h a0 10 (
ob h a0 10 (
dr (gr h 677 a0) (fun a_2 => ix h kI a_2 ((gi h 671 a0) - 1) (
ob h a0 10 (tX11_namesOf a0 (ai h a_2 ((gi h 671 a0) - 1).toNatClampNeg) h (rI (fun x_4 h_3 =>
Q (some (tI ((ai h a_1 ((gi h 671 a0) - 1).toNatClampNeg) + x_4))) h_3)))))))))))) : tX11_base a0 h Q := by
  refine T_run (n := 1) (pc' := 1) (lv' := [some (tR (some a0))]) (st' := [tR (some a0)]) (h' := h) gX11_base rfl ?_
  obtain ⟨ho, w⟩ := w
  refine T_gs (tR (gr h 678 a0)) gX11_base rfl rfl ⟨ho, ?_⟩
  refine T_run (n := 1) (pc' := 5) (lv' := [some (tR (some a0))]) (st' := [tR (some a0), tR (gr h 678 a0)]) (h' := h) gX11_base rfl ?_
  obtain ⟨ho, w⟩ := w
  refine T_gs (tI (gi h 671 a0)) gX11_base rfl rfl ⟨ho, ?_⟩
  refine T_kn (v := 1) gX11_base rfl (by decide) ?_
  refine T_run (n := 1) (pc' := 10) (lv' := [some (tR (some a0))]) (st' := [tI ((gi h 671 a0) - 1), tR (gr h 678 a0)]) (h' := h) gX11_base rfl ?_
  obtain ⟨a_1, hr, tt, nn, ht, hk, hj, w⟩ := w
  refine T_ial gX11_base rfl ⟨a_1, hr, tt, nn, ht, hk, hj, ?_⟩
  refine T_run (n := 2) (pc' := 13) (lv' := [some (tR (some a0))]) (st' := [tR (some a0), tR (some a0), tI (ai h a_1 ((gi h 671 a0) - 1).toNatClampNeg)]) (h' := h) gX11_base rfl ?_
  obtain ⟨ho, w⟩ := w
  refine T_gs (tR (gr h 677 a0)) gX11_base rfl rfl ⟨ho, ?_⟩
  refine T_run (n := 1) (pc' := 17) (lv' := [some (tR (some a0))]) (st' := [tR (some a0), tR (gr h 677 a0), tR (some a0), tI (ai h a_1 ((gi h 671 a0) - 1).toNatClampNeg)]) (h' := h) gX11_base rfl ?_
  obtain ⟨ho, w⟩ := w
  refine T_gs (tI (gi h 671 a0)) gX11_base rfl rfl ⟨ho, ?_⟩
  refine T_kn (v := 1) gX11_base rfl (by decide) ?_
  refine T_run (n := 1) (pc' := 22) (lv' := [some (tR (some a0))]) (st' := [tI ((gi h 671 a0) - 1), tR (gr h 677 a0), tR (some a0), tI (ai h a_1 ((gi h 671 a0) - 1).toNatClampNeg)]) (h' := h) gX11_base rfl ?_
  obtain ⟨a_2, hr, tt, nn, ht, hk, hj, w⟩ := w
  refine T_ial gX11_base rfl ⟨a_2, hr, tt, nn, ht, hk, hj, ?_⟩
  obtain ⟨ho, w⟩ := w
  refine T_cv (fun aa => [some (tR (some aa)), some (tI (ai h a_2 ((gi h 671 a0) - 1).toNatClampNeg))]) gX11_base rfl rfl rfl rfl (Nat.le_of_ble_eq_true rfl) gX11_namesOf (fun _ => Nat.le_of_ble_eq_true rfl) (fun _ => rfl) ⟨a0, rfl, ho, T_ki ?_⟩
  refine T.mono w (fun rr h_3 hw => ?_)
  obtain ⟨x_4, hr, w⟩ := hw
  refine ⟨x_4, hr, ?_⟩
  refine T_run (n := 1) (pc' := 27) (lv' := [some (tR (some a0))]) (st' := [tI ((ai h a_1 ((gi h 671 a0) - 1).toNatClampNeg) + x_4)]) (h' := h_3) gX11_base rfl ?_
  exact T_ri gX11_base rfl rfl w
set_option maxHeartbeats 4000000 in
set_option maxRecDepth 20000 in
theorem wX11_branch (a0 : Nat) (x1 : Int32) (h : Hp) (Q : Option TV → Hp → Prop) (w :
ob h a0 10 (
ob h a0 10 (tX11_beginOf a0 (gi h 674 a0) x1 h (rI (fun x_2 h_1 =>
(if x_2 < 0 then
ob h_1 a0 10 (tX11_back a0  h_1 (rV (fun h_6 =>
Q none h_6)))
else
ob h_1 a0 10 (
dr (gr h_1 649 a0) (fun a_3 => ix h_1 kI a_3 x_2 (
(if (ai h_1 a_3 x_2.toNatClampNeg) = 3 then
ob h_1 a0 10 (
dr (gr h_1 650 a0) (fun a_5 => ix h_1 kI a_5 x_2 (
tX11_branch_45 a0 x_2 (ai h_1 a_5 x_2.toNatClampNeg) (some a0) h_1 Q)))
else
ob h_1 a0 10 (
dr (gr h_1 651 a0) (fun a_4 => ix h_1 kI a_4 x_2 (
tX11_branch_45 a0 x_2 (ai h_1 a_4 x_2.toNatClampNeg) (some a0) h_1 Q))))))))))))) : tX11_branch a0 x1 h Q := by
  refine T_run (n := 2) (pc' := 2) (lv' := [some (tR (some a0)), some (tI x1), none]) (st' := [tR (some a0), tR (some a0)]) (h' := h) gX11_branch rfl ?_
  obtain ⟨ho, w⟩ := w
  refine T_gs (tI (gi h 674 a0)) gX11_branch rfl rfl ⟨ho, ?_⟩
  refine T_run (n := 1) (pc' := 6) (lv' := [some (tR (some a0)), some (tI x1), none]) (st' := [tI x1, tI (gi h 674 a0), tR (some a0)]) (h' := h) gX11_branch rfl ?_
  obtain ⟨ho, w⟩ := w
  refine T_cv (fun aa => [some (tR (some aa)), some (tI (gi h 674 a0)), some (tI x1), none, none, none]) gX11_branch rfl rfl rfl rfl (Nat.le_of_ble_eq_true rfl) gX11_beginOf (fun _ => Nat.le_of_ble_eq_true rfl) (fun _ => rfl) ⟨a0, rfl, ho, T_ki ?_⟩
  refine T.mono w (fun rr h_1 hw => ?_)
  obtain ⟨x_2, hr, w⟩ := hw
  refine ⟨x_2, hr, ?_⟩
  refine T_run (n := 2) (pc' := 11) (lv' := [some (tR (some a0)), some (tI x1), some (tI x_2)]) (st' := [tI x_2]) (h' := h_1) gX11_branch rfl ?_
  replace w := c_ge w
  refine T_if (tgt := 19) gX11_branch rfl (by decide) (fun hc => ?_) (fun hc => ?_)
  · replace w := w.1 hc
    refine T_run (n := 2) (pc' := 21) (lv' := [some (tR (some a0)), some (tI x1), some (tI x_2)]) (st' := [tR (some a0), tR (some a0)]) (h' := h_1) gX11_branch rfl ?_
    obtain ⟨ho, w⟩ := w
    refine T_gs (tR (gr h_1 649 a0)) gX11_branch rfl rfl ⟨ho, ?_⟩
    refine T_run (n := 1) (pc' := 25) (lv' := [some (tR (some a0)), some (tI x1), some (tI x_2)]) (st' := [tI x_2, tR (gr h_1 649 a0), tR (some a0)]) (h' := h_1) gX11_branch rfl ?_
    obtain ⟨a_3, hr, tt, nn, ht, hk, hj, w⟩ := w
    refine T_ial gX11_branch rfl ⟨a_3, hr, tt, nn, ht, hk, hj, ?_⟩
    refine T_kn (v := 3) gX11_branch rfl (by decide) ?_
    replace w := c_ne w
    refine T_ic (tgt := 39) gX11_branch rfl (by decide) (fun hc => ?_) (fun hc => ?_)
    · replace w := w.1 hc
      refine T_run (n := 1) (pc' := 40) (lv' := [some (tR (some a0)), some (tI x1), some (tI x_2)]) (st' := [tR (some a0), tR (some a0)]) (h' := h_1) gX11_branch rfl ?_
      obtain ⟨ho, w⟩ := w
      refine T_gs (tR (gr h_1 651 a0)) gX11_branch rfl rfl ⟨ho, ?_⟩
      refine T_run (n := 1) (pc' := 44) (lv' := [some (tR (some a0)), some (tI x1), some (tI x_2)]) (st' := [tI x_2, tR (gr h_1 651 a0), tR (some a0)]) (h' := h_1) gX11_branch rfl ?_
      obtain ⟨a_4, hr, tt, nn, ht, hk, hj, w⟩ := w
      refine T_ial gX11_branch rfl ⟨a_4, hr, tt, nn, ht, hk, hj, ?_⟩
      exact T_wk w (leE (leN (leE le0)))
    · replace w := w.2 hc
      refine T_run (n := 1) (pc' := 31) (lv' := [some (tR (some a0)), some (tI x1), some (tI x_2)]) (st' := [tR (some a0), tR (some a0)]) (h' := h_1) gX11_branch rfl ?_
      obtain ⟨ho, w⟩ := w
      refine T_gs (tR (gr h_1 650 a0)) gX11_branch rfl rfl ⟨ho, ?_⟩
      refine T_run (n := 1) (pc' := 35) (lv' := [some (tR (some a0)), some (tI x1), some (tI x_2)]) (st' := [tI x_2, tR (gr h_1 650 a0), tR (some a0)]) (h' := h_1) gX11_branch rfl ?_
      obtain ⟨a_5, hr, tt, nn, ht, hk, hj, w⟩ := w
      refine T_ial gX11_branch rfl ⟨a_5, hr, tt, nn, ht, hk, hj, ?_⟩
      refine T_goto (tgt := 45) gX11_branch rfl (by decide) ?_
      exact T_wk w (leE (leN (leE le0)))
  · replace w := w.2 hc
    refine T_run (n := 1) (pc' := 15) (lv' := [some (tR (some a0)), some (tI x1), some (tI x_2)]) (st' := [tR (some a0)]) (h' := h_1) gX11_branch rfl ?_
    obtain ⟨ho, w⟩ := w
    refine T_cv (fun aa => [some (tR (some aa)), none, none]) gX11_branch rfl rfl rfl rfl (Nat.le_of_ble_eq_true rfl) gX11_back (fun _ => Nat.le_of_ble_eq_true rfl) (fun _ => rfl) ⟨a0, rfl, ho, T_kv ?_⟩
    refine T.mono w (fun rr h_6 hw => ?_)
    obtain ⟨hr, w⟩ := hw
    refine ⟨hr, ?_⟩
    exact T_rv gX11_branch rfl rfl w
set_option maxHeartbeats 4000000 in
set_option maxRecDepth 20000 in
theorem wX11_branch_45 (a0 : Nat) (x2 : Int32) (s0 : Int32) (s1 : Option Nat) (h : Hp) (Q : Option TV → Hp → Prop) (w :
ob h a0 10 (tX11_base a0  h (rI (fun x_2 h_1 =>
ob h_1 a0 10 (
dr (gr h_1 652 a0) (fun a_3 => ix h_1 kI a_3 x2 (
dr s1 (fun a_6 => ob h_1 a_6 10 (tX11_keep a_6 s0 (x_2 + (ai h_1 a_3 x2.toNatClampNeg)) h_1 (rV (fun h_4 =>
ob h_4 a0 10 (
dr (gr h_4 649 a0) (fun a_7 => ix h_4 kI a_7 x2 (
(if (ai h_4 a_7 x2.toNatClampNeg) = 3 then
ob h_4 a0 10 (∀ h_11, h_11 = pi h_4 674 a0 (x2 + 1) →
Q none h_11)
else
ob h_4 a0 10 (tX11_endOf a0 (x2 + 1) 0 h_4 (rI (fun x_9 h_8 =>
ob h_8 a0 10 (∀ h_10, h_10 = pi h_8 674 a0 (x_9 + 1) →
Q none h_10))))))))))))))))))) : tX11_branch_45 a0 x2 s0 s1 h Q := by
  refine T_run (n := 1) (pc' := 46) (lv' := [some (tR (some a0)), none, some (tI x2)]) (st' := [tR (some a0), tI s0, tR s1]) (h' := h) gX11_branch rfl ?_
  obtain ⟨ho, w⟩ := w
  refine T_cv (fun aa => [some (tR (some aa))]) gX11_branch rfl rfl rfl rfl (Nat.le_of_ble_eq_true rfl) gX11_base (fun _ => Nat.le_of_ble_eq_true rfl) (fun _ => rfl) ⟨a0, rfl, ho, T_ki ?_⟩
  refine T.mono w (fun rr h_1 hw => ?_)
  obtain ⟨x_2, hr, w⟩ := hw
  refine ⟨x_2, hr, ?_⟩
  refine T_run (n := 1) (pc' := 50) (lv' := [some (tR (some a0)), none, some (tI x2)]) (st' := [tR (some a0), tI x_2, tI s0, tR s1]) (h' := h_1) gX11_branch rfl ?_
  obtain ⟨ho, w⟩ := w
  refine T_gs (tR (gr h_1 652 a0)) gX11_branch rfl rfl ⟨ho, ?_⟩
  refine T_run (n := 1) (pc' := 54) (lv' := [some (tR (some a0)), none, some (tI x2)]) (st' := [tI x2, tR (gr h_1 652 a0), tI x_2, tI s0, tR s1]) (h' := h_1) gX11_branch rfl ?_
  obtain ⟨a_3, hr, tt, nn, ht, hk, hj, w⟩ := w
  refine T_ial gX11_branch rfl ⟨a_3, hr, tt, nn, ht, hk, hj, ?_⟩
  refine T_run (n := 1) (pc' := 56) (lv' := [some (tR (some a0)), none, some (tI x2)]) (st' := [tI (x_2 + (ai h_1 a_3 x2.toNatClampNeg)), tI s0, tR s1]) (h' := h_1) gX11_branch rfl ?_
  obtain ⟨a_6, hr, ho, w⟩ := w
  refine T_cv (fun aa => [some (tR (some aa)), some (tI s0), some (tI (x_2 + (ai h_1 a_3 x2.toNatClampNeg))), none]) gX11_branch rfl rfl rfl rfl (Nat.le_of_ble_eq_true rfl) gX11_keep (fun _ => Nat.le_of_ble_eq_true rfl) (fun _ => rfl) ⟨a_6, hr, ho, T_kv ?_⟩
  refine T.mono w (fun rr h_4 hw => ?_)
  obtain ⟨hr, w⟩ := hw
  refine ⟨hr, ?_⟩
  refine T_run (n := 2) (pc' := 61) (lv' := [some (tR (some a0)), none, some (tI x2)]) (st' := [tR (some a0), tR (some a0)]) (h' := h_4) gX11_branch rfl ?_
  obtain ⟨ho, w⟩ := w
  refine T_gs (tR (gr h_4 649 a0)) gX11_branch rfl rfl ⟨ho, ?_⟩
  refine T_run (n := 1) (pc' := 65) (lv' := [some (tR (some a0)), none, some (tI x2)]) (st' := [tI x2, tR (gr h_4 649 a0), tR (some a0)]) (h' := h_4) gX11_branch rfl ?_
  obtain ⟨a_7, hr, tt, nn, ht, hk, hj, w⟩ := w
  refine T_ial gX11_branch rfl ⟨a_7, hr, tt, nn, ht, hk, hj, ?_⟩
  refine T_kn (v := 3) gX11_branch rfl (by decide) ?_
  replace w := c_ne w
  refine T_ic (tgt := 76) gX11_branch rfl (by decide) (fun hc => ?_) (fun hc => ?_)
  · replace w := w.1 hc
    refine T_run (n := 2) (pc' := 78) (lv' := [some (tR (some a0)), none, some (tI x2)]) (st' := [tI x2, tR (some a0), tR (some a0)]) (h' := h_4) gX11_branch rfl ?_
    refine T_kn (v := 1) gX11_branch rfl (by decide) ?_
    refine T_run (n := 1) (pc' := 80) (lv' := [some (tR (some a0)), none, some (tI x2)]) (st' := [tI (x2 + 1), tR (some a0), tR (some a0)]) (h' := h_4) gX11_branch rfl ?_
    refine T_kn (v := 0) gX11_branch rfl (by decide) ?_
    obtain ⟨ho, w⟩ := w
    refine T_cv (fun aa => [some (tR (some aa)), some (tI (x2 + 1)), some (tI 0), none, none]) gX11_branch rfl rfl rfl rfl (Nat.le_of_ble_eq_true rfl) gX11_endOf (fun _ => Nat.le_of_ble_eq_true rfl) (fun _ => rfl) ⟨a0, rfl, ho, T_ki ?_⟩
    refine T.mono w (fun rr h_8 hw => ?_)
    obtain ⟨x_9, hr, w⟩ := hw
    refine ⟨x_9, hr, ?_⟩
    refine T_kn (v := 1) gX11_branch rfl (by decide) ?_
    refine T_run (n := 1) (pc' := 86) (lv' := [some (tR (some a0)), none, some (tI x2)]) (st' := [tI (x_9 + 1), tR (some a0)]) (h' := h_8) gX11_branch rfl ?_
    obtain ⟨ho, w⟩ := w
    refine T_ps (pi h_8 674 a0 (x_9 + 1)) gX11_branch rfl rfl ⟨ho, fun h_10 he => ?_⟩
    replace w := w h_10 he
    exact T_rv gX11_branch rfl rfl w
  · replace w := w.2 hc
    refine T_run (n := 1) (pc' := 71) (lv' := [some (tR (some a0)), none, some (tI x2)]) (st' := [tI x2, tR (some a0)]) (h' := h_4) gX11_branch rfl ?_
    refine T_kn (v := 1) gX11_branch rfl (by decide) ?_
    refine T_run (n := 1) (pc' := 73) (lv' := [some (tR (some a0)), none, some (tI x2)]) (st' := [tI (x2 + 1), tR (some a0)]) (h' := h_4) gX11_branch rfl ?_
    refine T_goto (tgt := 86) gX11_branch rfl (by decide) ?_
    obtain ⟨ho, w⟩ := w
    refine T_ps (pi h_4 674 a0 (x2 + 1)) gX11_branch rfl rfl ⟨ho, fun h_11 he => ?_⟩
    replace w := w h_11 he
    exact T_rv gX11_branch rfl rfl w
set_option maxHeartbeats 4000000 in
set_option maxRecDepth 20000 in
theorem wX11_outermost (a0 : Nat) (h : Hp) (Q : Option TV → Hp → Prop) (w :
tX11_outermost_2 a0 0 h Q) : tX11_outermost a0 h Q := by
  refine T_kn (v := 0) gX11_outermost rfl (by decide) ?_
  refine T_run (n := 1) (pc' := 2) (lv' := [some (tR (some a0)), some (tI 0)]) (st' := []) (h' := h) gX11_outermost rfl ?_
  exact w
set_option maxHeartbeats 4000000 in
set_option maxRecDepth 20000 in
theorem wX11_outermost_2 (a0 : Nat) (x1 : Int32) (h : Hp) (Q : Option TV → Hp → Prop) (w :
ob h a0 10 (
ob h a0 10 (tX11_beginOf a0 (gi h 674 a0) x1 h (rI (fun x_2 h_1 =>
(if x_2 < 0 then
Q (some (tI x1)) h_1
else
tX11_outermost_2 a0 (x1 + 1) h_1 Q)))))) : tX11_outermost_2 a0 x1 h Q := by
  refine T_run (n := 2) (pc' := 4) (lv' := [some (tR (some a0)), some (tI x1)]) (st' := [tR (some a0), tR (some a0)]) (h' := h) gX11_outermost rfl ?_
  obtain ⟨ho, w⟩ := w
  refine T_gs (tI (gi h 674 a0)) gX11_outermost rfl rfl ⟨ho, ?_⟩
  refine T_run (n := 1) (pc' := 8) (lv' := [some (tR (some a0)), some (tI x1)]) (st' := [tI x1, tI (gi h 674 a0), tR (some a0)]) (h' := h) gX11_outermost rfl ?_
  obtain ⟨ho, w⟩ := w
  refine T_cv (fun aa => [some (tR (some aa)), some (tI (gi h 674 a0)), some (tI x1), none, none, none]) gX11_outermost rfl rfl rfl rfl (Nat.le_of_ble_eq_true rfl) gX11_beginOf (fun _ => Nat.le_of_ble_eq_true rfl) (fun _ => rfl) ⟨a0, rfl, ho, T_ki ?_⟩
  refine T.mono w (fun rr h_1 hw => ?_)
  obtain ⟨x_2, hr, w⟩ := hw
  refine ⟨x_2, hr, ?_⟩
  replace w := c_lt w
  refine T_if (tgt := 20) gX11_outermost rfl (by decide) (fun hc => ?_) (fun hc => ?_)
  · replace w := w.1 hc
    refine T_run (n := 1) (pc' := 21) (lv' := [some (tR (some a0)), some (tI x1)]) (st' := [tI x1]) (h' := h_1) gX11_outermost rfl ?_
    exact T_ri gX11_outermost rfl rfl w
  · replace w := w.2 hc
    refine T_inc (x := x1) (c := 1) (lv' := [some (tR (some a0)), some (tI (x1 + 1))]) gX11_outermost rfl rfl (by decide) rfl ?_
    refine T_goto (tgt := 2) gX11_outermost rfl (by decide) ?_
    exact w
set_option maxHeartbeats 4000000 in
set_option maxRecDepth 20000 in
theorem wX11_callTable (a0 : Nat) (x1 : Int32) (x2 : Int32) (h : Hp) (Q : Option TV → Hp → Prop) (w :
ob h a0 10 (tX11_pop a0  h (rL (fun y_2 h_1 =>
(if (y_2 &&& 4294967295) < 30 then
ob h_1 a0 10 (
dr (gr h_1 663 a0) (fun a_3 => ix h_1 kI a_3 ((y_2 &&& 4294967295).toInt32) (
tX11_callTable_28 a0 x1 x2 (y_2 &&& 4294967295) (ai h_1 a_3 ((y_2 &&& 4294967295).toInt32).toNatClampNeg) h_1 Q)))
else
tX11_callTable_28 a0 x1 x2 (y_2 &&& 4294967295) (-1) h_1 Q))))) : tX11_callTable a0 x1 x2 h Q := by
  refine T_run (n := 1) (pc' := 1) (lv' := [some (tR (some a0)), some (tI x1), some (tI x2), none, none, none]) (st' := [tR (some a0)]) (h' := h) gX11_callTable rfl ?_
  obtain ⟨ho, w⟩ := w
  refine T_cv (fun aa => [some (tR (some aa))]) gX11_callTable rfl rfl rfl rfl (Nat.le_of_ble_eq_true rfl) gX11_pop (fun _ => Nat.le_of_ble_eq_true rfl) (fun _ => rfl) ⟨a0, rfl, ho, T_kl ?_⟩
  refine T.mono w (fun rr h_1 hw => ?_)
  obtain ⟨y_2, hr, w⟩ := hw
  refine ⟨y_2, hr, ?_⟩
  refine T_kl2 (v := 4294967295) gX11_callTable rfl (by decide) ?_
  refine T_run (n := 3) (pc' := 10) (lv' := [some (tR (some a0)), some (tI x1), some (tI x2), some (tL (y_2 &&& 4294967295)), none, none]) (st' := [tL (y_2 &&& 4294967295)]) (h' := h_1) gX11_callTable rfl ?_
  refine T_kl2 (v := 30) gX11_callTable rfl (by decide) ?_
  refine T_run (n := 1) (pc' := 14) (lv' := [some (tR (some a0)), some (tI x1), some (tI x2), some (tL (y_2 &&& 4294967295)), none, none]) (st' := [tI (lg_cmp (y_2 &&& 4294967295) 30)]) (h' := h_1) gX11_callTable rfl ?_
  replace w := c_ge (if_iff (lg_lt (y_2 &&& 4294967295) 30) w)
  refine T_if (tgt := 27) gX11_callTable rfl (by decide) (fun hc => ?_) (fun hc => ?_)
  · replace w := w.1 hc
    refine T_kn (v := (-1)) gX11_callTable rfl (by decide) ?_
    exact w
  · replace w := w.2 hc
    refine T_run (n := 1) (pc' := 18) (lv' := [some (tR (some a0)), some (tI x1), some (tI x2), some (tL (y_2 &&& 4294967295)), none, none]) (st' := [tR (some a0)]) (h' := h_1) gX11_callTable rfl ?_
    obtain ⟨ho, w⟩ := w
    refine T_gs (tR (gr h_1 663 a0)) gX11_callTable rfl rfl ⟨ho, ?_⟩
    refine T_run (n := 2) (pc' := 23) (lv' := [some (tR (some a0)), some (tI x1), some (tI x2), some (tL (y_2 &&& 4294967295)), none, none]) (st' := [tI ((y_2 &&& 4294967295).toInt32), tR (gr h_1 663 a0)]) (h' := h_1) gX11_callTable rfl ?_
    obtain ⟨a_3, hr, tt, nn, ht, hk, hj, w⟩ := w
    refine T_ial gX11_callTable rfl ⟨a_3, hr, tt, nn, ht, hk, hj, ?_⟩
    refine T_goto (tgt := 28) gX11_callTable rfl (by decide) ?_
    exact w
set_option maxHeartbeats 4000000 in
set_option maxRecDepth 20000 in
theorem wX11_callTable_28 (a0 : Nat) (x1 : Int32) (x2 : Int32) (y3 : Int64) (s0 : Int32) (h : Hp) (Q : Option TV → Hp → Prop) (w :
(if y3 < 30 then
(if s0 < 0 then
ob h a0 10 (tX11_traps a0 7 h (rV (fun h_5 =>
Q none h_5)))
else
ob h a0 10 (
dr (gr h 645 a0) (fun a_1 => ix h kI a_1 s0 (
(if (ai h a_1 s0.toNatClampNeg) = x1 then
ob h a0 10 (
dr (gr h 646 a0) (fun a_2 => ix h kI a_2 s0 (
(if (ai h a_2 s0.toNatClampNeg) = x2 then
ob h a0 10 (tX11_enter a0 s0 h (rV (fun h_3 =>
Q none h_3)))
else
tX11_callTable_83 a0 h Q))))
else
tX11_callTable_83 a0 h Q)))))
else
ob h a0 10 (tX11_traps a0 6 h (rV (fun h_7 =>
Q none h_7))))) : tX11_callTable_28 a0 x1 x2 y3 s0 h Q := by
  refine T_run (n := 2) (pc' := 31) (lv' := [some (tR (some a0)), some (tI x1), some (tI x2), some (tL y3), none, some (tI s0)]) (st' := [tL y3]) (h' := h) gX11_callTable rfl ?_
  refine T_kl2 (v := 30) gX11_callTable rfl (by decide) ?_
  refine T_run (n := 1) (pc' := 35) (lv' := [some (tR (some a0)), some (tI x1), some (tI x2), some (tL y3), none, some (tI s0)]) (st' := [tI (lg_cmp y3 30)]) (h' := h) gX11_callTable rfl ?_
  replace w := c_lt (if_iff (lg_lt y3 30) w)
  refine T_if (tgt := 47) gX11_callTable rfl (by decide) (fun hc => ?_) (fun hc => ?_)
  · replace w := w.1 hc
    refine T_run (n := 1) (pc' := 49) (lv' := [some (tR (some a0)), some (tI x1), some (tI x2), some (tL y3), none, some (tI s0)]) (st' := [tI s0]) (h' := h) gX11_callTable rfl ?_
    replace w := c_ge w
    refine T_if (tgt := 61) gX11_callTable rfl (by decide) (fun hc => ?_) (fun hc => ?_)
    · replace w := w.1 hc
      refine T_run (n := 1) (pc' := 62) (lv' := [some (tR (some a0)), some (tI x1), some (tI x2), some (tL y3), none, some (tI s0)]) (st' := [tR (some a0)]) (h' := h) gX11_callTable rfl ?_
      obtain ⟨ho, w⟩ := w
      refine T_gs (tR (gr h 645 a0)) gX11_callTable rfl rfl ⟨ho, ?_⟩
      refine T_run (n := 1) (pc' := 67) (lv' := [some (tR (some a0)), some (tI x1), some (tI x2), some (tL y3), none, some (tI s0)]) (st' := [tI s0, tR (gr h 645 a0)]) (h' := h) gX11_callTable rfl ?_
      obtain ⟨a_1, hr, tt, nn, ht, hk, hj, w⟩ := w
      refine T_ial gX11_callTable rfl ⟨a_1, hr, tt, nn, ht, hk, hj, ?_⟩
      refine T_run (n := 1) (pc' := 69) (lv' := [some (tR (some a0)), some (tI x1), some (tI x2), some (tL y3), none, some (tI s0)]) (st' := [tI x1, tI (ai h a_1 s0.toNatClampNeg)]) (h' := h) gX11_callTable rfl ?_
      replace w := c_ne w
      refine T_ic (tgt := 83) gX11_callTable rfl (by decide) (fun hc => ?_) (fun hc => ?_)
      · replace w := w.1 hc
        exact T_wk w (leE (leN (leN (leN (leN (leN le0))))))
      · replace w := w.2 hc
        refine T_run (n := 1) (pc' := 73) (lv' := [some (tR (some a0)), some (tI x1), some (tI x2), some (tL y3), none, some (tI s0)]) (st' := [tR (some a0)]) (h' := h) gX11_callTable rfl ?_
        obtain ⟨ho, w⟩ := w
        refine T_gs (tR (gr h 646 a0)) gX11_callTable rfl rfl ⟨ho, ?_⟩
        refine T_run (n := 1) (pc' := 78) (lv' := [some (tR (some a0)), some (tI x1), some (tI x2), some (tL y3), none, some (tI s0)]) (st' := [tI s0, tR (gr h 646 a0)]) (h' := h) gX11_callTable rfl ?_
        obtain ⟨a_2, hr, tt, nn, ht, hk, hj, w⟩ := w
        refine T_ial gX11_callTable rfl ⟨a_2, hr, tt, nn, ht, hk, hj, ?_⟩
        refine T_run (n := 1) (pc' := 80) (lv' := [some (tR (some a0)), some (tI x1), some (tI x2), some (tL y3), none, some (tI s0)]) (st' := [tI x2, tI (ai h a_2 s0.toNatClampNeg)]) (h' := h) gX11_callTable rfl ?_
        replace w := c_eq w
        refine T_ic (tgt := 92) gX11_callTable rfl (by decide) (fun hc => ?_) (fun hc => ?_)
        · replace w := w.1 hc
          refine T_run (n := 2) (pc' := 95) (lv' := [some (tR (some a0)), some (tI x1), some (tI x2), some (tL y3), none, some (tI s0)]) (st' := [tI s0, tR (some a0)]) (h' := h) gX11_callTable rfl ?_
          obtain ⟨ho, w⟩ := w
          refine T_cv (fun aa => [some (tR (some aa)), some (tI s0), none]) gX11_callTable rfl rfl rfl rfl (Nat.le_of_ble_eq_true rfl) gX11_enter (fun _ => Nat.le_of_ble_eq_true rfl) (fun _ => rfl) ⟨a0, rfl, ho, T_kv ?_⟩
          refine T.mono w (fun rr h_3 hw => ?_)
          obtain ⟨hr, w⟩ := hw
          refine ⟨hr, ?_⟩
          exact T_rv gX11_callTable rfl rfl w
        · replace w := w.2 hc
          exact T_wk w (leE (leN (leN (leN (leN (leN le0))))))
    · replace w := w.2 hc
      refine T_run (n := 1) (pc' := 53) (lv' := [some (tR (some a0)), some (tI x1), some (tI x2), some (tL y3), none, some (tI s0)]) (st' := [tR (some a0)]) (h' := h) gX11_callTable rfl ?_
      refine T_kb (v := 7) gX11_callTable rfl (by decide) ?_
      obtain ⟨ho, w⟩ := w
      refine T_cv (fun aa => [some (tR (some aa)), some (tI 7)]) gX11_callTable rfl rfl rfl rfl (Nat.le_of_ble_eq_true rfl) gX11_traps (fun _ => Nat.le_of_ble_eq_true rfl) (fun _ => rfl) ⟨a0, rfl, ho, T_kv ?_⟩
      refine T.mono w (fun rr h_5 hw => ?_)
      obtain ⟨hr, w⟩ := hw
      refine ⟨hr, ?_⟩
      refine T_goto (tgt := 98) gX11_callTable rfl (by decide) ?_
      exact T_rv gX11_callTable rfl rfl w
  · replace w := w.2 hc
    refine T_run (n := 1) (pc' := 39) (lv' := [some (tR (some a0)), some (tI x1), some (tI x2), some (tL y3), none, some (tI s0)]) (st' := [tR (some a0)]) (h' := h) gX11_callTable rfl ?_
    refine T_kb (v := 6) gX11_callTable rfl (by decide) ?_
    obtain ⟨ho, w⟩ := w
    refine T_cv (fun aa => [some (tR (some aa)), some (tI 6)]) gX11_callTable rfl rfl rfl rfl (Nat.le_of_ble_eq_true rfl) gX11_traps (fun _ => Nat.le_of_ble_eq_true rfl) (fun _ => rfl) ⟨a0, rfl, ho, T_kv ?_⟩
    refine T.mono w (fun rr h_7 hw => ?_)
    obtain ⟨hr, w⟩ := hw
    refine ⟨hr, ?_⟩
    refine T_goto (tgt := 98) gX11_callTable rfl (by decide) ?_
    exact T_rv gX11_callTable rfl rfl w
set_option maxHeartbeats 4000000 in
set_option maxRecDepth 20000 in
theorem wX11_callTable_83 (a0 : Nat) (h : Hp) (Q : Option TV → Hp → Prop) (w :
ob h a0 10 (tX11_traps a0 8 h (rV (fun h_1 =>
Q none h_1)))) : tX11_callTable_83 a0 h Q := by
  refine T_run (n := 1) (pc' := 84) (lv' := [some (tR (some a0)), none, none, none, none, none]) (st' := [tR (some a0)]) (h' := h) gX11_callTable rfl ?_
  refine T_kb (v := 8) gX11_callTable rfl (by decide) ?_
  obtain ⟨ho, w⟩ := w
  refine T_cv (fun aa => [some (tR (some aa)), some (tI 8)]) gX11_callTable rfl rfl rfl rfl (Nat.le_of_ble_eq_true rfl) gX11_traps (fun _ => Nat.le_of_ble_eq_true rfl) (fun _ => rfl) ⟨a0, rfl, ho, T_kv ?_⟩
  refine T.mono w (fun rr h_1 hw => ?_)
  obtain ⟨hr, w⟩ := hw
  refine ⟨hr, ?_⟩
  refine T_goto (tgt := 98) gX11_callTable rfl (by decide) ?_
  exact T_rv gX11_callTable rfl rfl w
set_option maxHeartbeats 4000000 in
set_option maxRecDepth 20000 in
theorem wX11_choose (a0 : Nat) (h : Hp) (Q : Option TV → Hp → Prop) (w :
ob h a0 10 (tX11_pop a0  h (rL (fun y_2 h_1 =>
tX11_isTrue y_2 h_1 (rI (fun x_4 h_3 =>
ob h_3 a0 10 (tX11_pop a0  h_3 (rL (fun y_6 h_5 =>
ob h_5 a0 10 (tX11_pop a0  h_5 (rL (fun y_8 h_7 =>
(if x_4 = 0 then
tX11_choose_30 a0 y_6 (some a0) h_7 Q
else
tX11_choose_30 a0 y_8 (some a0) h_7 Q))))))))))))) : tX11_choose a0 h Q := by
  refine T_run (n := 1) (pc' := 1) (lv' := [some (tR (some a0)), none, none, none, none, none]) (st' := [tR (some a0)]) (h' := h) gX11_choose rfl ?_
  obtain ⟨ho, w⟩ := w
  refine T_cv (fun aa => [some (tR (some aa))]) gX11_choose rfl rfl rfl rfl (Nat.le_of_ble_eq_true rfl) gX11_pop (fun _ => Nat.le_of_ble_eq_true rfl) (fun _ => rfl) ⟨a0, rfl, ho, T_kl ?_⟩
  refine T.mono w (fun rr h_1 hw => ?_)
  obtain ⟨y_2, hr, w⟩ := hw
  refine ⟨y_2, hr, ?_⟩
  refine T_cs (lv' := [some (tL y_2), none]) gX11_choose rfl rfl rfl rfl (Nat.le_of_ble_eq_true rfl) gX11_isTrue (Nat.le_of_ble_eq_true rfl) rfl (T_ki ?_)
  refine T.mono w (fun rr h_3 hw => ?_)
  obtain ⟨x_4, hr, w⟩ := hw
  refine ⟨x_4, hr, ?_⟩
  refine T_run (n := 2) (pc' := 9) (lv' := [some (tR (some a0)), some (tI x_4), none, none, none, none]) (st' := [tR (some a0)]) (h' := h_3) gX11_choose rfl ?_
  obtain ⟨ho, w⟩ := w
  refine T_cv (fun aa => [some (tR (some aa))]) gX11_choose rfl rfl rfl rfl (Nat.le_of_ble_eq_true rfl) gX11_pop (fun _ => Nat.le_of_ble_eq_true rfl) (fun _ => rfl) ⟨a0, rfl, ho, T_kl ?_⟩
  refine T.mono w (fun rr h_5 hw => ?_)
  obtain ⟨y_6, hr, w⟩ := hw
  refine ⟨y_6, hr, ?_⟩
  refine T_run (n := 2) (pc' := 14) (lv' := [some (tR (some a0)), some (tI x_4), some (tL y_6), none, none, none]) (st' := [tR (some a0)]) (h' := h_5) gX11_choose rfl ?_
  obtain ⟨ho, w⟩ := w
  refine T_cv (fun aa => [some (tR (some aa))]) gX11_choose rfl rfl rfl rfl (Nat.le_of_ble_eq_true rfl) gX11_pop (fun _ => Nat.le_of_ble_eq_true rfl) (fun _ => rfl) ⟨a0, rfl, ho, T_kl ?_⟩
  refine T.mono w (fun rr h_7 hw => ?_)
  obtain ⟨y_8, hr, w⟩ := hw
  refine ⟨y_8, hr, ?_⟩
  refine T_run (n := 3) (pc' := 21) (lv' := [some (tR (some a0)), some (tI x_4), some (tL y_6), none, some (tL y_8), none]) (st' := [tI x_4, tR (some a0)]) (h' := h_7) gX11_choose rfl ?_
  replace w := c_eq w
  refine T_if (tgt := 29) gX11_choose rfl (by decide) (fun hc => ?_) (fun hc => ?_)
  · replace w := w.1 hc
    refine T_run (n := 1) (pc' := 30) (lv' := [some (tR (some a0)), some (tI x_4), some (tL y_6), none, some (tL y_8), none]) (st' := [tL y_6, tR (some a0)]) (h' := h_7) gX11_choose rfl ?_
    exact T_wk w (leE (leN (leN (leN (leN (leN le0))))))
  · replace w := w.2 hc
    refine T_run (n := 1) (pc' := 26) (lv' := [some (tR (some a0)), some (tI x_4), some (tL y_6), none, some (tL y_8), none]) (st' := [tL y_8, tR (some a0)]) (h' := h_7) gX11_choose rfl ?_
    refine T_goto (tgt := 30) gX11_choose rfl (by decide) ?_
    exact T_wk w (leE (leN (leN (leN (leN (leN le0))))))
set_option maxHeartbeats 4000000 in
set_option maxRecDepth 20000 in
theorem wX11_choose_30 (a0 : Nat) (s0 : Int64) (s1 : Option Nat) (h : Hp) (Q : Option TV → Hp → Prop) (w :
dr s1 (fun a_3 => ob h a_3 10 (tX11_push a_3 s0 h (rV (fun h_1 =>
Q none h_1))))) : tX11_choose_30 a0 s0 s1 h Q := by
  obtain ⟨a_3, hr, ho, w⟩ := w
  refine T_cv (fun aa => [some (tR (some aa)), some (tL s0), none]) gX11_choose rfl rfl rfl rfl (Nat.le_of_ble_eq_true rfl) gX11_push (fun _ => Nat.le_of_ble_eq_true rfl) (fun _ => rfl) ⟨a_3, hr, ho, T_kv ?_⟩
  refine T.mono w (fun rr h_1 hw => ?_)
  obtain ⟨hr, w⟩ := hw
  refine ⟨hr, ?_⟩
  exact T_rv gX11_choose rfl rfl w
set_option maxHeartbeats 4000000 in
set_option maxRecDepth 20000 in
theorem wX11_variable (a0 : Nat) (x1 : Int32) (x2 : Int32) (h : Hp) (Q : Option TV → Hp → Prop) (w :
ob h a0 10 (
ob h a0 10 (
dr (gr h 678 a0) (fun a_1 => ix h kI a_1 ((gi h 671 a0) - 1) (
(if x1 = 32 then
ob h a0 10 (
dr (gr h 676 a0) (fun a_2 => ix h kJ a_2 ((ai h a_1 ((gi h 671 a0) - 1).toNatClampNeg) + x2) (
ob h a0 10 (tX11_push a0 (al h a_2 ((ai h a_1 ((gi h 671 a0) - 1).toNatClampNeg) + x2).toNatClampNeg) h (rV (fun h_3 =>
Q none h_3))))))
else
(if x1 = 33 then
ob h a0 10 (
ob h a0 10 (tX11_pop a0  h (rL (fun y_6 h_5 =>
dr (gr h 676 a0) (fun a_7 => ix h_5 kJ a_7 ((ai h a_1 ((gi h 671 a0) - 1).toNatClampNeg) + x2) (∀ h_8, h_8 = sl h_5 a_7 ((ai h a_1 ((gi h 671 a0) - 1).toNatClampNeg) + x2).toNatClampNeg y_6 →
Q none h_8))))))
else
(if x1 = 34 then
ob h a0 10 (
ob h a0 10 (
ob h a0 10 (
dr (gr h 676 a0) (fun a_9 => ix h kJ a_9 ((gi h 672 a0) - 1) (
dr (gr h 676 a0) (fun a_10 => ix h kJ a_10 ((ai h a_1 ((gi h 671 a0) - 1).toNatClampNeg) + x2) (∀ h_11, h_11 = sl h a_10 ((ai h a_1 ((gi h 671 a0) - 1).toNatClampNeg) + x2).toNatClampNeg (al h a_9 ((gi h 672 a0) - 1).toNatClampNeg) →
Q none h_11)))))))
else
(if x1 = 35 then
ob h a0 10 (
dr (gr h 664 a0) (fun a_12 => ix h kJ a_12 x2 (
ob h a0 10 (tX11_push a0 (al h a_12 x2.toNatClampNeg) h (rV (fun h_13 =>
Q none h_13))))))
else
ob h a0 10 (
ob h a0 10 (tX11_pop a0  h (rL (fun y_16 h_15 =>
dr (gr h 664 a0) (fun a_17 => ix h_15 kJ a_17 x2 (∀ h_18, h_18 = sl h_15 a_17 x2.toNatClampNeg y_16 →
Q none h_18))))))))))))))) : tX11_variable a0 x1 x2 h Q := by
  refine T_run (n := 1) (pc' := 1) (lv' := [some (tR (some a0)), some (tI x1), some (tI x2), none]) (st' := [tR (some a0)]) (h' := h) gX11_variable rfl ?_
  obtain ⟨ho, w⟩ := w
  refine T_gs (tR (gr h 678 a0)) gX11_variable rfl rfl ⟨ho, ?_⟩
  refine T_run (n := 1) (pc' := 5) (lv' := [some (tR (some a0)), some (tI x1), some (tI x2), none]) (st' := [tR (some a0), tR (gr h 678 a0)]) (h' := h) gX11_variable rfl ?_
  obtain ⟨ho, w⟩ := w
  refine T_gs (tI (gi h 671 a0)) gX11_variable rfl rfl ⟨ho, ?_⟩
  refine T_kn (v := 1) gX11_variable rfl (by decide) ?_
  refine T_run (n := 1) (pc' := 10) (lv' := [some (tR (some a0)), some (tI x1), some (tI x2), none]) (st' := [tI ((gi h 671 a0) - 1), tR (gr h 678 a0)]) (h' := h) gX11_variable rfl ?_
  obtain ⟨a_1, hr, tt, nn, ht, hk, hj, w⟩ := w
  refine T_ial gX11_variable rfl ⟨a_1, hr, tt, nn, ht, hk, hj, ?_⟩
  refine T_run (n := 4) (pc' := 15) (lv' := [some (tR (some a0)), some (tI x1), some (tI x2), some (tI ((ai h a_1 ((gi h 671 a0) - 1).toNatClampNeg) + x2))]) (st' := [tI x1]) (h' := h) gX11_variable rfl ?_
  refine T_tsw (dt := 103) (cs := [(32, 44), (33, 57), (34, 70), (35, 90)]) gX11_variable rfl (by decide) ?_
  refine sw_cons (fun hc => ?_) (fun hc => ?_)
  · rw [if_pos hc] at w
    refine T_run (n := 2) (pc' := 46) (lv' := [some (tR (some a0)), some (tI x1), some (tI x2), some (tI ((ai h a_1 ((gi h 671 a0) - 1).toNatClampNeg) + x2))]) (st' := [tR (some a0), tR (some a0)]) (h' := h) gX11_variable rfl ?_
    obtain ⟨ho, w⟩ := w
    refine T_gs (tR (gr h 676 a0)) gX11_variable rfl rfl ⟨ho, ?_⟩
    refine T_run (n := 1) (pc' := 50) (lv' := [some (tR (some a0)), some (tI x1), some (tI x2), some (tI ((ai h a_1 ((gi h 671 a0) - 1).toNatClampNeg) + x2))]) (st' := [tI ((ai h a_1 ((gi h 671 a0) - 1).toNatClampNeg) + x2), tR (gr h 676 a0), tR (some a0)]) (h' := h) gX11_variable rfl ?_
    obtain ⟨a_2, hr, tt, nn, ht, hk, hj, w⟩ := w
    refine T_lal gX11_variable rfl ⟨a_2, hr, tt, nn, ht, hk, hj, ?_⟩
    obtain ⟨ho, w⟩ := w
    refine T_cv (fun aa => [some (tR (some aa)), some (tL (al h a_2 ((ai h a_1 ((gi h 671 a0) - 1).toNatClampNeg) + x2).toNatClampNeg)), none]) gX11_variable rfl rfl rfl rfl (Nat.le_of_ble_eq_true rfl) gX11_push (fun _ => Nat.le_of_ble_eq_true rfl) (fun _ => rfl) ⟨a0, rfl, ho, T_kv ?_⟩
    refine T.mono w (fun rr h_3 hw => ?_)
    obtain ⟨hr, w⟩ := hw
    refine ⟨hr, ?_⟩
    refine T_goto (tgt := 113) gX11_variable rfl (by decide) ?_
    exact T_rv gX11_variable rfl rfl w
  rw [if_neg hc] at w
  refine sw_cons (fun hc => ?_) (fun hc => ?_)
  · rw [if_pos hc] at w
    refine T_run (n := 1) (pc' := 58) (lv' := [some (tR (some a0)), some (tI x1), some (tI x2), some (tI ((ai h a_1 ((gi h 671 a0) - 1).toNatClampNeg) + x2))]) (st' := [tR (some a0)]) (h' := h) gX11_variable rfl ?_
    obtain ⟨ho, w⟩ := w
    refine T_gs (tR (gr h 676 a0)) gX11_variable rfl rfl ⟨ho, ?_⟩
    refine T_run (n := 2) (pc' := 63) (lv' := [some (tR (some a0)), some (tI x1), some (tI x2), some (tI ((ai h a_1 ((gi h 671 a0) - 1).toNatClampNeg) + x2))]) (st' := [tR (some a0), tI ((ai h a_1 ((gi h 671 a0) - 1).toNatClampNeg) + x2), tR (gr h 676 a0)]) (h' := h) gX11_variable rfl ?_
    obtain ⟨ho, w⟩ := w
    refine T_cv (fun aa => [some (tR (some aa))]) gX11_variable rfl rfl rfl rfl (Nat.le_of_ble_eq_true rfl) gX11_pop (fun _ => Nat.le_of_ble_eq_true rfl) (fun _ => rfl) ⟨a0, rfl, ho, T_kl ?_⟩
    refine T.mono w (fun rr h_5 hw => ?_)
    obtain ⟨y_6, hr, w⟩ := hw
    refine ⟨y_6, hr, ?_⟩
    obtain ⟨a_7, hr, tt, nn, ht, hk, hj, w⟩ := w
    refine T_las gX11_variable rfl ⟨a_7, hr, tt, nn, ht, hk, hj, fun h_8 he => ?_⟩
    replace w := w h_8 he
    refine T_goto (tgt := 113) gX11_variable rfl (by decide) ?_
    exact T_rv gX11_variable rfl rfl w
  rw [if_neg hc] at w
  refine sw_cons (fun hc => ?_) (fun hc => ?_)
  · rw [if_pos hc] at w
    refine T_run (n := 1) (pc' := 71) (lv' := [some (tR (some a0)), some (tI x1), some (tI x2), some (tI ((ai h a_1 ((gi h 671 a0) - 1).toNatClampNeg) + x2))]) (st' := [tR (some a0)]) (h' := h) gX11_variable rfl ?_
    obtain ⟨ho, w⟩ := w
    refine T_gs (tR (gr h 676 a0)) gX11_variable rfl rfl ⟨ho, ?_⟩
    refine T_run (n := 2) (pc' := 76) (lv' := [some (tR (some a0)), some (tI x1), some (tI x2), some (tI ((ai h a_1 ((gi h 671 a0) - 1).toNatClampNeg) + x2))]) (st' := [tR (some a0), tI ((ai h a_1 ((gi h 671 a0) - 1).toNatClampNeg) + x2), tR (gr h 676 a0)]) (h' := h) gX11_variable rfl ?_
    obtain ⟨ho, w⟩ := w
    refine T_gs (tR (gr h 676 a0)) gX11_variable rfl rfl ⟨ho, ?_⟩
    refine T_run (n := 1) (pc' := 80) (lv' := [some (tR (some a0)), some (tI x1), some (tI x2), some (tI ((ai h a_1 ((gi h 671 a0) - 1).toNatClampNeg) + x2))]) (st' := [tR (some a0), tR (gr h 676 a0), tI ((ai h a_1 ((gi h 671 a0) - 1).toNatClampNeg) + x2), tR (gr h 676 a0)]) (h' := h) gX11_variable rfl ?_
    obtain ⟨ho, w⟩ := w
    refine T_gs (tI (gi h 672 a0)) gX11_variable rfl rfl ⟨ho, ?_⟩
    refine T_kn (v := 1) gX11_variable rfl (by decide) ?_
    refine T_run (n := 1) (pc' := 85) (lv' := [some (tR (some a0)), some (tI x1), some (tI x2), some (tI ((ai h a_1 ((gi h 671 a0) - 1).toNatClampNeg) + x2))]) (st' := [tI ((gi h 672 a0) - 1), tR (gr h 676 a0), tI ((ai h a_1 ((gi h 671 a0) - 1).toNatClampNeg) + x2), tR (gr h 676 a0)]) (h' := h) gX11_variable rfl ?_
    obtain ⟨a_9, hr, tt, nn, ht, hk, hj, w⟩ := w
    refine T_lal gX11_variable rfl ⟨a_9, hr, tt, nn, ht, hk, hj, ?_⟩
    obtain ⟨a_10, hr, tt, nn, ht, hk, hj, w⟩ := w
    refine T_las gX11_variable rfl ⟨a_10, hr, tt, nn, ht, hk, hj, fun h_11 he => ?_⟩
    replace w := w h_11 he
    refine T_goto (tgt := 113) gX11_variable rfl (by decide) ?_
    exact T_rv gX11_variable rfl rfl w
  rw [if_neg hc] at w
  refine sw_cons (fun hc => ?_) (fun hc => ?_)
  · rw [if_pos hc] at w
    refine T_run (n := 2) (pc' := 92) (lv' := [some (tR (some a0)), some (tI x1), some (tI x2), some (tI ((ai h a_1 ((gi h 671 a0) - 1).toNatClampNeg) + x2))]) (st' := [tR (some a0), tR (some a0)]) (h' := h) gX11_variable rfl ?_
    obtain ⟨ho, w⟩ := w
    refine T_gs (tR (gr h 664 a0)) gX11_variable rfl rfl ⟨ho, ?_⟩
    refine T_run (n := 1) (pc' := 96) (lv' := [some (tR (some a0)), some (tI x1), some (tI x2), some (tI ((ai h a_1 ((gi h 671 a0) - 1).toNatClampNeg) + x2))]) (st' := [tI x2, tR (gr h 664 a0), tR (some a0)]) (h' := h) gX11_variable rfl ?_
    obtain ⟨a_12, hr, tt, nn, ht, hk, hj, w⟩ := w
    refine T_lal gX11_variable rfl ⟨a_12, hr, tt, nn, ht, hk, hj, ?_⟩
    obtain ⟨ho, w⟩ := w
    refine T_cv (fun aa => [some (tR (some aa)), some (tL (al h a_12 x2.toNatClampNeg)), none]) gX11_variable rfl rfl rfl rfl (Nat.le_of_ble_eq_true rfl) gX11_push (fun _ => Nat.le_of_ble_eq_true rfl) (fun _ => rfl) ⟨a0, rfl, ho, T_kv ?_⟩
    refine T.mono w (fun rr h_13 hw => ?_)
    obtain ⟨hr, w⟩ := hw
    refine ⟨hr, ?_⟩
    refine T_goto (tgt := 113) gX11_variable rfl (by decide) ?_
    exact T_rv gX11_variable rfl rfl w
  rw [if_neg hc] at w
  refine T_run (n := 1) (pc' := 104) (lv' := [some (tR (some a0)), some (tI x1), some (tI x2), some (tI ((ai h a_1 ((gi h 671 a0) - 1).toNatClampNeg) + x2))]) (st' := [tR (some a0)]) (h' := h) gX11_variable rfl ?_
  obtain ⟨ho, w⟩ := w
  refine T_gs (tR (gr h 664 a0)) gX11_variable rfl rfl ⟨ho, ?_⟩
  refine T_run (n := 2) (pc' := 109) (lv' := [some (tR (some a0)), some (tI x1), some (tI x2), some (tI ((ai h a_1 ((gi h 671 a0) - 1).toNatClampNeg) + x2))]) (st' := [tR (some a0), tI x2, tR (gr h 664 a0)]) (h' := h) gX11_variable rfl ?_
  obtain ⟨ho, w⟩ := w
  refine T_cv (fun aa => [some (tR (some aa))]) gX11_variable rfl rfl rfl rfl (Nat.le_of_ble_eq_true rfl) gX11_pop (fun _ => Nat.le_of_ble_eq_true rfl) (fun _ => rfl) ⟨a0, rfl, ho, T_kl ?_⟩
  refine T.mono w (fun rr h_15 hw => ?_)
  obtain ⟨y_16, hr, w⟩ := hw
  refine ⟨y_16, hr, ?_⟩
  obtain ⟨a_17, hr, tt, nn, ht, hk, hj, w⟩ := w
  refine T_las gX11_variable rfl ⟨a_17, hr, tt, nn, ht, hk, hj, fun h_18 he => ?_⟩
  replace w := w h_18 he
  exact T_rv gX11_variable rfl rfl w
set_option maxHeartbeats 4000000 in
set_option maxRecDepth 20000 in
theorem wX11_size (x0 : Int32) (h : Hp) (Q : Option TV → Hp → Prop) (w :
(if x0 = 41 then
Q (some (tI 8)) h
else
(if x0 = 43 then
Q (some (tI 8)) h
else
(if x0 = 55 then
Q (some (tI 8)) h
else
(if x0 = 57 then
Q (some (tI 8)) h
else
(if x0 = 40 then
Q (some (tI 4)) h
else
(if x0 = 42 then
Q (some (tI 4)) h
else
(if x0 = 52 then
Q (some (tI 4)) h
else
(if x0 = 53 then
Q (some (tI 4)) h
else
(if x0 = 54 then
Q (some (tI 4)) h
else
(if x0 = 56 then
Q (some (tI 4)) h
else
(if x0 = 62 then
Q (some (tI 4)) h
else
(if x0 = 46 then
Q (some (tI 2)) h
else
(if x0 = 47 then
Q (some (tI 2)) h
else
(if x0 = 50 then
Q (some (tI 2)) h
else
(if x0 = 51 then
Q (some (tI 2)) h
else
(if x0 = 59 then
Q (some (tI 2)) h
else
(if x0 = 61 then
Q (some (tI 2)) h
else
Q (some (tI 1)) h)))))))))))))))))) : tX11_size x0 h Q := by
  refine T_run (n := 1) (pc' := 1) (lv' := [some (tI x0)]) (st' := [tI x0]) (h' := h) gX11_size rfl ?_
  refine T_kb (v := 41) gX11_size rfl (by decide) ?_
  replace w := c_eq w
  refine T_ic (tgt := 24) gX11_size rfl (by decide) (fun hc => ?_) (fun hc => ?_)
  · replace w := w.1 hc
    refine T_kb (v := 8) gX11_size rfl (by decide) ?_
    exact T_ri gX11_size rfl rfl w
  · replace w := w.2 hc
    refine T_run (n := 1) (pc' := 7) (lv' := [some (tI x0)]) (st' := [tI x0]) (h' := h) gX11_size rfl ?_
    refine T_kb (v := 43) gX11_size rfl (by decide) ?_
    replace w := c_eq w
    refine T_ic (tgt := 24) gX11_size rfl (by decide) (fun hc => ?_) (fun hc => ?_)
    · replace w := w.1 hc
      refine T_kb (v := 8) gX11_size rfl (by decide) ?_
      exact T_ri gX11_size rfl rfl w
    · replace w := w.2 hc
      refine T_run (n := 1) (pc' := 13) (lv' := [some (tI x0)]) (st' := [tI x0]) (h' := h) gX11_size rfl ?_
      refine T_kb (v := 55) gX11_size rfl (by decide) ?_
      replace w := c_eq w
      refine T_ic (tgt := 24) gX11_size rfl (by decide) (fun hc => ?_) (fun hc => ?_)
      · replace w := w.1 hc
        refine T_kb (v := 8) gX11_size rfl (by decide) ?_
        exact T_ri gX11_size rfl rfl w
      · replace w := w.2 hc
        refine T_run (n := 1) (pc' := 19) (lv' := [some (tI x0)]) (st' := [tI x0]) (h' := h) gX11_size rfl ?_
        refine T_kb (v := 57) gX11_size rfl (by decide) ?_
        replace w := c_ne w
        refine T_ic (tgt := 27) gX11_size rfl (by decide) (fun hc => ?_) (fun hc => ?_)
        · replace w := w.1 hc
          refine T_run (n := 1) (pc' := 28) (lv' := [some (tI x0)]) (st' := [tI x0]) (h' := h) gX11_size rfl ?_
          refine T_kb (v := 40) gX11_size rfl (by decide) ?_
          replace w := c_eq w
          refine T_ic (tgt := 69) gX11_size rfl (by decide) (fun hc => ?_) (fun hc => ?_)
          · replace w := w.1 hc
            refine T_kn (v := 4) gX11_size rfl (by decide) ?_
            exact T_ri gX11_size rfl rfl w
          · replace w := w.2 hc
            refine T_run (n := 1) (pc' := 34) (lv' := [some (tI x0)]) (st' := [tI x0]) (h' := h) gX11_size rfl ?_
            refine T_kb (v := 42) gX11_size rfl (by decide) ?_
            replace w := c_eq w
            refine T_ic (tgt := 69) gX11_size rfl (by decide) (fun hc => ?_) (fun hc => ?_)
            · replace w := w.1 hc
              refine T_kn (v := 4) gX11_size rfl (by decide) ?_
              exact T_ri gX11_size rfl rfl w
            · replace w := w.2 hc
              refine T_run (n := 1) (pc' := 40) (lv' := [some (tI x0)]) (st' := [tI x0]) (h' := h) gX11_size rfl ?_
              refine T_kb (v := 52) gX11_size rfl (by decide) ?_
              replace w := c_eq w
              refine T_ic (tgt := 69) gX11_size rfl (by decide) (fun hc => ?_) (fun hc => ?_)
              · replace w := w.1 hc
                refine T_kn (v := 4) gX11_size rfl (by decide) ?_
                exact T_ri gX11_size rfl rfl w
              · replace w := w.2 hc
                refine T_run (n := 1) (pc' := 46) (lv' := [some (tI x0)]) (st' := [tI x0]) (h' := h) gX11_size rfl ?_
                refine T_kb (v := 53) gX11_size rfl (by decide) ?_
                replace w := c_eq w
                refine T_ic (tgt := 69) gX11_size rfl (by decide) (fun hc => ?_) (fun hc => ?_)
                · replace w := w.1 hc
                  refine T_kn (v := 4) gX11_size rfl (by decide) ?_
                  exact T_ri gX11_size rfl rfl w
                · replace w := w.2 hc
                  refine T_run (n := 1) (pc' := 52) (lv' := [some (tI x0)]) (st' := [tI x0]) (h' := h) gX11_size rfl ?_
                  refine T_kb (v := 54) gX11_size rfl (by decide) ?_
                  replace w := c_eq w
                  refine T_ic (tgt := 69) gX11_size rfl (by decide) (fun hc => ?_) (fun hc => ?_)
                  · replace w := w.1 hc
                    refine T_kn (v := 4) gX11_size rfl (by decide) ?_
                    exact T_ri gX11_size rfl rfl w
                  · replace w := w.2 hc
                    refine T_run (n := 1) (pc' := 58) (lv' := [some (tI x0)]) (st' := [tI x0]) (h' := h) gX11_size rfl ?_
                    refine T_kb (v := 56) gX11_size rfl (by decide) ?_
                    replace w := c_eq w
                    refine T_ic (tgt := 69) gX11_size rfl (by decide) (fun hc => ?_) (fun hc => ?_)
                    · replace w := w.1 hc
                      refine T_kn (v := 4) gX11_size rfl (by decide) ?_
                      exact T_ri gX11_size rfl rfl w
                    · replace w := w.2 hc
                      refine T_run (n := 1) (pc' := 64) (lv' := [some (tI x0)]) (st' := [tI x0]) (h' := h) gX11_size rfl ?_
                      refine T_kb (v := 62) gX11_size rfl (by decide) ?_
                      replace w := c_ne w
                      refine T_ic (tgt := 71) gX11_size rfl (by decide) (fun hc => ?_) (fun hc => ?_)
                      · replace w := w.1 hc
                        refine T_run (n := 1) (pc' := 72) (lv' := [some (tI x0)]) (st' := [tI x0]) (h' := h) gX11_size rfl ?_
                        refine T_kb (v := 46) gX11_size rfl (by decide) ?_
                        replace w := c_eq w
                        refine T_ic (tgt := 107) gX11_size rfl (by decide) (fun hc => ?_) (fun hc => ?_)
                        · replace w := w.1 hc
                          refine T_kn (v := 2) gX11_size rfl (by decide) ?_
                          refine T_goto (tgt := 112) gX11_size rfl (by decide) ?_
                          exact T_ri gX11_size rfl rfl w
                        · replace w := w.2 hc
                          refine T_run (n := 1) (pc' := 78) (lv' := [some (tI x0)]) (st' := [tI x0]) (h' := h) gX11_size rfl ?_
                          refine T_kb (v := 47) gX11_size rfl (by decide) ?_
                          replace w := c_eq w
                          refine T_ic (tgt := 107) gX11_size rfl (by decide) (fun hc => ?_) (fun hc => ?_)
                          · replace w := w.1 hc
                            refine T_kn (v := 2) gX11_size rfl (by decide) ?_
                            refine T_goto (tgt := 112) gX11_size rfl (by decide) ?_
                            exact T_ri gX11_size rfl rfl w
                          · replace w := w.2 hc
                            refine T_run (n := 1) (pc' := 84) (lv' := [some (tI x0)]) (st' := [tI x0]) (h' := h) gX11_size rfl ?_
                            refine T_kb (v := 50) gX11_size rfl (by decide) ?_
                            replace w := c_eq w
                            refine T_ic (tgt := 107) gX11_size rfl (by decide) (fun hc => ?_) (fun hc => ?_)
                            · replace w := w.1 hc
                              refine T_kn (v := 2) gX11_size rfl (by decide) ?_
                              refine T_goto (tgt := 112) gX11_size rfl (by decide) ?_
                              exact T_ri gX11_size rfl rfl w
                            · replace w := w.2 hc
                              refine T_run (n := 1) (pc' := 90) (lv' := [some (tI x0)]) (st' := [tI x0]) (h' := h) gX11_size rfl ?_
                              refine T_kb (v := 51) gX11_size rfl (by decide) ?_
                              replace w := c_eq w
                              refine T_ic (tgt := 107) gX11_size rfl (by decide) (fun hc => ?_) (fun hc => ?_)
                              · replace w := w.1 hc
                                refine T_kn (v := 2) gX11_size rfl (by decide) ?_
                                refine T_goto (tgt := 112) gX11_size rfl (by decide) ?_
                                exact T_ri gX11_size rfl rfl w
                              · replace w := w.2 hc
                                refine T_run (n := 1) (pc' := 96) (lv' := [some (tI x0)]) (st' := [tI x0]) (h' := h) gX11_size rfl ?_
                                refine T_kb (v := 59) gX11_size rfl (by decide) ?_
                                replace w := c_eq w
                                refine T_ic (tgt := 107) gX11_size rfl (by decide) (fun hc => ?_) (fun hc => ?_)
                                · replace w := w.1 hc
                                  refine T_kn (v := 2) gX11_size rfl (by decide) ?_
                                  refine T_goto (tgt := 112) gX11_size rfl (by decide) ?_
                                  exact T_ri gX11_size rfl rfl w
                                · replace w := w.2 hc
                                  refine T_run (n := 1) (pc' := 102) (lv' := [some (tI x0)]) (st' := [tI x0]) (h' := h) gX11_size rfl ?_
                                  refine T_kb (v := 61) gX11_size rfl (by decide) ?_
                                  replace w := c_ne w
                                  refine T_ic (tgt := 111) gX11_size rfl (by decide) (fun hc => ?_) (fun hc => ?_)
                                  · replace w := w.1 hc
                                    refine T_kn (v := 1) gX11_size rfl (by decide) ?_
                                    exact T_ri gX11_size rfl rfl w
                                  · replace w := w.2 hc
                                    refine T_kn (v := 2) gX11_size rfl (by decide) ?_
                                    refine T_goto (tgt := 112) gX11_size rfl (by decide) ?_
                                    exact T_ri gX11_size rfl rfl w
                      · replace w := w.2 hc
                        refine T_kn (v := 4) gX11_size rfl (by decide) ?_
                        exact T_ri gX11_size rfl rfl w
        · replace w := w.2 hc
          refine T_kb (v := 8) gX11_size rfl (by decide) ?_
          exact T_ri gX11_size rfl rfl w
set_option maxHeartbeats 4000000 in
set_option maxRecDepth 20000 in
theorem wX11_move (a0 : Nat) (x1 : Int32) (x2 : Int32) (h : Hp) (Q : Option TV → Hp → Prop) (w :
tX11_size x1 h (rI (fun x_2 h_1 =>
(if x1 < 54 then
tX11_move_16 a0 x1 x2 x_2 1 h_1 Q
else
tX11_move_16 a0 x1 x2 x_2 0 h_1 Q)))) : tX11_move a0 x1 x2 h Q := by
  refine T_run (n := 1) (pc' := 1) (lv' := [some (tR (some a0)), some (tI x1), some (tI x2), none, none, none, none, none, none, none, none, none]) (st' := [tI x1]) (h' := h) gX11_move rfl ?_
  refine T_cs (lv' := [some (tI x1)]) gX11_move rfl rfl rfl rfl (Nat.le_of_ble_eq_true rfl) gX11_size (Nat.le_of_ble_eq_true rfl) rfl (T_ki ?_)
  refine T.mono w (fun rr h_1 hw => ?_)
  obtain ⟨x_2, hr, w⟩ := hw
  refine ⟨x_2, hr, ?_⟩
  refine T_run (n := 2) (pc' := 6) (lv' := [some (tR (some a0)), some (tI x1), some (tI x2), some (tI x_2), none, none, none, none, none, none, none, none]) (st' := [tI x1]) (h' := h_1) gX11_move rfl ?_
  refine T_kb (v := 54) gX11_move rfl (by decide) ?_
  replace w := c_ge w
  refine T_ic (tgt := 15) gX11_move rfl (by decide) (fun hc => ?_) (fun hc => ?_)
  · replace w := w.1 hc
    refine T_kn (v := 0) gX11_move rfl (by decide) ?_
    exact w
  · replace w := w.2 hc
    refine T_kn (v := 1) gX11_move rfl (by decide) ?_
    refine T_goto (tgt := 16) gX11_move rfl (by decide) ?_
    exact w
set_option maxHeartbeats 4000000 in
set_option maxRecDepth 20000 in
theorem wX11_move_16 (a0 : Nat) (x1 : Int32) (x2 : Int32) (x3 : Int32) (s0 : Int32) (h : Hp) (Q : Option TV → Hp → Prop) (w :
(if s0 = 0 then
ob h a0 10 (tX11_pop a0  h (rL (fun y_2 h_1 =>
tX11_move_31 a0 x1 x2 x3 s0 y_2 h_1 Q)))
else
tX11_move_31 a0 x1 x2 x3 s0 0 h Q)) : tX11_move_16 a0 x1 x2 x3 s0 h Q := by
  refine T_run (n := 2) (pc' := 20) (lv' := [some (tR (some a0)), some (tI x1), some (tI x2), some (tI x3), some (tI s0), none, none, none, none, none, none, none]) (st' := [tI s0]) (h' := h) gX11_move rfl ?_
  replace w := c_eq w
  refine T_if (tgt := 27) gX11_move rfl (by decide) (fun hc => ?_) (fun hc => ?_)
  · replace w := w.1 hc
    refine T_run (n := 1) (pc' := 28) (lv' := [some (tR (some a0)), some (tI x1), some (tI x2), some (tI x3), some (tI s0), none, none, none, none, none, none, none]) (st' := [tR (some a0)]) (h' := h) gX11_move rfl ?_
    obtain ⟨ho, w⟩ := w
    refine T_cv (fun aa => [some (tR (some aa))]) gX11_move rfl rfl rfl rfl (Nat.le_of_ble_eq_true rfl) gX11_pop (fun _ => Nat.le_of_ble_eq_true rfl) (fun _ => rfl) ⟨a0, rfl, ho, T_kl ?_⟩
    refine T.mono w (fun rr h_1 hw => ?_)
    obtain ⟨y_2, hr, w⟩ := hw
    refine ⟨y_2, hr, ?_⟩
    exact w
  · replace w := w.2 hc
    refine T_kj (v := 0) gX11_move rfl (by decide) ?_
    refine T_goto (tgt := 31) gX11_move rfl (by decide) ?_
    exact w
set_option maxHeartbeats 4000000 in
set_option maxRecDepth 20000 in
theorem wX11_move_31 (a0 : Nat) (x1 : Int32) (x2 : Int32) (x3 : Int32) (x4 : Int32) (s0 : Int64) (h : Hp) (Q : Option TV → Hp → Prop) (w :
ob h a0 10 (tX11_pop a0  h (rL (fun y_2 h_1 =>
ob h_1 a0 10 (
(if (64 * ((gi h_1 666 a0).toInt64)) < (((y_2 &&& 4294967295) + (x2.toInt64 &&& 4294967295)) + x3.toInt64) then
ob h_1 a0 10 (tX11_traps a0 4 h_1 (rV (fun h_3 =>
Q none h_3)))
else
(if x4 = 0 then
tX11_move_87 a0 x3 s0 (((y_2 &&& 4294967295) + (x2.toInt64 &&& 4294967295)).toInt32) 0 h_1 Q
else
tX11_move_128 a0 x1 x3 s0 (((y_2 &&& 4294967295) + (x2.toInt64 &&& 4294967295)).toInt32) (x3 - 1) h_1 Q))))))) : tX11_move_31 a0 x1 x2 x3 x4 s0 h Q := by
  refine T_run (n := 2) (pc' := 34) (lv' := [some (tR (some a0)), some (tI x1), some (tI x2), some (tI x3), some (tI x4), some (tL s0), none, none, none, none, none, none]) (st' := [tR (some a0)]) (h' := h) gX11_move rfl ?_
  obtain ⟨ho, w⟩ := w
  refine T_cv (fun aa => [some (tR (some aa))]) gX11_move rfl rfl rfl rfl (Nat.le_of_ble_eq_true rfl) gX11_pop (fun _ => Nat.le_of_ble_eq_true rfl) (fun _ => rfl) ⟨a0, rfl, ho, T_kl ?_⟩
  refine T.mono w (fun rr h_1 hw => ?_)
  obtain ⟨y_2, hr, w⟩ := hw
  refine ⟨y_2, hr, ?_⟩
  refine T_kl2 (v := 4294967295) gX11_move rfl (by decide) ?_
  refine T_run (n := 3) (pc' := 43) (lv' := [some (tR (some a0)), some (tI x1), some (tI x2), some (tI x3), some (tI x4), some (tL s0), none, none, none, none, none, none]) (st' := [tL x2.toInt64, tL (y_2 &&& 4294967295)]) (h' := h_1) gX11_move rfl ?_
  refine T_kl2 (v := 4294967295) gX11_move rfl (by decide) ?_
  refine T_run (n := 7) (pc' := 55) (lv' := [some (tR (some a0)), some (tI x1), some (tI x2), some (tI x3), some (tI x4), some (tL s0), none, some (tL ((y_2 &&& 4294967295) + (x2.toInt64 &&& 4294967295))), none, none, none, none]) (st' := [tL (((y_2 &&& 4294967295) + (x2.toInt64 &&& 4294967295)) + x3.toInt64)]) (h' := h_1) gX11_move rfl ?_
  refine T_kl2 (v := 64) gX11_move rfl (by decide) ?_
  refine T_run (n := 1) (pc' := 59) (lv' := [some (tR (some a0)), some (tI x1), some (tI x2), some (tI x3), some (tI x4), some (tL s0), none, some (tL ((y_2 &&& 4294967295) + (x2.toInt64 &&& 4294967295))), none, none, none, none]) (st' := [tR (some a0), tL 64, tL (((y_2 &&& 4294967295) + (x2.toInt64 &&& 4294967295)) + x3.toInt64)]) (h' := h_1) gX11_move rfl ?_
  obtain ⟨ho, w⟩ := w
  refine T_gs (tI (gi h_1 666 a0)) gX11_move rfl rfl ⟨ho, ?_⟩
  refine T_run (n := 3) (pc' := 65) (lv' := [some (tR (some a0)), some (tI x1), some (tI x2), some (tI x3), some (tI x4), some (tL s0), none, some (tL ((y_2 &&& 4294967295) + (x2.toInt64 &&& 4294967295))), none, none, none, none]) (st' := [tI (lg_cmp (((y_2 &&& 4294967295) + (x2.toInt64 &&& 4294967295)) + x3.toInt64) (64 * ((gi h_1 666 a0).toInt64)))]) (h' := h_1) gX11_move rfl ?_
  replace w := c_le (if_iff (lg_gt (((y_2 &&& 4294967295) + (x2.toInt64 &&& 4294967295)) + x3.toInt64) (64 * ((gi h_1 666 a0).toInt64))) w)
  refine T_if (tgt := 74) gX11_move rfl (by decide) (fun hc => ?_) (fun hc => ?_)
  · replace w := w.1 hc
    refine T_run (n := 4) (pc' := 81) (lv' := [some (tR (some a0)), some (tI x1), some (tI x2), some (tI x3), some (tI x4), some (tL s0), none, some (tL ((y_2 &&& 4294967295) + (x2.toInt64 &&& 4294967295))), none, some (tI (((y_2 &&& 4294967295) + (x2.toInt64 &&& 4294967295)).toInt32)), none, none]) (st' := [tI x4]) (h' := h_1) gX11_move rfl ?_
    replace w := c_ne w
    refine T_if (tgt := 123) gX11_move rfl (by decide) (fun hc => ?_) (fun hc => ?_)
    · replace w := w.1 hc
      refine T_run (n := 1) (pc' := 124) (lv' := [some (tR (some a0)), some (tI x1), some (tI x2), some (tI x3), some (tI x4), some (tL s0), none, some (tL ((y_2 &&& 4294967295) + (x2.toInt64 &&& 4294967295))), none, some (tI (((y_2 &&& 4294967295) + (x2.toInt64 &&& 4294967295)).toInt32)), none, none]) (st' := [tI x3]) (h' := h_1) gX11_move rfl ?_
      refine T_kn (v := 1) gX11_move rfl (by decide) ?_
      refine T_run (n := 2) (pc' := 128) (lv' := [some (tR (some a0)), some (tI x1), some (tI x2), some (tI x3), some (tI x4), some (tL s0), none, some (tL ((y_2 &&& 4294967295) + (x2.toInt64 &&& 4294967295))), none, some (tI (((y_2 &&& 4294967295) + (x2.toInt64 &&& 4294967295)).toInt32)), some (tI (x3 - 1)), none]) (st' := []) (h' := h_1) gX11_move rfl ?_
      exact T_wk w (leE (leE (leN (leE (leN (leE (leN (leN (leN (leE (leE (leN le0))))))))))))
    · replace w := w.2 hc
      refine T_kn (v := 0) gX11_move rfl (by decide) ?_
      refine T_run (n := 1) (pc' := 87) (lv' := [some (tR (some a0)), some (tI x1), some (tI x2), some (tI x3), some (tI x4), some (tL s0), none, some (tL ((y_2 &&& 4294967295) + (x2.toInt64 &&& 4294967295))), none, some (tI (((y_2 &&& 4294967295) + (x2.toInt64 &&& 4294967295)).toInt32)), some (tI 0), none]) (st' := []) (h' := h_1) gX11_move rfl ?_
      exact T_wk w (leE (leN (leN (leE (leN (leE (leN (leN (leN (leE (leE (leN le0))))))))))))
  · replace w := w.2 hc
    refine T_run (n := 1) (pc' := 69) (lv' := [some (tR (some a0)), some (tI x1), some (tI x2), some (tI x3), some (tI x4), some (tL s0), none, some (tL ((y_2 &&& 4294967295) + (x2.toInt64 &&& 4294967295))), none, none, none, none]) (st' := [tR (some a0)]) (h' := h_1) gX11_move rfl ?_
    refine T_kn (v := 4) gX11_move rfl (by decide) ?_
    obtain ⟨ho, w⟩ := w
    refine T_cv (fun aa => [some (tR (some aa)), some (tI 4)]) gX11_move rfl rfl rfl rfl (Nat.le_of_ble_eq_true rfl) gX11_traps (fun _ => Nat.le_of_ble_eq_true rfl) (fun _ => rfl) ⟨a0, rfl, ho, T_kv ?_⟩
    refine T.mono w (fun rr h_3 hw => ?_)
    obtain ⟨hr, w⟩ := hw
    refine ⟨hr, ?_⟩
    exact T_rv gX11_move rfl rfl w
set_option maxHeartbeats 4000000 in
set_option maxRecDepth 20000 in
theorem wX11_move_87 (a0 : Nat) (x3 : Int32) (y5 : Int64) (x9 : Int32) (x10 : Int32) (h : Hp) (Q : Option TV → Hp → Prop) (w :
(if x10 < x3 then
ob h a0 10 (
dr (gr h 665 a0) (fun a_1 => ix h kIs a_1 (x9 + x10) (∀ h_2, h_2 = si h a_1 (x9 + x10).toNatClampNeg (((y5 >>> ((8 * x10).toInt64 &&& 63)) &&& 255).toInt32) →
tX11_move_87 a0 x3 y5 x9 (x10 + 1) h_2 Q)))
else
Q none h)) : tX11_move_87 a0 x3 y5 x9 x10 h Q := by
  refine T_run (n := 2) (pc' := 90) (lv' := [some (tR (some a0)), none, none, some (tI x3), none, some (tL y5), none, none, none, some (tI x9), some (tI x10), none]) (st' := [tI x3, tI x10]) (h' := h) gX11_move rfl ?_
  replace w := c_ge w
  refine T_ic (tgt := 122) gX11_move rfl (by decide) (fun hc => ?_) (fun hc => ?_)
  · replace w := w.1 hc
    exact T_rv gX11_move rfl rfl w
  · replace w := w.2 hc
    refine T_run (n := 1) (pc' := 94) (lv' := [some (tR (some a0)), none, none, some (tI x3), none, some (tL y5), none, none, none, some (tI x9), some (tI x10), none]) (st' := [tR (some a0)]) (h' := h) gX11_move rfl ?_
    obtain ⟨ho, w⟩ := w
    refine T_gs (tR (gr h 665 a0)) gX11_move rfl rfl ⟨ho, ?_⟩
    refine T_run (n := 4) (pc' := 104) (lv' := [some (tR (some a0)), none, none, some (tI x3), none, some (tL y5), none, none, none, some (tI x9), some (tI x10), none]) (st' := [tL y5, tI (x9 + x10), tR (gr h 665 a0)]) (h' := h) gX11_move rfl ?_
    refine T_kb (v := 8) gX11_move rfl (by decide) ?_
    refine T_run (n := 3) (pc' := 110) (lv' := [some (tR (some a0)), none, none, some (tI x3), none, some (tL y5), none, none, none, some (tI x9), some (tI x10), none]) (st' := [tL (y5 >>> ((8 * x10).toInt64 &&& 63)), tI (x9 + x10), tR (gr h 665 a0)]) (h' := h) gX11_move rfl ?_
    refine T_kl2 (v := 255) gX11_move rfl (by decide) ?_
    refine T_run (n := 2) (pc' := 115) (lv' := [some (tR (some a0)), none, none, some (tI x3), none, some (tL y5), none, none, none, some (tI x9), some (tI x10), none]) (st' := [tI (((y5 >>> ((8 * x10).toInt64 &&& 63)) &&& 255).toInt32), tI (x9 + x10), tR (gr h 665 a0)]) (h' := h) gX11_move rfl ?_
    obtain ⟨a_1, hr, tt, nn, ht, hk, hj, w⟩ := w
    refine T_ias gX11_move rfl ⟨a_1, hr, tt, nn, ht, hk, hj, fun h_2 he => ?_⟩
    replace w := w h_2 he
    refine T_inc (x := x10) (c := 1) (lv' := [some (tR (some a0)), none, none, some (tI x3), none, some (tL y5), none, none, none, some (tI x9), some (tI (x10 + 1)), none]) gX11_move rfl rfl (by decide) rfl ?_
    refine T_goto (tgt := 87) gX11_move rfl (by decide) ?_
    exact w
set_option maxHeartbeats 4000000 in
set_option maxRecDepth 20000 in
theorem wX11_move_128 (a0 : Nat) (x1 : Int32) (x3 : Int32) (y5 : Int64) (x9 : Int32) (x10 : Int32) (h : Hp) (Q : Option TV → Hp → Prop) (w :
(if x10 < 0 then
(if 43 < x1 then
(¬ (2 : Int32) = 0) ∧
(if (x1 - x1 / 2 * 2) = 0 then
tX11_move_184 a0 x1 y5 (64 - (8 * x3)) 1 h Q
else
tX11_move_183 a0 x1 y5 (64 - (8 * x3)) h Q)
else
tX11_move_183 a0 x1 y5 (64 - (8 * x3)) h Q)
else
ob h a0 10 (
dr (gr h 665 a0) (fun a_1 => ix h kI a_1 (x9 + x10) (
tX11_move_128 a0 x1 x3 ((y5 <<< ((8 : Int32).toInt64 &&& 63)) ||| ((ai h a_1 (x9 + x10).toNatClampNeg).toInt64)) x9 (x10 + (-1)) h Q))))) : tX11_move_128 a0 x1 x3 y5 x9 x10 h Q := by
  refine T_run (n := 1) (pc' := 130) (lv' := [some (tR (some a0)), some (tI x1), none, some (tI x3), none, some (tL y5), none, none, none, some (tI x9), some (tI x10), none]) (st' := [tI x10]) (h' := h) gX11_move rfl ?_
  replace w := c_lt w
  refine T_if (tgt := 158) gX11_move rfl (by decide) (fun hc => ?_) (fun hc => ?_)
  · replace w := w.1 hc
    refine T_kb (v := 64) gX11_move rfl (by decide) ?_
    refine T_kb (v := 8) gX11_move rfl (by decide) ?_
    refine T_run (n := 5) (pc' := 168) (lv' := [some (tR (some a0)), some (tI x1), none, some (tI x3), none, some (tL y5), none, none, none, some (tI x9), some (tI (64 - (8 * x3))), none]) (st' := [tI x1]) (h' := h) gX11_move rfl ?_
    refine T_kb (v := 43) gX11_move rfl (by decide) ?_
    replace w := c_le w
    refine T_ic (tgt := 183) gX11_move rfl (by decide) (fun hc => ?_) (fun hc => ?_)
    · replace w := w.1 hc
      exact T_wk w (leE (leE (leN (leN (leN (leE (leN (leN (leN (leN (leE (leN le0))))))))))))
    · replace w := w.2 hc
      refine T_run (n := 1) (pc' := 174) (lv' := [some (tR (some a0)), some (tI x1), none, some (tI x3), none, some (tL y5), none, none, none, some (tI x9), some (tI (64 - (8 * x3))), none]) (st' := [tI x1]) (h' := h) gX11_move rfl ?_
      refine T_kn (v := 2) gX11_move rfl (by decide) ?_
      refine T_irm gX11_move rfl ⟨w.1, ?_⟩
      replace w := w.2
      replace w := c_ne w
      refine T_if (tgt := 183) gX11_move rfl (by decide) (fun hc => ?_) (fun hc => ?_)
      · replace w := w.1 hc
        exact T_wk w (leE (leE (leN (leN (leN (leE (leN (leN (leN (leN (leE (leN le0))))))))))))
      · replace w := w.2 hc
        refine T_kn (v := 1) gX11_move rfl (by decide) ?_
        refine T_goto (tgt := 184) gX11_move rfl (by decide) ?_
        exact T_wk w (leE (leE (leN (leN (leN (leE (leN (leN (leN (leN (leE (leN le0))))))))))))
  · replace w := w.2 hc
    refine T_run (n := 1) (pc' := 135) (lv' := [some (tR (some a0)), some (tI x1), none, some (tI x3), none, some (tL y5), none, none, none, some (tI x9), some (tI x10), none]) (st' := [tL y5]) (h' := h) gX11_move rfl ?_
    refine T_kb (v := 8) gX11_move rfl (by decide) ?_
    refine T_run (n := 2) (pc' := 139) (lv' := [some (tR (some a0)), some (tI x1), none, some (tI x3), none, some (tL y5), none, none, none, some (tI x9), some (tI x10), none]) (st' := [tR (some a0), tL (y5 <<< ((8 : Int32).toInt64 &&& 63))]) (h' := h) gX11_move rfl ?_
    obtain ⟨ho, w⟩ := w
    refine T_gs (tR (gr h 665 a0)) gX11_move rfl rfl ⟨ho, ?_⟩
    refine T_run (n := 3) (pc' := 147) (lv' := [some (tR (some a0)), some (tI x1), none, some (tI x3), none, some (tL y5), none, none, none, some (tI x9), some (tI x10), none]) (st' := [tI (x9 + x10), tR (gr h 665 a0), tL (y5 <<< ((8 : Int32).toInt64 &&& 63))]) (h' := h) gX11_move rfl ?_
    obtain ⟨a_1, hr, tt, nn, ht, hk, hj, w⟩ := w
    refine T_ial gX11_move rfl ⟨a_1, hr, tt, nn, ht, hk, hj, ?_⟩
    refine T_run (n := 3) (pc' := 152) (lv' := [some (tR (some a0)), some (tI x1), none, some (tI x3), none, some (tL ((y5 <<< ((8 : Int32).toInt64 &&& 63)) ||| ((ai h a_1 (x9 + x10).toNatClampNeg).toInt64))), none, none, none, some (tI x9), some (tI x10), none]) (st' := []) (h' := h) gX11_move rfl ?_
    refine T_inc (x := x10) (c := (-1)) (lv' := [some (tR (some a0)), some (tI x1), none, some (tI x3), none, some (tL ((y5 <<< ((8 : Int32).toInt64 &&& 63)) ||| ((ai h a_1 (x9 + x10).toNatClampNeg).toInt64))), none, none, none, some (tI x9), some (tI (x10 + (-1))), none]) gX11_move rfl rfl (by decide) rfl ?_
    refine T_goto (tgt := 128) gX11_move rfl (by decide) ?_
    exact w
set_option maxHeartbeats 4000000 in
set_option maxRecDepth 20000 in
theorem wX11_move_183 (a0 : Nat) (x1 : Int32) (y5 : Int64) (x10 : Int32) (h : Hp) (Q : Option TV → Hp → Prop) (w :
tX11_move_184 a0 x1 y5 x10 0 h Q) : tX11_move_183 a0 x1 y5 x10 h Q := by
  refine T_kn (v := 0) gX11_move rfl (by decide) ?_
  exact w
set_option maxHeartbeats 4000000 in
set_option maxRecDepth 20000 in
theorem wX11_move_184 (a0 : Nat) (x1 : Int32) (y5 : Int64) (x10 : Int32) (s0 : Int32) (h : Hp) (Q : Option TV → Hp → Prop) (w :
(if s0 = 0 then
tX11_move_204 a0 x1 y5 h Q
else
tX11_move_204 a0 x1 ((y5 <<< (x10.toInt64 &&& 63)) >>> (x10.toInt64 &&& 63)) h Q)) : tX11_move_184 a0 x1 y5 x10 s0 h Q := by
  refine T_run (n := 2) (pc' := 188) (lv' := [some (tR (some a0)), some (tI x1), none, none, none, some (tL y5), none, none, none, none, some (tI x10), some (tI s0)]) (st' := [tI s0]) (h' := h) gX11_move rfl ?_
  replace w := c_eq w
  refine T_if (tgt := 202) gX11_move rfl (by decide) (fun hc => ?_) (fun hc => ?_)
  · replace w := w.1 hc
    refine T_run (n := 1) (pc' := 204) (lv' := [some (tR (some a0)), some (tI x1), none, none, none, some (tL y5), none, none, none, none, some (tI x10), some (tI s0)]) (st' := [tL y5]) (h' := h) gX11_move rfl ?_
    exact T_wk w (leE (leE (leN (leN (leN (leN (leN (leN (leN (leN (leN (leN le0))))))))))))
  · replace w := w.2 hc
    refine T_run (n := 5) (pc' := 199) (lv' := [some (tR (some a0)), some (tI x1), none, none, none, some (tL y5), none, none, none, none, some (tI x10), some (tI s0)]) (st' := [tL ((y5 <<< (x10.toInt64 &&& 63)) >>> (x10.toInt64 &&& 63))]) (h' := h) gX11_move rfl ?_
    refine T_goto (tgt := 204) gX11_move rfl (by decide) ?_
    exact T_wk w (leE (leE (leN (leN (leN (leN (leN (leN (leN (leN (leN (leN le0))))))))))))
set_option maxHeartbeats 4000000 in
set_option maxRecDepth 20000 in
theorem wX11_move_204 (a0 : Nat) (x1 : Int32) (s0 : Int64) (h : Hp) (Q : Option TV → Hp → Prop) (w :
(if x1 = 44 then
tX11_move_219 a0 s0 (some a0) h Q
else
(if x1 = 46 then
tX11_move_219 a0 s0 (some a0) h Q
else
tX11_move_230 a0 s0 (some a0) h Q))) : tX11_move_204 a0 x1 s0 h Q := by
  refine T_run (n := 3) (pc' := 208) (lv' := [some (tR (some a0)), some (tI x1), none, none, none, some (tL s0), none, none, none, none, none, none]) (st' := [tI x1, tR (some a0)]) (h' := h) gX11_move rfl ?_
  refine T_kb (v := 44) gX11_move rfl (by decide) ?_
  replace w := c_eq w
  refine T_ic (tgt := 219) gX11_move rfl (by decide) (fun hc => ?_) (fun hc => ?_)
  · replace w := w.1 hc
    exact T_wk w (leE (leN (leN (leN (leN (leE (leN (leN (leN (leN (leN (leN le0))))))))))))
  · replace w := w.2 hc
    refine T_run (n := 1) (pc' := 214) (lv' := [some (tR (some a0)), some (tI x1), none, none, none, some (tL s0), none, none, none, none, none, none]) (st' := [tI x1, tR (some a0)]) (h' := h) gX11_move rfl ?_
    refine T_kb (v := 46) gX11_move rfl (by decide) ?_
    replace w := c_ne w
    refine T_ic (tgt := 228) gX11_move rfl (by decide) (fun hc => ?_) (fun hc => ?_)
    · replace w := w.1 hc
      refine T_run (n := 1) (pc' := 230) (lv' := [some (tR (some a0)), some (tI x1), none, none, none, some (tL s0), none, none, none, none, none, none]) (st' := [tL s0, tR (some a0)]) (h' := h) gX11_move rfl ?_
      exact T_wk w (leE (leN (leN (leN (leN (leN (leN (leN (leN (leN (leN (leN le0))))))))))))
    · replace w := w.2 hc
      exact T_wk w (leE (leN (leN (leN (leN (leE (leN (leN (leN (leN (leN (leN le0))))))))))))
set_option maxHeartbeats 4000000 in
set_option maxRecDepth 20000 in
theorem wX11_move_219 (a0 : Nat) (y5 : Int64) (s0 : Option Nat) (h : Hp) (Q : Option TV → Hp → Prop) (w :
tX11_move_230 a0 (y5 &&& 4294967295) s0 h Q) : tX11_move_219 a0 y5 s0 h Q := by
  refine T_run (n := 1) (pc' := 221) (lv' := [some (tR (some a0)), none, none, none, none, some (tL y5), none, none, none, none, none, none]) (st' := [tL y5, tR s0]) (h' := h) gX11_move rfl ?_
  refine T_kl2 (v := 4294967295) gX11_move rfl (by decide) ?_
  refine T_run (n := 1) (pc' := 225) (lv' := [some (tR (some a0)), none, none, none, none, some (tL y5), none, none, none, none, none, none]) (st' := [tL (y5 &&& 4294967295), tR s0]) (h' := h) gX11_move rfl ?_
  refine T_goto (tgt := 230) gX11_move rfl (by decide) ?_
  exact T_wk w (leE (leN (leN (leN (leN (leN (leN (leN (leN (leN (leN (leN le0))))))))))))
set_option maxHeartbeats 4000000 in
set_option maxRecDepth 20000 in
theorem wX11_move_230 (a0 : Nat) (s0 : Int64) (s1 : Option Nat) (h : Hp) (Q : Option TV → Hp → Prop) (w :
dr s1 (fun a_3 => ob h a_3 10 (tX11_push a_3 s0 h (rV (fun h_1 =>
Q none h_1))))) : tX11_move_230 a0 s0 s1 h Q := by
  obtain ⟨a_3, hr, ho, w⟩ := w
  refine T_cv (fun aa => [some (tR (some aa)), some (tL s0), none]) gX11_move rfl rfl rfl rfl (Nat.le_of_ble_eq_true rfl) gX11_push (fun _ => Nat.le_of_ble_eq_true rfl) (fun _ => rfl) ⟨a_3, hr, ho, T_kv ?_⟩
  refine T.mono w (fun rr h_1 hw => ?_)
  obtain ⟨hr, w⟩ := hw
  refine ⟨hr, ?_⟩
  exact T_rv gX11_move rfl rfl w
set_option maxHeartbeats 4000000 in
set_option maxRecDepth 20000 in
theorem wX11_grow (a0 : Nat) (h : Hp) (Q : Option TV → Hp → Prop) (w :
ob h a0 10 (tX11_pop a0  h (rL (fun y_2 h_1 =>
ob h_1 a0 10 (
(if 6 < (((gi h_1 666 a0).toInt64) + (y_2 &&& 4294967295)) then
tX11_grow_28 a0 (y_2 &&& 4294967295) 0 h_1 Q
else
tX11_grow_28 a0 (y_2 &&& 4294967295) 1 h_1 Q)))))) : tX11_grow a0 h Q := by
  refine T_run (n := 1) (pc' := 1) (lv' := [some (tR (some a0)), none, none, none]) (st' := [tR (some a0)]) (h' := h) gX11_grow rfl ?_
  obtain ⟨ho, w⟩ := w
  refine T_cv (fun aa => [some (tR (some aa))]) gX11_grow rfl rfl rfl rfl (Nat.le_of_ble_eq_true rfl) gX11_pop (fun _ => Nat.le_of_ble_eq_true rfl) (fun _ => rfl) ⟨a0, rfl, ho, T_kl ?_⟩
  refine T.mono w (fun rr h_1 hw => ?_)
  obtain ⟨y_2, hr, w⟩ := hw
  refine ⟨y_2, hr, ?_⟩
  refine T_kl2 (v := 4294967295) gX11_grow rfl (by decide) ?_
  refine T_run (n := 3) (pc' := 10) (lv' := [some (tR (some a0)), some (tL (y_2 &&& 4294967295)), none, none]) (st' := [tR (some a0)]) (h' := h_1) gX11_grow rfl ?_
  obtain ⟨ho, w⟩ := w
  refine T_gs (tI (gi h_1 666 a0)) gX11_grow rfl rfl ⟨ho, ?_⟩
  refine T_run (n := 3) (pc' := 16) (lv' := [some (tR (some a0)), some (tL (y_2 &&& 4294967295)), none, none]) (st' := [tL (((gi h_1 666 a0).toInt64) + (y_2 &&& 4294967295))]) (h' := h_1) gX11_grow rfl ?_
  refine T_kl2 (v := 6) gX11_grow rfl (by decide) ?_
  refine T_run (n := 1) (pc' := 20) (lv' := [some (tR (some a0)), some (tL (y_2 &&& 4294967295)), none, none]) (st' := [tI (lg_cmp (((gi h_1 666 a0).toInt64) + (y_2 &&& 4294967295)) 6)]) (h' := h_1) gX11_grow rfl ?_
  replace w := c_gt (if_iff (lg_gt (((gi h_1 666 a0).toInt64) + (y_2 &&& 4294967295)) 6) w)
  refine T_if (tgt := 27) gX11_grow rfl (by decide) (fun hc => ?_) (fun hc => ?_)
  · replace w := w.1 hc
    refine T_kn (v := 0) gX11_grow rfl (by decide) ?_
    exact w
  · replace w := w.2 hc
    refine T_kn (v := 1) gX11_grow rfl (by decide) ?_
    refine T_goto (tgt := 28) gX11_grow rfl (by decide) ?_
    exact w
set_option maxHeartbeats 4000000 in
set_option maxRecDepth 20000 in
theorem wX11_grow_28 (a0 : Nat) (y1 : Int64) (s0 : Int32) (h : Hp) (Q : Option TV → Hp → Prop) (w :
(if s0 = 0 then
tX11_grow_45 a0 y1 s0 4294967295 (some a0) h Q
else
ob h a0 10 (
tX11_grow_45 a0 y1 s0 ((gi h 666 a0).toInt64) (some a0) h Q))) : tX11_grow_28 a0 y1 s0 h Q := by
  refine T_run (n := 3) (pc' := 31) (lv' := [some (tR (some a0)), some (tL y1), none, some (tI s0)]) (st' := [tI s0, tR (some a0)]) (h' := h) gX11_grow rfl ?_
  replace w := c_eq w
  refine T_if (tgt := 42) gX11_grow rfl (by decide) (fun hc => ?_) (fun hc => ?_)
  · replace w := w.1 hc
    refine T_kl2 (v := 4294967295) gX11_grow rfl (by decide) ?_
    exact w
  · replace w := w.2 hc
    refine T_run (n := 1) (pc' := 35) (lv' := [some (tR (some a0)), some (tL y1), none, some (tI s0)]) (st' := [tR (some a0), tR (some a0)]) (h' := h) gX11_grow rfl ?_
    obtain ⟨ho, w⟩ := w
    refine T_gs (tI (gi h 666 a0)) gX11_grow rfl rfl ⟨ho, ?_⟩
    refine T_run (n := 1) (pc' := 39) (lv' := [some (tR (some a0)), some (tL y1), none, some (tI s0)]) (st' := [tL ((gi h 666 a0).toInt64), tR (some a0)]) (h' := h) gX11_grow rfl ?_
    refine T_goto (tgt := 45) gX11_grow rfl (by decide) ?_
    exact w
set_option maxHeartbeats 4000000 in
set_option maxRecDepth 20000 in
theorem wX11_grow_45 (a0 : Nat) (y1 : Int64) (x3 : Int32) (s0 : Int64) (s1 : Option Nat) (h : Hp) (Q : Option TV → Hp → Prop) (w :
dr s1 (fun a_3 => ob h a_3 10 (tX11_push a_3 s0 h (rV (fun h_1 =>
ob h_1 a0 10 (
(if x3 = 0 then
ob h_1 a0 10 (∀ h_4, h_4 = pi h_1 666 a0 ((gi h_1 666 a0) + 0) →
Q none h_4)
else
ob h_1 a0 10 (∀ h_5, h_5 = pi h_1 666 a0 ((gi h_1 666 a0) + y1.toInt32) →
Q none h_5)))))))) : tX11_grow_45 a0 y1 x3 s0 s1 h Q := by
  obtain ⟨a_3, hr, ho, w⟩ := w
  refine T_cv (fun aa => [some (tR (some aa)), some (tL s0), none]) gX11_grow rfl rfl rfl rfl (Nat.le_of_ble_eq_true rfl) gX11_push (fun _ => Nat.le_of_ble_eq_true rfl) (fun _ => rfl) ⟨a_3, hr, ho, T_kv ?_⟩
  refine T.mono w (fun rr h_1 hw => ?_)
  obtain ⟨hr, w⟩ := hw
  refine ⟨hr, ?_⟩
  refine T_run (n := 2) (pc' := 50) (lv' := [some (tR (some a0)), some (tL y1), none, some (tI x3)]) (st' := [tR (some a0), tR (some a0)]) (h' := h_1) gX11_grow rfl ?_
  obtain ⟨ho, w⟩ := w
  refine T_gs (tI (gi h_1 666 a0)) gX11_grow rfl rfl ⟨ho, ?_⟩
  refine T_run (n := 1) (pc' := 54) (lv' := [some (tR (some a0)), some (tL y1), none, some (tI x3)]) (st' := [tI x3, tI (gi h_1 666 a0), tR (some a0)]) (h' := h_1) gX11_grow rfl ?_
  replace w := c_eq w
  refine T_if (tgt := 62) gX11_grow rfl (by decide) (fun hc => ?_) (fun hc => ?_)
  · replace w := w.1 hc
    refine T_kn (v := 0) gX11_grow rfl (by decide) ?_
    refine T_run (n := 1) (pc' := 64) (lv' := [some (tR (some a0)), some (tL y1), none, some (tI x3)]) (st' := [tI ((gi h_1 666 a0) + 0), tR (some a0)]) (h' := h_1) gX11_grow rfl ?_
    obtain ⟨ho, w⟩ := w
    refine T_ps (pi h_1 666 a0 ((gi h_1 666 a0) + 0)) gX11_grow rfl rfl ⟨ho, fun h_4 he => ?_⟩
    replace w := w h_4 he
    exact T_rv gX11_grow rfl rfl w
  · replace w := w.2 hc
    refine T_run (n := 2) (pc' := 59) (lv' := [some (tR (some a0)), some (tL y1), none, some (tI x3)]) (st' := [tI y1.toInt32, tI (gi h_1 666 a0), tR (some a0)]) (h' := h_1) gX11_grow rfl ?_
    refine T_goto (tgt := 63) gX11_grow rfl (by decide) ?_
    refine T_run (n := 1) (pc' := 64) (lv' := [some (tR (some a0)), some (tL y1), none, some (tI x3)]) (st' := [tI ((gi h_1 666 a0) + y1.toInt32), tR (some a0)]) (h' := h_1) gX11_grow rfl ?_
    obtain ⟨ho, w⟩ := w
    refine T_ps (pi h_1 666 a0 ((gi h_1 666 a0) + y1.toInt32)) gX11_grow rfl rfl ⟨ho, fun h_5 he => ?_⟩
    replace w := w h_5 he
    exact T_rv gX11_grow rfl rfl w
set_option maxHeartbeats 4000000 in
set_option maxRecDepth 20000 in
theorem wX11_truth (x0 : Int32) (h : Hp) (Q : Option TV → Hp → Prop) (w :
(if x0 = 0 then
Q (some (tL 0)) h
else
Q (some (tL 1)) h)) : tX11_truth x0 h Q := by
  refine T_run (n := 1) (pc' := 1) (lv' := [some (tI x0)]) (st' := [tI x0]) (h' := h) gX11_truth rfl ?_
  replace w := c_eq w
  refine T_if (tgt := 8) gX11_truth rfl (by decide) (fun hc => ?_) (fun hc => ?_)
  · replace w := w.1 hc
    refine T_kj (v := 0) gX11_truth rfl (by decide) ?_
    exact T_rl gX11_truth rfl rfl w
  · replace w := w.2 hc
    refine T_kj (v := 1) gX11_truth rfl (by decide) ?_
    refine T_goto (tgt := 9) gX11_truth rfl (by decide) ?_
    exact T_rl gX11_truth rfl rfl w
set_option maxHeartbeats 4000000 in
set_option maxRecDepth 20000 in
theorem wX11_work (a0 : Nat) (x1 : Int32) (h : Hp) (Q : Option TV → Hp → Prop) (w :
(if x1 = 69 then
tX11_work_12 a0 x1 h Q
else
(if x1 = 80 then
tX11_work_12 a0 x1 h Q
else
(if x1 = 167 then
tX11_work_64 a0 h Q
else
(if x1 = 173 then
tX11_work_64 a0 h Q
else
ob h a0 10 (tX11_pop a0  h (rL (fun y_2 h_1 =>
ob h_1 a0 10 (tX11_pop a0  h_1 (rL (fun y_4 h_3 =>
(if x1 = 70 then
(if (y_4 &&& 4294967295) = (y_2 &&& 4294967295) then
tX11_work_358 a0 1 (some a0) h_3 Q
else
tX11_work_358 a0 0 (some a0) h_3 Q)
else
(if x1 = 71 then
(if (y_4 &&& 4294967295) = (y_2 &&& 4294967295) then
tX11_work_381 a0 0 (some a0) h_3 Q
else
tX11_work_381 a0 1 (some a0) h_3 Q)
else
(if x1 = 72 then
(if y_4.toInt32 < y_2.toInt32 then
tX11_work_404 a0 1 (some a0) h_3 Q
else
tX11_work_404 a0 0 (some a0) h_3 Q)
else
(if x1 = 73 then
(if (y_4 &&& 4294967295) < (y_2 &&& 4294967295) then
tX11_work_427 a0 1 (some a0) h_3 Q
else
tX11_work_427 a0 0 (some a0) h_3 Q)
else
(if x1 = 81 then
(if y_4 = y_2 then
tX11_work_449 a0 1 (some a0) h_3 Q
else
tX11_work_449 a0 0 (some a0) h_3 Q)
else
(if x1 = 83 then
(if y_4 < y_2 then
tX11_work_471 a0 1 (some a0) h_3 Q
else
tX11_work_471 a0 0 (some a0) h_3 Q)
else
(if x1 = 106 then
ob h_3 a0 10 (tX11_push a0 (((y_4 &&& 4294967295) + (y_2 &&& 4294967295)) &&& 4294967295) h_3 (rV (fun h_5 =>
Q none h_5)))
else
(if x1 = 107 then
ob h_3 a0 10 (tX11_push a0 (((y_4 &&& 4294967295) - (y_2 &&& 4294967295)) &&& 4294967295) h_3 (rV (fun h_7 =>
Q none h_7)))
else
(if x1 = 108 then
ob h_3 a0 10 (tX11_push a0 (((y_4 &&& 4294967295) * (y_2 &&& 4294967295)) &&& 4294967295) h_3 (rV (fun h_9 =>
Q none h_9)))
else
(if x1 = 110 then
(if (y_2 &&& 4294967295) = 0 then
ob h_3 a0 10 (tX11_traps a0 11 h_3 (rV (fun h_13 =>
Q none h_13)))
else
(¬ (y_2 &&& 4294967295) = 0) ∧
ob h_3 a0 10 (tX11_push a0 ((y_4 &&& 4294967295) / (y_2 &&& 4294967295)) h_3 (rV (fun h_11 =>
Q none h_11))))
else
(if x1 = 113 then
ob h_3 a0 10 (tX11_push a0 ((y_4 &&& 4294967295) &&& (y_2 &&& 4294967295)) h_3 (rV (fun h_15 =>
Q none h_15)))
else
(if x1 = 116 then
ob h_3 a0 10 (tX11_push a0 (((y_4 &&& 4294967295) <<< ((((y_2 &&& 4294967295) &&& 31).toInt32).toInt64 &&& 63)) &&& 4294967295) h_3 (rV (fun h_17 =>
Q none h_17)))
else
(if x1 = 124 then
ob h_3 a0 10 (tX11_push a0 (y_4 + y_2) h_3 (rV (fun h_19 =>
Q none h_19)))
else
(if x1 = 125 then
ob h_3 a0 10 (tX11_push a0 (y_4 - y_2) h_3 (rV (fun h_21 =>
Q none h_21)))
else
ob h_3 a0 10 (tX11_push a0 (y_4 * y_2) h_3 (rV (fun h_23 =>
Q none h_23)))))))))))))))))))))))))))) : tX11_work a0 x1 h Q := by
  refine T_run (n := 1) (pc' := 1) (lv' := [some (tR (some a0)), some (tI x1), none, none, none, none, none, none, none, none]) (st' := [tI x1]) (h' := h) gX11_work rfl ?_
  refine T_kb (v := 69) gX11_work rfl (by decide) ?_
  replace w := c_eq w
  refine T_ic (tgt := 12) gX11_work rfl (by decide) (fun hc => ?_) (fun hc => ?_)
  · replace w := w.1 hc
    exact w
  · replace w := w.2 hc
    refine T_run (n := 1) (pc' := 7) (lv' := [some (tR (some a0)), some (tI x1), none, none, none, none, none, none, none, none]) (st' := [tI x1]) (h' := h) gX11_work rfl ?_
    refine T_kb (v := 80) gX11_work rfl (by decide) ?_
    replace w := c_ne w
    refine T_ic (tgt := 50) gX11_work rfl (by decide) (fun hc => ?_) (fun hc => ?_)
    · replace w := w.1 hc
      refine T_run (n := 1) (pc' := 51) (lv' := [some (tR (some a0)), some (tI x1), none, none, none, none, none, none, none, none]) (st' := [tI x1]) (h' := h) gX11_work rfl ?_
      refine T_ks (v := 167) gX11_work rfl (by decide) ?_
      replace w := c_eq w
      refine T_ic (tgt := 64) gX11_work rfl (by decide) (fun hc => ?_) (fun hc => ?_)
      · replace w := w.1 hc
        exact T_wk w (leE (leN (leN (leN (leN (leN (leN (leN (leN (leN le0))))))))))
      · replace w := w.2 hc
        refine T_run (n := 1) (pc' := 58) (lv' := [some (tR (some a0)), some (tI x1), none, none, none, none, none, none, none, none]) (st' := [tI x1]) (h' := h) gX11_work rfl ?_
        refine T_ks (v := 173) gX11_work rfl (by decide) ?_
        replace w := c_ne w
        refine T_ic (tgt := 77) gX11_work rfl (by decide) (fun hc => ?_) (fun hc => ?_)
        · replace w := w.1 hc
          refine T_run (n := 1) (pc' := 78) (lv' := [some (tR (some a0)), some (tI x1), none, none, none, none, none, none, none, none]) (st' := [tR (some a0)]) (h' := h) gX11_work rfl ?_
          obtain ⟨ho, w⟩ := w
          refine T_cv (fun aa => [some (tR (some aa))]) gX11_work rfl rfl rfl rfl (Nat.le_of_ble_eq_true rfl) gX11_pop (fun _ => Nat.le_of_ble_eq_true rfl) (fun _ => rfl) ⟨a0, rfl, ho, T_kl ?_⟩
          refine T.mono w (fun rr h_1 hw => ?_)
          obtain ⟨y_2, hr, w⟩ := hw
          refine ⟨y_2, hr, ?_⟩
          refine T_run (n := 2) (pc' := 83) (lv' := [some (tR (some a0)), some (tI x1), some (tL y_2), none, none, none, none, none, none, none]) (st' := [tR (some a0)]) (h' := h_1) gX11_work rfl ?_
          obtain ⟨ho, w⟩ := w
          refine T_cv (fun aa => [some (tR (some aa))]) gX11_work rfl rfl rfl rfl (Nat.le_of_ble_eq_true rfl) gX11_pop (fun _ => Nat.le_of_ble_eq_true rfl) (fun _ => rfl) ⟨a0, rfl, ho, T_kl ?_⟩
          refine T.mono w (fun rr h_3 hw => ?_)
          obtain ⟨y_4, hr, w⟩ := hw
          refine ⟨y_4, hr, ?_⟩
          refine T_run (n := 2) (pc' := 90) (lv' := [some (tR (some a0)), some (tI x1), some (tL y_2), none, some (tL y_4), none, none, none, none, none]) (st' := [tL y_4]) (h' := h_3) gX11_work rfl ?_
          refine T_kl2 (v := 4294967295) gX11_work rfl (by decide) ?_
          refine T_run (n := 3) (pc' := 97) (lv' := [some (tR (some a0)), some (tI x1), some (tL y_2), none, some (tL y_4), none, some (tL (y_4 &&& 4294967295)), none, none, none]) (st' := [tL y_2]) (h' := h_3) gX11_work rfl ?_
          refine T_kl2 (v := 4294967295) gX11_work rfl (by decide) ?_
          refine T_run (n := 3) (pc' := 104) (lv' := [some (tR (some a0)), some (tI x1), some (tL y_2), none, some (tL y_4), none, some (tL (y_4 &&& 4294967295)), none, some (tL (y_2 &&& 4294967295)), none]) (st' := [tI x1]) (h' := h_3) gX11_work rfl ?_
          refine T_tsw (dt := 611) (cs := [(70, 344), (71, 367), (72, 390), (73, 413), (81, 436), (83, 458), (106, 480), (107, 496), (108, 512), (110, 528), (113, 556), (116, 568), (124, 589), (125, 600)]) gX11_work rfl (by decide) ?_
          refine sw_cons (fun hc => ?_) (fun hc => ?_)
          · rw [if_pos hc] at w
            refine T_run (n := 4) (pc' := 350) (lv' := [some (tR (some a0)), some (tI x1), some (tL y_2), none, some (tL y_4), none, some (tL (y_4 &&& 4294967295)), none, some (tL (y_2 &&& 4294967295)), none]) (st' := [tI (lg_cmp (y_4 &&& 4294967295) (y_2 &&& 4294967295)), tR (some a0)]) (h' := h_3) gX11_work rfl ?_
            replace w := c_ne (if_iff (lg_eq (y_4 &&& 4294967295) (y_2 &&& 4294967295)) w)
            refine T_if (tgt := 357) gX11_work rfl (by decide) (fun hc => ?_) (fun hc => ?_)
            · replace w := w.1 hc
              refine T_kn (v := 0) gX11_work rfl (by decide) ?_
              exact T_wk w (leE (leN (leN (leN (leN (leN (leN (leN (leN (leN le0))))))))))
            · replace w := w.2 hc
              refine T_kn (v := 1) gX11_work rfl (by decide) ?_
              refine T_goto (tgt := 358) gX11_work rfl (by decide) ?_
              exact T_wk w (leE (leN (leN (leN (leN (leN (leN (leN (leN (leN le0))))))))))
          rw [if_neg hc] at w
          refine sw_cons (fun hc => ?_) (fun hc => ?_)
          · rw [if_pos hc] at w
            refine T_run (n := 4) (pc' := 373) (lv' := [some (tR (some a0)), some (tI x1), some (tL y_2), none, some (tL y_4), none, some (tL (y_4 &&& 4294967295)), none, some (tL (y_2 &&& 4294967295)), none]) (st' := [tI (lg_cmp (y_4 &&& 4294967295) (y_2 &&& 4294967295)), tR (some a0)]) (h' := h_3) gX11_work rfl ?_
            replace w := c_eq (if_iff (lg_eq (y_4 &&& 4294967295) (y_2 &&& 4294967295)) w)
            refine T_if (tgt := 380) gX11_work rfl (by decide) (fun hc => ?_) (fun hc => ?_)
            · replace w := w.1 hc
              refine T_kn (v := 0) gX11_work rfl (by decide) ?_
              exact T_wk w (leE (leN (leN (leN (leN (leN (leN (leN (leN (leN le0))))))))))
            · replace w := w.2 hc
              refine T_kn (v := 1) gX11_work rfl (by decide) ?_
              refine T_goto (tgt := 381) gX11_work rfl (by decide) ?_
              exact T_wk w (leE (leN (leN (leN (leN (leN (leN (leN (leN (leN le0))))))))))
          rw [if_neg hc] at w
          refine sw_cons (fun hc => ?_) (fun hc => ?_)
          · rw [if_pos hc] at w
            refine T_run (n := 5) (pc' := 396) (lv' := [some (tR (some a0)), some (tI x1), some (tL y_2), none, some (tL y_4), none, some (tL (y_4 &&& 4294967295)), none, some (tL (y_2 &&& 4294967295)), none]) (st' := [tI y_2.toInt32, tI y_4.toInt32, tR (some a0)]) (h' := h_3) gX11_work rfl ?_
            replace w := c_ge w
            refine T_ic (tgt := 403) gX11_work rfl (by decide) (fun hc => ?_) (fun hc => ?_)
            · replace w := w.1 hc
              refine T_kn (v := 0) gX11_work rfl (by decide) ?_
              exact T_wk w (leE (leN (leN (leN (leN (leN (leN (leN (leN (leN le0))))))))))
            · replace w := w.2 hc
              refine T_kn (v := 1) gX11_work rfl (by decide) ?_
              refine T_goto (tgt := 404) gX11_work rfl (by decide) ?_
              exact T_wk w (leE (leN (leN (leN (leN (leN (leN (leN (leN (leN le0))))))))))
          rw [if_neg hc] at w
          refine sw_cons (fun hc => ?_) (fun hc => ?_)
          · rw [if_pos hc] at w
            refine T_run (n := 4) (pc' := 419) (lv' := [some (tR (some a0)), some (tI x1), some (tL y_2), none, some (tL y_4), none, some (tL (y_4 &&& 4294967295)), none, some (tL (y_2 &&& 4294967295)), none]) (st' := [tI (lg_cmp (y_4 &&& 4294967295) (y_2 &&& 4294967295)), tR (some a0)]) (h' := h_3) gX11_work rfl ?_
            replace w := c_ge (if_iff (lg_lt (y_4 &&& 4294967295) (y_2 &&& 4294967295)) w)
            refine T_if (tgt := 426) gX11_work rfl (by decide) (fun hc => ?_) (fun hc => ?_)
            · replace w := w.1 hc
              refine T_kn (v := 0) gX11_work rfl (by decide) ?_
              exact T_wk w (leE (leN (leN (leN (leN (leN (leN (leN (leN (leN le0))))))))))
            · replace w := w.2 hc
              refine T_kn (v := 1) gX11_work rfl (by decide) ?_
              refine T_goto (tgt := 427) gX11_work rfl (by decide) ?_
              exact T_wk w (leE (leN (leN (leN (leN (leN (leN (leN (leN (leN le0))))))))))
          rw [if_neg hc] at w
          refine sw_cons (fun hc => ?_) (fun hc => ?_)
          · rw [if_pos hc] at w
            refine T_run (n := 4) (pc' := 441) (lv' := [some (tR (some a0)), some (tI x1), some (tL y_2), none, some (tL y_4), none, some (tL (y_4 &&& 4294967295)), none, some (tL (y_2 &&& 4294967295)), none]) (st' := [tI (lg_cmp y_4 y_2), tR (some a0)]) (h' := h_3) gX11_work rfl ?_
            replace w := c_ne (if_iff (lg_eq y_4 y_2) w)
            refine T_if (tgt := 448) gX11_work rfl (by decide) (fun hc => ?_) (fun hc => ?_)
            · replace w := w.1 hc
              refine T_kn (v := 0) gX11_work rfl (by decide) ?_
              exact T_wk w (leE (leN (leN (leN (leN (leN (leN (leN (leN (leN le0))))))))))
            · replace w := w.2 hc
              refine T_kn (v := 1) gX11_work rfl (by decide) ?_
              refine T_goto (tgt := 449) gX11_work rfl (by decide) ?_
              exact T_wk w (leE (leN (leN (leN (leN (leN (leN (leN (leN (leN le0))))))))))
          rw [if_neg hc] at w
          refine sw_cons (fun hc => ?_) (fun hc => ?_)
          · rw [if_pos hc] at w
            refine T_run (n := 4) (pc' := 463) (lv' := [some (tR (some a0)), some (tI x1), some (tL y_2), none, some (tL y_4), none, some (tL (y_4 &&& 4294967295)), none, some (tL (y_2 &&& 4294967295)), none]) (st' := [tI (lg_cmp y_4 y_2), tR (some a0)]) (h' := h_3) gX11_work rfl ?_
            replace w := c_ge (if_iff (lg_lt y_4 y_2) w)
            refine T_if (tgt := 470) gX11_work rfl (by decide) (fun hc => ?_) (fun hc => ?_)
            · replace w := w.1 hc
              refine T_kn (v := 0) gX11_work rfl (by decide) ?_
              exact T_wk w (leE (leN (leN (leN (leN (leN (leN (leN (leN (leN le0))))))))))
            · replace w := w.2 hc
              refine T_kn (v := 1) gX11_work rfl (by decide) ?_
              refine T_goto (tgt := 471) gX11_work rfl (by decide) ?_
              exact T_wk w (leE (leN (leN (leN (leN (leN (leN (leN (leN (leN le0))))))))))
          rw [if_neg hc] at w
          refine sw_cons (fun hc => ?_) (fun hc => ?_)
          · rw [if_pos hc] at w
            refine T_run (n := 4) (pc' := 486) (lv' := [some (tR (some a0)), some (tI x1), some (tL y_2), none, some (tL y_4), none, some (tL (y_4 &&& 4294967295)), none, some (tL (y_2 &&& 4294967295)), none]) (st' := [tL ((y_4 &&& 4294967295) + (y_2 &&& 4294967295)), tR (some a0)]) (h' := h_3) gX11_work rfl ?_
            refine T_kl2 (v := 4294967295) gX11_work rfl (by decide) ?_
            refine T_run (n := 1) (pc' := 490) (lv' := [some (tR (some a0)), some (tI x1), some (tL y_2), none, some (tL y_4), none, some (tL (y_4 &&& 4294967295)), none, some (tL (y_2 &&& 4294967295)), none]) (st' := [tL (((y_4 &&& 4294967295) + (y_2 &&& 4294967295)) &&& 4294967295), tR (some a0)]) (h' := h_3) gX11_work rfl ?_
            obtain ⟨ho, w⟩ := w
            refine T_cv (fun aa => [some (tR (some aa)), some (tL (((y_4 &&& 4294967295) + (y_2 &&& 4294967295)) &&& 4294967295)), none]) gX11_work rfl rfl rfl rfl (Nat.le_of_ble_eq_true rfl) gX11_push (fun _ => Nat.le_of_ble_eq_true rfl) (fun _ => rfl) ⟨a0, rfl, ho, T_kv ?_⟩
            refine T.mono w (fun rr h_5 hw => ?_)
            obtain ⟨hr, w⟩ := hw
            refine ⟨hr, ?_⟩
            refine T_goto (tgt := 619) gX11_work rfl (by decide) ?_
            exact T_rv gX11_work rfl rfl w
          rw [if_neg hc] at w
          refine sw_cons (fun hc => ?_) (fun hc => ?_)
          · rw [if_pos hc] at w
            refine T_run (n := 4) (pc' := 502) (lv' := [some (tR (some a0)), some (tI x1), some (tL y_2), none, some (tL y_4), none, some (tL (y_4 &&& 4294967295)), none, some (tL (y_2 &&& 4294967295)), none]) (st' := [tL ((y_4 &&& 4294967295) - (y_2 &&& 4294967295)), tR (some a0)]) (h' := h_3) gX11_work rfl ?_
            refine T_kl2 (v := 4294967295) gX11_work rfl (by decide) ?_
            refine T_run (n := 1) (pc' := 506) (lv' := [some (tR (some a0)), some (tI x1), some (tL y_2), none, some (tL y_4), none, some (tL (y_4 &&& 4294967295)), none, some (tL (y_2 &&& 4294967295)), none]) (st' := [tL (((y_4 &&& 4294967295) - (y_2 &&& 4294967295)) &&& 4294967295), tR (some a0)]) (h' := h_3) gX11_work rfl ?_
            obtain ⟨ho, w⟩ := w
            refine T_cv (fun aa => [some (tR (some aa)), some (tL (((y_4 &&& 4294967295) - (y_2 &&& 4294967295)) &&& 4294967295)), none]) gX11_work rfl rfl rfl rfl (Nat.le_of_ble_eq_true rfl) gX11_push (fun _ => Nat.le_of_ble_eq_true rfl) (fun _ => rfl) ⟨a0, rfl, ho, T_kv ?_⟩
            refine T.mono w (fun rr h_7 hw => ?_)
            obtain ⟨hr, w⟩ := hw
            refine ⟨hr, ?_⟩
            refine T_goto (tgt := 619) gX11_work rfl (by decide) ?_
            exact T_rv gX11_work rfl rfl w
          rw [if_neg hc] at w
          refine sw_cons (fun hc => ?_) (fun hc => ?_)
          · rw [if_pos hc] at w
            refine T_run (n := 4) (pc' := 518) (lv' := [some (tR (some a0)), some (tI x1), some (tL y_2), none, some (tL y_4), none, some (tL (y_4 &&& 4294967295)), none, some (tL (y_2 &&& 4294967295)), none]) (st' := [tL ((y_4 &&& 4294967295) * (y_2 &&& 4294967295)), tR (some a0)]) (h' := h_3) gX11_work rfl ?_
            refine T_kl2 (v := 4294967295) gX11_work rfl (by decide) ?_
            refine T_run (n := 1) (pc' := 522) (lv' := [some (tR (some a0)), some (tI x1), some (tL y_2), none, some (tL y_4), none, some (tL (y_4 &&& 4294967295)), none, some (tL (y_2 &&& 4294967295)), none]) (st' := [tL (((y_4 &&& 4294967295) * (y_2 &&& 4294967295)) &&& 4294967295), tR (some a0)]) (h' := h_3) gX11_work rfl ?_
            obtain ⟨ho, w⟩ := w
            refine T_cv (fun aa => [some (tR (some aa)), some (tL (((y_4 &&& 4294967295) * (y_2 &&& 4294967295)) &&& 4294967295)), none]) gX11_work rfl rfl rfl rfl (Nat.le_of_ble_eq_true rfl) gX11_push (fun _ => Nat.le_of_ble_eq_true rfl) (fun _ => rfl) ⟨a0, rfl, ho, T_kv ?_⟩
            refine T.mono w (fun rr h_9 hw => ?_)
            obtain ⟨hr, w⟩ := hw
            refine ⟨hr, ?_⟩
            refine T_goto (tgt := 619) gX11_work rfl (by decide) ?_
            exact T_rv gX11_work rfl rfl w
          rw [if_neg hc] at w
          refine sw_cons (fun hc => ?_) (fun hc => ?_)
          · rw [if_pos hc] at w
            refine T_run (n := 1) (pc' := 530) (lv' := [some (tR (some a0)), some (tI x1), some (tL y_2), none, some (tL y_4), none, some (tL (y_4 &&& 4294967295)), none, some (tL (y_2 &&& 4294967295)), none]) (st' := [tL (y_2 &&& 4294967295)]) (h' := h_3) gX11_work rfl ?_
            refine T_kj (v := 0) gX11_work rfl (by decide) ?_
            refine T_run (n := 1) (pc' := 532) (lv' := [some (tR (some a0)), some (tI x1), some (tL y_2), none, some (tL y_4), none, some (tL (y_4 &&& 4294967295)), none, some (tL (y_2 &&& 4294967295)), none]) (st' := [tI (lg_cmp (y_2 &&& 4294967295) 0)]) (h' := h_3) gX11_work rfl ?_
            replace w := c_ne (if_iff (lg_eq (y_2 &&& 4294967295) 0) w)
            refine T_if (tgt := 544) gX11_work rfl (by decide) (fun hc => ?_) (fun hc => ?_)
            · replace w := w.1 hc
              refine T_run (n := 3) (pc' := 549) (lv' := [some (tR (some a0)), some (tI x1), some (tL y_2), none, some (tL y_4), none, some (tL (y_4 &&& 4294967295)), none, some (tL (y_2 &&& 4294967295)), none]) (st' := [tL (y_2 &&& 4294967295), tL (y_4 &&& 4294967295), tR (some a0)]) (h' := h_3) gX11_work rfl ?_
              refine T_ldv gX11_work rfl ⟨w.1, ?_⟩
              replace w := w.2
              obtain ⟨ho, w⟩ := w
              refine T_cv (fun aa => [some (tR (some aa)), some (tL ((y_4 &&& 4294967295) / (y_2 &&& 4294967295))), none]) gX11_work rfl rfl rfl rfl (Nat.le_of_ble_eq_true rfl) gX11_push (fun _ => Nat.le_of_ble_eq_true rfl) (fun _ => rfl) ⟨a0, rfl, ho, T_kv ?_⟩
              refine T.mono w (fun rr h_11 hw => ?_)
              obtain ⟨hr, w⟩ := hw
              refine ⟨hr, ?_⟩
              refine T_goto (tgt := 619) gX11_work rfl (by decide) ?_
              exact T_rv gX11_work rfl rfl w
            · replace w := w.2 hc
              refine T_run (n := 1) (pc' := 536) (lv' := [some (tR (some a0)), some (tI x1), some (tL y_2), none, some (tL y_4), none, some (tL (y_4 &&& 4294967295)), none, some (tL (y_2 &&& 4294967295)), none]) (st' := [tR (some a0)]) (h' := h_3) gX11_work rfl ?_
              refine T_kb (v := 11) gX11_work rfl (by decide) ?_
              obtain ⟨ho, w⟩ := w
              refine T_cv (fun aa => [some (tR (some aa)), some (tI 11)]) gX11_work rfl rfl rfl rfl (Nat.le_of_ble_eq_true rfl) gX11_traps (fun _ => Nat.le_of_ble_eq_true rfl) (fun _ => rfl) ⟨a0, rfl, ho, T_kv ?_⟩
              refine T.mono w (fun rr h_13 hw => ?_)
              obtain ⟨hr, w⟩ := hw
              refine ⟨hr, ?_⟩
              refine T_goto (tgt := 619) gX11_work rfl (by decide) ?_
              exact T_rv gX11_work rfl rfl w
          rw [if_neg hc] at w
          refine sw_cons (fun hc => ?_) (fun hc => ?_)
          · rw [if_pos hc] at w
            refine T_run (n := 4) (pc' := 562) (lv' := [some (tR (some a0)), some (tI x1), some (tL y_2), none, some (tL y_4), none, some (tL (y_4 &&& 4294967295)), none, some (tL (y_2 &&& 4294967295)), none]) (st' := [tL ((y_4 &&& 4294967295) &&& (y_2 &&& 4294967295)), tR (some a0)]) (h' := h_3) gX11_work rfl ?_
            obtain ⟨ho, w⟩ := w
            refine T_cv (fun aa => [some (tR (some aa)), some (tL ((y_4 &&& 4294967295) &&& (y_2 &&& 4294967295))), none]) gX11_work rfl rfl rfl rfl (Nat.le_of_ble_eq_true rfl) gX11_push (fun _ => Nat.le_of_ble_eq_true rfl) (fun _ => rfl) ⟨a0, rfl, ho, T_kv ?_⟩
            refine T.mono w (fun rr h_15 hw => ?_)
            obtain ⟨hr, w⟩ := hw
            refine ⟨hr, ?_⟩
            refine T_goto (tgt := 619) gX11_work rfl (by decide) ?_
            exact T_rv gX11_work rfl rfl w
          rw [if_neg hc] at w
          refine sw_cons (fun hc => ?_) (fun hc => ?_)
          · rw [if_pos hc] at w
            refine T_run (n := 3) (pc' := 573) (lv' := [some (tR (some a0)), some (tI x1), some (tL y_2), none, some (tL y_4), none, some (tL (y_4 &&& 4294967295)), none, some (tL (y_2 &&& 4294967295)), none]) (st' := [tL (y_2 &&& 4294967295), tL (y_4 &&& 4294967295), tR (some a0)]) (h' := h_3) gX11_work rfl ?_
            refine T_kl2 (v := 31) gX11_work rfl (by decide) ?_
            refine T_run (n := 3) (pc' := 579) (lv' := [some (tR (some a0)), some (tI x1), some (tL y_2), none, some (tL y_4), none, some (tL (y_4 &&& 4294967295)), none, some (tL (y_2 &&& 4294967295)), none]) (st' := [tL ((y_4 &&& 4294967295) <<< ((((y_2 &&& 4294967295) &&& 31).toInt32).toInt64 &&& 63)), tR (some a0)]) (h' := h_3) gX11_work rfl ?_
            refine T_kl2 (v := 4294967295) gX11_work rfl (by decide) ?_
            refine T_run (n := 1) (pc' := 583) (lv' := [some (tR (some a0)), some (tI x1), some (tL y_2), none, some (tL y_4), none, some (tL (y_4 &&& 4294967295)), none, some (tL (y_2 &&& 4294967295)), none]) (st' := [tL (((y_4 &&& 4294967295) <<< ((((y_2 &&& 4294967295) &&& 31).toInt32).toInt64 &&& 63)) &&& 4294967295), tR (some a0)]) (h' := h_3) gX11_work rfl ?_
            obtain ⟨ho, w⟩ := w
            refine T_cv (fun aa => [some (tR (some aa)), some (tL (((y_4 &&& 4294967295) <<< ((((y_2 &&& 4294967295) &&& 31).toInt32).toInt64 &&& 63)) &&& 4294967295)), none]) gX11_work rfl rfl rfl rfl (Nat.le_of_ble_eq_true rfl) gX11_push (fun _ => Nat.le_of_ble_eq_true rfl) (fun _ => rfl) ⟨a0, rfl, ho, T_kv ?_⟩
            refine T.mono w (fun rr h_17 hw => ?_)
            obtain ⟨hr, w⟩ := hw
            refine ⟨hr, ?_⟩
            refine T_goto (tgt := 619) gX11_work rfl (by decide) ?_
            exact T_rv gX11_work rfl rfl w
          rw [if_neg hc] at w
          refine sw_cons (fun hc => ?_) (fun hc => ?_)
          · rw [if_pos hc] at w
            refine T_run (n := 4) (pc' := 594) (lv' := [some (tR (some a0)), some (tI x1), some (tL y_2), none, some (tL y_4), none, some (tL (y_4 &&& 4294967295)), none, some (tL (y_2 &&& 4294967295)), none]) (st' := [tL (y_4 + y_2), tR (some a0)]) (h' := h_3) gX11_work rfl ?_
            obtain ⟨ho, w⟩ := w
            refine T_cv (fun aa => [some (tR (some aa)), some (tL (y_4 + y_2)), none]) gX11_work rfl rfl rfl rfl (Nat.le_of_ble_eq_true rfl) gX11_push (fun _ => Nat.le_of_ble_eq_true rfl) (fun _ => rfl) ⟨a0, rfl, ho, T_kv ?_⟩
            refine T.mono w (fun rr h_19 hw => ?_)
            obtain ⟨hr, w⟩ := hw
            refine ⟨hr, ?_⟩
            refine T_goto (tgt := 619) gX11_work rfl (by decide) ?_
            exact T_rv gX11_work rfl rfl w
          rw [if_neg hc] at w
          refine sw_cons (fun hc => ?_) (fun hc => ?_)
          · rw [if_pos hc] at w
            refine T_run (n := 4) (pc' := 605) (lv' := [some (tR (some a0)), some (tI x1), some (tL y_2), none, some (tL y_4), none, some (tL (y_4 &&& 4294967295)), none, some (tL (y_2 &&& 4294967295)), none]) (st' := [tL (y_4 - y_2), tR (some a0)]) (h' := h_3) gX11_work rfl ?_
            obtain ⟨ho, w⟩ := w
            refine T_cv (fun aa => [some (tR (some aa)), some (tL (y_4 - y_2)), none]) gX11_work rfl rfl rfl rfl (Nat.le_of_ble_eq_true rfl) gX11_push (fun _ => Nat.le_of_ble_eq_true rfl) (fun _ => rfl) ⟨a0, rfl, ho, T_kv ?_⟩
            refine T.mono w (fun rr h_21 hw => ?_)
            obtain ⟨hr, w⟩ := hw
            refine ⟨hr, ?_⟩
            refine T_goto (tgt := 619) gX11_work rfl (by decide) ?_
            exact T_rv gX11_work rfl rfl w
          rw [if_neg hc] at w
          refine T_run (n := 4) (pc' := 616) (lv' := [some (tR (some a0)), some (tI x1), some (tL y_2), none, some (tL y_4), none, some (tL (y_4 &&& 4294967295)), none, some (tL (y_2 &&& 4294967295)), none]) (st' := [tL (y_4 * y_2), tR (some a0)]) (h' := h_3) gX11_work rfl ?_
          obtain ⟨ho, w⟩ := w
          refine T_cv (fun aa => [some (tR (some aa)), some (tL (y_4 * y_2)), none]) gX11_work rfl rfl rfl rfl (Nat.le_of_ble_eq_true rfl) gX11_push (fun _ => Nat.le_of_ble_eq_true rfl) (fun _ => rfl) ⟨a0, rfl, ho, T_kv ?_⟩
          refine T.mono w (fun rr h_23 hw => ?_)
          obtain ⟨hr, w⟩ := hw
          refine ⟨hr, ?_⟩
          exact T_rv gX11_work rfl rfl w
        · replace w := w.2 hc
          exact T_wk w (leE (leN (leN (leN (leN (leN (leN (leN (leN (leN le0))))))))))
    · replace w := w.2 hc
      exact w
set_option maxHeartbeats 4000000 in
set_option maxRecDepth 20000 in
theorem wX11_work_12 (a0 : Nat) (x1 : Int32) (h : Hp) (Q : Option TV → Hp → Prop) (w :
ob h a0 10 (tX11_pop a0  h (rL (fun y_2 h_1 =>
(if x1 = 69 then
tX11_work_33 a0 (y_2 &&& 4294967295) (some a0) h_1 Q
else
tX11_work_33 a0 y_2 (some a0) h_1 Q))))) : tX11_work_12 a0 x1 h Q := by
  refine T_run (n := 1) (pc' := 13) (lv' := [some (tR (some a0)), some (tI x1), none, none, none, none, none, none, none, none]) (st' := [tR (some a0)]) (h' := h) gX11_work rfl ?_
  obtain ⟨ho, w⟩ := w
  refine T_cv (fun aa => [some (tR (some aa))]) gX11_work rfl rfl rfl rfl (Nat.le_of_ble_eq_true rfl) gX11_pop (fun _ => Nat.le_of_ble_eq_true rfl) (fun _ => rfl) ⟨a0, rfl, ho, T_kl ?_⟩
  refine T.mono w (fun rr h_1 hw => ?_)
  obtain ⟨y_2, hr, w⟩ := hw
  refine ⟨y_2, hr, ?_⟩
  refine T_run (n := 3) (pc' := 19) (lv' := [some (tR (some a0)), some (tI x1), some (tL y_2), none, none, none, none, none, none, none]) (st' := [tI x1, tR (some a0)]) (h' := h_1) gX11_work rfl ?_
  refine T_kb (v := 69) gX11_work rfl (by decide) ?_
  replace w := c_ne w
  refine T_ic (tgt := 32) gX11_work rfl (by decide) (fun hc => ?_) (fun hc => ?_)
  · replace w := w.1 hc
    refine T_run (n := 1) (pc' := 33) (lv' := [some (tR (some a0)), some (tI x1), some (tL y_2), none, none, none, none, none, none, none]) (st' := [tL y_2, tR (some a0)]) (h' := h_1) gX11_work rfl ?_
    exact T_wk w (leE (leN (leN (leN (leN (leN (leN (leN (leN (leN le0))))))))))
  · replace w := w.2 hc
    refine T_run (n := 1) (pc' := 25) (lv' := [some (tR (some a0)), some (tI x1), some (tL y_2), none, none, none, none, none, none, none]) (st' := [tL y_2, tR (some a0)]) (h' := h_1) gX11_work rfl ?_
    refine T_kl2 (v := 4294967295) gX11_work rfl (by decide) ?_
    refine T_run (n := 1) (pc' := 29) (lv' := [some (tR (some a0)), some (tI x1), some (tL y_2), none, none, none, none, none, none, none]) (st' := [tL (y_2 &&& 4294967295), tR (some a0)]) (h' := h_1) gX11_work rfl ?_
    refine T_goto (tgt := 33) gX11_work rfl (by decide) ?_
    exact T_wk w (leE (leN (leN (leN (leN (leN (leN (leN (leN (leN le0))))))))))
set_option maxHeartbeats 4000000 in
set_option maxRecDepth 20000 in
theorem wX11_work_33 (a0 : Nat) (s0 : Int64) (s1 : Option Nat) (h : Hp) (Q : Option TV → Hp → Prop) (w :
(if s0 = 0 then
tX11_work_43 a0 1 s1 h Q
else
tX11_work_43 a0 0 s1 h Q)) : tX11_work_33 a0 s0 s1 h Q := by
  refine T_kj (v := 0) gX11_work rfl (by decide) ?_
  refine T_run (n := 1) (pc' := 35) (lv' := [some (tR (some a0)), none, none, none, none, none, none, none, none, none]) (st' := [tI (lg_cmp s0 0), tR s1]) (h' := h) gX11_work rfl ?_
  replace w := c_ne (if_iff (lg_eq s0 0) w)
  refine T_if (tgt := 42) gX11_work rfl (by decide) (fun hc => ?_) (fun hc => ?_)
  · replace w := w.1 hc
    refine T_kn (v := 0) gX11_work rfl (by decide) ?_
    exact w
  · replace w := w.2 hc
    refine T_kn (v := 1) gX11_work rfl (by decide) ?_
    refine T_goto (tgt := 43) gX11_work rfl (by decide) ?_
    exact w
set_option maxHeartbeats 4000000 in
set_option maxRecDepth 20000 in
theorem wX11_work_43 (a0 : Nat) (s0 : Int32) (s1 : Option Nat) (h : Hp) (Q : Option TV → Hp → Prop) (w :
tX11_truth s0 h (rL (fun y_2 h_1 =>
dr s1 (fun a_5 => ob h_1 a_5 10 (tX11_push a_5 y_2 h_1 (rV (fun h_3 =>
Q none h_3))))))) : tX11_work_43 a0 s0 s1 h Q := by
  refine T_cs (lv' := [some (tI s0)]) gX11_work rfl rfl rfl rfl (Nat.le_of_ble_eq_true rfl) gX11_truth (Nat.le_of_ble_eq_true rfl) rfl (T_kl ?_)
  refine T.mono w (fun rr h_1 hw => ?_)
  obtain ⟨y_2, hr, w⟩ := hw
  refine ⟨y_2, hr, ?_⟩
  obtain ⟨a_5, hr, ho, w⟩ := w
  refine T_cv (fun aa => [some (tR (some aa)), some (tL y_2), none]) gX11_work rfl rfl rfl rfl (Nat.le_of_ble_eq_true rfl) gX11_push (fun _ => Nat.le_of_ble_eq_true rfl) (fun _ => rfl) ⟨a_5, hr, ho, T_kv ?_⟩
  refine T.mono w (fun rr h_3 hw => ?_)
  obtain ⟨hr, w⟩ := hw
  refine ⟨hr, ?_⟩
  exact T_rv gX11_work rfl rfl w
set_option maxHeartbeats 4000000 in
set_option maxRecDepth 20000 in
theorem wX11_work_64 (a0 : Nat) (h : Hp) (Q : Option TV → Hp → Prop) (w :
ob h a0 10 (tX11_pop a0  h (rL (fun y_2 h_1 =>
ob h_1 a0 10 (tX11_push a0 (y_2 &&& 4294967295) h_1 (rV (fun h_3 =>
Q none h_3))))))) : tX11_work_64 a0 h Q := by
  refine T_run (n := 2) (pc' := 66) (lv' := [some (tR (some a0)), none, none, none, none, none, none, none, none, none]) (st' := [tR (some a0), tR (some a0)]) (h' := h) gX11_work rfl ?_
  obtain ⟨ho, w⟩ := w
  refine T_cv (fun aa => [some (tR (some aa))]) gX11_work rfl rfl rfl rfl (Nat.le_of_ble_eq_true rfl) gX11_pop (fun _ => Nat.le_of_ble_eq_true rfl) (fun _ => rfl) ⟨a0, rfl, ho, T_kl ?_⟩
  refine T.mono w (fun rr h_1 hw => ?_)
  obtain ⟨y_2, hr, w⟩ := hw
  refine ⟨y_2, hr, ?_⟩
  refine T_kl2 (v := 4294967295) gX11_work rfl (by decide) ?_
  refine T_run (n := 1) (pc' := 73) (lv' := [some (tR (some a0)), none, none, none, none, none, none, none, none, none]) (st' := [tL (y_2 &&& 4294967295), tR (some a0)]) (h' := h_1) gX11_work rfl ?_
  obtain ⟨ho, w⟩ := w
  refine T_cv (fun aa => [some (tR (some aa)), some (tL (y_2 &&& 4294967295)), none]) gX11_work rfl rfl rfl rfl (Nat.le_of_ble_eq_true rfl) gX11_push (fun _ => Nat.le_of_ble_eq_true rfl) (fun _ => rfl) ⟨a0, rfl, ho, T_kv ?_⟩
  refine T.mono w (fun rr h_3 hw => ?_)
  obtain ⟨hr, w⟩ := hw
  refine ⟨hr, ?_⟩
  exact T_rv gX11_work rfl rfl w
set_option maxHeartbeats 4000000 in
set_option maxRecDepth 20000 in
theorem wX11_work_358 (a0 : Nat) (s0 : Int32) (s1 : Option Nat) (h : Hp) (Q : Option TV → Hp → Prop) (w :
tX11_truth s0 h (rL (fun y_2 h_1 =>
dr s1 (fun a_5 => ob h_1 a_5 10 (tX11_push a_5 y_2 h_1 (rV (fun h_3 =>
Q none h_3))))))) : tX11_work_358 a0 s0 s1 h Q := by
  refine T_cs (lv' := [some (tI s0)]) gX11_work rfl rfl rfl rfl (Nat.le_of_ble_eq_true rfl) gX11_truth (Nat.le_of_ble_eq_true rfl) rfl (T_kl ?_)
  refine T.mono w (fun rr h_1 hw => ?_)
  obtain ⟨y_2, hr, w⟩ := hw
  refine ⟨y_2, hr, ?_⟩
  obtain ⟨a_5, hr, ho, w⟩ := w
  refine T_cv (fun aa => [some (tR (some aa)), some (tL y_2), none]) gX11_work rfl rfl rfl rfl (Nat.le_of_ble_eq_true rfl) gX11_push (fun _ => Nat.le_of_ble_eq_true rfl) (fun _ => rfl) ⟨a_5, hr, ho, T_kv ?_⟩
  refine T.mono w (fun rr h_3 hw => ?_)
  obtain ⟨hr, w⟩ := hw
  refine ⟨hr, ?_⟩
  refine T_goto (tgt := 619) gX11_work rfl (by decide) ?_
  exact T_rv gX11_work rfl rfl w
set_option maxHeartbeats 4000000 in
set_option maxRecDepth 20000 in
theorem wX11_work_381 (a0 : Nat) (s0 : Int32) (s1 : Option Nat) (h : Hp) (Q : Option TV → Hp → Prop) (w :
tX11_truth s0 h (rL (fun y_2 h_1 =>
dr s1 (fun a_5 => ob h_1 a_5 10 (tX11_push a_5 y_2 h_1 (rV (fun h_3 =>
Q none h_3))))))) : tX11_work_381 a0 s0 s1 h Q := by
  refine T_cs (lv' := [some (tI s0)]) gX11_work rfl rfl rfl rfl (Nat.le_of_ble_eq_true rfl) gX11_truth (Nat.le_of_ble_eq_true rfl) rfl (T_kl ?_)
  refine T.mono w (fun rr h_1 hw => ?_)
  obtain ⟨y_2, hr, w⟩ := hw
  refine ⟨y_2, hr, ?_⟩
  obtain ⟨a_5, hr, ho, w⟩ := w
  refine T_cv (fun aa => [some (tR (some aa)), some (tL y_2), none]) gX11_work rfl rfl rfl rfl (Nat.le_of_ble_eq_true rfl) gX11_push (fun _ => Nat.le_of_ble_eq_true rfl) (fun _ => rfl) ⟨a_5, hr, ho, T_kv ?_⟩
  refine T.mono w (fun rr h_3 hw => ?_)
  obtain ⟨hr, w⟩ := hw
  refine ⟨hr, ?_⟩
  refine T_goto (tgt := 619) gX11_work rfl (by decide) ?_
  exact T_rv gX11_work rfl rfl w
set_option maxHeartbeats 4000000 in
set_option maxRecDepth 20000 in
theorem wX11_work_404 (a0 : Nat) (s0 : Int32) (s1 : Option Nat) (h : Hp) (Q : Option TV → Hp → Prop) (w :
tX11_truth s0 h (rL (fun y_2 h_1 =>
dr s1 (fun a_5 => ob h_1 a_5 10 (tX11_push a_5 y_2 h_1 (rV (fun h_3 =>
Q none h_3))))))) : tX11_work_404 a0 s0 s1 h Q := by
  refine T_cs (lv' := [some (tI s0)]) gX11_work rfl rfl rfl rfl (Nat.le_of_ble_eq_true rfl) gX11_truth (Nat.le_of_ble_eq_true rfl) rfl (T_kl ?_)
  refine T.mono w (fun rr h_1 hw => ?_)
  obtain ⟨y_2, hr, w⟩ := hw
  refine ⟨y_2, hr, ?_⟩
  obtain ⟨a_5, hr, ho, w⟩ := w
  refine T_cv (fun aa => [some (tR (some aa)), some (tL y_2), none]) gX11_work rfl rfl rfl rfl (Nat.le_of_ble_eq_true rfl) gX11_push (fun _ => Nat.le_of_ble_eq_true rfl) (fun _ => rfl) ⟨a_5, hr, ho, T_kv ?_⟩
  refine T.mono w (fun rr h_3 hw => ?_)
  obtain ⟨hr, w⟩ := hw
  refine ⟨hr, ?_⟩
  refine T_goto (tgt := 619) gX11_work rfl (by decide) ?_
  exact T_rv gX11_work rfl rfl w
set_option maxHeartbeats 4000000 in
set_option maxRecDepth 20000 in
theorem wX11_work_427 (a0 : Nat) (s0 : Int32) (s1 : Option Nat) (h : Hp) (Q : Option TV → Hp → Prop) (w :
tX11_truth s0 h (rL (fun y_2 h_1 =>
dr s1 (fun a_5 => ob h_1 a_5 10 (tX11_push a_5 y_2 h_1 (rV (fun h_3 =>
Q none h_3))))))) : tX11_work_427 a0 s0 s1 h Q := by
  refine T_cs (lv' := [some (tI s0)]) gX11_work rfl rfl rfl rfl (Nat.le_of_ble_eq_true rfl) gX11_truth (Nat.le_of_ble_eq_true rfl) rfl (T_kl ?_)
  refine T.mono w (fun rr h_1 hw => ?_)
  obtain ⟨y_2, hr, w⟩ := hw
  refine ⟨y_2, hr, ?_⟩
  obtain ⟨a_5, hr, ho, w⟩ := w
  refine T_cv (fun aa => [some (tR (some aa)), some (tL y_2), none]) gX11_work rfl rfl rfl rfl (Nat.le_of_ble_eq_true rfl) gX11_push (fun _ => Nat.le_of_ble_eq_true rfl) (fun _ => rfl) ⟨a_5, hr, ho, T_kv ?_⟩
  refine T.mono w (fun rr h_3 hw => ?_)
  obtain ⟨hr, w⟩ := hw
  refine ⟨hr, ?_⟩
  refine T_goto (tgt := 619) gX11_work rfl (by decide) ?_
  exact T_rv gX11_work rfl rfl w
set_option maxHeartbeats 4000000 in
set_option maxRecDepth 20000 in
theorem wX11_work_449 (a0 : Nat) (s0 : Int32) (s1 : Option Nat) (h : Hp) (Q : Option TV → Hp → Prop) (w :
tX11_truth s0 h (rL (fun y_2 h_1 =>
dr s1 (fun a_5 => ob h_1 a_5 10 (tX11_push a_5 y_2 h_1 (rV (fun h_3 =>
Q none h_3))))))) : tX11_work_449 a0 s0 s1 h Q := by
  refine T_cs (lv' := [some (tI s0)]) gX11_work rfl rfl rfl rfl (Nat.le_of_ble_eq_true rfl) gX11_truth (Nat.le_of_ble_eq_true rfl) rfl (T_kl ?_)
  refine T.mono w (fun rr h_1 hw => ?_)
  obtain ⟨y_2, hr, w⟩ := hw
  refine ⟨y_2, hr, ?_⟩
  obtain ⟨a_5, hr, ho, w⟩ := w
  refine T_cv (fun aa => [some (tR (some aa)), some (tL y_2), none]) gX11_work rfl rfl rfl rfl (Nat.le_of_ble_eq_true rfl) gX11_push (fun _ => Nat.le_of_ble_eq_true rfl) (fun _ => rfl) ⟨a_5, hr, ho, T_kv ?_⟩
  refine T.mono w (fun rr h_3 hw => ?_)
  obtain ⟨hr, w⟩ := hw
  refine ⟨hr, ?_⟩
  refine T_goto (tgt := 619) gX11_work rfl (by decide) ?_
  exact T_rv gX11_work rfl rfl w
set_option maxHeartbeats 4000000 in
set_option maxRecDepth 20000 in
theorem wX11_work_471 (a0 : Nat) (s0 : Int32) (s1 : Option Nat) (h : Hp) (Q : Option TV → Hp → Prop) (w :
tX11_truth s0 h (rL (fun y_2 h_1 =>
dr s1 (fun a_5 => ob h_1 a_5 10 (tX11_push a_5 y_2 h_1 (rV (fun h_3 =>
Q none h_3))))))) : tX11_work_471 a0 s0 s1 h Q := by
  refine T_cs (lv' := [some (tI s0)]) gX11_work rfl rfl rfl rfl (Nat.le_of_ble_eq_true rfl) gX11_truth (Nat.le_of_ble_eq_true rfl) rfl (T_kl ?_)
  refine T.mono w (fun rr h_1 hw => ?_)
  obtain ⟨y_2, hr, w⟩ := hw
  refine ⟨y_2, hr, ?_⟩
  obtain ⟨a_5, hr, ho, w⟩ := w
  refine T_cv (fun aa => [some (tR (some aa)), some (tL y_2), none]) gX11_work rfl rfl rfl rfl (Nat.le_of_ble_eq_true rfl) gX11_push (fun _ => Nat.le_of_ble_eq_true rfl) (fun _ => rfl) ⟨a_5, hr, ho, T_kv ?_⟩
  refine T.mono w (fun rr h_3 hw => ?_)
  obtain ⟨hr, w⟩ := hw
  refine ⟨hr, ?_⟩
  refine T_goto (tgt := 619) gX11_work rfl (by decide) ?_
  exact T_rv gX11_work rfl rfl w
set_option maxHeartbeats 4000000 in
set_option maxRecDepth 20000 in
theorem wX11_simple (a0 : Nat) (x1 : Int32) (x2 : Int32) (x3 : Int32) (h : Hp) (Q : Option TV → Hp → Prop) (w :
(if x1 = 26 then
ob h a0 10 (tX11_pop a0  h (rL (fun y_8 h_7 =>
ob h_7 a0 10 (
ob h_7 a0 10 (∀ h_9, h_9 = pi h_7 674 a0 ((gi h_7 674 a0) + 1) →
Q none h_9)))))
else
(if x1 = 27 then
ob h a0 10 (tX11_choose a0  h (rV (fun h_4 =>
ob h_4 a0 10 (
ob h_4 a0 10 (∀ h_6, h_6 = pi h_4 674 a0 ((gi h_4 674 a0) + 1) →
Q none h_6)))))
else
(if 31 < x1 then
(if x1 < 37 then
ob h a0 10 (tX11_variable a0 x1 x2 h (rV (fun h_1 =>
ob h_1 a0 10 (
ob h_1 a0 10 (∀ h_3, h_3 = pi h_1 674 a0 ((gi h_1 674 a0) + 1) →
Q none h_3)))))
else
tX11_simple_48 a0 x1 x2 x3 h Q)
else
tX11_simple_48 a0 x1 x2 x3 h Q)))) : tX11_simple a0 x1 x2 x3 h Q := by
  refine T_run (n := 1) (pc' := 1) (lv' := [some (tR (some a0)), some (tI x1), some (tI x2), some (tI x3)]) (st' := [tI x1]) (h' := h) gX11_simple rfl ?_
  refine T_kb (v := 26) gX11_simple rfl (by decide) ?_
  replace w := c_ne w
  refine T_ic (tgt := 14) gX11_simple rfl (by decide) (fun hc => ?_) (fun hc => ?_)
  · replace w := w.1 hc
    refine T_run (n := 1) (pc' := 15) (lv' := [some (tR (some a0)), some (tI x1), some (tI x2), some (tI x3)]) (st' := [tI x1]) (h' := h) gX11_simple rfl ?_
    refine T_kb (v := 27) gX11_simple rfl (by decide) ?_
    replace w := c_ne w
    refine T_ic (tgt := 27) gX11_simple rfl (by decide) (fun hc => ?_) (fun hc => ?_)
    · replace w := w.1 hc
      refine T_run (n := 1) (pc' := 28) (lv' := [some (tR (some a0)), some (tI x1), some (tI x2), some (tI x3)]) (st' := [tI x1]) (h' := h) gX11_simple rfl ?_
      refine T_kb (v := 31) gX11_simple rfl (by decide) ?_
      replace w := c_le w
      refine T_ic (tgt := 48) gX11_simple rfl (by decide) (fun hc => ?_) (fun hc => ?_)
      · replace w := w.1 hc
        exact w
      · replace w := w.2 hc
        refine T_run (n := 1) (pc' := 34) (lv' := [some (tR (some a0)), some (tI x1), some (tI x2), some (tI x3)]) (st' := [tI x1]) (h' := h) gX11_simple rfl ?_
        refine T_kb (v := 37) gX11_simple rfl (by decide) ?_
        replace w := c_ge w
        refine T_ic (tgt := 48) gX11_simple rfl (by decide) (fun hc => ?_) (fun hc => ?_)
        · replace w := w.1 hc
          exact w
        · replace w := w.2 hc
          refine T_run (n := 3) (pc' := 42) (lv' := [some (tR (some a0)), some (tI x1), some (tI x2), some (tI x3)]) (st' := [tI x2, tI x1, tR (some a0)]) (h' := h) gX11_simple rfl ?_
          obtain ⟨ho, w⟩ := w
          refine T_cv (fun aa => [some (tR (some aa)), some (tI x1), some (tI x2), none]) gX11_simple rfl rfl rfl rfl (Nat.le_of_ble_eq_true rfl) gX11_variable (fun _ => Nat.le_of_ble_eq_true rfl) (fun _ => rfl) ⟨a0, rfl, ho, T_kv ?_⟩
          refine T.mono w (fun rr h_1 hw => ?_)
          obtain ⟨hr, w⟩ := hw
          refine ⟨hr, ?_⟩
          refine T_goto (tgt := 155) gX11_simple rfl (by decide) ?_
          refine T_run (n := 2) (pc' := 157) (lv' := [some (tR (some a0)), some (tI x1), some (tI x2), some (tI x3)]) (st' := [tR (some a0), tR (some a0)]) (h' := h_1) gX11_simple rfl ?_
          obtain ⟨ho, w⟩ := w
          refine T_gs (tI (gi h_1 674 a0)) gX11_simple rfl rfl ⟨ho, ?_⟩
          refine T_kn (v := 1) gX11_simple rfl (by decide) ?_
          refine T_run (n := 1) (pc' := 162) (lv' := [some (tR (some a0)), some (tI x1), some (tI x2), some (tI x3)]) (st' := [tI ((gi h_1 674 a0) + 1), tR (some a0)]) (h' := h_1) gX11_simple rfl ?_
          obtain ⟨ho, w⟩ := w
          refine T_ps (pi h_1 674 a0 ((gi h_1 674 a0) + 1)) gX11_simple rfl rfl ⟨ho, fun h_3 he => ?_⟩
          replace w := w h_3 he
          exact T_rv gX11_simple rfl rfl w
    · replace w := w.2 hc
      refine T_run (n := 1) (pc' := 21) (lv' := [some (tR (some a0)), some (tI x1), some (tI x2), some (tI x3)]) (st' := [tR (some a0)]) (h' := h) gX11_simple rfl ?_
      obtain ⟨ho, w⟩ := w
      refine T_cv (fun aa => [some (tR (some aa)), none, none, none, none, none]) gX11_simple rfl rfl rfl rfl (Nat.le_of_ble_eq_true rfl) gX11_choose (fun _ => Nat.le_of_ble_eq_true rfl) (fun _ => rfl) ⟨a0, rfl, ho, T_kv ?_⟩
      refine T.mono w (fun rr h_4 hw => ?_)
      obtain ⟨hr, w⟩ := hw
      refine ⟨hr, ?_⟩
      refine T_goto (tgt := 155) gX11_simple rfl (by decide) ?_
      refine T_run (n := 2) (pc' := 157) (lv' := [some (tR (some a0)), some (tI x1), some (tI x2), some (tI x3)]) (st' := [tR (some a0), tR (some a0)]) (h' := h_4) gX11_simple rfl ?_
      obtain ⟨ho, w⟩ := w
      refine T_gs (tI (gi h_4 674 a0)) gX11_simple rfl rfl ⟨ho, ?_⟩
      refine T_kn (v := 1) gX11_simple rfl (by decide) ?_
      refine T_run (n := 1) (pc' := 162) (lv' := [some (tR (some a0)), some (tI x1), some (tI x2), some (tI x3)]) (st' := [tI ((gi h_4 674 a0) + 1), tR (some a0)]) (h' := h_4) gX11_simple rfl ?_
      obtain ⟨ho, w⟩ := w
      refine T_ps (pi h_4 674 a0 ((gi h_4 674 a0) + 1)) gX11_simple rfl rfl ⟨ho, fun h_6 he => ?_⟩
      replace w := w h_6 he
      exact T_rv gX11_simple rfl rfl w
  · replace w := w.2 hc
    refine T_run (n := 1) (pc' := 7) (lv' := [some (tR (some a0)), some (tI x1), some (tI x2), some (tI x3)]) (st' := [tR (some a0)]) (h' := h) gX11_simple rfl ?_
    obtain ⟨ho, w⟩ := w
    refine T_cv (fun aa => [some (tR (some aa))]) gX11_simple rfl rfl rfl rfl (Nat.le_of_ble_eq_true rfl) gX11_pop (fun _ => Nat.le_of_ble_eq_true rfl) (fun _ => rfl) ⟨a0, rfl, ho, T_kl ?_⟩
    refine T.mono w (fun rr h_7 hw => ?_)
    obtain ⟨y_8, hr, w⟩ := hw
    refine ⟨y_8, hr, ?_⟩
    refine T_run (n := 1) (pc' := 11) (lv' := [some (tR (some a0)), some (tI x1), some (tI x2), some (tI x3)]) (st' := []) (h' := h_7) gX11_simple rfl ?_
    refine T_goto (tgt := 155) gX11_simple rfl (by decide) ?_
    refine T_run (n := 2) (pc' := 157) (lv' := [some (tR (some a0)), some (tI x1), some (tI x2), some (tI x3)]) (st' := [tR (some a0), tR (some a0)]) (h' := h_7) gX11_simple rfl ?_
    obtain ⟨ho, w⟩ := w
    refine T_gs (tI (gi h_7 674 a0)) gX11_simple rfl rfl ⟨ho, ?_⟩
    refine T_kn (v := 1) gX11_simple rfl (by decide) ?_
    refine T_run (n := 1) (pc' := 162) (lv' := [some (tR (some a0)), some (tI x1), some (tI x2), some (tI x3)]) (st' := [tI ((gi h_7 674 a0) + 1), tR (some a0)]) (h' := h_7) gX11_simple rfl ?_
    obtain ⟨ho, w⟩ := w
    refine T_ps (pi h_7 674 a0 ((gi h_7 674 a0) + 1)) gX11_simple rfl rfl ⟨ho, fun h_9 he => ?_⟩
    replace w := w h_9 he
    exact T_rv gX11_simple rfl rfl w
set_option maxHeartbeats 4000000 in
set_option maxRecDepth 20000 in
theorem wX11_simple_48 (a0 : Nat) (x1 : Int32) (x2 : Int32) (x3 : Int32) (h : Hp) (Q : Option TV → Hp → Prop) (w :
(if 39 < x1 then
(if x1 < 63 then
ob h a0 10 (tX11_move a0 x1 x2 h (rV (fun h_1 =>
ob h_1 a0 10 (
ob h_1 a0 10 (∀ h_3, h_3 = pi h_1 674 a0 ((gi h_1 674 a0) + 1) →
Q none h_3)))))
else
tX11_simple_69 a0 x1 x2 x3 h Q)
else
tX11_simple_69 a0 x1 x2 x3 h Q)) : tX11_simple_48 a0 x1 x2 x3 h Q := by
  refine T_run (n := 1) (pc' := 49) (lv' := [some (tR (some a0)), some (tI x1), some (tI x2), some (tI x3)]) (st' := [tI x1]) (h' := h) gX11_simple rfl ?_
  refine T_kb (v := 39) gX11_simple rfl (by decide) ?_
  replace w := c_le w
  refine T_ic (tgt := 69) gX11_simple rfl (by decide) (fun hc => ?_) (fun hc => ?_)
  · replace w := w.1 hc
    exact w
  · replace w := w.2 hc
    refine T_run (n := 1) (pc' := 55) (lv' := [some (tR (some a0)), some (tI x1), some (tI x2), some (tI x3)]) (st' := [tI x1]) (h' := h) gX11_simple rfl ?_
    refine T_kb (v := 63) gX11_simple rfl (by decide) ?_
    replace w := c_ge w
    refine T_ic (tgt := 69) gX11_simple rfl (by decide) (fun hc => ?_) (fun hc => ?_)
    · replace w := w.1 hc
      exact w
    · replace w := w.2 hc
      refine T_run (n := 3) (pc' := 63) (lv' := [some (tR (some a0)), some (tI x1), some (tI x2), some (tI x3)]) (st' := [tI x2, tI x1, tR (some a0)]) (h' := h) gX11_simple rfl ?_
      obtain ⟨ho, w⟩ := w
      refine T_cv (fun aa => [some (tR (some aa)), some (tI x1), some (tI x2), none, none, none, none, none, none, none, none, none]) gX11_simple rfl rfl rfl rfl (Nat.le_of_ble_eq_true rfl) gX11_move (fun _ => Nat.le_of_ble_eq_true rfl) (fun _ => rfl) ⟨a0, rfl, ho, T_kv ?_⟩
      refine T.mono w (fun rr h_1 hw => ?_)
      obtain ⟨hr, w⟩ := hw
      refine ⟨hr, ?_⟩
      refine T_goto (tgt := 155) gX11_simple rfl (by decide) ?_
      refine T_run (n := 2) (pc' := 157) (lv' := [some (tR (some a0)), some (tI x1), some (tI x2), some (tI x3)]) (st' := [tR (some a0), tR (some a0)]) (h' := h_1) gX11_simple rfl ?_
      obtain ⟨ho, w⟩ := w
      refine T_gs (tI (gi h_1 674 a0)) gX11_simple rfl rfl ⟨ho, ?_⟩
      refine T_kn (v := 1) gX11_simple rfl (by decide) ?_
      refine T_run (n := 1) (pc' := 162) (lv' := [some (tR (some a0)), some (tI x1), some (tI x2), some (tI x3)]) (st' := [tI ((gi h_1 674 a0) + 1), tR (some a0)]) (h' := h_1) gX11_simple rfl ?_
      obtain ⟨ho, w⟩ := w
      refine T_ps (pi h_1 674 a0 ((gi h_1 674 a0) + 1)) gX11_simple rfl rfl ⟨ho, fun h_3 he => ?_⟩
      replace w := w h_3 he
      exact T_rv gX11_simple rfl rfl w
set_option maxHeartbeats 4000000 in
set_option maxRecDepth 20000 in
theorem wX11_simple_69 (a0 : Nat) (x1 : Int32) (x2 : Int32) (x3 : Int32) (h : Hp) (Q : Option TV → Hp → Prop) (w :
(if x1 = 63 then
ob h a0 10 (
ob h a0 10 (tX11_push a0 ((gi h 666 a0).toInt64) h (rV (fun h_14 =>
ob h_14 a0 10 (
ob h_14 a0 10 (∀ h_16, h_16 = pi h_14 674 a0 ((gi h_14 674 a0) + 1) →
Q none h_16))))))
else
(if x1 = 64 then
ob h a0 10 (tX11_grow a0  h (rV (fun h_11 =>
ob h_11 a0 10 (
ob h_11 a0 10 (∀ h_13, h_13 = pi h_11 674 a0 ((gi h_11 674 a0) + 1) →
Q none h_13)))))
else
(if x1 = 65 then
ob h a0 10 (tX11_push a0 (x2.toInt64 &&& 4294967295) h (rV (fun h_8 =>
ob h_8 a0 10 (
ob h_8 a0 10 (∀ h_10, h_10 = pi h_8 674 a0 ((gi h_8 674 a0) + 1) →
Q none h_10)))))
else
(if x1 = 66 then
ob h a0 10 (tX11_push a0 ((x3.toInt64 <<< ((32 : Int32).toInt64 &&& 63)) ||| (x2.toInt64 &&& 4294967295)) h (rV (fun h_5 =>
ob h_5 a0 10 (
ob h_5 a0 10 (∀ h_7, h_7 = pi h_5 674 a0 ((gi h_5 674 a0) + 1) →
Q none h_7)))))
else
(if 68 < x1 then
ob h a0 10 (tX11_work a0 x1 h (rV (fun h_2 =>
ob h_2 a0 10 (
ob h_2 a0 10 (∀ h_4, h_4 = pi h_2 674 a0 ((gi h_2 674 a0) + 1) →
Q none h_4)))))
else
ob h a0 10 (
ob h a0 10 (∀ h_1, h_1 = pi h 674 a0 ((gi h 674 a0) + 1) →
Q none h_1)))))))) : tX11_simple_69 a0 x1 x2 x3 h Q := by
  refine T_run (n := 1) (pc' := 70) (lv' := [some (tR (some a0)), some (tI x1), some (tI x2), some (tI x3)]) (st' := [tI x1]) (h' := h) gX11_simple rfl ?_
  refine T_kb (v := 63) gX11_simple rfl (by decide) ?_
  replace w := c_ne w
  refine T_ic (tgt := 87) gX11_simple rfl (by decide) (fun hc => ?_) (fun hc => ?_)
  · replace w := w.1 hc
    refine T_run (n := 1) (pc' := 88) (lv' := [some (tR (some a0)), some (tI x1), some (tI x2), some (tI x3)]) (st' := [tI x1]) (h' := h) gX11_simple rfl ?_
    refine T_kb (v := 64) gX11_simple rfl (by decide) ?_
    replace w := c_ne w
    refine T_ic (tgt := 100) gX11_simple rfl (by decide) (fun hc => ?_) (fun hc => ?_)
    · replace w := w.1 hc
      refine T_run (n := 1) (pc' := 101) (lv' := [some (tR (some a0)), some (tI x1), some (tI x2), some (tI x3)]) (st' := [tI x1]) (h' := h) gX11_simple rfl ?_
      refine T_kb (v := 65) gX11_simple rfl (by decide) ?_
      replace w := c_ne w
      refine T_ic (tgt := 119) gX11_simple rfl (by decide) (fun hc => ?_) (fun hc => ?_)
      · replace w := w.1 hc
        refine T_run (n := 1) (pc' := 120) (lv' := [some (tR (some a0)), some (tI x1), some (tI x2), some (tI x3)]) (st' := [tI x1]) (h' := h) gX11_simple rfl ?_
        refine T_kb (v := 66) gX11_simple rfl (by decide) ?_
        replace w := c_ne w
        refine T_ic (tgt := 144) gX11_simple rfl (by decide) (fun hc => ?_) (fun hc => ?_)
        · replace w := w.1 hc
          refine T_run (n := 1) (pc' := 145) (lv' := [some (tR (some a0)), some (tI x1), some (tI x2), some (tI x3)]) (st' := [tI x1]) (h' := h) gX11_simple rfl ?_
          refine T_kb (v := 68) gX11_simple rfl (by decide) ?_
          replace w := c_le w
          refine T_ic (tgt := 155) gX11_simple rfl (by decide) (fun hc => ?_) (fun hc => ?_)
          · replace w := w.1 hc
            refine T_run (n := 2) (pc' := 157) (lv' := [some (tR (some a0)), some (tI x1), some (tI x2), some (tI x3)]) (st' := [tR (some a0), tR (some a0)]) (h' := h) gX11_simple rfl ?_
            obtain ⟨ho, w⟩ := w
            refine T_gs (tI (gi h 674 a0)) gX11_simple rfl rfl ⟨ho, ?_⟩
            refine T_kn (v := 1) gX11_simple rfl (by decide) ?_
            refine T_run (n := 1) (pc' := 162) (lv' := [some (tR (some a0)), some (tI x1), some (tI x2), some (tI x3)]) (st' := [tI ((gi h 674 a0) + 1), tR (some a0)]) (h' := h) gX11_simple rfl ?_
            obtain ⟨ho, w⟩ := w
            refine T_ps (pi h 674 a0 ((gi h 674 a0) + 1)) gX11_simple rfl rfl ⟨ho, fun h_1 he => ?_⟩
            replace w := w h_1 he
            exact T_rv gX11_simple rfl rfl w
          · replace w := w.2 hc
            refine T_run (n := 2) (pc' := 152) (lv' := [some (tR (some a0)), some (tI x1), some (tI x2), some (tI x3)]) (st' := [tI x1, tR (some a0)]) (h' := h) gX11_simple rfl ?_
            obtain ⟨ho, w⟩ := w
            refine T_cv (fun aa => [some (tR (some aa)), some (tI x1), none, none, none, none, none, none, none, none]) gX11_simple rfl rfl rfl rfl (Nat.le_of_ble_eq_true rfl) gX11_work (fun _ => Nat.le_of_ble_eq_true rfl) (fun _ => rfl) ⟨a0, rfl, ho, T_kv ?_⟩
            refine T.mono w (fun rr h_2 hw => ?_)
            obtain ⟨hr, w⟩ := hw
            refine ⟨hr, ?_⟩
            refine T_run (n := 2) (pc' := 157) (lv' := [some (tR (some a0)), some (tI x1), some (tI x2), some (tI x3)]) (st' := [tR (some a0), tR (some a0)]) (h' := h_2) gX11_simple rfl ?_
            obtain ⟨ho, w⟩ := w
            refine T_gs (tI (gi h_2 674 a0)) gX11_simple rfl rfl ⟨ho, ?_⟩
            refine T_kn (v := 1) gX11_simple rfl (by decide) ?_
            refine T_run (n := 1) (pc' := 162) (lv' := [some (tR (some a0)), some (tI x1), some (tI x2), some (tI x3)]) (st' := [tI ((gi h_2 674 a0) + 1), tR (some a0)]) (h' := h_2) gX11_simple rfl ?_
            obtain ⟨ho, w⟩ := w
            refine T_ps (pi h_2 674 a0 ((gi h_2 674 a0) + 1)) gX11_simple rfl rfl ⟨ho, fun h_4 he => ?_⟩
            replace w := w h_4 he
            exact T_rv gX11_simple rfl rfl w
        · replace w := w.2 hc
          refine T_run (n := 3) (pc' := 128) (lv' := [some (tR (some a0)), some (tI x1), some (tI x2), some (tI x3)]) (st' := [tL x3.toInt64, tR (some a0)]) (h' := h) gX11_simple rfl ?_
          refine T_kb (v := 32) gX11_simple rfl (by decide) ?_
          refine T_run (n := 3) (pc' := 133) (lv' := [some (tR (some a0)), some (tI x1), some (tI x2), some (tI x3)]) (st' := [tL x2.toInt64, tL (x3.toInt64 <<< ((32 : Int32).toInt64 &&& 63)), tR (some a0)]) (h' := h) gX11_simple rfl ?_
          refine T_kl2 (v := 4294967295) gX11_simple rfl (by decide) ?_
          refine T_run (n := 2) (pc' := 138) (lv' := [some (tR (some a0)), some (tI x1), some (tI x2), some (tI x3)]) (st' := [tL ((x3.toInt64 <<< ((32 : Int32).toInt64 &&& 63)) ||| (x2.toInt64 &&& 4294967295)), tR (some a0)]) (h' := h) gX11_simple rfl ?_
          obtain ⟨ho, w⟩ := w
          refine T_cv (fun aa => [some (tR (some aa)), some (tL ((x3.toInt64 <<< ((32 : Int32).toInt64 &&& 63)) ||| (x2.toInt64 &&& 4294967295))), none]) gX11_simple rfl rfl rfl rfl (Nat.le_of_ble_eq_true rfl) gX11_push (fun _ => Nat.le_of_ble_eq_true rfl) (fun _ => rfl) ⟨a0, rfl, ho, T_kv ?_⟩
          refine T.mono w (fun rr h_5 hw => ?_)
          obtain ⟨hr, w⟩ := hw
          refine ⟨hr, ?_⟩
          refine T_goto (tgt := 155) gX11_simple rfl (by decide) ?_
          refine T_run (n := 2) (pc' := 157) (lv' := [some (tR (some a0)), some (tI x1), some (tI x2), some (tI x3)]) (st' := [tR (some a0), tR (some a0)]) (h' := h_5) gX11_simple rfl ?_
          obtain ⟨ho, w⟩ := w
          refine T_gs (tI (gi h_5 674 a0)) gX11_simple rfl rfl ⟨ho, ?_⟩
          refine T_kn (v := 1) gX11_simple rfl (by decide) ?_
          refine T_run (n := 1) (pc' := 162) (lv' := [some (tR (some a0)), some (tI x1), some (tI x2), some (tI x3)]) (st' := [tI ((gi h_5 674 a0) + 1), tR (some a0)]) (h' := h_5) gX11_simple rfl ?_
          obtain ⟨ho, w⟩ := w
          refine T_ps (pi h_5 674 a0 ((gi h_5 674 a0) + 1)) gX11_simple rfl rfl ⟨ho, fun h_7 he => ?_⟩
          replace w := w h_7 he
          exact T_rv gX11_simple rfl rfl w
      · replace w := w.2 hc
        refine T_run (n := 3) (pc' := 109) (lv' := [some (tR (some a0)), some (tI x1), some (tI x2), some (tI x3)]) (st' := [tL x2.toInt64, tR (some a0)]) (h' := h) gX11_simple rfl ?_
        refine T_kl2 (v := 4294967295) gX11_simple rfl (by decide) ?_
        refine T_run (n := 1) (pc' := 113) (lv' := [some (tR (some a0)), some (tI x1), some (tI x2), some (tI x3)]) (st' := [tL (x2.toInt64 &&& 4294967295), tR (some a0)]) (h' := h) gX11_simple rfl ?_
        obtain ⟨ho, w⟩ := w
        refine T_cv (fun aa => [some (tR (some aa)), some (tL (x2.toInt64 &&& 4294967295)), none]) gX11_simple rfl rfl rfl rfl (Nat.le_of_ble_eq_true rfl) gX11_push (fun _ => Nat.le_of_ble_eq_true rfl) (fun _ => rfl) ⟨a0, rfl, ho, T_kv ?_⟩
        refine T.mono w (fun rr h_8 hw => ?_)
        obtain ⟨hr, w⟩ := hw
        refine ⟨hr, ?_⟩
        refine T_goto (tgt := 155) gX11_simple rfl (by decide) ?_
        refine T_run (n := 2) (pc' := 157) (lv' := [some (tR (some a0)), some (tI x1), some (tI x2), some (tI x3)]) (st' := [tR (some a0), tR (some a0)]) (h' := h_8) gX11_simple rfl ?_
        obtain ⟨ho, w⟩ := w
        refine T_gs (tI (gi h_8 674 a0)) gX11_simple rfl rfl ⟨ho, ?_⟩
        refine T_kn (v := 1) gX11_simple rfl (by decide) ?_
        refine T_run (n := 1) (pc' := 162) (lv' := [some (tR (some a0)), some (tI x1), some (tI x2), some (tI x3)]) (st' := [tI ((gi h_8 674 a0) + 1), tR (some a0)]) (h' := h_8) gX11_simple rfl ?_
        obtain ⟨ho, w⟩ := w
        refine T_ps (pi h_8 674 a0 ((gi h_8 674 a0) + 1)) gX11_simple rfl rfl ⟨ho, fun h_10 he => ?_⟩
        replace w := w h_10 he
        exact T_rv gX11_simple rfl rfl w
    · replace w := w.2 hc
      refine T_run (n := 1) (pc' := 94) (lv' := [some (tR (some a0)), some (tI x1), some (tI x2), some (tI x3)]) (st' := [tR (some a0)]) (h' := h) gX11_simple rfl ?_
      obtain ⟨ho, w⟩ := w
      refine T_cv (fun aa => [some (tR (some aa)), none, none, none]) gX11_simple rfl rfl rfl rfl (Nat.le_of_ble_eq_true rfl) gX11_grow (fun _ => Nat.le_of_ble_eq_true rfl) (fun _ => rfl) ⟨a0, rfl, ho, T_kv ?_⟩
      refine T.mono w (fun rr h_11 hw => ?_)
      obtain ⟨hr, w⟩ := hw
      refine ⟨hr, ?_⟩
      refine T_goto (tgt := 155) gX11_simple rfl (by decide) ?_
      refine T_run (n := 2) (pc' := 157) (lv' := [some (tR (some a0)), some (tI x1), some (tI x2), some (tI x3)]) (st' := [tR (some a0), tR (some a0)]) (h' := h_11) gX11_simple rfl ?_
      obtain ⟨ho, w⟩ := w
      refine T_gs (tI (gi h_11 674 a0)) gX11_simple rfl rfl ⟨ho, ?_⟩
      refine T_kn (v := 1) gX11_simple rfl (by decide) ?_
      refine T_run (n := 1) (pc' := 162) (lv' := [some (tR (some a0)), some (tI x1), some (tI x2), some (tI x3)]) (st' := [tI ((gi h_11 674 a0) + 1), tR (some a0)]) (h' := h_11) gX11_simple rfl ?_
      obtain ⟨ho, w⟩ := w
      refine T_ps (pi h_11 674 a0 ((gi h_11 674 a0) + 1)) gX11_simple rfl rfl ⟨ho, fun h_13 he => ?_⟩
      replace w := w h_13 he
      exact T_rv gX11_simple rfl rfl w
  · replace w := w.2 hc
    refine T_run (n := 2) (pc' := 77) (lv' := [some (tR (some a0)), some (tI x1), some (tI x2), some (tI x3)]) (st' := [tR (some a0), tR (some a0)]) (h' := h) gX11_simple rfl ?_
    obtain ⟨ho, w⟩ := w
    refine T_gs (tI (gi h 666 a0)) gX11_simple rfl rfl ⟨ho, ?_⟩
    refine T_run (n := 1) (pc' := 81) (lv' := [some (tR (some a0)), some (tI x1), some (tI x2), some (tI x3)]) (st' := [tL ((gi h 666 a0).toInt64), tR (some a0)]) (h' := h) gX11_simple rfl ?_
    obtain ⟨ho, w⟩ := w
    refine T_cv (fun aa => [some (tR (some aa)), some (tL ((gi h 666 a0).toInt64)), none]) gX11_simple rfl rfl rfl rfl (Nat.le_of_ble_eq_true rfl) gX11_push (fun _ => Nat.le_of_ble_eq_true rfl) (fun _ => rfl) ⟨a0, rfl, ho, T_kv ?_⟩
    refine T.mono w (fun rr h_14 hw => ?_)
    obtain ⟨hr, w⟩ := hw
    refine ⟨hr, ?_⟩
    refine T_goto (tgt := 155) gX11_simple rfl (by decide) ?_
    refine T_run (n := 2) (pc' := 157) (lv' := [some (tR (some a0)), some (tI x1), some (tI x2), some (tI x3)]) (st' := [tR (some a0), tR (some a0)]) (h' := h_14) gX11_simple rfl ?_
    obtain ⟨ho, w⟩ := w
    refine T_gs (tI (gi h_14 674 a0)) gX11_simple rfl rfl ⟨ho, ?_⟩
    refine T_kn (v := 1) gX11_simple rfl (by decide) ?_
    refine T_run (n := 1) (pc' := 162) (lv' := [some (tR (some a0)), some (tI x1), some (tI x2), some (tI x3)]) (st' := [tI ((gi h_14 674 a0) + 1), tR (some a0)]) (h' := h_14) gX11_simple rfl ?_
    obtain ⟨ho, w⟩ := w
    refine T_ps (pi h_14 674 a0 ((gi h_14 674 a0) + 1)) gX11_simple rfl rfl ⟨ho, fun h_16 he => ?_⟩
    replace w := w h_16 he
    exact T_rv gX11_simple rfl rfl w
set_option maxHeartbeats 4000000 in
set_option maxRecDepth 20000 in
theorem wX11_step (a0 : Nat) (h : Hp) (Q : Option TV → Hp → Prop) (w :
ob h a0 10 (
ob h a0 10 (∀ h_1, h_1 = pi h 670 a0 ((gi h 670 a0) + 1) →
ob h_1 a0 10 (
ob h_1 a0 10 (
dr (gr h_1 649 a0) (fun a_2 => ix h_1 kI a_2 (gi h_1 674 a0) (
ob h_1 a0 10 (
ob h_1 a0 10 (
dr (gr h_1 650 a0) (fun a_3 => ix h_1 kI a_3 (gi h_1 674 a0) (
ob h_1 a0 10 (
ob h_1 a0 10 (
dr (gr h_1 651 a0) (fun a_4 => ix h_1 kI a_4 (gi h_1 674 a0) (
(if (ai h_1 a_2 (gi h_1 674 a0).toNatClampNeg) = 0 then
ob h_1 a0 10 (tX11_traps a0 1 h_1 (rV (fun h_5 =>
tX11_step_262 a0 h_5 Q)))
else
(if (ai h_1 a_2 (gi h_1 674 a0).toNatClampNeg) = 4 then
ob h_1 a0 10 (tX11_condition a0 (ai h_1 a_3 (gi h_1 674 a0).toNatClampNeg) h_1 (rV (fun h_7 =>
tX11_step_262 a0 h_7 Q)))
else
(if (ai h_1 a_2 (gi h_1 674 a0).toNatClampNeg) = 12 then
ob h_1 a0 10 (tX11_branch a0 (ai h_1 a_3 (gi h_1 674 a0).toNatClampNeg) h_1 (rV (fun h_9 =>
tX11_step_262 a0 h_9 Q)))
else
(if (ai h_1 a_2 (gi h_1 674 a0).toNatClampNeg) = 13 then
ob h_1 a0 10 (tX11_pop a0  h_1 (rL (fun y_12 h_11 =>
tX11_isTrue y_12 h_11 (rI (fun x_14 h_13 =>
(if x_14 = 0 then
ob h_13 a0 10 (
ob h_13 a0 10 (∀ h_15, h_15 = pi h_13 674 a0 ((gi h_13 674 a0) + 1) →
tX11_step_262 a0 h_15 Q))
else
ob h_13 a0 10 (tX11_branch a0 (ai h_1 a_3 (gi h_1 674 a0).toNatClampNeg) h_13 (rV (fun h_16 =>
tX11_step_262 a0 h_16 Q)))))))))
else
(if (ai h_1 a_2 (gi h_1 674 a0).toNatClampNeg) = 14 then
ob h_1 a0 10 (tX11_pop a0  h_1 (rL (fun y_19 h_18 =>
ob h_18 a0 10 (
ob h_18 a0 10 (
(if (y_19 &&& 4294967295) < ((ai h_1 a_3 (gi h_1 674 a0).toNatClampNeg).toInt64) then
tX11_step_219 a0 ((y_19 &&& 4294967295).toInt32) ((gi h_18 674 a0) + 1) (gr h_18 650 a0) (some a0) h_18 Q
else
tX11_step_219 a0 (ai h_1 a_3 (gi h_1 674 a0).toNatClampNeg) ((gi h_18 674 a0) + 1) (gr h_18 650 a0) (some a0) h_18 Q))))))
else
(if (ai h_1 a_2 (gi h_1 674 a0).toNatClampNeg) = 15 then
ob h_1 a0 10 (tX11_outermost a0  h_1 (rI (fun x_21 h_20 =>
ob h_20 a0 10 (tX11_branch a0 x_21 h_20 (rV (fun h_22 =>
tX11_step_262 a0 h_22 Q))))))
else
(if (ai h_1 a_2 (gi h_1 674 a0).toNatClampNeg) = 16 then
ob h_1 a0 10 (tX11_enter a0 (ai h_1 a_3 (gi h_1 674 a0).toNatClampNeg) h_1 (rV (fun h_24 =>
tX11_step_262 a0 h_24 Q)))
else
(if (ai h_1 a_2 (gi h_1 674 a0).toNatClampNeg) = 17 then
ob h_1 a0 10 (tX11_callTable a0 (ai h_1 a_3 (gi h_1 674 a0).toNatClampNeg) (ai h_1 a_4 (gi h_1 674 a0).toNatClampNeg) h_1 (rV (fun h_26 =>
tX11_step_262 a0 h_26 Q)))
else
ob h_1 a0 10 (tX11_simple a0 (ai h_1 a_2 (gi h_1 674 a0).toNatClampNeg) (ai h_1 a_3 (gi h_1 674 a0).toNatClampNeg) (ai h_1 a_4 (gi h_1 674 a0).toNatClampNeg) h_1 (rV (fun h_28 =>
tX11_step_262 a0 h_28 Q)))))))))))))))))))))))))) : tX11_step a0 h Q := by
  refine T_run (n := 2) (pc' := 2) (lv' := [some (tR (some a0)), none, none, none, none, none]) (st' := [tR (some a0), tR (some a0)]) (h' := h) gX11_step rfl ?_
  obtain ⟨ho, w⟩ := w
  refine T_gs (tI (gi h 670 a0)) gX11_step rfl rfl ⟨ho, ?_⟩
  refine T_kn (v := 1) gX11_step rfl (by decide) ?_
  refine T_run (n := 1) (pc' := 7) (lv' := [some (tR (some a0)), none, none, none, none, none]) (st' := [tI ((gi h 670 a0) + 1), tR (some a0)]) (h' := h) gX11_step rfl ?_
  obtain ⟨ho, w⟩ := w
  refine T_ps (pi h 670 a0 ((gi h 670 a0) + 1)) gX11_step rfl rfl ⟨ho, fun h_1 he => ?_⟩
  replace w := w h_1 he
  refine T_run (n := 1) (pc' := 11) (lv' := [some (tR (some a0)), none, none, none, none, none]) (st' := [tR (some a0)]) (h' := h_1) gX11_step rfl ?_
  obtain ⟨ho, w⟩ := w
  refine T_gs (tR (gr h_1 649 a0)) gX11_step rfl rfl ⟨ho, ?_⟩
  refine T_run (n := 1) (pc' := 15) (lv' := [some (tR (some a0)), none, none, none, none, none]) (st' := [tR (some a0), tR (gr h_1 649 a0)]) (h' := h_1) gX11_step rfl ?_
  obtain ⟨ho, w⟩ := w
  refine T_gs (tI (gi h_1 674 a0)) gX11_step rfl rfl ⟨ho, ?_⟩
  obtain ⟨a_2, hr, tt, nn, ht, hk, hj, w⟩ := w
  refine T_ial gX11_step rfl ⟨a_2, hr, tt, nn, ht, hk, hj, ?_⟩
  refine T_run (n := 2) (pc' := 21) (lv' := [some (tR (some a0)), some (tI (ai h_1 a_2 (gi h_1 674 a0).toNatClampNeg)), none, none, none, none]) (st' := [tR (some a0)]) (h' := h_1) gX11_step rfl ?_
  obtain ⟨ho, w⟩ := w
  refine T_gs (tR (gr h_1 650 a0)) gX11_step rfl rfl ⟨ho, ?_⟩
  refine T_run (n := 1) (pc' := 25) (lv' := [some (tR (some a0)), some (tI (ai h_1 a_2 (gi h_1 674 a0).toNatClampNeg)), none, none, none, none]) (st' := [tR (some a0), tR (gr h_1 650 a0)]) (h' := h_1) gX11_step rfl ?_
  obtain ⟨ho, w⟩ := w
  refine T_gs (tI (gi h_1 674 a0)) gX11_step rfl rfl ⟨ho, ?_⟩
  obtain ⟨a_3, hr, tt, nn, ht, hk, hj, w⟩ := w
  refine T_ial gX11_step rfl ⟨a_3, hr, tt, nn, ht, hk, hj, ?_⟩
  refine T_run (n := 2) (pc' := 31) (lv' := [some (tR (some a0)), some (tI (ai h_1 a_2 (gi h_1 674 a0).toNatClampNeg)), some (tI (ai h_1 a_3 (gi h_1 674 a0).toNatClampNeg)), none, none, none]) (st' := [tR (some a0)]) (h' := h_1) gX11_step rfl ?_
  obtain ⟨ho, w⟩ := w
  refine T_gs (tR (gr h_1 651 a0)) gX11_step rfl rfl ⟨ho, ?_⟩
  refine T_run (n := 1) (pc' := 35) (lv' := [some (tR (some a0)), some (tI (ai h_1 a_2 (gi h_1 674 a0).toNatClampNeg)), some (tI (ai h_1 a_3 (gi h_1 674 a0).toNatClampNeg)), none, none, none]) (st' := [tR (some a0), tR (gr h_1 651 a0)]) (h' := h_1) gX11_step rfl ?_
  obtain ⟨ho, w⟩ := w
  refine T_gs (tI (gi h_1 674 a0)) gX11_step rfl rfl ⟨ho, ?_⟩
  obtain ⟨a_4, hr, tt, nn, ht, hk, hj, w⟩ := w
  refine T_ial gX11_step rfl ⟨a_4, hr, tt, nn, ht, hk, hj, ?_⟩
  refine T_run (n := 2) (pc' := 41) (lv' := [some (tR (some a0)), some (tI (ai h_1 a_2 (gi h_1 674 a0).toNatClampNeg)), some (tI (ai h_1 a_3 (gi h_1 674 a0).toNatClampNeg)), some (tI (ai h_1 a_4 (gi h_1 674 a0).toNatClampNeg)), none, none]) (st' := [tI (ai h_1 a_2 (gi h_1 674 a0).toNatClampNeg)]) (h' := h_1) gX11_step rfl ?_
  refine T_tsw (dt := 255) (cs := [(0, 128), (4, 136), (12, 144), (13, 152), (14, 183), (15, 227), (16, 238), (17, 246)]) gX11_step rfl (by decide) ?_
  refine sw_cons (fun hc => ?_) (fun hc => ?_)
  · rw [if_pos hc] at w
    refine T_run (n := 1) (pc' := 129) (lv' := [some (tR (some a0)), some (tI (ai h_1 a_2 (gi h_1 674 a0).toNatClampNeg)), some (tI (ai h_1 a_3 (gi h_1 674 a0).toNatClampNeg)), some (tI (ai h_1 a_4 (gi h_1 674 a0).toNatClampNeg)), none, none]) (st' := [tR (some a0)]) (h' := h_1) gX11_step rfl ?_
    refine T_kn (v := 1) gX11_step rfl (by decide) ?_
    obtain ⟨ho, w⟩ := w
    refine T_cv (fun aa => [some (tR (some aa)), some (tI 1)]) gX11_step rfl rfl rfl rfl (Nat.le_of_ble_eq_true rfl) gX11_traps (fun _ => Nat.le_of_ble_eq_true rfl) (fun _ => rfl) ⟨a0, rfl, ho, T_kv ?_⟩
    refine T.mono w (fun rr h_5 hw => ?_)
    obtain ⟨hr, w⟩ := hw
    refine ⟨hr, ?_⟩
    refine T_goto (tgt := 262) gX11_step rfl (by decide) ?_
    exact T_wk w (leE (leN (leN (leN (leN (leN le0))))))
  rw [if_neg hc] at w
  refine sw_cons (fun hc => ?_) (fun hc => ?_)
  · rw [if_pos hc] at w
    refine T_run (n := 2) (pc' := 138) (lv' := [some (tR (some a0)), some (tI (ai h_1 a_2 (gi h_1 674 a0).toNatClampNeg)), some (tI (ai h_1 a_3 (gi h_1 674 a0).toNatClampNeg)), some (tI (ai h_1 a_4 (gi h_1 674 a0).toNatClampNeg)), none, none]) (st' := [tI (ai h_1 a_3 (gi h_1 674 a0).toNatClampNeg), tR (some a0)]) (h' := h_1) gX11_step rfl ?_
    obtain ⟨ho, w⟩ := w
    refine T_cv (fun aa => [some (tR (some aa)), some (tI (ai h_1 a_3 (gi h_1 674 a0).toNatClampNeg)), none, none]) gX11_step rfl rfl rfl rfl (Nat.le_of_ble_eq_true rfl) gX11_condition (fun _ => Nat.le_of_ble_eq_true rfl) (fun _ => rfl) ⟨a0, rfl, ho, T_kv ?_⟩
    refine T.mono w (fun rr h_7 hw => ?_)
    obtain ⟨hr, w⟩ := hw
    refine ⟨hr, ?_⟩
    refine T_goto (tgt := 262) gX11_step rfl (by decide) ?_
    exact T_wk w (leE (leN (leN (leN (leN (leN le0))))))
  rw [if_neg hc] at w
  refine sw_cons (fun hc => ?_) (fun hc => ?_)
  · rw [if_pos hc] at w
    refine T_run (n := 2) (pc' := 146) (lv' := [some (tR (some a0)), some (tI (ai h_1 a_2 (gi h_1 674 a0).toNatClampNeg)), some (tI (ai h_1 a_3 (gi h_1 674 a0).toNatClampNeg)), some (tI (ai h_1 a_4 (gi h_1 674 a0).toNatClampNeg)), none, none]) (st' := [tI (ai h_1 a_3 (gi h_1 674 a0).toNatClampNeg), tR (some a0)]) (h' := h_1) gX11_step rfl ?_
    obtain ⟨ho, w⟩ := w
    refine T_cv (fun aa => [some (tR (some aa)), some (tI (ai h_1 a_3 (gi h_1 674 a0).toNatClampNeg)), none]) gX11_step rfl rfl rfl rfl (Nat.le_of_ble_eq_true rfl) gX11_branch (fun _ => Nat.le_of_ble_eq_true rfl) (fun _ => rfl) ⟨a0, rfl, ho, T_kv ?_⟩
    refine T.mono w (fun rr h_9 hw => ?_)
    obtain ⟨hr, w⟩ := hw
    refine ⟨hr, ?_⟩
    refine T_goto (tgt := 262) gX11_step rfl (by decide) ?_
    exact T_wk w (leE (leN (leN (leN (leN (leN le0))))))
  rw [if_neg hc] at w
  refine sw_cons (fun hc => ?_) (fun hc => ?_)
  · rw [if_pos hc] at w
    refine T_run (n := 1) (pc' := 153) (lv' := [some (tR (some a0)), some (tI (ai h_1 a_2 (gi h_1 674 a0).toNatClampNeg)), some (tI (ai h_1 a_3 (gi h_1 674 a0).toNatClampNeg)), some (tI (ai h_1 a_4 (gi h_1 674 a0).toNatClampNeg)), none, none]) (st' := [tR (some a0)]) (h' := h_1) gX11_step rfl ?_
    obtain ⟨ho, w⟩ := w
    refine T_cv (fun aa => [some (tR (some aa))]) gX11_step rfl rfl rfl rfl (Nat.le_of_ble_eq_true rfl) gX11_pop (fun _ => Nat.le_of_ble_eq_true rfl) (fun _ => rfl) ⟨a0, rfl, ho, T_kl ?_⟩
    refine T.mono w (fun rr h_11 hw => ?_)
    obtain ⟨y_12, hr, w⟩ := hw
    refine ⟨y_12, hr, ?_⟩
    refine T_cs (lv' := [some (tL y_12), none]) gX11_step rfl rfl rfl rfl (Nat.le_of_ble_eq_true rfl) gX11_isTrue (Nat.le_of_ble_eq_true rfl) rfl (T_ki ?_)
    refine T.mono w (fun rr h_13 hw => ?_)
    obtain ⟨x_14, hr, w⟩ := hw
    refine ⟨x_14, hr, ?_⟩
    replace w := c_eq w
    refine T_if (tgt := 170) gX11_step rfl (by decide) (fun hc => ?_) (fun hc => ?_)
    · replace w := w.1 hc
      refine T_run (n := 2) (pc' := 172) (lv' := [some (tR (some a0)), some (tI (ai h_1 a_2 (gi h_1 674 a0).toNatClampNeg)), some (tI (ai h_1 a_3 (gi h_1 674 a0).toNatClampNeg)), some (tI (ai h_1 a_4 (gi h_1 674 a0).toNatClampNeg)), none, none]) (st' := [tR (some a0), tR (some a0)]) (h' := h_13) gX11_step rfl ?_
      obtain ⟨ho, w⟩ := w
      refine T_gs (tI (gi h_13 674 a0)) gX11_step rfl rfl ⟨ho, ?_⟩
      refine T_kn (v := 1) gX11_step rfl (by decide) ?_
      refine T_run (n := 1) (pc' := 177) (lv' := [some (tR (some a0)), some (tI (ai h_1 a_2 (gi h_1 674 a0).toNatClampNeg)), some (tI (ai h_1 a_3 (gi h_1 674 a0).toNatClampNeg)), some (tI (ai h_1 a_4 (gi h_1 674 a0).toNatClampNeg)), none, none]) (st' := [tI ((gi h_13 674 a0) + 1), tR (some a0)]) (h' := h_13) gX11_step rfl ?_
      obtain ⟨ho, w⟩ := w
      refine T_ps (pi h_13 674 a0 ((gi h_13 674 a0) + 1)) gX11_step rfl rfl ⟨ho, fun h_15 he => ?_⟩
      replace w := w h_15 he
      refine T_goto (tgt := 262) gX11_step rfl (by decide) ?_
      exact T_wk w (leE (leN (leN (leN (leN (leN le0))))))
    · replace w := w.2 hc
      refine T_run (n := 2) (pc' := 164) (lv' := [some (tR (some a0)), some (tI (ai h_1 a_2 (gi h_1 674 a0).toNatClampNeg)), some (tI (ai h_1 a_3 (gi h_1 674 a0).toNatClampNeg)), some (tI (ai h_1 a_4 (gi h_1 674 a0).toNatClampNeg)), none, none]) (st' := [tI (ai h_1 a_3 (gi h_1 674 a0).toNatClampNeg), tR (some a0)]) (h' := h_13) gX11_step rfl ?_
      obtain ⟨ho, w⟩ := w
      refine T_cv (fun aa => [some (tR (some aa)), some (tI (ai h_1 a_3 (gi h_1 674 a0).toNatClampNeg)), none]) gX11_step rfl rfl rfl rfl (Nat.le_of_ble_eq_true rfl) gX11_branch (fun _ => Nat.le_of_ble_eq_true rfl) (fun _ => rfl) ⟨a0, rfl, ho, T_kv ?_⟩
      refine T.mono w (fun rr h_16 hw => ?_)
      obtain ⟨hr, w⟩ := hw
      refine ⟨hr, ?_⟩
      refine T_goto (tgt := 262) gX11_step rfl (by decide) ?_
      exact T_wk w (leE (leN (leN (leN (leN (leN le0))))))
  rw [if_neg hc] at w
  refine sw_cons (fun hc => ?_) (fun hc => ?_)
  · rw [if_pos hc] at w
    refine T_run (n := 1) (pc' := 184) (lv' := [some (tR (some a0)), some (tI (ai h_1 a_2 (gi h_1 674 a0).toNatClampNeg)), some (tI (ai h_1 a_3 (gi h_1 674 a0).toNatClampNeg)), some (tI (ai h_1 a_4 (gi h_1 674 a0).toNatClampNeg)), none, none]) (st' := [tR (some a0)]) (h' := h_1) gX11_step rfl ?_
    obtain ⟨ho, w⟩ := w
    refine T_cv (fun aa => [some (tR (some aa))]) gX11_step rfl rfl rfl rfl (Nat.le_of_ble_eq_true rfl) gX11_pop (fun _ => Nat.le_of_ble_eq_true rfl) (fun _ => rfl) ⟨a0, rfl, ho, T_kl ?_⟩
    refine T.mono w (fun rr h_18 hw => ?_)
    obtain ⟨y_19, hr, w⟩ := hw
    refine ⟨y_19, hr, ?_⟩
    refine T_kl2 (v := 4294967295) gX11_step rfl (by decide) ?_
    refine T_run (n := 4) (pc' := 195) (lv' := [some (tR (some a0)), some (tI (ai h_1 a_2 (gi h_1 674 a0).toNatClampNeg)), some (tI (ai h_1 a_3 (gi h_1 674 a0).toNatClampNeg)), some (tI (ai h_1 a_4 (gi h_1 674 a0).toNatClampNeg)), some (tL (y_19 &&& 4294967295)), none]) (st' := [tR (some a0), tR (some a0)]) (h' := h_18) gX11_step rfl ?_
    obtain ⟨ho, w⟩ := w
    refine T_gs (tR (gr h_18 650 a0)) gX11_step rfl rfl ⟨ho, ?_⟩
    refine T_run (n := 1) (pc' := 199) (lv' := [some (tR (some a0)), some (tI (ai h_1 a_2 (gi h_1 674 a0).toNatClampNeg)), some (tI (ai h_1 a_3 (gi h_1 674 a0).toNatClampNeg)), some (tI (ai h_1 a_4 (gi h_1 674 a0).toNatClampNeg)), some (tL (y_19 &&& 4294967295)), none]) (st' := [tR (some a0), tR (gr h_18 650 a0), tR (some a0)]) (h' := h_18) gX11_step rfl ?_
    obtain ⟨ho, w⟩ := w
    refine T_gs (tI (gi h_18 674 a0)) gX11_step rfl rfl ⟨ho, ?_⟩
    refine T_kn (v := 1) gX11_step rfl (by decide) ?_
    refine T_run (n := 5) (pc' := 209) (lv' := [some (tR (some a0)), some (tI (ai h_1 a_2 (gi h_1 674 a0).toNatClampNeg)), some (tI (ai h_1 a_3 (gi h_1 674 a0).toNatClampNeg)), some (tI (ai h_1 a_4 (gi h_1 674 a0).toNatClampNeg)), some (tL (y_19 &&& 4294967295)), none]) (st' := [tI (lg_cmp (y_19 &&& 4294967295) ((ai h_1 a_3 (gi h_1 674 a0).toNatClampNeg).toInt64)), tI ((gi h_18 674 a0) + 1), tR (gr h_18 650 a0), tR (some a0)]) (h' := h_18) gX11_step rfl ?_
    replace w := c_ge (if_iff (lg_lt (y_19 &&& 4294967295) ((ai h_1 a_3 (gi h_1 674 a0).toNatClampNeg).toInt64)) w)
    refine T_if (tgt := 218) gX11_step rfl (by decide) (fun hc => ?_) (fun hc => ?_)
    · replace w := w.1 hc
      refine T_run (n := 1) (pc' := 219) (lv' := [some (tR (some a0)), some (tI (ai h_1 a_2 (gi h_1 674 a0).toNatClampNeg)), some (tI (ai h_1 a_3 (gi h_1 674 a0).toNatClampNeg)), some (tI (ai h_1 a_4 (gi h_1 674 a0).toNatClampNeg)), some (tL (y_19 &&& 4294967295)), none]) (st' := [tI (ai h_1 a_3 (gi h_1 674 a0).toNatClampNeg), tI ((gi h_18 674 a0) + 1), tR (gr h_18 650 a0), tR (some a0)]) (h' := h_18) gX11_step rfl ?_
      exact T_wk w (leE (leN (leN (leN (leN (leN le0))))))
    · replace w := w.2 hc
      refine T_run (n := 2) (pc' := 215) (lv' := [some (tR (some a0)), some (tI (ai h_1 a_2 (gi h_1 674 a0).toNatClampNeg)), some (tI (ai h_1 a_3 (gi h_1 674 a0).toNatClampNeg)), some (tI (ai h_1 a_4 (gi h_1 674 a0).toNatClampNeg)), some (tL (y_19 &&& 4294967295)), none]) (st' := [tI ((y_19 &&& 4294967295).toInt32), tI ((gi h_18 674 a0) + 1), tR (gr h_18 650 a0), tR (some a0)]) (h' := h_18) gX11_step rfl ?_
      refine T_goto (tgt := 219) gX11_step rfl (by decide) ?_
      exact T_wk w (leE (leN (leN (leN (leN (leN le0))))))
  rw [if_neg hc] at w
  refine sw_cons (fun hc => ?_) (fun hc => ?_)
  · rw [if_pos hc] at w
    refine T_run (n := 2) (pc' := 229) (lv' := [some (tR (some a0)), some (tI (ai h_1 a_2 (gi h_1 674 a0).toNatClampNeg)), some (tI (ai h_1 a_3 (gi h_1 674 a0).toNatClampNeg)), some (tI (ai h_1 a_4 (gi h_1 674 a0).toNatClampNeg)), none, none]) (st' := [tR (some a0), tR (some a0)]) (h' := h_1) gX11_step rfl ?_
    obtain ⟨ho, w⟩ := w
    refine T_cv (fun aa => [some (tR (some aa)), none]) gX11_step rfl rfl rfl rfl (Nat.le_of_ble_eq_true rfl) gX11_outermost (fun _ => Nat.le_of_ble_eq_true rfl) (fun _ => rfl) ⟨a0, rfl, ho, T_ki ?_⟩
    refine T.mono w (fun rr h_20 hw => ?_)
    obtain ⟨x_21, hr, w⟩ := hw
    refine ⟨x_21, hr, ?_⟩
    obtain ⟨ho, w⟩ := w
    refine T_cv (fun aa => [some (tR (some aa)), some (tI x_21), none]) gX11_step rfl rfl rfl rfl (Nat.le_of_ble_eq_true rfl) gX11_branch (fun _ => Nat.le_of_ble_eq_true rfl) (fun _ => rfl) ⟨a0, rfl, ho, T_kv ?_⟩
    refine T.mono w (fun rr h_22 hw => ?_)
    obtain ⟨hr, w⟩ := hw
    refine ⟨hr, ?_⟩
    refine T_goto (tgt := 262) gX11_step rfl (by decide) ?_
    exact T_wk w (leE (leN (leN (leN (leN (leN le0))))))
  rw [if_neg hc] at w
  refine sw_cons (fun hc => ?_) (fun hc => ?_)
  · rw [if_pos hc] at w
    refine T_run (n := 2) (pc' := 240) (lv' := [some (tR (some a0)), some (tI (ai h_1 a_2 (gi h_1 674 a0).toNatClampNeg)), some (tI (ai h_1 a_3 (gi h_1 674 a0).toNatClampNeg)), some (tI (ai h_1 a_4 (gi h_1 674 a0).toNatClampNeg)), none, none]) (st' := [tI (ai h_1 a_3 (gi h_1 674 a0).toNatClampNeg), tR (some a0)]) (h' := h_1) gX11_step rfl ?_
    obtain ⟨ho, w⟩ := w
    refine T_cv (fun aa => [some (tR (some aa)), some (tI (ai h_1 a_3 (gi h_1 674 a0).toNatClampNeg)), none]) gX11_step rfl rfl rfl rfl (Nat.le_of_ble_eq_true rfl) gX11_enter (fun _ => Nat.le_of_ble_eq_true rfl) (fun _ => rfl) ⟨a0, rfl, ho, T_kv ?_⟩
    refine T.mono w (fun rr h_24 hw => ?_)
    obtain ⟨hr, w⟩ := hw
    refine ⟨hr, ?_⟩
    refine T_goto (tgt := 262) gX11_step rfl (by decide) ?_
    exact T_wk w (leE (leN (leN (leN (leN (leN le0))))))
  rw [if_neg hc] at w
  refine sw_cons (fun hc => ?_) (fun hc => ?_)
  · rw [if_pos hc] at w
    refine T_run (n := 3) (pc' := 249) (lv' := [some (tR (some a0)), some (tI (ai h_1 a_2 (gi h_1 674 a0).toNatClampNeg)), some (tI (ai h_1 a_3 (gi h_1 674 a0).toNatClampNeg)), some (tI (ai h_1 a_4 (gi h_1 674 a0).toNatClampNeg)), none, none]) (st' := [tI (ai h_1 a_4 (gi h_1 674 a0).toNatClampNeg), tI (ai h_1 a_3 (gi h_1 674 a0).toNatClampNeg), tR (some a0)]) (h' := h_1) gX11_step rfl ?_
    obtain ⟨ho, w⟩ := w
    refine T_cv (fun aa => [some (tR (some aa)), some (tI (ai h_1 a_3 (gi h_1 674 a0).toNatClampNeg)), some (tI (ai h_1 a_4 (gi h_1 674 a0).toNatClampNeg)), none, none, none]) gX11_step rfl rfl rfl rfl (Nat.le_of_ble_eq_true rfl) gX11_callTable (fun _ => Nat.le_of_ble_eq_true rfl) (fun _ => rfl) ⟨a0, rfl, ho, T_kv ?_⟩
    refine T.mono w (fun rr h_26 hw => ?_)
    obtain ⟨hr, w⟩ := hw
    refine ⟨hr, ?_⟩
    refine T_goto (tgt := 262) gX11_step rfl (by decide) ?_
    exact T_wk w (leE (leN (leN (leN (leN (leN le0))))))
  rw [if_neg hc] at w
  refine T_run (n := 4) (pc' := 259) (lv' := [some (tR (some a0)), some (tI (ai h_1 a_2 (gi h_1 674 a0).toNatClampNeg)), some (tI (ai h_1 a_3 (gi h_1 674 a0).toNatClampNeg)), some (tI (ai h_1 a_4 (gi h_1 674 a0).toNatClampNeg)), none, none]) (st' := [tI (ai h_1 a_4 (gi h_1 674 a0).toNatClampNeg), tI (ai h_1 a_3 (gi h_1 674 a0).toNatClampNeg), tI (ai h_1 a_2 (gi h_1 674 a0).toNatClampNeg), tR (some a0)]) (h' := h_1) gX11_step rfl ?_
  obtain ⟨ho, w⟩ := w
  refine T_cv (fun aa => [some (tR (some aa)), some (tI (ai h_1 a_2 (gi h_1 674 a0).toNatClampNeg)), some (tI (ai h_1 a_3 (gi h_1 674 a0).toNatClampNeg)), some (tI (ai h_1 a_4 (gi h_1 674 a0).toNatClampNeg))]) gX11_step rfl rfl rfl rfl (Nat.le_of_ble_eq_true rfl) gX11_simple (fun _ => Nat.le_of_ble_eq_true rfl) (fun _ => rfl) ⟨a0, rfl, ho, T_kv ?_⟩
  refine T.mono w (fun rr h_28 hw => ?_)
  obtain ⟨hr, w⟩ := hw
  refine ⟨hr, ?_⟩
  exact T_wk w (leE (leN (leN (leN (leN (leN le0))))))
set_option maxHeartbeats 4000000 in
set_option maxRecDepth 20000 in
theorem wX11_step_219 (a0 : Nat) (s0 : Int32) (s1 : Int32) (s2 : Option Nat) (s3 : Option Nat) (h : Hp) (Q : Option TV → Hp → Prop) (w :
dr s2 (fun a_1 => ix h kI a_1 (s1 + s0) (
dr s3 (fun a_4 => ob h a_4 10 (tX11_branch a_4 (ai h a_1 (s1 + s0).toNatClampNeg) h (rV (fun h_2 =>
tX11_step_262 a0 h_2 Q))))))) : tX11_step_219 a0 s0 s1 s2 s3 h Q := by
  refine T_run (n := 1) (pc' := 220) (lv' := [some (tR (some a0)), none, none, none, none, none]) (st' := [tI (s1 + s0), tR s2, tR s3]) (h' := h) gX11_step rfl ?_
  obtain ⟨a_1, hr, tt, nn, ht, hk, hj, w⟩ := w
  refine T_ial gX11_step rfl ⟨a_1, hr, tt, nn, ht, hk, hj, ?_⟩
  obtain ⟨a_4, hr, ho, w⟩ := w
  refine T_cv (fun aa => [some (tR (some aa)), some (tI (ai h a_1 (s1 + s0).toNatClampNeg)), none]) gX11_step rfl rfl rfl rfl (Nat.le_of_ble_eq_true rfl) gX11_branch (fun _ => Nat.le_of_ble_eq_true rfl) (fun _ => rfl) ⟨a_4, hr, ho, T_kv ?_⟩
  refine T.mono w (fun rr h_2 hw => ?_)
  obtain ⟨hr, w⟩ := hw
  refine ⟨hr, ?_⟩
  refine T_goto (tgt := 262) gX11_step rfl (by decide) ?_
  exact w
set_option maxHeartbeats 4000000 in
set_option maxRecDepth 20000 in
theorem wX11_step_262 (a0 : Nat) (h : Hp) (Q : Option TV → Hp → Prop) (w :
ob h a0 10 (tX11_pass a0  h (rV (fun h_1 =>
Q none h_1)))) : tX11_step_262 a0 h Q := by
  refine T_run (n := 1) (pc' := 263) (lv' := [some (tR (some a0)), none, none, none, none, none]) (st' := [tR (some a0)]) (h' := h) gX11_step rfl ?_
  obtain ⟨ho, w⟩ := w
  refine T_cv (fun aa => [some (tR (some aa)), none]) gX11_step rfl rfl rfl rfl (Nat.le_of_ble_eq_true rfl) gX11_pass (fun _ => Nat.le_of_ble_eq_true rfl) (fun _ => rfl) ⟨a0, rfl, ho, T_kv ?_⟩
  refine T.mono w (fun rr h_1 hw => ?_)
  obtain ⟨hr, w⟩ := hw
  refine ⟨hr, ?_⟩
  exact T_rv gX11_step rfl rfl w
set_option maxHeartbeats 4000000 in
set_option maxRecDepth 20000 in
theorem wX11_run (a0 : Nat) (x1 : Int32) (h : Hp) (Q : Option TV → Hp → Prop) (w :
tX11_within x1 2000 h (rI (fun x_2 h_1 =>
(if x_2 = 0 then
Q (some (tI (-1))) h_1
else
tX11_run_14 a0 x1 0 h_1 Q)))) : tX11_run a0 x1 h Q := by
  refine T_run (n := 1) (pc' := 1) (lv' := [some (tR (some a0)), some (tI x1), none]) (st' := [tI x1]) (h' := h) gX11_run rfl ?_
  refine T_ks (v := 2000) gX11_run rfl (by decide) ?_
  refine T_cs (lv' := [some (tI x1), some (tI 2000)]) gX11_run rfl rfl rfl rfl (Nat.le_of_ble_eq_true rfl) gX11_within (Nat.le_of_ble_eq_true rfl) rfl (T_ki ?_)
  refine T.mono w (fun rr h_1 hw => ?_)
  obtain ⟨x_2, hr, w⟩ := hw
  refine ⟨x_2, hr, ?_⟩
  replace w := c_ne w
  refine T_if (tgt := 12) gX11_run rfl (by decide) (fun hc => ?_) (fun hc => ?_)
  · replace w := w.1 hc
    refine T_kn (v := 0) gX11_run rfl (by decide) ?_
    refine T_run (n := 1) (pc' := 14) (lv' := [some (tR (some a0)), some (tI x1), some (tI 0)]) (st' := []) (h' := h_1) gX11_run rfl ?_
    exact w
  · replace w := w.2 hc
    refine T_kn (v := (-1)) gX11_run rfl (by decide) ?_
    exact T_ri gX11_run rfl rfl w
set_option maxHeartbeats 4000000 in
set_option maxRecDepth 20000 in
theorem wX11_run_14 (a0 : Nat) (x1 : Int32) (x2 : Int32) (h : Hp) (Q : Option TV → Hp → Prop) (w :
(if x2 < x1 then
ob h a0 10 (
(if (gi h 668 a0) = 1 then
ob h a0 10 (tX11_step a0  h (rV (fun h_1 =>
tX11_run_14 a0 x1 (x2 + 1) h_1 Q)))
else
Q (some (tI x2)) h))
else
Q (some (tI x2)) h)) : tX11_run_14 a0 x1 x2 h Q := by
  refine T_run (n := 2) (pc' := 16) (lv' := [some (tR (some a0)), some (tI x1), some (tI x2)]) (st' := [tI x1, tI x2]) (h' := h) gX11_run rfl ?_
  replace w := c_ge w
  refine T_ic (tgt := 37) gX11_run rfl (by decide) (fun hc => ?_) (fun hc => ?_)
  · replace w := w.1 hc
    refine T_run (n := 1) (pc' := 38) (lv' := [some (tR (some a0)), some (tI x1), some (tI x2)]) (st' := [tI x2]) (h' := h) gX11_run rfl ?_
    exact T_ri gX11_run rfl rfl w
  · replace w := w.2 hc
    refine T_run (n := 1) (pc' := 20) (lv' := [some (tR (some a0)), some (tI x1), some (tI x2)]) (st' := [tR (some a0)]) (h' := h) gX11_run rfl ?_
    obtain ⟨ho, w⟩ := w
    refine T_gs (tI (gi h 668 a0)) gX11_run rfl rfl ⟨ho, ?_⟩
    refine T_kn (v := 1) gX11_run rfl (by decide) ?_
    replace w := c_ne w
    refine T_ic (tgt := 37) gX11_run rfl (by decide) (fun hc => ?_) (fun hc => ?_)
    · replace w := w.1 hc
      refine T_run (n := 1) (pc' := 38) (lv' := [some (tR (some a0)), some (tI x1), some (tI x2)]) (st' := [tI x2]) (h' := h) gX11_run rfl ?_
      exact T_ri gX11_run rfl rfl w
    · replace w := w.2 hc
      refine T_run (n := 1) (pc' := 28) (lv' := [some (tR (some a0)), some (tI x1), some (tI x2)]) (st' := [tR (some a0)]) (h' := h) gX11_run rfl ?_
      obtain ⟨ho, w⟩ := w
      refine T_cv (fun aa => [some (tR (some aa)), none, none, none, none, none]) gX11_run rfl rfl rfl rfl (Nat.le_of_ble_eq_true rfl) gX11_step (fun _ => Nat.le_of_ble_eq_true rfl) (fun _ => rfl) ⟨a0, rfl, ho, T_kv ?_⟩
      refine T.mono w (fun rr h_1 hw => ?_)
      obtain ⟨hr, w⟩ := hw
      refine ⟨hr, ?_⟩
      refine T_inc (x := x2) (c := 1) (lv' := [some (tR (some a0)), some (tI x1), some (tI (x2 + 1))]) gX11_run rfl rfl (by decide) rfl ?_
      refine T_goto (tgt := 14) gX11_run rfl (by decide) ?_
      exact w
set_option maxHeartbeats 4000000 in
set_option maxRecDepth 20000 in
theorem wX11_state (a0 : Nat) (x1 : Int32) (h : Hp) (Q : Option TV → Hp → Prop) (w :
(if x1 = 0 then
ob h a0 10 (
Q (some (tI (gi h 668 a0))) h)
else
(if x1 = 1 then
ob h a0 10 (
Q (some (tI (gi h 669 a0))) h)
else
(if x1 = 2 then
ob h a0 10 (
(if (gi h 668 a0) = 1 then
ob h a0 10 (
Q (some (tI (gi h 671 a0))) h)
else
Q (some (tI 0)) h))
else
(if x1 = 3 then
ob h a0 10 (
(if (gi h 668 a0) = 1 then
ob h a0 10 (
Q (some (tI (gi h 672 a0))) h)
else
Q (some (tI 0)) h))
else
(if x1 = 4 then
ob h a0 10 (
Q (some (tI (gi h 670 a0))) h)
else
(if x1 = 5 then
ob h a0 10 (
Q (some (tI (gi h 640 a0))) h)
else
(if x1 = 6 then
ob h a0 10 (
Q (some (tI (gi h 641 a0))) h)
else
(if x1 = 7 then
ob h a0 10 (
(if (gi h 642 a0) = 0 then
Q (some (tI 0)) h
else
ob h a0 10 (
Q (some (tI (gi h 653 a0))) h)))
else
(if x1 = 8 then
ob h a0 10 (
(if (gi h 642 a0) = 0 then
Q (some (tI 0)) h
else
ob h a0 10 (
ob h a0 10 (tX11_inner a0  h (rI (fun x_2 h_1 =>
dr (gr h 661 a0) (fun a_3 => ix h_1 kI a_3 x_2 (
Q (some (tI (ai h_1 a_3 x_2.toNatClampNeg))) h_1))))))))
else
(if x1 = 9 then
ob h a0 10 (
(if (gi h 642 a0) = 0 then
Q (some (tI 0)) h
else
ob h a0 10 (
ob h a0 10 (tX11_inner a0  h (rI (fun x_5 h_4 =>
dr (gr h 662 a0) (fun a_6 => ix h_4 kB a_6 x_5 (
(if (ai h_4 a_6 x_5.toNatClampNeg) = 0 then
Q (some (tI 0)) h_4
else
Q (some (tI 1)) h_4)))))))))
else
(if x1 = 10 then
ob h a0 10 (
Q (some (tI (gi h 666 a0))) h)
else
Q (some (tI (-1))) h)))))))))))) : tX11_state a0 x1 h Q := by
  refine T_run (n := 1) (pc' := 1) (lv' := [some (tR (some a0)), some (tI x1)]) (st' := [tI x1]) (h' := h) gX11_state rfl ?_
  refine T_tsw (dt := 186) (cs := [(0, 60), (1, 65), (2, 70), (3, 87), (4, 104), (5, 109), (6, 114), (7, 119), (8, 135), (9, 156), (10, 181)]) gX11_state rfl (by decide) ?_
  refine sw_cons (fun hc => ?_) (fun hc => ?_)
  · rw [if_pos hc] at w
    refine T_run (n := 1) (pc' := 61) (lv' := [some (tR (some a0)), some (tI x1)]) (st' := [tR (some a0)]) (h' := h) gX11_state rfl ?_
    obtain ⟨ho, w⟩ := w
    refine T_gs (tI (gi h 668 a0)) gX11_state rfl rfl ⟨ho, ?_⟩
    exact T_ri gX11_state rfl rfl w
  rw [if_neg hc] at w
  refine sw_cons (fun hc => ?_) (fun hc => ?_)
  · rw [if_pos hc] at w
    refine T_run (n := 1) (pc' := 66) (lv' := [some (tR (some a0)), some (tI x1)]) (st' := [tR (some a0)]) (h' := h) gX11_state rfl ?_
    obtain ⟨ho, w⟩ := w
    refine T_gs (tI (gi h 669 a0)) gX11_state rfl rfl ⟨ho, ?_⟩
    exact T_ri gX11_state rfl rfl w
  rw [if_neg hc] at w
  refine sw_cons (fun hc => ?_) (fun hc => ?_)
  · rw [if_pos hc] at w
    refine T_run (n := 1) (pc' := 71) (lv' := [some (tR (some a0)), some (tI x1)]) (st' := [tR (some a0)]) (h' := h) gX11_state rfl ?_
    obtain ⟨ho, w⟩ := w
    refine T_gs (tI (gi h 668 a0)) gX11_state rfl rfl ⟨ho, ?_⟩
    refine T_kn (v := 1) gX11_state rfl (by decide) ?_
    replace w := c_ne w
    refine T_ic (tgt := 85) gX11_state rfl (by decide) (fun hc => ?_) (fun hc => ?_)
    · replace w := w.1 hc
      refine T_kn (v := 0) gX11_state rfl (by decide) ?_
      exact T_ri gX11_state rfl rfl w
    · replace w := w.2 hc
      refine T_run (n := 1) (pc' := 79) (lv' := [some (tR (some a0)), some (tI x1)]) (st' := [tR (some a0)]) (h' := h) gX11_state rfl ?_
      obtain ⟨ho, w⟩ := w
      refine T_gs (tI (gi h 671 a0)) gX11_state rfl rfl ⟨ho, ?_⟩
      refine T_goto (tgt := 86) gX11_state rfl (by decide) ?_
      exact T_ri gX11_state rfl rfl w
  rw [if_neg hc] at w
  refine sw_cons (fun hc => ?_) (fun hc => ?_)
  · rw [if_pos hc] at w
    refine T_run (n := 1) (pc' := 88) (lv' := [some (tR (some a0)), some (tI x1)]) (st' := [tR (some a0)]) (h' := h) gX11_state rfl ?_
    obtain ⟨ho, w⟩ := w
    refine T_gs (tI (gi h 668 a0)) gX11_state rfl rfl ⟨ho, ?_⟩
    refine T_kn (v := 1) gX11_state rfl (by decide) ?_
    replace w := c_ne w
    refine T_ic (tgt := 102) gX11_state rfl (by decide) (fun hc => ?_) (fun hc => ?_)
    · replace w := w.1 hc
      refine T_kn (v := 0) gX11_state rfl (by decide) ?_
      exact T_ri gX11_state rfl rfl w
    · replace w := w.2 hc
      refine T_run (n := 1) (pc' := 96) (lv' := [some (tR (some a0)), some (tI x1)]) (st' := [tR (some a0)]) (h' := h) gX11_state rfl ?_
      obtain ⟨ho, w⟩ := w
      refine T_gs (tI (gi h 672 a0)) gX11_state rfl rfl ⟨ho, ?_⟩
      refine T_goto (tgt := 103) gX11_state rfl (by decide) ?_
      exact T_ri gX11_state rfl rfl w
  rw [if_neg hc] at w
  refine sw_cons (fun hc => ?_) (fun hc => ?_)
  · rw [if_pos hc] at w
    refine T_run (n := 1) (pc' := 105) (lv' := [some (tR (some a0)), some (tI x1)]) (st' := [tR (some a0)]) (h' := h) gX11_state rfl ?_
    obtain ⟨ho, w⟩ := w
    refine T_gs (tI (gi h 670 a0)) gX11_state rfl rfl ⟨ho, ?_⟩
    exact T_ri gX11_state rfl rfl w
  rw [if_neg hc] at w
  refine sw_cons (fun hc => ?_) (fun hc => ?_)
  · rw [if_pos hc] at w
    refine T_run (n := 1) (pc' := 110) (lv' := [some (tR (some a0)), some (tI x1)]) (st' := [tR (some a0)]) (h' := h) gX11_state rfl ?_
    obtain ⟨ho, w⟩ := w
    refine T_gs (tI (gi h 640 a0)) gX11_state rfl rfl ⟨ho, ?_⟩
    exact T_ri gX11_state rfl rfl w
  rw [if_neg hc] at w
  refine sw_cons (fun hc => ?_) (fun hc => ?_)
  · rw [if_pos hc] at w
    refine T_run (n := 1) (pc' := 115) (lv' := [some (tR (some a0)), some (tI x1)]) (st' := [tR (some a0)]) (h' := h) gX11_state rfl ?_
    obtain ⟨ho, w⟩ := w
    refine T_gs (tI (gi h 641 a0)) gX11_state rfl rfl ⟨ho, ?_⟩
    exact T_ri gX11_state rfl rfl w
  rw [if_neg hc] at w
  refine sw_cons (fun hc => ?_) (fun hc => ?_)
  · rw [if_pos hc] at w
    refine T_run (n := 1) (pc' := 120) (lv' := [some (tR (some a0)), some (tI x1)]) (st' := [tR (some a0)]) (h' := h) gX11_state rfl ?_
    obtain ⟨ho, w⟩ := w
    refine T_gs (tI (gi h 642 a0)) gX11_state rfl rfl ⟨ho, ?_⟩
    replace w := c_eq w
    refine T_if (tgt := 133) gX11_state rfl (by decide) (fun hc => ?_) (fun hc => ?_)
    · replace w := w.1 hc
      refine T_kn (v := 0) gX11_state rfl (by decide) ?_
      exact T_ri gX11_state rfl rfl w
    · replace w := w.2 hc
      refine T_run (n := 1) (pc' := 127) (lv' := [some (tR (some a0)), some (tI x1)]) (st' := [tR (some a0)]) (h' := h) gX11_state rfl ?_
      obtain ⟨ho, w⟩ := w
      refine T_gs (tI (gi h 653 a0)) gX11_state rfl rfl ⟨ho, ?_⟩
      refine T_goto (tgt := 134) gX11_state rfl (by decide) ?_
      exact T_ri gX11_state rfl rfl w
  rw [if_neg hc] at w
  refine sw_cons (fun hc => ?_) (fun hc => ?_)
  · rw [if_pos hc] at w
    refine T_run (n := 1) (pc' := 136) (lv' := [some (tR (some a0)), some (tI x1)]) (st' := [tR (some a0)]) (h' := h) gX11_state rfl ?_
    obtain ⟨ho, w⟩ := w
    refine T_gs (tI (gi h 642 a0)) gX11_state rfl rfl ⟨ho, ?_⟩
    replace w := c_eq w
    refine T_if (tgt := 154) gX11_state rfl (by decide) (fun hc => ?_) (fun hc => ?_)
    · replace w := w.1 hc
      refine T_kn (v := 0) gX11_state rfl (by decide) ?_
      exact T_ri gX11_state rfl rfl w
    · replace w := w.2 hc
      refine T_run (n := 1) (pc' := 143) (lv' := [some (tR (some a0)), some (tI x1)]) (st' := [tR (some a0)]) (h' := h) gX11_state rfl ?_
      obtain ⟨ho, w⟩ := w
      refine T_gs (tR (gr h 661 a0)) gX11_state rfl rfl ⟨ho, ?_⟩
      refine T_run (n := 1) (pc' := 147) (lv' := [some (tR (some a0)), some (tI x1)]) (st' := [tR (some a0), tR (gr h 661 a0)]) (h' := h) gX11_state rfl ?_
      obtain ⟨ho, w⟩ := w
      refine T_cv (fun aa => [some (tR (some aa))]) gX11_state rfl rfl rfl rfl (Nat.le_of_ble_eq_true rfl) gX11_inner (fun _ => Nat.le_of_ble_eq_true rfl) (fun _ => rfl) ⟨a0, rfl, ho, T_ki ?_⟩
      refine T.mono w (fun rr h_1 hw => ?_)
      obtain ⟨x_2, hr, w⟩ := hw
      refine ⟨x_2, hr, ?_⟩
      obtain ⟨a_3, hr, tt, nn, ht, hk, hj, w⟩ := w
      refine T_ial gX11_state rfl ⟨a_3, hr, tt, nn, ht, hk, hj, ?_⟩
      refine T_goto (tgt := 155) gX11_state rfl (by decide) ?_
      exact T_ri gX11_state rfl rfl w
  rw [if_neg hc] at w
  refine sw_cons (fun hc => ?_) (fun hc => ?_)
  · rw [if_pos hc] at w
    refine T_run (n := 1) (pc' := 157) (lv' := [some (tR (some a0)), some (tI x1)]) (st' := [tR (some a0)]) (h' := h) gX11_state rfl ?_
    obtain ⟨ho, w⟩ := w
    refine T_gs (tI (gi h 642 a0)) gX11_state rfl rfl ⟨ho, ?_⟩
    replace w := c_eq w
    refine T_if (tgt := 179) gX11_state rfl (by decide) (fun hc => ?_) (fun hc => ?_)
    · replace w := w.1 hc
      refine T_kn (v := 0) gX11_state rfl (by decide) ?_
      exact T_ri gX11_state rfl rfl w
    · replace w := w.2 hc
      refine T_run (n := 1) (pc' := 164) (lv' := [some (tR (some a0)), some (tI x1)]) (st' := [tR (some a0)]) (h' := h) gX11_state rfl ?_
      obtain ⟨ho, w⟩ := w
      refine T_gs (tR (gr h 662 a0)) gX11_state rfl rfl ⟨ho, ?_⟩
      refine T_run (n := 1) (pc' := 168) (lv' := [some (tR (some a0)), some (tI x1)]) (st' := [tR (some a0), tR (gr h 662 a0)]) (h' := h) gX11_state rfl ?_
      obtain ⟨ho, w⟩ := w
      refine T_cv (fun aa => [some (tR (some aa))]) gX11_state rfl rfl rfl rfl (Nat.le_of_ble_eq_true rfl) gX11_inner (fun _ => Nat.le_of_ble_eq_true rfl) (fun _ => rfl) ⟨a0, rfl, ho, T_ki ?_⟩
      refine T.mono w (fun rr h_4 hw => ?_)
      obtain ⟨x_5, hr, w⟩ := hw
      refine ⟨x_5, hr, ?_⟩
      obtain ⟨a_6, hr, tt, nn, ht, hk, hj, w⟩ := w
      refine T_bal gX11_state rfl ⟨a_6, hr, tt, nn, ht, hk, hj, ?_⟩
      replace w := c_eq w
      refine T_if (tgt := 179) gX11_state rfl (by decide) (fun hc => ?_) (fun hc => ?_)
      · replace w := w.1 hc
        refine T_kn (v := 0) gX11_state rfl (by decide) ?_
        exact T_ri gX11_state rfl rfl w
      · replace w := w.2 hc
        refine T_kn (v := 1) gX11_state rfl (by decide) ?_
        refine T_goto (tgt := 180) gX11_state rfl (by decide) ?_
        exact T_ri gX11_state rfl rfl w
  rw [if_neg hc] at w
  refine sw_cons (fun hc => ?_) (fun hc => ?_)
  · rw [if_pos hc] at w
    refine T_run (n := 1) (pc' := 182) (lv' := [some (tR (some a0)), some (tI x1)]) (st' := [tR (some a0)]) (h' := h) gX11_state rfl ?_
    obtain ⟨ho, w⟩ := w
    refine T_gs (tI (gi h 666 a0)) gX11_state rfl rfl ⟨ho, ?_⟩
    exact T_ri gX11_state rfl rfl w
  rw [if_neg hc] at w
  refine T_kn (v := (-1)) gX11_state rfl (by decide) ?_
  exact T_ri gX11_state rfl rfl w
set_option maxHeartbeats 4000000 in
set_option maxRecDepth 20000 in
theorem wX11_result (a0 : Nat) (x1 : Int32) (h : Hp) (Q : Option TV → Hp → Prop) (w :
ob h a0 10 (
(if (gi h 668 a0) = 2 then
(if x1 < 0 then
Q (some (tL 0)) h
else
ob h a0 10 (
(if x1 < (gi h 680 a0) then
ob h a0 10 (
dr (gr h 681 a0) (fun a_1 => ix h kJ a_1 x1 (
Q (some (tL (al h a_1 x1.toNatClampNeg))) h)))
else
Q (some (tL 0)) h)))
else
Q (some (tL 0)) h))) : tX11_result a0 x1 h Q := by
  refine T_run (n := 1) (pc' := 1) (lv' := [some (tR (some a0)), some (tI x1)]) (st' := [tR (some a0)]) (h' := h) gX11_result rfl ?_
  obtain ⟨ho, w⟩ := w
  refine T_gs (tI (gi h 668 a0)) gX11_result rfl rfl ⟨ho, ?_⟩
  refine T_kn (v := 2) gX11_result rfl (by decide) ?_
  replace w := c_ne w
  refine T_ic (tgt := 29) gX11_result rfl (by decide) (fun hc => ?_) (fun hc => ?_)
  · replace w := w.1 hc
    refine T_kj (v := 0) gX11_result rfl (by decide) ?_
    exact T_rl gX11_result rfl rfl w
  · replace w := w.2 hc
    refine T_run (n := 1) (pc' := 9) (lv' := [some (tR (some a0)), some (tI x1)]) (st' := [tI x1]) (h' := h) gX11_result rfl ?_
    replace w := c_lt w
    refine T_if (tgt := 29) gX11_result rfl (by decide) (fun hc => ?_) (fun hc => ?_)
    · replace w := w.1 hc
      refine T_kj (v := 0) gX11_result rfl (by decide) ?_
      exact T_rl gX11_result rfl rfl w
    · replace w := w.2 hc
      refine T_run (n := 2) (pc' := 14) (lv' := [some (tR (some a0)), some (tI x1)]) (st' := [tR (some a0), tI x1]) (h' := h) gX11_result rfl ?_
      obtain ⟨ho, w⟩ := w
      refine T_gs (tI (gi h 680 a0)) gX11_result rfl rfl ⟨ho, ?_⟩
      replace w := c_ge w
      refine T_ic (tgt := 29) gX11_result rfl (by decide) (fun hc => ?_) (fun hc => ?_)
      · replace w := w.1 hc
        refine T_kj (v := 0) gX11_result rfl (by decide) ?_
        exact T_rl gX11_result rfl rfl w
      · replace w := w.2 hc
        refine T_run (n := 1) (pc' := 21) (lv' := [some (tR (some a0)), some (tI x1)]) (st' := [tR (some a0)]) (h' := h) gX11_result rfl ?_
        obtain ⟨ho, w⟩ := w
        refine T_gs (tR (gr h 681 a0)) gX11_result rfl rfl ⟨ho, ?_⟩
        refine T_run (n := 1) (pc' := 25) (lv' := [some (tR (some a0)), some (tI x1)]) (st' := [tI x1, tR (gr h 681 a0)]) (h' := h) gX11_result rfl ?_
        obtain ⟨a_1, hr, tt, nn, ht, hk, hj, w⟩ := w
        refine T_lal gX11_result rfl ⟨a_1, hr, tt, nn, ht, hk, hj, ?_⟩
        refine T_goto (tgt := 30) gX11_result rfl (by decide) ?_
        exact T_rl gX11_result rfl rfl w
set_option maxHeartbeats 4000000 in
set_option maxRecDepth 20000 in
theorem wX11_global (a0 : Nat) (x1 : Int32) (h : Hp) (Q : Option TV → Hp → Prop) (w :
tX11_within x1 7 h (rI (fun x_2 h_1 =>
(if x_2 = 0 then
Q (some (tL 0)) h_1
else
ob h_1 a0 10 (
dr (gr h_1 664 a0) (fun a_3 => ix h_1 kJ a_3 x1 (
Q (some (tL (al h_1 a_3 x1.toNatClampNeg))) h_1))))))) : tX11_global a0 x1 h Q := by
  refine T_run (n := 1) (pc' := 1) (lv' := [some (tR (some a0)), some (tI x1)]) (st' := [tI x1]) (h' := h) gX11_global rfl ?_
  refine T_kb (v := 7) gX11_global rfl (by decide) ?_
  refine T_cs (lv' := [some (tI x1), some (tI 7)]) gX11_global rfl rfl rfl rfl (Nat.le_of_ble_eq_true rfl) gX11_within (Nat.le_of_ble_eq_true rfl) rfl (T_ki ?_)
  refine T.mono w (fun rr h_1 hw => ?_)
  obtain ⟨x_2, hr, w⟩ := hw
  refine ⟨x_2, hr, ?_⟩
  replace w := c_eq w
  refine T_if (tgt := 18) gX11_global rfl (by decide) (fun hc => ?_) (fun hc => ?_)
  · replace w := w.1 hc
    refine T_kj (v := 0) gX11_global rfl (by decide) ?_
    exact T_rl gX11_global rfl rfl w
  · replace w := w.2 hc
    refine T_run (n := 1) (pc' := 10) (lv' := [some (tR (some a0)), some (tI x1)]) (st' := [tR (some a0)]) (h' := h_1) gX11_global rfl ?_
    obtain ⟨ho, w⟩ := w
    refine T_gs (tR (gr h_1 664 a0)) gX11_global rfl rfl ⟨ho, ?_⟩
    refine T_run (n := 1) (pc' := 14) (lv' := [some (tR (some a0)), some (tI x1)]) (st' := [tI x1, tR (gr h_1 664 a0)]) (h' := h_1) gX11_global rfl ?_
    obtain ⟨a_3, hr, tt, nn, ht, hk, hj, w⟩ := w
    refine T_lal gX11_global rfl ⟨a_3, hr, tt, nn, ht, hk, hj, ?_⟩
    refine T_goto (tgt := 19) gX11_global rfl (by decide) ?_
    exact T_rl gX11_global rfl rfl w
set_option maxHeartbeats 4000000 in
set_option maxRecDepth 20000 in
theorem wX11_memory (a0 : Nat) (x1 : Int32) (h : Hp) (Q : Option TV → Hp → Prop) (w :
(if x1 < 0 then
Q (some (tI (-1))) h
else
ob h a0 10 (
(if x1 < (64 * (gi h 666 a0)) then
ob h a0 10 (
dr (gr h 665 a0) (fun a_1 => ix h kI a_1 x1 (
Q (some (tI (ai h a_1 x1.toNatClampNeg))) h)))
else
Q (some (tI (-1))) h)))) : tX11_memory a0 x1 h Q := by
  refine T_run (n := 1) (pc' := 1) (lv' := [some (tR (some a0)), some (tI x1)]) (st' := [tI x1]) (h' := h) gX11_memory rfl ?_
  replace w := c_lt w
  refine T_if (tgt := 15) gX11_memory rfl (by decide) (fun hc => ?_) (fun hc => ?_)
  · replace w := w.1 hc
    refine T_kn (v := (-1)) gX11_memory rfl (by decide) ?_
    refine T_goto (tgt := 25) gX11_memory rfl (by decide) ?_
    exact T_ri gX11_memory rfl rfl w
  · replace w := w.2 hc
    refine T_run (n := 1) (pc' := 5) (lv' := [some (tR (some a0)), some (tI x1)]) (st' := [tI x1]) (h' := h) gX11_memory rfl ?_
    refine T_kb (v := 64) gX11_memory rfl (by decide) ?_
    refine T_run (n := 1) (pc' := 8) (lv' := [some (tR (some a0)), some (tI x1)]) (st' := [tR (some a0), tI 64, tI x1]) (h' := h) gX11_memory rfl ?_
    obtain ⟨ho, w⟩ := w
    refine T_gs (tI (gi h 666 a0)) gX11_memory rfl rfl ⟨ho, ?_⟩
    refine T_run (n := 1) (pc' := 12) (lv' := [some (tR (some a0)), some (tI x1)]) (st' := [tI (64 * (gi h 666 a0)), tI x1]) (h' := h) gX11_memory rfl ?_
    replace w := c_lt w
    refine T_ic (tgt := 19) gX11_memory rfl (by decide) (fun hc => ?_) (fun hc => ?_)
    · replace w := w.1 hc
      refine T_run (n := 1) (pc' := 20) (lv' := [some (tR (some a0)), some (tI x1)]) (st' := [tR (some a0)]) (h' := h) gX11_memory rfl ?_
      obtain ⟨ho, w⟩ := w
      refine T_gs (tR (gr h 665 a0)) gX11_memory rfl rfl ⟨ho, ?_⟩
      refine T_run (n := 1) (pc' := 24) (lv' := [some (tR (some a0)), some (tI x1)]) (st' := [tI x1, tR (gr h 665 a0)]) (h' := h) gX11_memory rfl ?_
      obtain ⟨a_1, hr, tt, nn, ht, hk, hj, w⟩ := w
      refine T_ial gX11_memory rfl ⟨a_1, hr, tt, nn, ht, hk, hj, ?_⟩
      exact T_ri gX11_memory rfl rfl w
    · replace w := w.2 hc
      refine T_kn (v := (-1)) gX11_memory rfl (by decide) ?_
      refine T_goto (tgt := 25) gX11_memory rfl (by decide) ?_
      exact T_ri gX11_memory rfl rfl w
set_option maxHeartbeats 4000000 in
set_option maxRecDepth 20000 in
theorem wX11_look (a0 : Nat) (x1 : Int32) (x2 : Int32) (h : Hp) (Q : Option TV → Hp → Prop) (w :
ob h a0 10 (tX11_isWhole a0 x1 h (rI (fun x_2 h_1 =>
(if x_2 = 0 then
Q (some (tI (-1))) h_1
else
(if x2 = 0 then
ob h_1 a0 10 (
dr (gr h_1 645 a0) (fun a_6 => ix h_1 kI a_6 x1 (
Q (some (tI (ai h_1 a_6 x1.toNatClampNeg))) h_1)))
else
(if x2 = 1 then
ob h_1 a0 10 (
dr (gr h_1 646 a0) (fun a_5 => ix h_1 kI a_5 x1 (
Q (some (tI (ai h_1 a_5 x1.toNatClampNeg))) h_1)))
else
(if x2 = 2 then
ob h_1 a0 10 (
dr (gr h_1 647 a0) (fun a_4 => ix h_1 kI a_4 x1 (
Q (some (tI (ai h_1 a_4 x1.toNatClampNeg))) h_1)))
else
(if x2 = 3 then
ob h_1 a0 10 (
dr (gr h_1 648 a0) (fun a_3 => ix h_1 kI a_3 x1 (
Q (some (tI (ai h_1 a_3 x1.toNatClampNeg))) h_1)))
else
Q (some (tI (-1))) h_1))))))))) : tX11_look a0 x1 x2 h Q := by
  refine T_run (n := 2) (pc' := 2) (lv' := [some (tR (some a0)), some (tI x1), some (tI x2)]) (st' := [tI x1, tR (some a0)]) (h' := h) gX11_look rfl ?_
  obtain ⟨ho, w⟩ := w
  refine T_cv (fun aa => [some (tR (some aa)), some (tI x1)]) gX11_look rfl rfl rfl rfl (Nat.le_of_ble_eq_true rfl) gX11_isWhole (fun _ => Nat.le_of_ble_eq_true rfl) (fun _ => rfl) ⟨a0, rfl, ho, T_ki ?_⟩
  refine T.mono w (fun rr h_1 hw => ?_)
  obtain ⟨x_2, hr, w⟩ := hw
  refine ⟨x_2, hr, ?_⟩
  replace w := c_ne w
  refine T_if (tgt := 10) gX11_look rfl (by decide) (fun hc => ?_) (fun hc => ?_)
  · replace w := w.1 hc
    refine T_run (n := 1) (pc' := 11) (lv' := [some (tR (some a0)), some (tI x1), some (tI x2)]) (st' := [tI x2]) (h' := h_1) gX11_look rfl ?_
    replace w := c_ne w
    refine T_if (tgt := 23) gX11_look rfl (by decide) (fun hc => ?_) (fun hc => ?_)
    · replace w := w.1 hc
      refine T_run (n := 1) (pc' := 24) (lv' := [some (tR (some a0)), some (tI x1), some (tI x2)]) (st' := [tI x2]) (h' := h_1) gX11_look rfl ?_
      refine T_kn (v := 1) gX11_look rfl (by decide) ?_
      replace w := c_ne w
      refine T_ic (tgt := 37) gX11_look rfl (by decide) (fun hc => ?_) (fun hc => ?_)
      · replace w := w.1 hc
        refine T_run (n := 1) (pc' := 38) (lv' := [some (tR (some a0)), some (tI x1), some (tI x2)]) (st' := [tI x2]) (h' := h_1) gX11_look rfl ?_
        refine T_kn (v := 2) gX11_look rfl (by decide) ?_
        replace w := c_ne w
        refine T_ic (tgt := 51) gX11_look rfl (by decide) (fun hc => ?_) (fun hc => ?_)
        · replace w := w.1 hc
          refine T_run (n := 1) (pc' := 52) (lv' := [some (tR (some a0)), some (tI x1), some (tI x2)]) (st' := [tI x2]) (h' := h_1) gX11_look rfl ?_
          refine T_kn (v := 3) gX11_look rfl (by decide) ?_
          replace w := c_ne w
          refine T_ic (tgt := 65) gX11_look rfl (by decide) (fun hc => ?_) (fun hc => ?_)
          · replace w := w.1 hc
            refine T_kn (v := (-1)) gX11_look rfl (by decide) ?_
            exact T_ri gX11_look rfl rfl w
          · replace w := w.2 hc
            refine T_run (n := 1) (pc' := 57) (lv' := [some (tR (some a0)), some (tI x1), some (tI x2)]) (st' := [tR (some a0)]) (h' := h_1) gX11_look rfl ?_
            obtain ⟨ho, w⟩ := w
            refine T_gs (tR (gr h_1 648 a0)) gX11_look rfl rfl ⟨ho, ?_⟩
            refine T_run (n := 1) (pc' := 61) (lv' := [some (tR (some a0)), some (tI x1), some (tI x2)]) (st' := [tI x1, tR (gr h_1 648 a0)]) (h' := h_1) gX11_look rfl ?_
            obtain ⟨a_3, hr, tt, nn, ht, hk, hj, w⟩ := w
            refine T_ial gX11_look rfl ⟨a_3, hr, tt, nn, ht, hk, hj, ?_⟩
            refine T_goto (tgt := 66) gX11_look rfl (by decide) ?_
            exact T_ri gX11_look rfl rfl w
        · replace w := w.2 hc
          refine T_run (n := 1) (pc' := 43) (lv' := [some (tR (some a0)), some (tI x1), some (tI x2)]) (st' := [tR (some a0)]) (h' := h_1) gX11_look rfl ?_
          obtain ⟨ho, w⟩ := w
          refine T_gs (tR (gr h_1 647 a0)) gX11_look rfl rfl ⟨ho, ?_⟩
          refine T_run (n := 1) (pc' := 47) (lv' := [some (tR (some a0)), some (tI x1), some (tI x2)]) (st' := [tI x1, tR (gr h_1 647 a0)]) (h' := h_1) gX11_look rfl ?_
          obtain ⟨a_4, hr, tt, nn, ht, hk, hj, w⟩ := w
          refine T_ial gX11_look rfl ⟨a_4, hr, tt, nn, ht, hk, hj, ?_⟩
          refine T_goto (tgt := 66) gX11_look rfl (by decide) ?_
          exact T_ri gX11_look rfl rfl w
      · replace w := w.2 hc
        refine T_run (n := 1) (pc' := 29) (lv' := [some (tR (some a0)), some (tI x1), some (tI x2)]) (st' := [tR (some a0)]) (h' := h_1) gX11_look rfl ?_
        obtain ⟨ho, w⟩ := w
        refine T_gs (tR (gr h_1 646 a0)) gX11_look rfl rfl ⟨ho, ?_⟩
        refine T_run (n := 1) (pc' := 33) (lv' := [some (tR (some a0)), some (tI x1), some (tI x2)]) (st' := [tI x1, tR (gr h_1 646 a0)]) (h' := h_1) gX11_look rfl ?_
        obtain ⟨a_5, hr, tt, nn, ht, hk, hj, w⟩ := w
        refine T_ial gX11_look rfl ⟨a_5, hr, tt, nn, ht, hk, hj, ?_⟩
        refine T_goto (tgt := 66) gX11_look rfl (by decide) ?_
        exact T_ri gX11_look rfl rfl w
    · replace w := w.2 hc
      refine T_run (n := 1) (pc' := 15) (lv' := [some (tR (some a0)), some (tI x1), some (tI x2)]) (st' := [tR (some a0)]) (h' := h_1) gX11_look rfl ?_
      obtain ⟨ho, w⟩ := w
      refine T_gs (tR (gr h_1 645 a0)) gX11_look rfl rfl ⟨ho, ?_⟩
      refine T_run (n := 1) (pc' := 19) (lv' := [some (tR (some a0)), some (tI x1), some (tI x2)]) (st' := [tI x1, tR (gr h_1 645 a0)]) (h' := h_1) gX11_look rfl ?_
      obtain ⟨a_6, hr, tt, nn, ht, hk, hj, w⟩ := w
      refine T_ial gX11_look rfl ⟨a_6, hr, tt, nn, ht, hk, hj, ?_⟩
      refine T_goto (tgt := 66) gX11_look rfl (by decide) ?_
      exact T_ri gX11_look rfl rfl w
  · replace w := w.2 hc
    refine T_kn (v := (-1)) gX11_look rfl (by decide) ?_
    exact T_ri gX11_look rfl rfl w
