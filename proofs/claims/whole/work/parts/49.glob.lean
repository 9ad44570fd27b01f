/-! what stands fast: classes, kinds, words, methods -/
theorem cl_X0 : 9 ≤ 64 ∧ (∀ w ∈ u_ws RX0 TX0 9, w ∈ wsA) ∧ (∀ k, k < 9 → parseFieldDescriptor (TX0 k).2.2.1 = some (tyOf TX0 k) ∧ kdT (tyOf TX0 k) < 4) ∧ ∀ a, a < 9 → ∀ b, b < 9 → a ≠ b → (TX0 a).2.1 ≠ (TX0 b).2.1 := ⟨by decide, inlX0, by decide +kernel, nmX0⟩
theorem cl_X1 : 3 ≤ 64 ∧ (∀ w ∈ u_ws RX1 TX1 3, w ∈ wsA) ∧ (∀ k, k < 3 → parseFieldDescriptor (TX1 k).2.2.1 = some (tyOf TX1 k) ∧ kdT (tyOf TX1 k) < 4) ∧ ∀ a, a < 3 → ∀ b, b < 3 → a ≠ b → (TX1 a).2.1 ≠ (TX1 b).2.1 := ⟨by decide, inlX1, by decide +kernel, nmX1⟩
theorem cl_X2 : 7 ≤ 64 ∧ (∀ w ∈ u_ws RX2 TX2 7, w ∈ wsA) ∧ (∀ k, k < 7 → parseFieldDescriptor (TX2 k).2.2.1 = some (tyOf TX2 k) ∧ kdT (tyOf TX2 k) < 4) ∧ ∀ a, a < 7 → ∀ b, b < 7 → a ≠ b → (TX2 a).2.1 ≠ (TX2 b).2.1 := ⟨by decide, inlX2, by decide +kernel, nmX2⟩
theorem cl_X3 : 10 ≤ 64 ∧ (∀ w ∈ u_ws RX3 TX3 10, w ∈ wsA) ∧ (∀ k, k < 10 → parseFieldDescriptor (TX3 k).2.2.1 = some (tyOf TX3 k) ∧ kdT (tyOf TX3 k) < 4) ∧ ∀ a, a < 10 → ∀ b, b < 10 → a ≠ b → (TX3 a).2.1 ≠ (TX3 b).2.1 := ⟨by decide, inlX3, by decide +kernel, nmX3⟩
theorem cl_X4 : 9 ≤ 64 ∧ (∀ w ∈ u_ws RX4 TX4 9, w ∈ wsA) ∧ (∀ k, k < 9 → parseFieldDescriptor (TX4 k).2.2.1 = some (tyOf TX4 k) ∧ kdT (tyOf TX4 k) < 4) ∧ ∀ a, a < 9 → ∀ b, b < 9 → a ≠ b → (TX4 a).2.1 ≠ (TX4 b).2.1 := ⟨by decide, inlX4, by decide +kernel, nmX4⟩
theorem cl_X5 : 10 ≤ 64 ∧ (∀ w ∈ u_ws RX5 TX5 10, w ∈ wsA) ∧ (∀ k, k < 10 → parseFieldDescriptor (TX5 k).2.2.1 = some (tyOf TX5 k) ∧ kdT (tyOf TX5 k) < 4) ∧ ∀ a, a < 10 → ∀ b, b < 10 → a ≠ b → (TX5 a).2.1 ≠ (TX5 b).2.1 := ⟨by decide, inlX5, by decide +kernel, nmX5⟩
theorem cl_X6 : 2 ≤ 64 ∧ (∀ w ∈ u_ws RX6 TX6 2, w ∈ wsA) ∧ (∀ k, k < 2 → parseFieldDescriptor (TX6 k).2.2.1 = some (tyOf TX6 k) ∧ kdT (tyOf TX6 k) < 4) ∧ ∀ a, a < 2 → ∀ b, b < 2 → a ≠ b → (TX6 a).2.1 ≠ (TX6 b).2.1 := ⟨by decide, inlX6, by decide +kernel, nmX6⟩
theorem cl_X8 : 3 ≤ 64 ∧ (∀ w ∈ u_ws RX8 TX8 3, w ∈ wsA) ∧ (∀ k, k < 3 → parseFieldDescriptor (TX8 k).2.2.1 = some (tyOf TX8 k) ∧ kdT (tyOf TX8 k) < 4) ∧ ∀ a, a < 3 → ∀ b, b < 3 → a ≠ b → (TX8 a).2.1 ≠ (TX8 b).2.1 := ⟨by decide, inlX8, by decide +kernel, nmX8⟩
theorem cl_X9 : 2 ≤ 64 ∧ (∀ w ∈ u_ws RX9 TX9 2, w ∈ wsA) ∧ (∀ k, k < 2 → parseFieldDescriptor (TX9 k).2.2.1 = some (tyOf TX9 k) ∧ kdT (tyOf TX9 k) < 4) ∧ ∀ a, a < 2 → ∀ b, b < 2 → a ≠ b → (TX9 a).2.1 ≠ (TX9 b).2.1 := ⟨by decide, inlX9, by decide +kernel, nmX9⟩
theorem cl_X10 : 5 ≤ 64 ∧ (∀ w ∈ u_ws RX10 TX10 5, w ∈ wsA) ∧ (∀ k, k < 5 → parseFieldDescriptor (TX10 k).2.2.1 = some (tyOf TX10 k) ∧ kdT (tyOf TX10 k) < 4) ∧ ∀ a, a < 5 → ∀ b, b < 5 → a ≠ b → (TX10 a).2.1 ≠ (TX10 b).2.1 := ⟨by decide, inlX10, by decide +kernel, nmX10⟩
theorem cl_X11 : 42 ≤ 64 ∧ (∀ w ∈ u_ws RX11 TX11 42, w ∈ wsA) ∧ (∀ k, k < 42 → parseFieldDescriptor (TX11 k).2.2.1 = some (tyOf TX11 k) ∧ kdT (tyOf TX11 k) < 4) ∧ ∀ a, a < 42 → ∀ b, b < 42 → a ≠ b → (TX11 a).2.1 ≠ (TX11 b).2.1 := ⟨by decide, inlX11, by decide +kernel, nmX11⟩
theorem cls_ok : clsOk := by
  intro ci q h
  match ci, h with
  | 0, h => cases h; exact cl_X0
  | 1, h => cases h; exact cl_X1
  | 2, h => cases h; exact cl_X2
  | 3, h => cases h; exact cl_X3
  | 4, h => cases h; exact cl_X4
  | 5, h => cases h; exact cl_X5
  | 6, h => cases h; exact cl_X6
  | 7, h => cases h; exact cl_X8
  | 8, h => cases h; exact cl_X9
  | 9, h => cases h; exact cl_X10
  | 10, h => cases h; exact cl_X11
  | n + 11, h => cases h
theorem ak_ok : akOk := by
  refine ⟨fun ty h => ?_, fun ty h => ?_, fun ty h => ?_, fun ty h => ?_, fun t ty ht h => ?_⟩
  · cases h; rfl
  · cases h; rfl
  · cases h; rfl
  · cases h; rfl
  · unfold akT at h
    split at h
    · omega
    · omega
    · omega
    · omega
    · cases h; exact ⟨(RX1, TX1, 3), rfl, rfl⟩
    · cases h; exact ⟨(RX2, TX2, 7), rfl, rfl⟩
    · cases h
theorem lib_ok : libOk := by
  refine ⟨⟨(wl_in 9 4 _ rfl), (wl_in 9 6 _ rfl)⟩, ⟨(wl_in 20 1 _ rfl), (wl_in 20 2 _ rfl)⟩, ⟨(wl_in 27 21 _ rfl), (wl_in 27 22 _ rfl)⟩, (wl_in 9 5 _ rfl), (wl_in 0 11 _ rfl), (wl_in 0 12 _ rfl), fun ci t h => ?_⟩
  match ci, h with
  | 0, h => cases h; exact ⟨(wl_in 4 6 _ rfl), (wl_in 4 7 _ rfl)⟩
  | 1, h => cases h; exact ⟨(wl_in 1 22 _ rfl), (wl_in 1 23 _ rfl)⟩
  | 2, h => cases h; exact ⟨(wl_in 4 3 _ rfl), (wl_in 4 4 _ rfl)⟩
  | 3, h => cases h; exact ⟨(wl_in 7 14 _ rfl), (wl_in 7 15 _ rfl)⟩
  | 4, h => cases h; exact ⟨(wl_in 5 8 _ rfl), (wl_in 5 9 _ rfl)⟩
  | 5, h => cases h; exact ⟨(wl_in 0 18 _ rfl), (wl_in 0 19 _ rfl)⟩
  | 6, h => cases h; exact ⟨(wl_in 1 14 _ rfl), (wl_in 1 15 _ rfl)⟩
  | 7, h => cases h; exact ⟨(wl_in 0 14 _ rfl), (wl_in 0 15 _ rfl)⟩
  | 8, h => cases h; exact ⟨(wl_in 1 18 _ rfl), (wl_in 1 19 _ rfl)⟩
  | 9, h => cases h; exact ⟨(wl_in 0 1 _ rfl), (wl_in 0 2 _ rfl)⟩
  | 10, h => cases h; exact ⟨(wl_in 0 4 _ rfl), (wl_in 0 5 _ rfl)⟩
  | n + 11, h => cases h
theorem mo_0 : ∀ (j : Nat) (q : MD), j < 40 → mT[0 + j]? = some q → mOk q := by
  intro j q hj h
  match j, hj, h with
  | 0, _, h => exact Option.some.inj (gX8_init.symm.trans h) ▸ moX8_init
  | 1, _, h => exact Option.some.inj (gX6_init.symm.trans h) ▸ moX6_init
  | 2, _, h => exact Option.some.inj (gX9_init.symm.trans h) ▸ moX9_init
  | 3, _, h => exact Option.some.inj (gX1_init.symm.trans h) ▸ moX1_init
  | 4, _, h => exact Option.some.inj (gX5_init.symm.trans h) ▸ moX5_init
  | 5, _, h => exact Option.some.inj (gX10_init.symm.trans h) ▸ moX10_init
  | 6, _, h => exact Option.some.inj (gX11_init.symm.trans h) ▸ moX11_init
  | 7, _, h => exact Option.some.inj (gX10_isWithin.symm.trans h) ▸ moX10_isWithin
  | 8, _, h => exact Option.some.inj (gX2_init.symm.trans h) ▸ moX2_init
  | 9, _, h => exact Option.some.inj (gX8_append.symm.trans h) ▸ moX8_append
  | 10, _, h => exact Option.some.inj (gX4_init.symm.trans h) ▸ moX4_init
  | 11, _, h => exact Option.some.inj (gX0_init.symm.trans h) ▸ moX0_init
  | 12, _, h => exact Option.some.inj (gX10_function.symm.trans h) ▸ moX10_function
  | 13, _, h => exact Option.some.inj (gX11_within.symm.trans h) ▸ moX11_within
  | 14, _, h => exact Option.some.inj (gX11_begin.symm.trans h) ▸ moX11_begin
  | 15, _, h => exact Option.some.inj (gX11_function.symm.trans h) ▸ moX11_function
  | 16, _, h => exact Option.some.inj (gX10_instructionsInAll.symm.trans h) ▸ moX10_instructionsInAll
  | 17, _, h => exact Option.some.inj (gX3_init.symm.trans h) ▸ moX3_init
  | 18, _, h => exact Option.some.inj (gX0_append.symm.trans h) ▸ moX0_append
  | 19, _, h => exact Option.some.inj (gX0_die.symm.trans h) ▸ moX0_die
  | 20, _, h => exact Option.some.inj (gX0_writeTrap.symm.trans h) ▸ moX0_writeTrap
  | 21, _, h => exact Option.some.inj (gX0_ownOperands.symm.trans h) ▸ moX0_ownOperands
  | 22, _, h => exact Option.some.inj (gX0_has.symm.trans h) ▸ moX0_has
  | 23, _, h => exact Option.some.inj (gX0_take.symm.trans h) ▸ moX0_take
  | 24, _, h => exact Option.some.inj (gX0_put.symm.trans h) ▸ moX0_put
  | 25, _, h => exact Option.some.inj (gX0_writeStart.symm.trans h) ▸ moX0_writeStart
  | 26, _, h => exact Option.some.inj (gX4_mayTurn.symm.trans h) ▸ moX4_mayTurn
  | 27, _, h => exact Option.some.inj (gX0_hasJustResults.symm.trans h) ▸ moX0_hasJustResults
  | 28, _, h => exact Option.some.inj (gX0_writeElse.symm.trans h) ▸ moX0_writeElse
  | 29, _, h => exact Option.some.inj (gX0_labelAt.symm.trans h) ▸ moX0_labelAt
  | 30, _, h => exact Option.some.inj (gX4_wanted.symm.trans h) ▸ moX4_wanted
  | 31, _, h => exact Option.some.inj (gX0_writeEntry.symm.trans h) ▸ moX0_writeEntry
  | 32, _, h => exact Option.some.inj (gX4_stepBehind.symm.trans h) ▸ moX4_stepBehind
  | 33, _, h => exact Option.some.inj (gX3_settled.symm.trans h) ▸ moX3_settled
  | 34, _, h => exact Option.some.inj (gX4_stepOtherwise.symm.trans h) ▸ moX4_stepOtherwise
  | 35, _, h => exact Option.some.inj (gX4_stepOfBranch.symm.trans h) ▸ moX4_stepOfBranch
  | 36, _, h => exact Option.some.inj (gX3_aim.symm.trans h) ▸ moX3_aim
  | 37, _, h => exact Option.some.inj (gX0_flatten.symm.trans h) ▸ moX0_flatten
  | 38, _, h => exact Option.some.inj (gX0_writeEnd.symm.trans h) ▸ moX0_writeEnd
  | 39, _, h => exact Option.some.inj (gX0_writeBranch.symm.trans h) ▸ moX0_writeBranch
  | n + 40, hj, _ => exact absurd hj (by omega)
theorem bo_0 : ∀ (j : Nat) (q : MD), j < 40 → mT[0 + j]? = some q → bOk mT (0 + j) q := by
  intro j q hj h
  match j, hj, h with
  | 0, _, h => exact Option.some.inj (gX8_init.symm.trans h) ▸ boX8_init
  | 1, _, h => exact Option.some.inj (gX6_init.symm.trans h) ▸ boX6_init
  | 2, _, h => exact Option.some.inj (gX9_init.symm.trans h) ▸ boX9_init
  | 3, _, h => exact Option.some.inj (gX1_init.symm.trans h) ▸ boX1_init
  | 4, _, h => exact Option.some.inj (gX5_init.symm.trans h) ▸ boX5_init
  | 5, _, h => exact Option.some.inj (gX10_init.symm.trans h) ▸ boX10_init
  | 6, _, h => exact Option.some.inj (gX11_init.symm.trans h) ▸ boX11_init
  | 7, _, h => exact Option.some.inj (gX10_isWithin.symm.trans h) ▸ boX10_isWithin
  | 8, _, h => exact Option.some.inj (gX2_init.symm.trans h) ▸ boX2_init
  | 9, _, h => exact Option.some.inj (gX8_append.symm.trans h) ▸ boX8_append
  | 10, _, h => exact Option.some.inj (gX4_init.symm.trans h) ▸ boX4_init
  | 11, _, h => exact Option.some.inj (gX0_init.symm.trans h) ▸ boX0_init
  | 12, _, h => exact Option.some.inj (gX10_function.symm.trans h) ▸ boX10_function
  | 13, _, h => exact Option.some.inj (gX11_within.symm.trans h) ▸ boX11_within
  | 14, _, h => exact Option.some.inj (gX11_begin.symm.trans h) ▸ boX11_begin
  | 15, _, h => exact Option.some.inj (gX11_function.symm.trans h) ▸ boX11_function
  | 16, _, h => exact Option.some.inj (gX10_instructionsInAll.symm.trans h) ▸ boX10_instructionsInAll
  | 17, _, h => exact Option.some.inj (gX3_init.symm.trans h) ▸ boX3_init
  | 18, _, h => exact Option.some.inj (gX0_append.symm.trans h) ▸ boX0_append
  | 19, _, h => exact Option.some.inj (gX0_die.symm.trans h) ▸ boX0_die
  | 20, _, h => exact Option.some.inj (gX0_writeTrap.symm.trans h) ▸ boX0_writeTrap
  | 21, _, h => exact Option.some.inj (gX0_ownOperands.symm.trans h) ▸ boX0_ownOperands
  | 22, _, h => exact Option.some.inj (gX0_has.symm.trans h) ▸ boX0_has
  | 23, _, h => exact Option.some.inj (gX0_take.symm.trans h) ▸ boX0_take
  | 24, _, h => exact Option.some.inj (gX0_put.symm.trans h) ▸ boX0_put
  | 25, _, h => exact Option.some.inj (gX0_writeStart.symm.trans h) ▸ boX0_writeStart
  | 26, _, h => exact Option.some.inj (gX4_mayTurn.symm.trans h) ▸ boX4_mayTurn
  | 27, _, h => exact Option.some.inj (gX0_hasJustResults.symm.trans h) ▸ boX0_hasJustResults
  | 28, _, h => exact Option.some.inj (gX0_writeElse.symm.trans h) ▸ boX0_writeElse
  | 29, _, h => exact Option.some.inj (gX0_labelAt.symm.trans h) ▸ boX0_labelAt
  | 30, _, h => exact Option.some.inj (gX4_wanted.symm.trans h) ▸ boX4_wanted
  | 31, _, h => exact Option.some.inj (gX0_writeEntry.symm.trans h) ▸ boX0_writeEntry
  | 32, _, h => exact Option.some.inj (gX4_stepBehind.symm.trans h) ▸ boX4_stepBehind
  | 33, _, h => exact Option.some.inj (gX3_settled.symm.trans h) ▸ boX3_settled
  | 34, _, h => exact Option.some.inj (gX4_stepOtherwise.symm.trans h) ▸ boX4_stepOtherwise
  | 35, _, h => exact Option.some.inj (gX4_stepOfBranch.symm.trans h) ▸ boX4_stepOfBranch
  | 36, _, h => exact Option.some.inj (gX3_aim.symm.trans h) ▸ boX3_aim
  | 37, _, h => exact Option.some.inj (gX0_flatten.symm.trans h) ▸ boX0_flatten
  | 38, _, h => exact Option.some.inj (gX0_writeEnd.symm.trans h) ▸ boX0_writeEnd
  | 39, _, h => exact Option.some.inj (gX0_writeBranch.symm.trans h) ▸ boX0_writeBranch
  | n + 40, hj, _ => exact absurd hj (by omega)
theorem mo_40 : ∀ (j : Nat) (q : MD), j < 40 → mT[40 + j]? = some q → mOk q := by
  intro j q hj h
  match j, hj, h with
  | 0, _, h => exact Option.some.inj (gX0_writeBranchIf.symm.trans h) ▸ moX0_writeBranchIf
  | 1, _, h => exact Option.some.inj (gX0_writeTable.symm.trans h) ▸ moX0_writeTable
  | 2, _, h => exact Option.some.inj (gX8_find.symm.trans h) ▸ moX8_find
  | 3, _, h => exact Option.some.inj (gX0_writeCall.symm.trans h) ▸ moX0_writeCall
  | 4, _, h => exact Option.some.inj (gX0_writeCallByTable.symm.trans h) ▸ moX0_writeCallByTable
  | 5, _, h => exact Option.some.inj (gX7_takenBy.symm.trans h) ▸ moX7_takenBy
  | 6, _, h => exact Option.some.inj (gX0_isInPlace.symm.trans h) ▸ moX0_isInPlace
  | 7, _, h => exact Option.some.inj (gX7_putBy.symm.trans h) ▸ moX7_putBy
  | 8, _, h => exact Option.some.inj (gX0_writePlain.symm.trans h) ▸ moX0_writePlain
  | 9, _, h => exact Option.some.inj (gX0_write.symm.trans h) ▸ moX0_write
  | 10, _, h => exact Option.some.inj (gX0_isFinished.symm.trans h) ▸ moX0_isFinished
  | 11, _, h => exact Option.some.inj (gX10_keepDraft.symm.trans h) ▸ moX10_keepDraft
  | 12, _, h => exact Option.some.inj (gX10_code.symm.trans h) ▸ moX10_code
  | 13, _, h => exact Option.some.inj (gX11_isLabel.symm.trans h) ▸ moX11_isLabel
  | 14, _, h => exact Option.some.inj (gX11_inner.symm.trans h) ▸ moX11_inner
  | 15, _, h => exact Option.some.inj (gX11_wants.symm.trans h) ▸ moX11_wants
  | 16, _, h => exact Option.some.inj (gX11_has.symm.trans h) ▸ moX11_has
  | 17, _, h => exact Option.some.inj (gX11_die.symm.trans h) ▸ moX11_die
  | 18, _, h => exact Option.some.inj (gX11_entryTo.symm.trans h) ▸ moX11_entryTo
  | 19, _, h => exact Option.some.inj (gX11_ends.symm.trans h) ▸ moX11_ends
  | 20, _, h => exact Option.some.inj (gX11_take.symm.trans h) ▸ moX11_take
  | 21, _, h => exact Option.some.inj (gX11_block.symm.trans h) ▸ moX11_block
  | 22, _, h => exact Option.some.inj (gX11_isDone.symm.trans h) ▸ moX11_isDone
  | 23, _, h => exact Option.some.inj (gX11_otherwise.symm.trans h) ▸ moX11_otherwise
  | 24, _, h => exact Option.some.inj (gX11_end.symm.trans h) ▸ moX11_end
  | 25, _, h => exact Option.some.inj (gX11_turn.symm.trans h) ▸ moX11_turn
  | 26, _, h => exact Option.some.inj (gX11_entries.symm.trans h) ▸ moX11_entries
  | 27, _, h => exact Option.some.inj (gX11_control.symm.trans h) ▸ moX11_control
  | 28, _, h => exact Option.some.inj (gX11_plain.symm.trans h) ▸ moX11_plain
  | 29, _, h => exact Option.some.inj (gX11_code.symm.trans h) ▸ moX11_code
  | 30, _, h => exact Option.some.inj (gX8_removeLast.symm.trans h) ▸ moX8_removeLast
  | 31, _, h => exact Option.some.inj (gX10_drop.symm.trans h) ▸ moX10_drop
  | 32, _, h => exact Option.some.inj (gX11_drop.symm.trans h) ▸ moX11_drop
  | 33, _, h => exact Option.some.inj (gX5_setTable.symm.trans h) ▸ moX5_setTable
  | 34, _, h => exact Option.some.inj (gX8_findWhole.symm.trans h) ▸ moX8_findWhole
  | 35, _, h => exact Option.some.inj (gX10_entry.symm.trans h) ▸ moX10_entry
  | 36, _, h => exact Option.some.inj (gX11_isWhole.symm.trans h) ▸ moX11_isWhole
  | 37, _, h => exact Option.some.inj (gX11_entry.symm.trans h) ▸ moX11_entry
  | 38, _, h => exact Option.some.inj (gX10_argument.symm.trans h) ▸ moX10_argument
  | 39, _, h => exact Option.some.inj (gX11_argument.symm.trans h) ▸ moX11_argument
  | n + 40, hj, _ => exact absurd hj (by omega)
theorem bo_40 : ∀ (j : Nat) (q : MD), j < 40 → mT[40 + j]? = some q → bOk mT (40 + j) q := by
  intro j q hj h
  match j, hj, h with
  | 0, _, h => exact Option.some.inj (gX0_writeBranchIf.symm.trans h) ▸ boX0_writeBranchIf
  | 1, _, h => exact Option.some.inj (gX0_writeTable.symm.trans h) ▸ boX0_writeTable
  | 2, _, h => exact Option.some.inj (gX8_find.symm.trans h) ▸ boX8_find
  | 3, _, h => exact Option.some.inj (gX0_writeCall.symm.trans h) ▸ boX0_writeCall
  | 4, _, h => exact Option.some.inj (gX0_writeCallByTable.symm.trans h) ▸ boX0_writeCallByTable
  | 5, _, h => exact Option.some.inj (gX7_takenBy.symm.trans h) ▸ boX7_takenBy
  | 6, _, h => exact Option.some.inj (gX0_isInPlace.symm.trans h) ▸ boX0_isInPlace
  | 7, _, h => exact Option.some.inj (gX7_putBy.symm.trans h) ▸ boX7_putBy
  | 8, _, h => exact Option.some.inj (gX0_writePlain.symm.trans h) ▸ boX0_writePlain
  | 9, _, h => exact Option.some.inj (gX0_write.symm.trans h) ▸ boX0_write
  | 10, _, h => exact Option.some.inj (gX0_isFinished.symm.trans h) ▸ boX0_isFinished
  | 11, _, h => exact Option.some.inj (gX10_keepDraft.symm.trans h) ▸ boX10_keepDraft
  | 12, _, h => exact Option.some.inj (gX10_code.symm.trans h) ▸ boX10_code
  | 13, _, h => exact Option.some.inj (gX11_isLabel.symm.trans h) ▸ boX11_isLabel
  | 14, _, h => exact Option.some.inj (gX11_inner.symm.trans h) ▸ boX11_inner
  | 15, _, h => exact Option.some.inj (gX11_wants.symm.trans h) ▸ boX11_wants
  | 16, _, h => exact Option.some.inj (gX11_has.symm.trans h) ▸ boX11_has
  | 17, _, h => exact Option.some.inj (gX11_die.symm.trans h) ▸ boX11_die
  | 18, _, h => exact Option.some.inj (gX11_entryTo.symm.trans h) ▸ boX11_entryTo
  | 19, _, h => exact Option.some.inj (gX11_ends.symm.trans h) ▸ boX11_ends
  | 20, _, h => exact Option.some.inj (gX11_take.symm.trans h) ▸ boX11_take
  | 21, _, h => exact Option.some.inj (gX11_block.symm.trans h) ▸ boX11_block
  | 22, _, h => exact Option.some.inj (gX11_isDone.symm.trans h) ▸ boX11_isDone
  | 23, _, h => exact Option.some.inj (gX11_otherwise.symm.trans h) ▸ boX11_otherwise
  | 24, _, h => exact Option.some.inj (gX11_end.symm.trans h) ▸ boX11_end
  | 25, _, h => exact Option.some.inj (gX11_turn.symm.trans h) ▸ boX11_turn
  | 26, _, h => exact Option.some.inj (gX11_entries.symm.trans h) ▸ boX11_entries
  | 27, _, h => exact Option.some.inj (gX11_control.symm.trans h) ▸ boX11_control
  | 28, _, h => exact Option.some.inj (gX11_plain.symm.trans h) ▸ boX11_plain
  | 29, _, h => exact Option.some.inj (gX11_code.symm.trans h) ▸ boX11_code
  | 30, _, h => exact Option.some.inj (gX8_removeLast.symm.trans h) ▸ boX8_removeLast
  | 31, _, h => exact Option.some.inj (gX10_drop.symm.trans h) ▸ boX10_drop
  | 32, _, h => exact Option.some.inj (gX11_drop.symm.trans h) ▸ boX11_drop
  | 33, _, h => exact Option.some.inj (gX5_setTable.symm.trans h) ▸ boX5_setTable
  | 34, _, h => exact Option.some.inj (gX8_findWhole.symm.trans h) ▸ boX8_findWhole
  | 35, _, h => exact Option.some.inj (gX10_entry.symm.trans h) ▸ boX10_entry
  | 36, _, h => exact Option.some.inj (gX11_isWhole.symm.trans h) ▸ boX11_isWhole
  | 37, _, h => exact Option.some.inj (gX11_entry.symm.trans h) ▸ boX11_entry
  | 38, _, h => exact Option.some.inj (gX10_argument.symm.trans h) ▸ boX10_argument
  | 39, _, h => exact Option.some.inj (gX11_argument.symm.trans h) ▸ boX11_argument
  | n + 40, hj, _ => exact absurd hj (by omega)
theorem mo_80 : ∀ (j : Nat) (q : MD), j < 40 → mT[80 + j]? = some q → mOk q := by
  intro j q hj h
  match j, hj, h with
  | 0, _, h => exact Option.some.inj (gX9_push.symm.trans h) ▸ moX9_push
  | 1, _, h => exact Option.some.inj (gX2_room.symm.trans h) ▸ moX2_room
  | 2, _, h => exact Option.some.inj (gX1_enter.symm.trans h) ▸ moX1_enter
  | 3, _, h => exact Option.some.inj (gX5_enter.symm.trans h) ▸ moX5_enter
  | 4, _, h => exact Option.some.inj (gX5_isGoing.symm.trans h) ▸ moX5_isGoing
  | 5, _, h => exact Option.some.inj (gX5_innermost.symm.trans h) ▸ moX5_innermost
  | 6, _, h => exact Option.some.inj (gX9_at.symm.trans h) ▸ moX9_at
  | 7, _, h => exact Option.some.inj (gX9_set.symm.trans h) ▸ moX9_set
  | 8, _, h => exact Option.some.inj (gX9_keep.symm.trans h) ▸ moX9_keep
  | 9, _, h => exact Option.some.inj (gX5_leaveWhatIsOver.symm.trans h) ▸ moX5_leaveWhatIsOver
  | 10, _, h => exact Option.some.inj (gX5_begin.symm.trans h) ▸ moX5_begin
  | 11, _, h => exact Option.some.inj (gX10_call.symm.trans h) ▸ moX10_call
  | 12, _, h => exact Option.some.inj (gX11_push.symm.trans h) ▸ moX11_push
  | 13, _, h => exact Option.some.inj (gX11_namesOf.symm.trans h) ▸ moX11_namesOf
  | 14, _, h => exact Option.some.inj (gX11_asks.symm.trans h) ▸ moX11_asks
  | 15, _, h => exact Option.some.inj (gX11_enter.symm.trans h) ▸ moX11_enter
  | 16, _, h => exact Option.some.inj (gX11_begins.symm.trans h) ▸ moX11_begins
  | 17, _, h => exact Option.some.inj (gX11_endOf.symm.trans h) ▸ moX11_endOf
  | 18, _, h => exact Option.some.inj (gX11_keep.symm.trans h) ▸ moX11_keep
  | 19, _, h => exact Option.some.inj (gX11_back.symm.trans h) ▸ moX11_back
  | 20, _, h => exact Option.some.inj (gX11_pass.symm.trans h) ▸ moX11_pass
  | 21, _, h => exact Option.some.inj (gX11_call.symm.trans h) ▸ moX11_call
  | 22, _, h => exact Option.some.inj (gX5_trap.symm.trans h) ▸ moX5_trap
  | 23, _, h => exact Option.some.inj (gX9_pop.symm.trans h) ▸ moX9_pop
  | 24, _, h => exact Option.some.inj (gX7_isTrue.symm.trans h) ▸ moX7_isTrue
  | 25, _, h => exact Option.some.inj (gX1_operandsFrom.symm.trans h) ▸ moX1_operandsFrom
  | 26, _, h => exact Option.some.inj (gX5_branch.symm.trans h) ▸ moX5_branch
  | 27, _, h => exact Option.some.inj (gX5_chosenEntry.symm.trans h) ▸ moX5_chosenEntry
  | 28, _, h => exact Option.some.inj (gX2_hasSignature.symm.trans h) ▸ moX2_hasSignature
  | 29, _, h => exact Option.some.inj (gX5_enterByTable.symm.trans h) ▸ moX5_enterByTable
  | 30, _, h => exact Option.some.inj (gX5_control.symm.trans h) ▸ moX5_control
  | 31, _, h => exact Option.some.inj (gX5_select.symm.trans h) ▸ moX5_select
  | 32, _, h => exact Option.some.inj (gX5_globalAt.symm.trans h) ▸ moX5_globalAt
  | 33, _, h => exact Option.some.inj (gX5_setGlobal.symm.trans h) ▸ moX5_setGlobal
  | 34, _, h => exact Option.some.inj (gX5_move.symm.trans h) ▸ moX5_move
  | 35, _, h => exact Option.some.inj (gX7_sizeOf.symm.trans h) ▸ moX7_sizeOf
  | 36, _, h => exact Option.some.inj (gX6_holds.symm.trans h) ▸ moX6_holds
  | 37, _, h => exact Option.some.inj (gX6_load.symm.trans h) ▸ moX6_load
  | 38, _, h => exact Option.some.inj (gX7_widened.symm.trans h) ▸ moX7_widened
  | 39, _, h => exact Option.some.inj (gX5_load.symm.trans h) ▸ moX5_load
  | n + 40, hj, _ => exact absurd hj (by omega)
theorem bo_80 : ∀ (j : Nat) (q : MD), j < 40 → mT[80 + j]? = some q → bOk mT (80 + j) q := by
  intro j q hj h
  match j, hj, h with
  | 0, _, h => exact Option.some.inj (gX9_push.symm.trans h) ▸ boX9_push
  | 1, _, h => exact Option.some.inj (gX2_room.symm.trans h) ▸ boX2_room
  | 2, _, h => exact Option.some.inj (gX1_enter.symm.trans h) ▸ boX1_enter
  | 3, _, h => exact Option.some.inj (gX5_enter.symm.trans h) ▸ boX5_enter
  | 4, _, h => exact Option.some.inj (gX5_isGoing.symm.trans h) ▸ boX5_isGoing
  | 5, _, h => exact Option.some.inj (gX5_innermost.symm.trans h) ▸ boX5_innermost
  | 6, _, h => exact Option.some.inj (gX9_at.symm.trans h) ▸ boX9_at
  | 7, _, h => exact Option.some.inj (gX9_set.symm.trans h) ▸ boX9_set
  | 8, _, h => exact Option.some.inj (gX9_keep.symm.trans h) ▸ boX9_keep
  | 9, _, h => exact Option.some.inj (gX5_leaveWhatIsOver.symm.trans h) ▸ boX5_leaveWhatIsOver
  | 10, _, h => exact Option.some.inj (gX5_begin.symm.trans h) ▸ boX5_begin
  | 11, _, h => exact Option.some.inj (gX10_call.symm.trans h) ▸ boX10_call
  | 12, _, h => exact Option.some.inj (gX11_push.symm.trans h) ▸ boX11_push
  | 13, _, h => exact Option.some.inj (gX11_namesOf.symm.trans h) ▸ boX11_namesOf
  | 14, _, h => exact Option.some.inj (gX11_asks.symm.trans h) ▸ boX11_asks
  | 15, _, h => exact Option.some.inj (gX11_enter.symm.trans h) ▸ boX11_enter
  | 16, _, h => exact Option.some.inj (gX11_begins.symm.trans h) ▸ boX11_begins
  | 17, _, h => exact Option.some.inj (gX11_endOf.symm.trans h) ▸ boX11_endOf
  | 18, _, h => exact Option.some.inj (gX11_keep.symm.trans h) ▸ boX11_keep
  | 19, _, h => exact Option.some.inj (gX11_back.symm.trans h) ▸ boX11_back
  | 20, _, h => exact Option.some.inj (gX11_pass.symm.trans h) ▸ boX11_pass
  | 21, _, h => exact Option.some.inj (gX11_call.symm.trans h) ▸ boX11_call
  | 22, _, h => exact Option.some.inj (gX5_trap.symm.trans h) ▸ boX5_trap
  | 23, _, h => exact Option.some.inj (gX9_pop.symm.trans h) ▸ boX9_pop
  | 24, _, h => exact Option.some.inj (gX7_isTrue.symm.trans h) ▸ boX7_isTrue
  | 25, _, h => exact Option.some.inj (gX1_operandsFrom.symm.trans h) ▸ boX1_operandsFrom
  | 26, _, h => exact Option.some.inj (gX5_branch.symm.trans h) ▸ boX5_branch
  | 27, _, h => exact Option.some.inj (gX5_chosenEntry.symm.trans h) ▸ boX5_chosenEntry
  | 28, _, h => exact Option.some.inj (gX2_hasSignature.symm.trans h) ▸ boX2_hasSignature
  | 29, _, h => exact Option.some.inj (gX5_enterByTable.symm.trans h) ▸ boX5_enterByTable
  | 30, _, h => exact Option.some.inj (gX5_control.symm.trans h) ▸ boX5_control
  | 31, _, h => exact Option.some.inj (gX5_select.symm.trans h) ▸ boX5_select
  | 32, _, h => exact Option.some.inj (gX5_globalAt.symm.trans h) ▸ boX5_globalAt
  | 33, _, h => exact Option.some.inj (gX5_setGlobal.symm.trans h) ▸ boX5_setGlobal
  | 34, _, h => exact Option.some.inj (gX5_move.symm.trans h) ▸ boX5_move
  | 35, _, h => exact Option.some.inj (gX7_sizeOf.symm.trans h) ▸ boX7_sizeOf
  | 36, _, h => exact Option.some.inj (gX6_holds.symm.trans h) ▸ boX6_holds
  | 37, _, h => exact Option.some.inj (gX6_load.symm.trans h) ▸ boX6_load
  | 38, _, h => exact Option.some.inj (gX7_widened.symm.trans h) ▸ boX7_widened
  | 39, _, h => exact Option.some.inj (gX5_load.symm.trans h) ▸ boX5_load
  | n + 40, hj, _ => exact absurd hj (by omega)
theorem mo_120 : ∀ (j : Nat) (q : MD), j < 40 → mT[120 + j]? = some q → mOk q := by
  intro j q hj h
  match j, hj, h with
  | 0, _, h => exact Option.some.inj (gX6_store.symm.trans h) ▸ moX6_store
  | 1, _, h => exact Option.some.inj (gX5_store.symm.trans h) ▸ moX5_store
  | 2, _, h => exact Option.some.inj (gX6_grow.symm.trans h) ▸ moX6_grow
  | 3, _, h => exact Option.some.inj (gX5_provide.symm.trans h) ▸ moX5_provide
  | 4, _, h => exact Option.some.inj (gX5_divide.symm.trans h) ▸ moX5_divide
  | 5, _, h => exact Option.some.inj (gX7_isOf64.symm.trans h) ▸ moX7_isOf64
  | 6, _, h => exact Option.some.inj (gX7_of64.symm.trans h) ▸ moX7_of64
  | 7, _, h => exact Option.some.inj (gX7_of32.symm.trans h) ▸ moX7_of32
  | 8, _, h => exact Option.some.inj (gX5_computeOfTwo.symm.trans h) ▸ moX5_computeOfTwo
  | 9, _, h => exact Option.some.inj (gX5_computeOfOne.symm.trans h) ▸ moX5_computeOfOne
  | 10, _, h => exact Option.some.inj (gX5_step.symm.trans h) ▸ moX5_step
  | 11, _, h => exact Option.some.inj (gX5_advance.symm.trans h) ▸ moX5_advance
  | 12, _, h => exact Option.some.inj (gX10_run.symm.trans h) ▸ moX10_run
  | 13, _, h => exact Option.some.inj (gX11_traps.symm.trans h) ▸ moX11_traps
  | 14, _, h => exact Option.some.inj (gX11_pop.symm.trans h) ▸ moX11_pop
  | 15, _, h => exact Option.some.inj (gX11_isTrue.symm.trans h) ▸ moX11_isTrue
  | 16, _, h => exact Option.some.inj (gX11_condition.symm.trans h) ▸ moX11_condition
  | 17, _, h => exact Option.some.inj (gX11_beginOf.symm.trans h) ▸ moX11_beginOf
  | 18, _, h => exact Option.some.inj (gX11_base.symm.trans h) ▸ moX11_base
  | 19, _, h => exact Option.some.inj (gX11_branch.symm.trans h) ▸ moX11_branch
  | 20, _, h => exact Option.some.inj (gX11_outermost.symm.trans h) ▸ moX11_outermost
  | 21, _, h => exact Option.some.inj (gX11_callTable.symm.trans h) ▸ moX11_callTable
  | 22, _, h => exact Option.some.inj (gX11_choose.symm.trans h) ▸ moX11_choose
  | 23, _, h => exact Option.some.inj (gX11_variable.symm.trans h) ▸ moX11_variable
  | 24, _, h => exact Option.some.inj (gX11_size.symm.trans h) ▸ moX11_size
  | 25, _, h => exact Option.some.inj (gX11_move.symm.trans h) ▸ moX11_move
  | 26, _, h => exact Option.some.inj (gX11_grow.symm.trans h) ▸ moX11_grow
  | 27, _, h => exact Option.some.inj (gX11_truth.symm.trans h) ▸ moX11_truth
  | 28, _, h => exact Option.some.inj (gX11_work.symm.trans h) ▸ moX11_work
  | 29, _, h => exact Option.some.inj (gX11_simple.symm.trans h) ▸ moX11_simple
  | 30, _, h => exact Option.some.inj (gX11_step.symm.trans h) ▸ moX11_step
  | 31, _, h => exact Option.some.inj (gX11_run.symm.trans h) ▸ moX11_run
  | 32, _, h => exact Option.some.inj (gX0_isDead.symm.trans h) ▸ moX0_isDead
  | 33, _, h => exact Option.some.inj (gX10_state.symm.trans h) ▸ moX10_state
  | 34, _, h => exact Option.some.inj (gX11_state.symm.trans h) ▸ moX11_state
  | 35, _, h => exact Option.some.inj (gX5_resultAt.symm.trans h) ▸ moX5_resultAt
  | 36, _, h => exact Option.some.inj (gX10_result.symm.trans h) ▸ moX10_result
  | 37, _, h => exact Option.some.inj (gX11_result.symm.trans h) ▸ moX11_result
  | 38, _, h => exact Option.some.inj (gX10_global.symm.trans h) ▸ moX10_global
  | 39, _, h => exact Option.some.inj (gX11_global.symm.trans h) ▸ moX11_global
  | n + 40, hj, _ => exact absurd hj (by omega)
theorem bo_120 : ∀ (j : Nat) (q : MD), j < 40 → mT[120 + j]? = some q → bOk mT (120 + j) q := by
  intro j q hj h
  match j, hj, h with
  | 0, _, h => exact Option.some.inj (gX6_store.symm.trans h) ▸ boX6_store
  | 1, _, h => exact Option.some.inj (gX5_store.symm.trans h) ▸ boX5_store
  | 2, _, h => exact Option.some.inj (gX6_grow.symm.trans h) ▸ boX6_grow
  | 3, _, h => exact Option.some.inj (gX5_provide.symm.trans h) ▸ boX5_provide
  | 4, _, h => exact Option.some.inj (gX5_divide.symm.trans h) ▸ boX5_divide
  | 5, _, h => exact Option.some.inj (gX7_isOf64.symm.trans h) ▸ boX7_isOf64
  | 6, _, h => exact Option.some.inj (gX7_of64.symm.trans h) ▸ boX7_of64
  | 7, _, h => exact Option.some.inj (gX7_of32.symm.trans h) ▸ boX7_of32
  | 8, _, h => exact Option.some.inj (gX5_computeOfTwo.symm.trans h) ▸ boX5_computeOfTwo
  | 9, _, h => exact Option.some.inj (gX5_computeOfOne.symm.trans h) ▸ boX5_computeOfOne
  | 10, _, h => exact Option.some.inj (gX5_step.symm.trans h) ▸ boX5_step
  | 11, _, h => exact Option.some.inj (gX5_advance.symm.trans h) ▸ boX5_advance
  | 12, _, h => exact Option.some.inj (gX10_run.symm.trans h) ▸ boX10_run
  | 13, _, h => exact Option.some.inj (gX11_traps.symm.trans h) ▸ boX11_traps
  | 14, _, h => exact Option.some.inj (gX11_pop.symm.trans h) ▸ boX11_pop
  | 15, _, h => exact Option.some.inj (gX11_isTrue.symm.trans h) ▸ boX11_isTrue
  | 16, _, h => exact Option.some.inj (gX11_condition.symm.trans h) ▸ boX11_condition
  | 17, _, h => exact Option.some.inj (gX11_beginOf.symm.trans h) ▸ boX11_beginOf
  | 18, _, h => exact Option.some.inj (gX11_base.symm.trans h) ▸ boX11_base
  | 19, _, h => exact Option.some.inj (gX11_branch.symm.trans h) ▸ boX11_branch
  | 20, _, h => exact Option.some.inj (gX11_outermost.symm.trans h) ▸ boX11_outermost
  | 21, _, h => exact Option.some.inj (gX11_callTable.symm.trans h) ▸ boX11_callTable
  | 22, _, h => exact Option.some.inj (gX11_choose.symm.trans h) ▸ boX11_choose
  | 23, _, h => exact Option.some.inj (gX11_variable.symm.trans h) ▸ boX11_variable
  | 24, _, h => exact Option.some.inj (gX11_size.symm.trans h) ▸ boX11_size
  | 25, _, h => exact Option.some.inj (gX11_move.symm.trans h) ▸ boX11_move
  | 26, _, h => exact Option.some.inj (gX11_grow.symm.trans h) ▸ boX11_grow
  | 27, _, h => exact Option.some.inj (gX11_truth.symm.trans h) ▸ boX11_truth
  | 28, _, h => exact Option.some.inj (gX11_work.symm.trans h) ▸ boX11_work
  | 29, _, h => exact Option.some.inj (gX11_simple.symm.trans h) ▸ boX11_simple
  | 30, _, h => exact Option.some.inj (gX11_step.symm.trans h) ▸ boX11_step
  | 31, _, h => exact Option.some.inj (gX11_run.symm.trans h) ▸ boX11_run
  | 32, _, h => exact Option.some.inj (gX0_isDead.symm.trans h) ▸ boX0_isDead
  | 33, _, h => exact Option.some.inj (gX10_state.symm.trans h) ▸ boX10_state
  | 34, _, h => exact Option.some.inj (gX11_state.symm.trans h) ▸ boX11_state
  | 35, _, h => exact Option.some.inj (gX5_resultAt.symm.trans h) ▸ boX5_resultAt
  | 36, _, h => exact Option.some.inj (gX10_result.symm.trans h) ▸ boX10_result
  | 37, _, h => exact Option.some.inj (gX11_result.symm.trans h) ▸ boX11_result
  | 38, _, h => exact Option.some.inj (gX10_global.symm.trans h) ▸ boX10_global
  | 39, _, h => exact Option.some.inj (gX11_global.symm.trans h) ▸ boX11_global
  | n + 40, hj, _ => exact absurd hj (by omega)
theorem mo_160 : ∀ (j : Nat) (q : MD), j < 5 → mT[160 + j]? = some q → mOk q := by
  intro j q hj h
  match j, hj, h with
  | 0, _, h => exact Option.some.inj (gX6_byteAt.symm.trans h) ▸ moX6_byteAt
  | 1, _, h => exact Option.some.inj (gX10_memory.symm.trans h) ▸ moX10_memory
  | 2, _, h => exact Option.some.inj (gX11_memory.symm.trans h) ▸ moX11_memory
  | 3, _, h => exact Option.some.inj (gX10_look.symm.trans h) ▸ moX10_look
  | 4, _, h => exact Option.some.inj (gX11_look.symm.trans h) ▸ moX11_look
  | n + 5, hj, _ => exact absurd hj (by omega)
theorem bo_160 : ∀ (j : Nat) (q : MD), j < 5 → mT[160 + j]? = some q → bOk mT (160 + j) q := by
  intro j q hj h
  match j, hj, h with
  | 0, _, h => exact Option.some.inj (gX6_byteAt.symm.trans h) ▸ boX6_byteAt
  | 1, _, h => exact Option.some.inj (gX10_memory.symm.trans h) ▸ boX10_memory
  | 2, _, h => exact Option.some.inj (gX11_memory.symm.trans h) ▸ boX11_memory
  | 3, _, h => exact Option.some.inj (gX10_look.symm.trans h) ▸ boX10_look
  | 4, _, h => exact Option.some.inj (gX11_look.symm.trans h) ▸ boX11_look
  | n + 5, hj, _ => exact absurd hj (by omega)
theorem mo_all : ∀ (j : Nat) (q : MD), j < 165 → mT[j]? = some q → mOk q := by
  intro j q hj h
  by_cases h0 : j < 40
  · have e : j = 0 + (j - 0) := by omega
    rw [e] at h
    exact mo_0 _ q (by omega) h
  by_cases h40 : j < 80
  · have e : j = 40 + (j - 40) := by omega
    rw [e] at h
    exact mo_40 _ q (by omega) h
  by_cases h80 : j < 120
  · have e : j = 80 + (j - 80) := by omega
    rw [e] at h
    exact mo_80 _ q (by omega) h
  by_cases h120 : j < 160
  · have e : j = 120 + (j - 120) := by omega
    rw [e] at h
    exact mo_120 _ q (by omega) h
  have e : j = 160 + (j - 160) := by omega
  rw [e] at h
  exact mo_160 _ q (by omega) h
theorem bo_all : ∀ (j : Nat) (q : MD), j < 165 → mT[j]? = some q → bOk mT j q := by
  intro j q hj h
  by_cases h0 : j < 40
  · have e : j = 0 + (j - 0) := by omega
    rw [e] at h ⊢
    exact bo_0 _ q (by omega) h
  by_cases h40 : j < 80
  · have e : j = 40 + (j - 40) := by omega
    rw [e] at h ⊢
    exact bo_40 _ q (by omega) h
  by_cases h80 : j < 120
  · have e : j = 80 + (j - 80) := by omega
    rw [e] at h ⊢
    exact bo_80 _ q (by omega) h
  by_cases h120 : j < 160
  · have e : j = 120 + (j - 120) := by omega
    rw [e] at h ⊢
    exact bo_120 _ q (by omega) h
  have e : j = 160 + (j - 160) := by omega
  rw [e] at h ⊢
  exact bo_160 _ q (by omega) h
