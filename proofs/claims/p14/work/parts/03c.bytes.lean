/-! The instructions are those of the bytes (written by gen03.py) -/
set_option maxRecDepth 100000 in
theorem mSt_init_c : ri_cks mSt_init.2.2.1 mSt_init.2.2.2.2.2 = true := by decide +kernel
set_option maxRecDepth 100000 in
theorem mSc_init_c : ri_cks mSc_init.2.2.1 mSc_init.2.2.2.2.2 = true := by decide +kernel
set_option maxRecDepth 100000 in
theorem mDr_init_c : ri_cks mDr_init.2.2.1 mDr_init.2.2.2.2.2 = true := by decide +kernel
set_option maxRecDepth 100000 in
theorem mEv_init_c : ri_cks mEv_init.2.2.1 mEv_init.2.2.2.2.2 = true := by decide +kernel
set_option maxRecDepth 100000 in
theorem mCo_init_c : ri_cks mCo_init.2.2.1 mCo_init.2.2.2.2.2 = true := by decide +kernel
set_option maxRecDepth 100000 in
theorem mSt_field_c : ri_cks mSt_field.2.2.1 mSt_field.2.2.2.2.2 = true := by decide +kernel
set_option maxRecDepth 100000 in
theorem mSc_add_c : ri_cks mSc_add.2.2.1 mSc_add.2.2.2.2.2 = true := by decide +kernel
set_option maxRecDepth 100000 in
theorem mSc_mayHold_c : ri_cks mSc_mayHold.2.2.1 mSc_mayHold.2.2.2.2.2 = true := by decide +kernel
set_option maxRecDepth 100000 in
theorem mSc_isGroup_c : ri_cks mSc_isGroup.2.2.1 mSc_isGroup.2.2.2.2.2 = true := by decide +kernel
set_option maxRecDepth 100000 in
theorem mSc_has_c : ri_cks mSc_has.2.2.1 mSc_has.2.2.2.2.2 = true := by decide +kernel
set_option maxRecDepth 100000 in
theorem mSc_depthOf_c : ri_cks mSc_depthOf.2.2.1 mSc_depthOf.2.2.2.2.2 = true := by decide +kernel
set_option maxRecDepth 100000 in
theorem mSc_repetitionOf_c : ri_cks mSc_repetitionOf.2.2.1 mSc_repetitionOf.2.2.2.2.2 = true := by decide +kernel
set_option maxRecDepth 100000 in
theorem mSc_definitionOf_c : ri_cks mSc_definitionOf.2.2.1 mSc_definitionOf.2.2.2.2.2 = true := by decide +kernel
set_option maxRecDepth 100000 in
theorem mSc_stretch_c : ri_cks mSc_stretch.2.2.1 mSc_stretch.2.2.2.2.2 = true := by decide +kernel
set_option maxRecDepth 100000 in
theorem mSt_ready_c : ri_cks mSt_ready.2.2.1 mSt_ready.2.2.2.2.2 = true := by decide +kernel
set_option maxRecDepth 100000 in
theorem mSc_settle_c : ri_cks mSc_settle.2.2.1 mSc_settle.2.2.2.2.2 = true := by decide +kernel
set_option maxRecDepth 100000 in
theorem mSt_begin_c : ri_cks mSt_begin.2.2.1 mSt_begin.2.2.2.2.2 = true := by decide +kernel
set_option maxRecDepth 100000 in
theorem mDr_start_c : ri_cks mDr_start.2.2.1 mDr_start.2.2.2.2.2 = true := by decide +kernel
set_option maxRecDepth 100000 in
theorem mDr_clear_c : ri_cks mDr_clear.2.2.1 mDr_clear.2.2.2.2.2 = true := by decide +kernel
set_option maxRecDepth 100000 in
theorem mSt_open_c : ri_cks mSt_open.2.2.1 mSt_open.2.2.2.2.2 = true := by decide +kernel
set_option maxRecDepth 100000 in
theorem mSt_mayCome_c : ri_cks mSt_mayCome.2.2.1 mSt_mayCome.2.2.2.2.2 = true := by decide +kernel
set_option maxRecDepth 100000 in
theorem mSc_parentOf_c : ri_cks mSc_parentOf.2.2.1 mSc_parentOf.2.2.2.2.2 = true := by decide +kernel
set_option maxRecDepth 100000 in
theorem mDr_group_c : ri_cks mDr_group.2.2.1 mDr_group.2.2.2.2.2 = true := by decide +kernel
set_option maxRecDepth 100000 in
theorem mDr_newest_c : ri_cks mDr_newest.2.2.1 mDr_newest.2.2.2.2.2 = true := by decide +kernel
set_option maxRecDepth 100000 in
theorem mSc_kindOf_c : ri_cks mSc_kindOf.2.2.1 mSc_kindOf.2.2.2.2.2 = true := by decide +kernel
set_option maxRecDepth 100000 in
theorem mSc_requires_c : ri_cks mSc_requires.2.2.1 mSc_requires.2.2.2.2.2 = true := by decide +kernel
set_option maxRecDepth 100000 in
theorem mDr_add_c : ri_cks mDr_add.2.2.1 mDr_add.2.2.2.2.2 = true := by decide +kernel
set_option maxRecDepth 100000 in
theorem mSt_withRoom_c : ri_cks mSt_withRoom.2.2.1 mSt_withRoom.2.2.2.2.2 = true := by decide +kernel
set_option maxRecDepth 100000 in
theorem mAr_copyOf_c : ri_cks mAr_copyOf.2.2.1 mAr_copyOf.2.2.2.2.2 = true := by decide +kernel
set_option maxRecDepth 100000 in
theorem mDr_enter_c : ri_cks mDr_enter.2.2.1 mDr_enter.2.2.2.2.2 = true := by decide +kernel
set_option maxRecDepth 100000 in
theorem mSt_leaf_c : ri_cks mSt_leaf.2.2.1 mSt_leaf.2.2.2.2.2 = true := by decide +kernel
set_option maxRecDepth 100000 in
theorem mSc_isLeaf_c : ri_cks mSc_isLeaf.2.2.1 mSc_isLeaf.2.2.2.2.2 = true := by decide +kernel
set_option maxRecDepth 100000 in
theorem mSt_close_c : ri_cks mSt_close.2.2.1 mSt_close.2.2.2.2.2 = true := by decide +kernel
set_option maxRecDepth 100000 in
theorem mSc_endOf_c : ri_cks mSc_endOf.2.2.1 mSc_endOf.2.2.2.2.2 = true := by decide +kernel
set_option maxRecDepth 100000 in
theorem mDr_leave_c : ri_cks mDr_leave.2.2.1 mDr_leave.2.2.2.2.2 = true := by decide +kernel
set_option maxRecDepth 100000 in
theorem mSt_keepRecord_c : ri_cks mSt_keepRecord.2.2.1 mSt_keepRecord.2.2.2.2.2 = true := by decide +kernel
set_option maxRecDepth 100000 in
theorem mSt_takeFields_c : ri_cks mSt_takeFields.2.2.1 mSt_takeFields.2.2.2.2.2 = true := by decide +kernel
set_option maxRecDepth 100000 in
theorem mSt_takeField_c : ri_cks mSt_takeField.2.2.1 mSt_takeField.2.2.2.2.2 = true := by decide +kernel
set_option maxRecDepth 100000 in
theorem mDr_fieldAt_c : ri_cks mDr_fieldAt.2.2.1 mDr_fieldAt.2.2.2.2.2 = true := by decide +kernel
set_option maxRecDepth 100000 in
theorem mSt_addEmptyEntries_c : ri_cks mSt_addEmptyEntries.2.2.1 mSt_addEmptyEntries.2.2.2.2.2 = true := by decide +kernel
set_option maxRecDepth 100000 in
theorem mSc_columnsIn_c : ri_cks mSc_columnsIn.2.2.1 mSc_columnsIn.2.2.2.2.2 = true := by decide +kernel
set_option maxRecDepth 100000 in
theorem mSt_holds_c : ri_cks mSt_holds.2.2.1 mSt_holds.2.2.2.2.2 = true := by decide +kernel
set_option maxRecDepth 100000 in
theorem mCo_add_c : ri_cks mCo_add.2.2.1 mCo_add.2.2.2.2.2 = true := by decide +kernel
set_option maxRecDepth 100000 in
theorem mCo_has_c : ri_cks mCo_has.2.2.1 mCo_has.2.2.2.2.2 = true := by decide +kernel
set_option maxRecDepth 100000 in
theorem mSt_takeOccurrence_c : ri_cks mSt_takeOccurrence.2.2.1 mSt_takeOccurrence.2.2.2.2.2 = true := by decide +kernel
set_option maxRecDepth 100000 in
theorem mDr_valueAt_c : ri_cks mDr_valueAt.2.2.1 mDr_valueAt.2.2.2.2.2 = true := by decide +kernel
set_option maxRecDepth 100000 in
theorem mSc_columnOf_c : ri_cks mSc_columnOf.2.2.1 mSc_columnOf.2.2.2.2.2 = true := by decide +kernel
set_option maxRecDepth 100000 in
theorem mSt_drop_c : ri_cks mSt_drop.2.2.1 mSt_drop.2.2.2.2.2 = true := by decide +kernel
set_option maxRecDepth 100000 in
theorem mSt_records_c : ri_cks mSt_records.2.2.1 mSt_records.2.2.2.2.2 = true := by decide +kernel
set_option maxRecDepth 100000 in
theorem mSt_level_c : ri_cks mSt_level.2.2.1 mSt_level.2.2.2.2.2 = true := by decide +kernel
set_option maxRecDepth 100000 in
theorem mSt_entries_c : ri_cks mSt_entries.2.2.1 mSt_entries.2.2.2.2.2 = true := by decide +kernel
set_option maxRecDepth 100000 in
theorem mCo_sizeOf_c : ri_cks mCo_sizeOf.2.2.1 mCo_sizeOf.2.2.2.2.2 = true := by decide +kernel
set_option maxRecDepth 100000 in
theorem mSt_entry_c : ri_cks mSt_entry.2.2.1 mSt_entry.2.2.2.2.2 = true := by decide +kernel
set_option maxRecDepth 100000 in
theorem mCo_read_c : ri_cks mCo_read.2.2.1 mCo_read.2.2.2.2.2 = true := by decide +kernel
set_option maxRecDepth 100000 in
theorem mSt_assemble_c : ri_cks mSt_assemble.2.2.1 mSt_assemble.2.2.2.2.2 = true := by decide +kernel
set_option maxRecDepth 100000 in
theorem mEv_clear_c : ri_cks mEv_clear.2.2.1 mEv_clear.2.2.2.2.2 = true := by decide +kernel
set_option maxRecDepth 100000 in
theorem mSt_seek_c : ri_cks mSt_seek.2.2.1 mSt_seek.2.2.2.2.2 = true := by decide +kernel
set_option maxRecDepth 100000 in
theorem mCo_startOf_c : ri_cks mCo_startOf.2.2.1 mCo_startOf.2.2.2.2.2 = true := by decide +kernel
set_option maxRecDepth 100000 in
theorem mSt_putFields_c : ri_cks mSt_putFields.2.2.1 mSt_putFields.2.2.2.2.2 = true := by decide +kernel
set_option maxRecDepth 100000 in
theorem mSt_putField_c : ri_cks mSt_putField.2.2.1 mSt_putField.2.2.2.2.2 = true := by decide +kernel
set_option maxRecDepth 100000 in
theorem mSt_lowestOf_c : ri_cks mSt_lowestOf.2.2.1 mSt_lowestOf.2.2.2.2.2 = true := by decide +kernel
set_option maxRecDepth 100000 in
theorem mSt_peek_c : ri_cks mSt_peek.2.2.1 mSt_peek.2.2.2.2.2 = true := by decide +kernel
set_option maxRecDepth 100000 in
theorem mSt_isCursor_c : ri_cks mSt_isCursor.2.2.1 mSt_isCursor.2.2.2.2.2 = true := by decide +kernel
set_option maxRecDepth 100000 in
theorem mSt_passEmptyEntries_c : ri_cks mSt_passEmptyEntries.2.2.1 mSt_passEmptyEntries.2.2.2.2.2 = true := by decide +kernel
set_option maxRecDepth 100000 in
theorem mSt_pass_c : ri_cks mSt_pass.2.2.1 mSt_pass.2.2.2.2.2 = true := by decide +kernel
set_option maxRecDepth 100000 in
theorem mSt_putOccurrence_c : ri_cks mSt_putOccurrence.2.2.1 mSt_putOccurrence.2.2.2.2.2 = true := by decide +kernel
set_option maxRecDepth 100000 in
theorem mEv_add_c : ri_cks mEv_add.2.2.1 mEv_add.2.2.2.2.2 = true := by decide +kernel
set_option maxRecDepth 100000 in
theorem mSt_comesAgain_c : ri_cks mSt_comesAgain.2.2.1 mSt_comesAgain.2.2.2.2.2 = true := by decide +kernel
set_option maxRecDepth 100000 in
theorem mSt_event_c : ri_cks mSt_event.2.2.1 mSt_event.2.2.2.2.2 = true := by decide +kernel
set_option maxRecDepth 100000 in
theorem mEv_read_c : ri_cks mEv_read.2.2.1 mEv_read.2.2.2.2.2 = true := by decide +kernel
set_option maxRecDepth 100000 in
theorem mMo_init_c : ri_cks mMo_init.2.2.1 mMo_init.2.2.2.2.2 = true := by decide +kernel
set_option maxRecDepth 100000 in
theorem mMo_field_c : ri_cks mMo_field.2.2.1 mMo_field.2.2.2.2.2 = true := by decide +kernel
set_option maxRecDepth 100000 in
theorem mMo_isAround_c : ri_cks mMo_isAround.2.2.1 mMo_isAround.2.2.2.2.2 = true := by decide +kernel
set_option maxRecDepth 100000 in
theorem mMo_ready_c : ri_cks mMo_ready.2.2.1 mMo_ready.2.2.2.2.2 = true := by decide +kernel
set_option maxRecDepth 100000 in
theorem mMo_columns_c : ri_cks mMo_columns.2.2.1 mMo_columns.2.2.2.2.2 = true := by decide +kernel
set_option maxRecDepth 100000 in
theorem mMo_level_c : ri_cks mMo_level.2.2.1 mMo_level.2.2.2.2.2 = true := by decide +kernel
set_option maxRecDepth 100000 in
theorem mMo_isField_c : ri_cks mMo_isField.2.2.1 mMo_isField.2.2.2.2.2 = true := by decide +kernel
set_option maxRecDepth 100000 in
theorem mMo_count_c : ri_cks mMo_count.2.2.1 mMo_count.2.2.2.2.2 = true := by decide +kernel
set_option maxRecDepth 100000 in
theorem mMo_columnOf_c : ri_cks mMo_columnOf.2.2.1 mMo_columnOf.2.2.2.2.2 = true := by decide +kernel
set_option maxRecDepth 100000 in
theorem mMo_begin_c : ri_cks mMo_begin.2.2.1 mMo_begin.2.2.2.2.2 = true := by decide +kernel
set_option maxRecDepth 100000 in
theorem mMo_open_c : ri_cks mMo_open.2.2.1 mMo_open.2.2.2.2.2 = true := by decide +kernel
set_option maxRecDepth 100000 in
theorem mMo_comes_c : ri_cks mMo_comes.2.2.1 mMo_comes.2.2.2.2.2 = true := by decide +kernel
set_option maxRecDepth 100000 in
theorem mMo_has_c : ri_cks mMo_has.2.2.1 mMo_has.2.2.2.2.2 = true := by decide +kernel
set_option maxRecDepth 100000 in
theorem mMo_leaf_c : ri_cks mMo_leaf.2.2.1 mMo_leaf.2.2.2.2.2 = true := by decide +kernel
set_option maxRecDepth 100000 in
theorem mMo_close_c : ri_cks mMo_close.2.2.1 mMo_close.2.2.2.2.2 = true := by decide +kernel
set_option maxRecDepth 100000 in
theorem mMo_drop_c : ri_cks mMo_drop.2.2.1 mMo_drop.2.2.2.2.2 = true := by decide +kernel
set_option maxRecDepth 100000 in
theorem mMo_records_c : ri_cks mMo_records.2.2.1 mMo_records.2.2.2.2.2 = true := by decide +kernel
set_option maxRecDepth 100000 in
theorem mMo_entries_c : ri_cks mMo_entries.2.2.1 mMo_entries.2.2.2.2.2 = true := by decide +kernel
set_option maxRecDepth 100000 in
theorem mMo_goesTo_c : ri_cks mMo_goesTo.2.2.1 mMo_goesTo.2.2.2.2.2 = true := by decide +kernel
set_option maxRecDepth 100000 in
theorem mMo_finds_c : ri_cks mMo_finds.2.2.1 mMo_finds.2.2.2.2.2 = true := by decide +kernel
set_option maxRecDepth 100000 in
theorem mMo_next_c : ri_cks mMo_next.2.2.1 mMo_next.2.2.2.2.2 = true := by decide +kernel
set_option maxRecDepth 100000 in
theorem mMo_deeper_c : ri_cks mMo_deeper.2.2.1 mMo_deeper.2.2.2.2.2 = true := by decide +kernel
set_option maxRecDepth 100000 in
theorem mMo_entry_c : ri_cks mMo_entry.2.2.1 mMo_entry.2.2.2.2.2 = true := by decide +kernel
set_option maxRecDepth 100000 in
theorem mMo_assemble_c : ri_cks mMo_assemble.2.2.1 mMo_assemble.2.2.2.2.2 = true := by decide +kernel
set_option maxRecDepth 100000 in
theorem mMo_wants_c : ri_cks mMo_wants.2.2.1 mMo_wants.2.2.2.2.2 = true := by decide +kernel
set_option maxRecDepth 100000 in
theorem mMo_tells_c : ri_cks mMo_tells.2.2.1 mMo_tells.2.2.2.2.2 = true := by decide +kernel
set_option maxRecDepth 100000 in
theorem mMo_event_c : ri_cks mMo_event.2.2.1 mMo_event.2.2.2.2.2 = true := by decide +kernel
set_option maxRecDepth 100000 in
theorem mLa_law_c : ri_cks mLa_law.2.2.1 mLa_law.2.2.2.2.2 = true := by decide +kernel
set_option maxRecDepth 100000 in
theorem mSt_init_k : ri_okM mSt_init := ⟨ri_cks_ok mSt_init_c, rfl, by decide +kernel, rt_in 44 rfl rfl, by decide⟩
set_option maxRecDepth 100000 in
theorem mSc_init_k : ri_okM mSc_init := ⟨ri_cks_ok mSc_init_c, rfl, by decide +kernel, rt_in 52 rfl rfl, by decide⟩
set_option maxRecDepth 100000 in
theorem mDr_init_k : ri_okM mDr_init := ⟨ri_cks_ok mDr_init_c, rfl, by decide +kernel, rt_in 96 rfl rfl, by decide⟩
set_option maxRecDepth 100000 in
theorem mEv_init_k : ri_okM mEv_init := ⟨ri_cks_ok mEv_init_c, rfl, by decide +kernel, rt_in 127 rfl rfl, by decide⟩
set_option maxRecDepth 100000 in
theorem mCo_init_k : ri_okM mCo_init := ⟨ri_cks_ok mCo_init_c, rfl, by decide +kernel, rt_in 141 rfl rfl, by decide⟩
set_option maxRecDepth 100000 in
theorem mSt_field_k : ri_okM mSt_field := ⟨ri_cks_ok mSt_field_c, rfl, by decide +kernel, rt_in 186 rfl rfl, by decide⟩
set_option maxRecDepth 100000 in
theorem mSc_add_k : ri_okM mSc_add := ⟨ri_cks_ok mSc_add_c, rfl, by decide +kernel, rt_in 190 rfl rfl, by decide⟩
set_option maxRecDepth 100000 in
theorem mSc_mayHold_k : ri_okM mSc_mayHold := ⟨ri_cks_ok mSc_mayHold_c, rfl, by decide +kernel, rt_in 194 rfl rfl, by decide⟩
set_option maxRecDepth 100000 in
theorem mSc_isGroup_k : ri_okM mSc_isGroup := ⟨ri_cks_ok mSc_isGroup_c, rfl, by decide +kernel, rt_in 198 rfl rfl, by decide⟩
set_option maxRecDepth 100000 in
theorem mSc_has_k : ri_okM mSc_has := ⟨ri_cks_ok mSc_has_c, rfl, by decide +kernel, rt_in 202 rfl rfl, by decide⟩
set_option maxRecDepth 100000 in
theorem mSc_depthOf_k : ri_okM mSc_depthOf := ⟨ri_cks_ok mSc_depthOf_c, rfl, by decide +kernel, rt_in 206 rfl rfl, by decide⟩
set_option maxRecDepth 100000 in
theorem mSc_repetitionOf_k : ri_okM mSc_repetitionOf := ⟨ri_cks_ok mSc_repetitionOf_c, rfl, by decide +kernel, rt_in 210 rfl rfl, by decide⟩
set_option maxRecDepth 100000 in
theorem mSc_definitionOf_k : ri_okM mSc_definitionOf := ⟨ri_cks_ok mSc_definitionOf_c, rfl, by decide +kernel, rt_in 214 rfl rfl, by decide⟩
set_option maxRecDepth 100000 in
theorem mSc_stretch_k : ri_okM mSc_stretch := ⟨ri_cks_ok mSc_stretch_c, rfl, by decide +kernel, rt_in 218 rfl rfl, by decide⟩
set_option maxRecDepth 100000 in
theorem mSt_ready_k : ri_okM mSt_ready := ⟨ri_cks_ok mSt_ready_c, rfl, by decide +kernel, rt_in 222 rfl rfl, by decide⟩
set_option maxRecDepth 100000 in
theorem mSc_settle_k : ri_okM mSc_settle := ⟨ri_cks_ok mSc_settle_c, rfl, by decide +kernel, rt_in 226 rfl rfl, by decide⟩
set_option maxRecDepth 100000 in
theorem mSt_begin_k : ri_okM mSt_begin := ⟨ri_cks_ok mSt_begin_c, rfl, by decide +kernel, rt_in 230 rfl rfl, by decide⟩
set_option maxRecDepth 100000 in
theorem mDr_start_k : ri_okM mDr_start := ⟨ri_cks_ok mDr_start_c, rfl, by decide +kernel, rt_in 234 rfl rfl, by decide⟩
set_option maxRecDepth 100000 in
theorem mDr_clear_k : ri_okM mDr_clear := ⟨ri_cks_ok mDr_clear_c, rfl, by decide +kernel, rt_in 238 rfl rfl, by decide⟩
set_option maxRecDepth 100000 in
theorem mSt_open_k : ri_okM mSt_open := ⟨ri_cks_ok mSt_open_c, rfl, by decide +kernel, rt_in 242 rfl rfl, by decide⟩
set_option maxRecDepth 100000 in
theorem mSt_mayCome_k : ri_okM mSt_mayCome := ⟨ri_cks_ok mSt_mayCome_c, rfl, by decide +kernel, rt_in 247 rfl rfl, by decide⟩
set_option maxRecDepth 100000 in
theorem mSc_parentOf_k : ri_okM mSc_parentOf := ⟨ri_cks_ok mSc_parentOf_c, rfl, by decide +kernel, rt_in 251 rfl rfl, by decide⟩
set_option maxRecDepth 100000 in
theorem mDr_group_k : ri_okM mDr_group := ⟨ri_cks_ok mDr_group_c, rfl, by decide +kernel, rt_in 255 rfl rfl, by decide⟩
set_option maxRecDepth 100000 in
theorem mDr_newest_k : ri_okM mDr_newest := ⟨ri_cks_ok mDr_newest_c, rfl, by decide +kernel, rt_in 259 rfl rfl, by decide⟩
set_option maxRecDepth 100000 in
theorem mSc_kindOf_k : ri_okM mSc_kindOf := ⟨ri_cks_ok mSc_kindOf_c, rfl, by decide +kernel, rt_in 263 rfl rfl, by decide⟩
set_option maxRecDepth 100000 in
theorem mSc_requires_k : ri_okM mSc_requires := ⟨ri_cks_ok mSc_requires_c, rfl, by decide +kernel, rt_in 267 rfl rfl, by decide⟩
set_option maxRecDepth 100000 in
theorem mDr_add_k : ri_okM mDr_add := ⟨ri_cks_ok mDr_add_c, rfl, by decide +kernel, rt_in 272 rfl rfl, by decide⟩
set_option maxRecDepth 100000 in
theorem mSt_withRoom_k : ri_okM mSt_withRoom := ⟨ri_cks_ok mSt_withRoom_c, rfl, by decide +kernel, rt_in 275 rfl rfl, by decide⟩
set_option maxRecDepth 100000 in
theorem mAr_copyOf_k : ri_okM mAr_copyOf := ⟨ri_cks_ok mAr_copyOf_c, rfl, by decide +kernel, rt_in 279 rfl rfl, by decide⟩
set_option maxRecDepth 100000 in
theorem mDr_enter_k : ri_okM mDr_enter := ⟨ri_cks_ok mDr_enter_c, rfl, by decide +kernel, rt_in 296 rfl rfl, by decide⟩
set_option maxRecDepth 100000 in
theorem mSt_leaf_k : ri_okM mSt_leaf := ⟨ri_cks_ok mSt_leaf_c, rfl, by decide +kernel, rt_in 300 rfl rfl, by decide⟩
set_option maxRecDepth 100000 in
theorem mSc_isLeaf_k : ri_okM mSc_isLeaf := ⟨ri_cks_ok mSc_isLeaf_c, rfl, by decide +kernel, rt_in 304 rfl rfl, by decide⟩
set_option maxRecDepth 100000 in
theorem mSt_close_k : ri_okM mSt_close := ⟨ri_cks_ok mSt_close_c, rfl, by decide +kernel, rt_in 308 rfl rfl, by decide⟩
set_option maxRecDepth 100000 in
theorem mSc_endOf_k : ri_okM mSc_endOf := ⟨ri_cks_ok mSc_endOf_c, rfl, by decide +kernel, rt_in 312 rfl rfl, by decide⟩
set_option maxRecDepth 100000 in
theorem mDr_leave_k : ri_okM mDr_leave := ⟨ri_cks_ok mDr_leave_c, rfl, by decide +kernel, rt_in 316 rfl rfl, by decide⟩
set_option maxRecDepth 100000 in
theorem mSt_keepRecord_k : ri_okM mSt_keepRecord := ⟨ri_cks_ok mSt_keepRecord_c, rfl, by decide +kernel, rt_in 320 rfl rfl, by decide⟩
set_option maxRecDepth 100000 in
theorem mSt_takeFields_k : ri_okM mSt_takeFields := ⟨ri_cks_ok mSt_takeFields_c, rfl, by decide +kernel, rt_in 324 rfl rfl, by decide⟩
set_option maxRecDepth 100000 in
theorem mSt_takeField_k : ri_okM mSt_takeField := ⟨ri_cks_ok mSt_takeField_c, rfl, by decide +kernel, rt_in 328 rfl rfl, by decide⟩
set_option maxRecDepth 100000 in
theorem mDr_fieldAt_k : ri_okM mDr_fieldAt := ⟨ri_cks_ok mDr_fieldAt_c, rfl, by decide +kernel, rt_in 332 rfl rfl, by decide⟩
set_option maxRecDepth 100000 in
theorem mSt_addEmptyEntries_k : ri_okM mSt_addEmptyEntries := ⟨ri_cks_ok mSt_addEmptyEntries_c, rfl, by decide +kernel, rt_in 336 rfl rfl, by decide⟩
set_option maxRecDepth 100000 in
theorem mSc_columnsIn_k : ri_okM mSc_columnsIn := ⟨ri_cks_ok mSc_columnsIn_c, rfl, by decide +kernel, rt_in 341 rfl rfl, by decide⟩
set_option maxRecDepth 100000 in
theorem mSt_holds_k : ri_okM mSt_holds := ⟨ri_cks_ok mSt_holds_c, rfl, by decide +kernel, rt_in 344 rfl rfl, by decide⟩
set_option maxRecDepth 100000 in
theorem mCo_add_k : ri_okM mCo_add := ⟨ri_cks_ok mCo_add_c, rfl, by decide +kernel, rt_in 348 rfl rfl, by decide⟩
set_option maxRecDepth 100000 in
theorem mCo_has_k : ri_okM mCo_has := ⟨ri_cks_ok mCo_has_c, rfl, by decide +kernel, rt_in 352 rfl rfl, by decide⟩
set_option maxRecDepth 100000 in
theorem mSt_takeOccurrence_k : ri_okM mSt_takeOccurrence := ⟨ri_cks_ok mSt_takeOccurrence_c, rfl, by decide +kernel, rt_in 357 rfl rfl, by decide⟩
set_option maxRecDepth 100000 in
theorem mDr_valueAt_k : ri_okM mDr_valueAt := ⟨ri_cks_ok mDr_valueAt_c, rfl, by decide +kernel, rt_in 361 rfl rfl, by decide⟩
set_option maxRecDepth 100000 in
theorem mSc_columnOf_k : ri_okM mSc_columnOf := ⟨ri_cks_ok mSc_columnOf_c, rfl, by decide +kernel, rt_in 365 rfl rfl, by decide⟩
set_option maxRecDepth 100000 in
theorem mSt_drop_k : ri_okM mSt_drop := ⟨ri_cks_ok mSt_drop_c, rfl, by decide +kernel, rt_in 371 rfl rfl, by decide⟩
set_option maxRecDepth 100000 in
theorem mSt_records_k : ri_okM mSt_records := ⟨ri_cks_ok mSt_records_c, rfl, by decide +kernel, rt_in 375 rfl rfl, by decide⟩
set_option maxRecDepth 100000 in
theorem mSt_level_k : ri_okM mSt_level := ⟨ri_cks_ok mSt_level_c, rfl, by decide +kernel, rt_in 379 rfl rfl, by decide⟩
set_option maxRecDepth 100000 in
theorem mSt_entries_k : ri_okM mSt_entries := ⟨ri_cks_ok mSt_entries_c, rfl, by decide +kernel, rt_in 384 rfl rfl, by decide⟩
set_option maxRecDepth 100000 in
theorem mCo_sizeOf_k : ri_okM mCo_sizeOf := ⟨ri_cks_ok mCo_sizeOf_c, rfl, by decide +kernel, rt_in 388 rfl rfl, by decide⟩
set_option maxRecDepth 100000 in
theorem mSt_entry_k : ri_okM mSt_entry := ⟨ri_cks_ok mSt_entry_c, rfl, by decide +kernel, rt_in 392 rfl rfl, by decide⟩
set_option maxRecDepth 100000 in
theorem mCo_read_k : ri_okM mCo_read := ⟨ri_cks_ok mCo_read_c, rfl, by decide +kernel, rt_in 396 rfl rfl, by decide⟩
set_option maxRecDepth 100000 in
theorem mSt_assemble_k : ri_okM mSt_assemble := ⟨ri_cks_ok mSt_assemble_c, rfl, by decide +kernel, rt_in 400 rfl rfl, by decide⟩
set_option maxRecDepth 100000 in
theorem mEv_clear_k : ri_okM mEv_clear := ⟨ri_cks_ok mEv_clear_c, rfl, by decide +kernel, rt_in 404 rfl rfl, by decide⟩
set_option maxRecDepth 100000 in
theorem mSt_seek_k : ri_okM mSt_seek := ⟨ri_cks_ok mSt_seek_c, rfl, by decide +kernel, rt_in 410 rfl rfl, by decide⟩
set_option maxRecDepth 100000 in
theorem mCo_startOf_k : ri_okM mCo_startOf := ⟨ri_cks_ok mCo_startOf_c, rfl, by decide +kernel, rt_in 414 rfl rfl, by decide⟩
set_option maxRecDepth 100000 in
theorem mSt_putFields_k : ri_okM mSt_putFields := ⟨ri_cks_ok mSt_putFields_c, rfl, by decide +kernel, rt_in 420 rfl rfl, by decide⟩
set_option maxRecDepth 100000 in
theorem mSt_putField_k : ri_okM mSt_putField := ⟨ri_cks_ok mSt_putField_c, rfl, by decide +kernel, rt_in 424 rfl rfl, by decide⟩
set_option maxRecDepth 100000 in
theorem mSt_lowestOf_k : ri_okM mSt_lowestOf := ⟨ri_cks_ok mSt_lowestOf_c, rfl, by decide +kernel, rt_in 427 rfl rfl, by decide⟩
set_option maxRecDepth 100000 in
theorem mSt_peek_k : ri_okM mSt_peek := ⟨ri_cks_ok mSt_peek_c, rfl, by decide +kernel, rt_in 431 rfl rfl, by decide⟩
set_option maxRecDepth 100000 in
theorem mSt_isCursor_k : ri_okM mSt_isCursor := ⟨ri_cks_ok mSt_isCursor_c, rfl, by decide +kernel, rt_in 435 rfl rfl, by decide⟩
set_option maxRecDepth 100000 in
theorem mSt_passEmptyEntries_k : ri_okM mSt_passEmptyEntries := ⟨ri_cks_ok mSt_passEmptyEntries_c, rfl, by decide +kernel, rt_in 439 rfl rfl, by decide⟩
set_option maxRecDepth 100000 in
theorem mSt_pass_k : ri_okM mSt_pass := ⟨ri_cks_ok mSt_pass_c, rfl, by decide +kernel, rt_in 443 rfl rfl, by decide⟩
set_option maxRecDepth 100000 in
theorem mSt_putOccurrence_k : ri_okM mSt_putOccurrence := ⟨ri_cks_ok mSt_putOccurrence_c, rfl, by decide +kernel, rt_in 447 rfl rfl, by decide⟩
set_option maxRecDepth 100000 in
theorem mEv_add_k : ri_okM mEv_add := ⟨ri_cks_ok mEv_add_c, rfl, by decide +kernel, rt_in 451 rfl rfl, by decide⟩
set_option maxRecDepth 100000 in
theorem mSt_comesAgain_k : ri_okM mSt_comesAgain := ⟨ri_cks_ok mSt_comesAgain_c, rfl, by decide +kernel, rt_in 456 rfl rfl, by decide⟩
set_option maxRecDepth 100000 in
theorem mSt_event_k : ri_okM mSt_event := ⟨ri_cks_ok mSt_event_c, rfl, by decide +kernel, rt_in 460 rfl rfl, by decide⟩
set_option maxRecDepth 100000 in
theorem mEv_read_k : ri_okM mEv_read := ⟨ri_cks_ok mEv_read_c, rfl, by decide +kernel, rt_in 464 rfl rfl, by decide⟩
set_option maxRecDepth 100000 in
theorem mMo_init_k : ri_okM mMo_init := ⟨ri_cks_ok mMo_init_c, rfl, by decide +kernel, rt_in 469 rfl rfl, by decide⟩
set_option maxRecDepth 100000 in
theorem mMo_field_k : ri_okM mMo_field := ⟨ri_cks_ok mMo_field_c, rfl, by decide +kernel, rt_in 551 rfl rfl, by decide⟩
set_option maxRecDepth 100000 in
theorem mMo_isAround_k : ri_okM mMo_isAround := ⟨ri_cks_ok mMo_isAround_c, rfl, by decide +kernel, rt_in 555 rfl rfl, by decide⟩
set_option maxRecDepth 100000 in
theorem mMo_ready_k : ri_okM mMo_ready := ⟨ri_cks_ok mMo_ready_c, rfl, by decide +kernel, rt_in 559 rfl rfl, by decide⟩
set_option maxRecDepth 100000 in
theorem mMo_columns_k : ri_okM mMo_columns := ⟨ri_cks_ok mMo_columns_c, rfl, by decide +kernel, rt_in 563 rfl rfl, by decide⟩
set_option maxRecDepth 100000 in
theorem mMo_level_k : ri_okM mMo_level := ⟨ri_cks_ok mMo_level_c, rfl, by decide +kernel, rt_in 567 rfl rfl, by decide⟩
set_option maxRecDepth 100000 in
theorem mMo_isField_k : ri_okM mMo_isField := ⟨ri_cks_ok mMo_isField_c, rfl, by decide +kernel, rt_in 571 rfl rfl, by decide⟩
set_option maxRecDepth 100000 in
theorem mMo_count_k : ri_okM mMo_count := ⟨ri_cks_ok mMo_count_c, rfl, by decide +kernel, rt_in 575 rfl rfl, by decide⟩
set_option maxRecDepth 100000 in
theorem mMo_columnOf_k : ri_okM mMo_columnOf := ⟨ri_cks_ok mMo_columnOf_c, rfl, by decide +kernel, rt_in 579 rfl rfl, by decide⟩
set_option maxRecDepth 100000 in
theorem mMo_begin_k : ri_okM mMo_begin := ⟨ri_cks_ok mMo_begin_c, rfl, by decide +kernel, rt_in 583 rfl rfl, by decide⟩
set_option maxRecDepth 100000 in
theorem mMo_open_k : ri_okM mMo_open := ⟨ri_cks_ok mMo_open_c, rfl, by decide +kernel, rt_in 587 rfl rfl, by decide⟩
set_option maxRecDepth 100000 in
theorem mMo_comes_k : ri_okM mMo_comes := ⟨ri_cks_ok mMo_comes_c, rfl, by decide +kernel, rt_in 591 rfl rfl, by decide⟩
set_option maxRecDepth 100000 in
theorem mMo_has_k : ri_okM mMo_has := ⟨ri_cks_ok mMo_has_c, rfl, by decide +kernel, rt_in 595 rfl rfl, by decide⟩
set_option maxRecDepth 100000 in
theorem mMo_leaf_k : ri_okM mMo_leaf := ⟨ri_cks_ok mMo_leaf_c, rfl, by decide +kernel, rt_in 599 rfl rfl, by decide⟩
set_option maxRecDepth 100000 in
theorem mMo_close_k : ri_okM mMo_close := ⟨ri_cks_ok mMo_close_c, rfl, by decide +kernel, rt_in 603 rfl rfl, by decide⟩
set_option maxRecDepth 100000 in
theorem mMo_drop_k : ri_okM mMo_drop := ⟨ri_cks_ok mMo_drop_c, rfl, by decide +kernel, rt_in 607 rfl rfl, by decide⟩
set_option maxRecDepth 100000 in
theorem mMo_records_k : ri_okM mMo_records := ⟨ri_cks_ok mMo_records_c, rfl, by decide +kernel, rt_in 611 rfl rfl, by decide⟩
set_option maxRecDepth 100000 in
theorem mMo_entries_k : ri_okM mMo_entries := ⟨ri_cks_ok mMo_entries_c, rfl, by decide +kernel, rt_in 615 rfl rfl, by decide⟩
set_option maxRecDepth 100000 in
theorem mMo_goesTo_k : ri_okM mMo_goesTo := ⟨ri_cks_ok mMo_goesTo_c, rfl, by decide +kernel, rt_in 619 rfl rfl, by decide⟩
set_option maxRecDepth 100000 in
theorem mMo_finds_k : ri_okM mMo_finds := ⟨ri_cks_ok mMo_finds_c, rfl, by decide +kernel, rt_in 623 rfl rfl, by decide⟩
set_option maxRecDepth 100000 in
theorem mMo_next_k : ri_okM mMo_next := ⟨ri_cks_ok mMo_next_c, rfl, by decide +kernel, rt_in 627 rfl rfl, by decide⟩
set_option maxRecDepth 100000 in
theorem mMo_deeper_k : ri_okM mMo_deeper := ⟨ri_cks_ok mMo_deeper_c, rfl, by decide +kernel, rt_in 631 rfl rfl, by decide⟩
set_option maxRecDepth 100000 in
theorem mMo_entry_k : ri_okM mMo_entry := ⟨ri_cks_ok mMo_entry_c, rfl, by decide +kernel, rt_in 635 rfl rfl, by decide⟩
set_option maxRecDepth 100000 in
theorem mMo_assemble_k : ri_okM mMo_assemble := ⟨ri_cks_ok mMo_assemble_c, rfl, by decide +kernel, rt_in 639 rfl rfl, by decide⟩
set_option maxRecDepth 100000 in
theorem mMo_wants_k : ri_okM mMo_wants := ⟨ri_cks_ok mMo_wants_c, rfl, by decide +kernel, rt_in 643 rfl rfl, by decide⟩
set_option maxRecDepth 100000 in
theorem mMo_tells_k : ri_okM mMo_tells := ⟨ri_cks_ok mMo_tells_c, rfl, by decide +kernel, rt_in 647 rfl rfl, by decide⟩
set_option maxRecDepth 100000 in
theorem mMo_event_k : ri_okM mMo_event := ⟨ri_cks_ok mMo_event_c, rfl, by decide +kernel, rt_in 651 rfl rfl, by decide⟩
