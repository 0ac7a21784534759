/-! Calls (written by gen03.py). Kinds: 0 virtual, 1 static, 2 constructor; 4 a nest mate's private static, 5 a nest mate's private constructor -/
def rt_cL : List (Nat × Nat × Nat × ri_M × Nat) := [(4, 9, 5, mSc_init, 0), (4, 18, 5, mDr_init, 0), (4, 25, 5, mEv_init, 0), (4, 36, 2, mCo_init, 1), (4, 43, 0, mSc_add, 3), (4, 47, 0, mSc_settle, 0), (4, 65, 0, mDr_start, 0), (4, 68, 0, mSc_isGroup, 1), (4, 72, 0, mSt_mayCome, 1), (4, 75, 0, mDr_add, 2), (4, 78, 0, mDr_enter, 1), (4, 81, 0, mSc_isLeaf, 1), (4, 84, 0, mDr_group, 0), (4, 88, 0, mDr_newest, 0), (4, 91, 0, mSc_endOf, 1), (4, 95, 0, mSc_requires, 3), (4, 102, 0, mDr_leave, 0), (4, 105, 0, mSt_keepRecord, 0), (4, 108, 0, mDr_clear, 0), (4, 111, 0, mSc_has, 1), (4, 114, 0, mSc_repetitionOf, 1), (4, 117, 0, mSc_definitionOf, 1), (4, 120, 0, mSc_columnOf, 1), (4, 123, 0, mCo_sizeOf, 1), (4, 126, 0, mCo_read, 3), (4, 130, 0, mEv_clear, 0), (4, 139, 0, mSt_seek, 1), (4, 142, 0, mSt_putFields, 2), (4, 148, 0, mEv_read, 2), (4, 151, 0, mSc_parentOf, 1), (4, 158, 0, mSc_kindOf, 1), (4, 164, 0, mSt_takeFields, 3), (4, 168, 0, mSt_takeField, 3), (4, 171, 0, mDr_fieldAt, 1), (4, 174, 0, mSt_addEmptyEntries, 2), (4, 177, 0, mSt_takeOccurrence, 3), (4, 180, 0, mDr_valueAt, 1), (4, 183, 0, mCo_add, 4), (4, 186, 0, mSc_columnsIn, 1), (4, 190, 1, mSt_holds, 2), (4, 194, 0, mCo_startOf, 2), (4, 197, 0, mSt_putField, 2), (4, 200, 1, mSt_lowestOf, 1), (4, 204, 0, mSt_peek, 2), (4, 207, 0, mSt_passEmptyEntries, 1), (4, 211, 0, mSt_putOccurrence, 2), (4, 214, 0, mSt_comesAgain, 2), (4, 218, 0, mEv_add, 2), (4, 219, 0, mSt_pass, 1), (4, 222, 0, mSt_isCursor, 1), (4, 230, 1, mAr_copyOf, 2), (0, 26, 0, mCo_has, 1), (0, 30, 4, mSt_withRoom, 2), (0, 34, 0, mCo_sizeOf, 1), (0, 38, 0, mCo_read, 3), (1, 24, 0, mDr_clear, 0), (1, 38, 4, mSt_withRoom, 2), (2, 19, 4, mSt_withRoom, 2), (3, 45, 0, mSc_mayHold, 1), (3, 49, 0, mSc_depthOf, 1), (3, 53, 0, mSc_repetitionOf, 1), (3, 56, 0, mSc_definitionOf, 1), (3, 62, 0, mSc_stretch, 2), (3, 66, 0, mSc_isGroup, 1), (3, 69, 0, mSc_has, 1), (6, 9, 2, mSt_init, 0), (6, 12, 2, mMo_init, 0), (6, 13, 0, mSt_field, 3), (6, 17, 0, mMo_field, 3), (6, 18, 0, mSt_ready, 0), (6, 22, 0, mMo_ready, 0), (6, 23, 0, mSt_begin, 0), (6, 27, 0, mMo_begin, 0), (6, 28, 0, mSt_open, 1), (6, 32, 0, mMo_open, 1), (6, 33, 0, mSt_leaf, 2), (6, 37, 0, mMo_leaf, 2), (6, 38, 0, mSt_close, 0), (6, 41, 0, mMo_close, 0), (6, 42, 0, mSt_drop, 0), (6, 45, 0, mMo_drop, 0), (6, 46, 0, mSt_records, 0), (6, 49, 0, mMo_records, 0), (6, 50, 0, mSt_level, 2), (6, 54, 0, mMo_level, 2), (6, 55, 0, mSt_entries, 1), (6, 59, 0, mMo_entries, 1), (6, 60, 0, mSt_entry, 3), (6, 64, 0, mMo_entry, 3), (6, 65, 0, mSt_assemble, 3), (6, 68, 0, mMo_assemble, 3), (6, 69, 0, mSt_event, 2), (6, 72, 0, mMo_event, 2), (5, 61, 0, mMo_isAround, 1), (5, 65, 0, mMo_columns, 0), (5, 69, 0, mMo_isField, 1), (5, 72, 0, mMo_count, 2), (5, 76, 0, mMo_columnOf, 1), (5, 89, 0, mMo_has, 1), (5, 92, 0, mMo_comes, 3), (5, 99, 0, mMo_next, 3), (5, 106, 0, mMo_deeper, 2), (5, 118, 0, mMo_goesTo, 1), (5, 121, 0, mMo_finds, 1), (5, 127, 0, mMo_wants, 2), (5, 131, 0, mMo_tells, 2)]
def rt_c (ci k : Nat) : Option (Nat × ri_M × Nat) := rt_lk ci k rt_cL
def rt_cP (x : Nat × Nat × Nat × ri_M × Nat) : Prop := match x with
  | (ci, k, kd, M', n) => ri_okM M' ∧ Cond.initialized M'.2.1.cls ∈ rt_tbl ∧ (M'.2.1.cls ≠ "java/lang/invoke/MethodHandle" ∧ M'.2.1.cls ≠ "java/lang/invoke/VarHandle") ∧ (parseMethodDescriptor M'.2.1.desc).map (fun d => d.parameters.length) = some n ∧ (match kd with
    | 0 => ∃ (T : u_T) (N : Nat), vwCl[M'.1]? = some (M'.2.1.cls, T, N) ∧ Cond.methodLink (rt_cn ci) k M'.2.1 ∈ rt_tbl ∧ Cond.instanceMethod M'.2.1 ∈ rt_tbl ∧ Cond.selects M'.2.1.cls M'.2.1 M'.2.1 ∈ rt_tbl
    | 1 => Cond.methodLink (rt_cn ci) k M'.2.1 ∈ rt_tbl ∧ Cond.static M'.2.1 ∈ rt_tbl
    | 2 => Cond.methodLink (rt_cn ci) k M'.2.1 ∈ rt_tbl ∧ Cond.instanceMethod M'.2.1 ∈ rt_tbl ∧ M'.2.1.name = "<init>" ∧ M'.2.2.2.2.1 = none
    | 4 => (∃ host, Cond.methodLinkNest (rt_cn ci) k M'.2.1 host ∈ rt_sd) ∧ Cond.static M'.2.1 ∈ rt_tbl
    | 5 => (∃ host, Cond.methodLinkNest (rt_cn ci) k M'.2.1 host ∈ rt_sd) ∧ Cond.instanceMethod M'.2.1 ∈ rt_tbl ∧ M'.2.1.name = "<init>" ∧ M'.2.2.2.2.1 = none
    | _ => True)
set_option maxRecDepth 100000 in
theorem rt_c_0 : rt_cP (4, 9, 5, mSc_init, 0) := ⟨mSc_init_k, rt_in 32 rfl rfl, ⟨by decide +kernel, by decide +kernel⟩, by decide +kernel, ⟨⟨"Striping", rt_inN 50 rfl rfl⟩, rt_in 51 rfl rfl, rfl, rfl⟩⟩
set_option maxRecDepth 100000 in
theorem rt_c_1 : rt_cP (4, 18, 5, mDr_init, 0) := ⟨mDr_init_k, rt_in 33 rfl rfl, ⟨by decide +kernel, by decide +kernel⟩, by decide +kernel, ⟨⟨"Striping", rt_inN 94 rfl rfl⟩, rt_in 95 rfl rfl, rfl, rfl⟩⟩
set_option maxRecDepth 100000 in
theorem rt_c_2 : rt_cP (4, 25, 5, mEv_init, 0) := ⟨mEv_init_k, rt_in 34 rfl rfl, ⟨by decide +kernel, by decide +kernel⟩, by decide +kernel, ⟨⟨"Striping", rt_inN 125 rfl rfl⟩, rt_in 126 rfl rfl, rfl, rfl⟩⟩
set_option maxRecDepth 100000 in
theorem rt_c_3 : rt_cP (4, 36, 2, mCo_init, 1) := ⟨mCo_init_k, rt_in 35 rfl rfl, ⟨by decide +kernel, by decide +kernel⟩, by decide +kernel, ⟨rt_in 139 rfl rfl, rt_in 140 rfl rfl, rfl, rfl⟩⟩
set_option maxRecDepth 100000 in
theorem rt_c_4 : rt_cP (4, 43, 0, mSc_add, 3) := ⟨mSc_add_k, rt_in 32 rfl rfl, ⟨by decide +kernel, by decide +kernel⟩, by decide +kernel, ⟨_, _, rfl, rt_in 187 rfl rfl, rt_in 188 rfl rfl, rt_in 189 rfl rfl⟩⟩
set_option maxRecDepth 100000 in
theorem rt_c_5 : rt_cP (4, 47, 0, mSc_settle, 0) := ⟨mSc_settle_k, rt_in 32 rfl rfl, ⟨by decide +kernel, by decide +kernel⟩, by decide +kernel, ⟨_, _, rfl, rt_in 223 rfl rfl, rt_in 224 rfl rfl, rt_in 225 rfl rfl⟩⟩
set_option maxRecDepth 100000 in
theorem rt_c_6 : rt_cP (4, 65, 0, mDr_start, 0) := ⟨mDr_start_k, rt_in 33 rfl rfl, ⟨by decide +kernel, by decide +kernel⟩, by decide +kernel, ⟨_, _, rfl, rt_in 231 rfl rfl, rt_in 232 rfl rfl, rt_in 233 rfl rfl⟩⟩
set_option maxRecDepth 100000 in
theorem rt_c_7 : rt_cP (4, 68, 0, mSc_isGroup, 1) := ⟨mSc_isGroup_k, rt_in 32 rfl rfl, ⟨by decide +kernel, by decide +kernel⟩, by decide +kernel, ⟨_, _, rfl, rt_in 243 rfl rfl, rt_in 196 rfl rfl, rt_in 197 rfl rfl⟩⟩
set_option maxRecDepth 100000 in
theorem rt_c_8 : rt_cP (4, 72, 0, mSt_mayCome, 1) := ⟨mSt_mayCome_k, rt_in 31 rfl rfl, ⟨by decide +kernel, by decide +kernel⟩, by decide +kernel, ⟨_, _, rfl, rt_in 244 rfl rfl, rt_in 246 rfl rfl, rt_in 2 rfl rfl⟩⟩
set_option maxRecDepth 100000 in
theorem rt_c_9 : rt_cP (4, 75, 0, mDr_add, 2) := ⟨mDr_add_k, rt_in 33 rfl rfl, ⟨by decide +kernel, by decide +kernel⟩, by decide +kernel, ⟨_, _, rfl, rt_in 269 rfl rfl, rt_in 270 rfl rfl, rt_in 271 rfl rfl⟩⟩
set_option maxRecDepth 100000 in
theorem rt_c_10 : rt_cP (4, 78, 0, mDr_enter, 1) := ⟨mDr_enter_k, rt_in 33 rfl rfl, ⟨by decide +kernel, by decide +kernel⟩, by decide +kernel, ⟨_, _, rfl, rt_in 293 rfl rfl, rt_in 294 rfl rfl, rt_in 295 rfl rfl⟩⟩
set_option maxRecDepth 100000 in
theorem rt_c_11 : rt_cP (4, 81, 0, mSc_isLeaf, 1) := ⟨mSc_isLeaf_k, rt_in 32 rfl rfl, ⟨by decide +kernel, by decide +kernel⟩, by decide +kernel, ⟨_, _, rfl, rt_in 301 rfl rfl, rt_in 302 rfl rfl, rt_in 303 rfl rfl⟩⟩
set_option maxRecDepth 100000 in
theorem rt_c_12 : rt_cP (4, 84, 0, mDr_group, 0) := ⟨mDr_group_k, rt_in 33 rfl rfl, ⟨by decide +kernel, by decide +kernel⟩, by decide +kernel, ⟨_, _, rfl, rt_in 252 rfl rfl, rt_in 253 rfl rfl, rt_in 254 rfl rfl⟩⟩
set_option maxRecDepth 100000 in
theorem rt_c_13 : rt_cP (4, 88, 0, mDr_newest, 0) := ⟨mDr_newest_k, rt_in 33 rfl rfl, ⟨by decide +kernel, by decide +kernel⟩, by decide +kernel, ⟨_, _, rfl, rt_in 256 rfl rfl, rt_in 257 rfl rfl, rt_in 258 rfl rfl⟩⟩
set_option maxRecDepth 100000 in
theorem rt_c_14 : rt_cP (4, 91, 0, mSc_endOf, 1) := ⟨mSc_endOf_k, rt_in 32 rfl rfl, ⟨by decide +kernel, by decide +kernel⟩, by decide +kernel, ⟨_, _, rfl, rt_in 309 rfl rfl, rt_in 310 rfl rfl, rt_in 311 rfl rfl⟩⟩
set_option maxRecDepth 100000 in
theorem rt_c_15 : rt_cP (4, 95, 0, mSc_requires, 3) := ⟨mSc_requires_k, rt_in 32 rfl rfl, ⟨by decide +kernel, by decide +kernel⟩, by decide +kernel, ⟨_, _, rfl, rt_in 264 rfl rfl, rt_in 265 rfl rfl, rt_in 266 rfl rfl⟩⟩
set_option maxRecDepth 100000 in
theorem rt_c_16 : rt_cP (4, 102, 0, mDr_leave, 0) := ⟨mDr_leave_k, rt_in 33 rfl rfl, ⟨by decide +kernel, by decide +kernel⟩, by decide +kernel, ⟨_, _, rfl, rt_in 313 rfl rfl, rt_in 314 rfl rfl, rt_in 315 rfl rfl⟩⟩
set_option maxRecDepth 100000 in
theorem rt_c_17 : rt_cP (4, 105, 0, mSt_keepRecord, 0) := ⟨mSt_keepRecord_k, rt_in 31 rfl rfl, ⟨by decide +kernel, by decide +kernel⟩, by decide +kernel, ⟨_, _, rfl, rt_in 317 rfl rfl, rt_in 319 rfl rfl, rt_in 3 rfl rfl⟩⟩
set_option maxRecDepth 100000 in
theorem rt_c_18 : rt_cP (4, 108, 0, mDr_clear, 0) := ⟨mDr_clear_k, rt_in 33 rfl rfl, ⟨by decide +kernel, by decide +kernel⟩, by decide +kernel, ⟨_, _, rfl, rt_in 367 rfl rfl, rt_in 236 rfl rfl, rt_in 237 rfl rfl⟩⟩
set_option maxRecDepth 100000 in
theorem rt_c_19 : rt_cP (4, 111, 0, mSc_has, 1) := ⟨mSc_has_k, rt_in 32 rfl rfl, ⟨by decide +kernel, by decide +kernel⟩, by decide +kernel, ⟨_, _, rfl, rt_in 380 rfl rfl, rt_in 200 rfl rfl, rt_in 201 rfl rfl⟩⟩
set_option maxRecDepth 100000 in
theorem rt_c_20 : rt_cP (4, 114, 0, mSc_repetitionOf, 1) := ⟨mSc_repetitionOf_k, rt_in 32 rfl rfl, ⟨by decide +kernel, by decide +kernel⟩, by decide +kernel, ⟨_, _, rfl, rt_in 366 rfl rfl, rt_in 208 rfl rfl, rt_in 209 rfl rfl⟩⟩
set_option maxRecDepth 100000 in
theorem rt_c_21 : rt_cP (4, 117, 0, mSc_definitionOf, 1) := ⟨mSc_definitionOf_k, rt_in 32 rfl rfl, ⟨by decide +kernel, by decide +kernel⟩, by decide +kernel, ⟨_, _, rfl, rt_in 337 rfl rfl, rt_in 212 rfl rfl, rt_in 213 rfl rfl⟩⟩
set_option maxRecDepth 100000 in
theorem rt_c_22 : rt_cP (4, 120, 0, mSc_columnOf, 1) := ⟨mSc_columnOf_k, rt_in 32 rfl rfl, ⟨by decide +kernel, by decide +kernel⟩, by decide +kernel, ⟨_, _, rfl, rt_in 362 rfl rfl, rt_in 363 rfl rfl, rt_in 364 rfl rfl⟩⟩
set_option maxRecDepth 100000 in
theorem rt_c_23 : rt_cP (4, 123, 0, mCo_sizeOf, 1) := ⟨mCo_sizeOf_k, rt_in 35 rfl rfl, ⟨by decide +kernel, by decide +kernel⟩, by decide +kernel, ⟨_, _, rfl, rt_in 385 rfl rfl, rt_in 386 rfl rfl, rt_in 387 rfl rfl⟩⟩
set_option maxRecDepth 100000 in
theorem rt_c_24 : rt_cP (4, 126, 0, mCo_read, 3) := ⟨mCo_read_k, rt_in 35 rfl rfl, ⟨by decide +kernel, by decide +kernel⟩, by decide +kernel, ⟨_, _, rfl, rt_in 393 rfl rfl, rt_in 394 rfl rfl, rt_in 395 rfl rfl⟩⟩
set_option maxRecDepth 100000 in
theorem rt_c_25 : rt_cP (4, 130, 0, mEv_clear, 0) := ⟨mEv_clear_k, rt_in 34 rfl rfl, ⟨by decide +kernel, by decide +kernel⟩, by decide +kernel, ⟨_, _, rfl, rt_in 401 rfl rfl, rt_in 402 rfl rfl, rt_in 403 rfl rfl⟩⟩
set_option maxRecDepth 100000 in
theorem rt_c_26 : rt_cP (4, 139, 0, mSt_seek, 1) := ⟨mSt_seek_k, rt_in 31 rfl rfl, ⟨by decide +kernel, by decide +kernel⟩, by decide +kernel, ⟨_, _, rfl, rt_in 407 rfl rfl, rt_in 409 rfl rfl, rt_in 8 rfl rfl⟩⟩
set_option maxRecDepth 100000 in
theorem rt_c_27 : rt_cP (4, 142, 0, mSt_putFields, 2) := ⟨mSt_putFields_k, rt_in 31 rfl rfl, ⟨by decide +kernel, by decide +kernel⟩, by decide +kernel, ⟨_, _, rfl, rt_in 417 rfl rfl, rt_in 419 rfl rfl, rt_in 9 rfl rfl⟩⟩
set_option maxRecDepth 100000 in
theorem rt_c_28 : rt_cP (4, 148, 0, mEv_read, 2) := ⟨mEv_read_k, rt_in 34 rfl rfl, ⟨by decide +kernel, by decide +kernel⟩, by decide +kernel, ⟨_, _, rfl, rt_in 461 rfl rfl, rt_in 462 rfl rfl, rt_in 463 rfl rfl⟩⟩
set_option maxRecDepth 100000 in
theorem rt_c_29 : rt_cP (4, 151, 0, mSc_parentOf, 1) := ⟨mSc_parentOf_k, rt_in 32 rfl rfl, ⟨by decide +kernel, by decide +kernel⟩, by decide +kernel, ⟨_, _, rfl, rt_in 248 rfl rfl, rt_in 249 rfl rfl, rt_in 250 rfl rfl⟩⟩
set_option maxRecDepth 100000 in
theorem rt_c_30 : rt_cP (4, 158, 0, mSc_kindOf, 1) := ⟨mSc_kindOf_k, rt_in 32 rfl rfl, ⟨by decide +kernel, by decide +kernel⟩, by decide +kernel, ⟨_, _, rfl, rt_in 260 rfl rfl, rt_in 261 rfl rfl, rt_in 262 rfl rfl⟩⟩
set_option maxRecDepth 100000 in
theorem rt_c_31 : rt_cP (4, 164, 0, mSt_takeFields, 3) := ⟨mSt_takeFields_k, rt_in 31 rfl rfl, ⟨by decide +kernel, by decide +kernel⟩, by decide +kernel, ⟨_, _, rfl, rt_in 321 rfl rfl, rt_in 323 rfl rfl, rt_in 4 rfl rfl⟩⟩
set_option maxRecDepth 100000 in
theorem rt_c_32 : rt_cP (4, 168, 0, mSt_takeField, 3) := ⟨mSt_takeField_k, rt_in 31 rfl rfl, ⟨by decide +kernel, by decide +kernel⟩, by decide +kernel, ⟨_, _, rfl, rt_in 325 rfl rfl, rt_in 327 rfl rfl, rt_in 5 rfl rfl⟩⟩
set_option maxRecDepth 100000 in
theorem rt_c_33 : rt_cP (4, 171, 0, mDr_fieldAt, 1) := ⟨mDr_fieldAt_k, rt_in 33 rfl rfl, ⟨by decide +kernel, by decide +kernel⟩, by decide +kernel, ⟨_, _, rfl, rt_in 329 rfl rfl, rt_in 330 rfl rfl, rt_in 331 rfl rfl⟩⟩
set_option maxRecDepth 100000 in
theorem rt_c_34 : rt_cP (4, 174, 0, mSt_addEmptyEntries, 2) := ⟨mSt_addEmptyEntries_k, rt_in 31 rfl rfl, ⟨by decide +kernel, by decide +kernel⟩, by decide +kernel, ⟨_, _, rfl, rt_in 333 rfl rfl, rt_in 335 rfl rfl, rt_in 6 rfl rfl⟩⟩
set_option maxRecDepth 100000 in
theorem rt_c_35 : rt_cP (4, 177, 0, mSt_takeOccurrence, 3) := ⟨mSt_takeOccurrence_k, rt_in 31 rfl rfl, ⟨by decide +kernel, by decide +kernel⟩, by decide +kernel, ⟨_, _, rfl, rt_in 354 rfl rfl, rt_in 356 rfl rfl, rt_in 7 rfl rfl⟩⟩
set_option maxRecDepth 100000 in
theorem rt_c_36 : rt_cP (4, 180, 0, mDr_valueAt, 1) := ⟨mDr_valueAt_k, rt_in 33 rfl rfl, ⟨by decide +kernel, by decide +kernel⟩, by decide +kernel, ⟨_, _, rfl, rt_in 358 rfl rfl, rt_in 359 rfl rfl, rt_in 360 rfl rfl⟩⟩
set_option maxRecDepth 100000 in
theorem rt_c_37 : rt_cP (4, 183, 0, mCo_add, 4) := ⟨mCo_add_k, rt_in 35 rfl rfl, ⟨by decide +kernel, by decide +kernel⟩, by decide +kernel, ⟨_, _, rfl, rt_in 345 rfl rfl, rt_in 346 rfl rfl, rt_in 347 rfl rfl⟩⟩
set_option maxRecDepth 100000 in
theorem rt_c_38 : rt_cP (4, 186, 0, mSc_columnsIn, 1) := ⟨mSc_columnsIn_k, rt_in 32 rfl rfl, ⟨by decide +kernel, by decide +kernel⟩, by decide +kernel, ⟨_, _, rfl, rt_in 338 rfl rfl, rt_in 339 rfl rfl, rt_in 340 rfl rfl⟩⟩
set_option maxRecDepth 100000 in
theorem rt_c_39 : rt_cP (4, 190, 1, mSt_holds, 2) := ⟨mSt_holds_k, rt_in 31 rfl rfl, ⟨by decide +kernel, by decide +kernel⟩, by decide +kernel, ⟨rt_in 342 rfl rfl, rt_in 343 rfl rfl⟩⟩
set_option maxRecDepth 100000 in
theorem rt_c_40 : rt_cP (4, 194, 0, mCo_startOf, 2) := ⟨mCo_startOf_k, rt_in 35 rfl rfl, ⟨by decide +kernel, by decide +kernel⟩, by decide +kernel, ⟨_, _, rfl, rt_in 411 rfl rfl, rt_in 412 rfl rfl, rt_in 413 rfl rfl⟩⟩
set_option maxRecDepth 100000 in
theorem rt_c_41 : rt_cP (4, 197, 0, mSt_putField, 2) := ⟨mSt_putField_k, rt_in 31 rfl rfl, ⟨by decide +kernel, by decide +kernel⟩, by decide +kernel, ⟨_, _, rfl, rt_in 421 rfl rfl, rt_in 423 rfl rfl, rt_in 10 rfl rfl⟩⟩
set_option maxRecDepth 100000 in
theorem rt_c_42 : rt_cP (4, 200, 1, mSt_lowestOf, 1) := ⟨mSt_lowestOf_k, rt_in 31 rfl rfl, ⟨by decide +kernel, by decide +kernel⟩, by decide +kernel, ⟨rt_in 425 rfl rfl, rt_in 426 rfl rfl⟩⟩
set_option maxRecDepth 100000 in
theorem rt_c_43 : rt_cP (4, 204, 0, mSt_peek, 2) := ⟨mSt_peek_k, rt_in 31 rfl rfl, ⟨by decide +kernel, by decide +kernel⟩, by decide +kernel, ⟨_, _, rfl, rt_in 428 rfl rfl, rt_in 430 rfl rfl, rt_in 11 rfl rfl⟩⟩
set_option maxRecDepth 100000 in
theorem rt_c_44 : rt_cP (4, 207, 0, mSt_passEmptyEntries, 1) := ⟨mSt_passEmptyEntries_k, rt_in 31 rfl rfl, ⟨by decide +kernel, by decide +kernel⟩, by decide +kernel, ⟨_, _, rfl, rt_in 436 rfl rfl, rt_in 438 rfl rfl, rt_in 13 rfl rfl⟩⟩
set_option maxRecDepth 100000 in
theorem rt_c_45 : rt_cP (4, 211, 0, mSt_putOccurrence, 2) := ⟨mSt_putOccurrence_k, rt_in 31 rfl rfl, ⟨by decide +kernel, by decide +kernel⟩, by decide +kernel, ⟨_, _, rfl, rt_in 444 rfl rfl, rt_in 446 rfl rfl, rt_in 15 rfl rfl⟩⟩
set_option maxRecDepth 100000 in
theorem rt_c_46 : rt_cP (4, 214, 0, mSt_comesAgain, 2) := ⟨mSt_comesAgain_k, rt_in 31 rfl rfl, ⟨by decide +kernel, by decide +kernel⟩, by decide +kernel, ⟨_, _, rfl, rt_in 453 rfl rfl, rt_in 455 rfl rfl, rt_in 16 rfl rfl⟩⟩
set_option maxRecDepth 100000 in
theorem rt_c_47 : rt_cP (4, 218, 0, mEv_add, 2) := ⟨mEv_add_k, rt_in 34 rfl rfl, ⟨by decide +kernel, by decide +kernel⟩, by decide +kernel, ⟨_, _, rfl, rt_in 448 rfl rfl, rt_in 449 rfl rfl, rt_in 450 rfl rfl⟩⟩
set_option maxRecDepth 100000 in
theorem rt_c_48 : rt_cP (4, 219, 0, mSt_pass, 1) := ⟨mSt_pass_k, rt_in 31 rfl rfl, ⟨by decide +kernel, by decide +kernel⟩, by decide +kernel, ⟨_, _, rfl, rt_in 440 rfl rfl, rt_in 442 rfl rfl, rt_in 14 rfl rfl⟩⟩
set_option maxRecDepth 100000 in
theorem rt_c_49 : rt_cP (4, 222, 0, mSt_isCursor, 1) := ⟨mSt_isCursor_k, rt_in 31 rfl rfl, ⟨by decide +kernel, by decide +kernel⟩, by decide +kernel, ⟨_, _, rfl, rt_in 432 rfl rfl, rt_in 434 rfl rfl, rt_in 12 rfl rfl⟩⟩
set_option maxRecDepth 100000 in
theorem rt_c_50 : rt_cP (4, 230, 1, mAr_copyOf, 2) := ⟨mAr_copyOf_k, rt_in 38 rfl rfl, ⟨by decide +kernel, by decide +kernel⟩, by decide +kernel, ⟨rt_in 277 rfl rfl, rt_in 278 rfl rfl⟩⟩
set_option maxRecDepth 100000 in
theorem rt_c_51 : rt_cP (0, 26, 0, mCo_has, 1) := ⟨mCo_has_k, rt_in 35 rfl rfl, ⟨by decide +kernel, by decide +kernel⟩, by decide +kernel, ⟨_, _, rfl, rt_in 349 rfl rfl, rt_in 350 rfl rfl, rt_in 351 rfl rfl⟩⟩
set_option maxRecDepth 100000 in
theorem rt_c_52 : rt_cP (0, 30, 4, mSt_withRoom, 2) := ⟨mSt_withRoom_k, rt_in 31 rfl rfl, ⟨by decide +kernel, by decide +kernel⟩, by decide +kernel, ⟨⟨"Striping", rt_inN 353 rfl rfl⟩, rt_in 274 rfl rfl⟩⟩
set_option maxRecDepth 100000 in
theorem rt_c_53 : rt_cP (0, 34, 0, mCo_sizeOf, 1) := ⟨mCo_sizeOf_k, rt_in 35 rfl rfl, ⟨by decide +kernel, by decide +kernel⟩, by decide +kernel, ⟨_, _, rfl, rt_in 415 rfl rfl, rt_in 386 rfl rfl, rt_in 387 rfl rfl⟩⟩
set_option maxRecDepth 100000 in
theorem rt_c_54 : rt_cP (0, 38, 0, mCo_read, 3) := ⟨mCo_read_k, rt_in 35 rfl rfl, ⟨by decide +kernel, by decide +kernel⟩, by decide +kernel, ⟨_, _, rfl, rt_in 416 rfl rfl, rt_in 394 rfl rfl, rt_in 395 rfl rfl⟩⟩
set_option maxRecDepth 100000 in
theorem rt_c_55 : rt_cP (1, 24, 0, mDr_clear, 0) := ⟨mDr_clear_k, rt_in 33 rfl rfl, ⟨by decide +kernel, by decide +kernel⟩, by decide +kernel, ⟨_, _, rfl, rt_in 235 rfl rfl, rt_in 236 rfl rfl, rt_in 237 rfl rfl⟩⟩
set_option maxRecDepth 100000 in
theorem rt_c_56 : rt_cP (1, 38, 4, mSt_withRoom, 2) := ⟨mSt_withRoom_k, rt_in 31 rfl rfl, ⟨by decide +kernel, by decide +kernel⟩, by decide +kernel, ⟨⟨"Striping", rt_inN 273 rfl rfl⟩, rt_in 274 rfl rfl⟩⟩
set_option maxRecDepth 100000 in
theorem rt_c_57 : rt_cP (2, 19, 4, mSt_withRoom, 2) := ⟨mSt_withRoom_k, rt_in 31 rfl rfl, ⟨by decide +kernel, by decide +kernel⟩, by decide +kernel, ⟨⟨"Striping", rt_inN 452 rfl rfl⟩, rt_in 274 rfl rfl⟩⟩
set_option maxRecDepth 100000 in
theorem rt_c_58 : rt_cP (3, 45, 0, mSc_mayHold, 1) := ⟨mSc_mayHold_k, rt_in 32 rfl rfl, ⟨by decide +kernel, by decide +kernel⟩, by decide +kernel, ⟨_, _, rfl, rt_in 191 rfl rfl, rt_in 193 rfl rfl, rt_in 0 rfl rfl⟩⟩
set_option maxRecDepth 100000 in
theorem rt_c_59 : rt_cP (3, 49, 0, mSc_depthOf, 1) := ⟨mSc_depthOf_k, rt_in 32 rfl rfl, ⟨by decide +kernel, by decide +kernel⟩, by decide +kernel, ⟨_, _, rfl, rt_in 203 rfl rfl, rt_in 204 rfl rfl, rt_in 205 rfl rfl⟩⟩
set_option maxRecDepth 100000 in
theorem rt_c_60 : rt_cP (3, 53, 0, mSc_repetitionOf, 1) := ⟨mSc_repetitionOf_k, rt_in 32 rfl rfl, ⟨by decide +kernel, by decide +kernel⟩, by decide +kernel, ⟨_, _, rfl, rt_in 207 rfl rfl, rt_in 208 rfl rfl, rt_in 209 rfl rfl⟩⟩
set_option maxRecDepth 100000 in
theorem rt_c_61 : rt_cP (3, 56, 0, mSc_definitionOf, 1) := ⟨mSc_definitionOf_k, rt_in 32 rfl rfl, ⟨by decide +kernel, by decide +kernel⟩, by decide +kernel, ⟨_, _, rfl, rt_in 211 rfl rfl, rt_in 212 rfl rfl, rt_in 213 rfl rfl⟩⟩
set_option maxRecDepth 100000 in
theorem rt_c_62 : rt_cP (3, 62, 0, mSc_stretch, 2) := ⟨mSc_stretch_k, rt_in 32 rfl rfl, ⟨by decide +kernel, by decide +kernel⟩, by decide +kernel, ⟨_, _, rfl, rt_in 215 rfl rfl, rt_in 217 rfl rfl, rt_in 1 rfl rfl⟩⟩
set_option maxRecDepth 100000 in
theorem rt_c_63 : rt_cP (3, 66, 0, mSc_isGroup, 1) := ⟨mSc_isGroup_k, rt_in 32 rfl rfl, ⟨by decide +kernel, by decide +kernel⟩, by decide +kernel, ⟨_, _, rfl, rt_in 195 rfl rfl, rt_in 196 rfl rfl, rt_in 197 rfl rfl⟩⟩
set_option maxRecDepth 100000 in
theorem rt_c_64 : rt_cP (3, 69, 0, mSc_has, 1) := ⟨mSc_has_k, rt_in 32 rfl rfl, ⟨by decide +kernel, by decide +kernel⟩, by decide +kernel, ⟨_, _, rfl, rt_in 199 rfl rfl, rt_in 200 rfl rfl, rt_in 201 rfl rfl⟩⟩
set_option maxRecDepth 100000 in
theorem rt_c_65 : rt_cP (6, 9, 2, mSt_init, 0) := ⟨mSt_init_k, rt_in 31 rfl rfl, ⟨by decide +kernel, by decide +kernel⟩, by decide +kernel, ⟨rt_in 42 rfl rfl, rt_in 43 rfl rfl, rfl, rfl⟩⟩
set_option maxRecDepth 100000 in
theorem rt_c_66 : rt_cP (6, 12, 2, mMo_init, 0) := ⟨mMo_init_k, rt_in 37 rfl rfl, ⟨by decide +kernel, by decide +kernel⟩, by decide +kernel, ⟨rt_in 467 rfl rfl, rt_in 468 rfl rfl, rfl, rfl⟩⟩
set_option maxRecDepth 100000 in
theorem rt_c_67 : rt_cP (6, 13, 0, mSt_field, 3) := ⟨mSt_field_k, rt_in 31 rfl rfl, ⟨by decide +kernel, by decide +kernel⟩, by decide +kernel, ⟨_, _, rfl, rt_in 183 rfl rfl, rt_in 184 rfl rfl, rt_in 185 rfl rfl⟩⟩
set_option maxRecDepth 100000 in
theorem rt_c_68 : rt_cP (6, 17, 0, mMo_field, 3) := ⟨mMo_field_k, rt_in 37 rfl rfl, ⟨by decide +kernel, by decide +kernel⟩, by decide +kernel, ⟨_, _, rfl, rt_in 548 rfl rfl, rt_in 549 rfl rfl, rt_in 550 rfl rfl⟩⟩
set_option maxRecDepth 100000 in
theorem rt_c_69 : rt_cP (6, 18, 0, mSt_ready, 0) := ⟨mSt_ready_k, rt_in 31 rfl rfl, ⟨by decide +kernel, by decide +kernel⟩, by decide +kernel, ⟨_, _, rfl, rt_in 219 rfl rfl, rt_in 220 rfl rfl, rt_in 221 rfl rfl⟩⟩
set_option maxRecDepth 100000 in
theorem rt_c_70 : rt_cP (6, 22, 0, mMo_ready, 0) := ⟨mMo_ready_k, rt_in 37 rfl rfl, ⟨by decide +kernel, by decide +kernel⟩, by decide +kernel, ⟨_, _, rfl, rt_in 556 rfl rfl, rt_in 557 rfl rfl, rt_in 558 rfl rfl⟩⟩
set_option maxRecDepth 100000 in
theorem rt_c_71 : rt_cP (6, 23, 0, mSt_begin, 0) := ⟨mSt_begin_k, rt_in 31 rfl rfl, ⟨by decide +kernel, by decide +kernel⟩, by decide +kernel, ⟨_, _, rfl, rt_in 227 rfl rfl, rt_in 228 rfl rfl, rt_in 229 rfl rfl⟩⟩
set_option maxRecDepth 100000 in
theorem rt_c_72 : rt_cP (6, 27, 0, mMo_begin, 0) := ⟨mMo_begin_k, rt_in 37 rfl rfl, ⟨by decide +kernel, by decide +kernel⟩, by decide +kernel, ⟨_, _, rfl, rt_in 580 rfl rfl, rt_in 581 rfl rfl, rt_in 582 rfl rfl⟩⟩
set_option maxRecDepth 100000 in
theorem rt_c_73 : rt_cP (6, 28, 0, mSt_open, 1) := ⟨mSt_open_k, rt_in 31 rfl rfl, ⟨by decide +kernel, by decide +kernel⟩, by decide +kernel, ⟨_, _, rfl, rt_in 239 rfl rfl, rt_in 240 rfl rfl, rt_in 241 rfl rfl⟩⟩
set_option maxRecDepth 100000 in
theorem rt_c_74 : rt_cP (6, 32, 0, mMo_open, 1) := ⟨mMo_open_k, rt_in 37 rfl rfl, ⟨by decide +kernel, by decide +kernel⟩, by decide +kernel, ⟨_, _, rfl, rt_in 584 rfl rfl, rt_in 585 rfl rfl, rt_in 586 rfl rfl⟩⟩
set_option maxRecDepth 100000 in
theorem rt_c_75 : rt_cP (6, 33, 0, mSt_leaf, 2) := ⟨mSt_leaf_k, rt_in 31 rfl rfl, ⟨by decide +kernel, by decide +kernel⟩, by decide +kernel, ⟨_, _, rfl, rt_in 297 rfl rfl, rt_in 298 rfl rfl, rt_in 299 rfl rfl⟩⟩
set_option maxRecDepth 100000 in
theorem rt_c_76 : rt_cP (6, 37, 0, mMo_leaf, 2) := ⟨mMo_leaf_k, rt_in 37 rfl rfl, ⟨by decide +kernel, by decide +kernel⟩, by decide +kernel, ⟨_, _, rfl, rt_in 596 rfl rfl, rt_in 597 rfl rfl, rt_in 598 rfl rfl⟩⟩
set_option maxRecDepth 100000 in
theorem rt_c_77 : rt_cP (6, 38, 0, mSt_close, 0) := ⟨mSt_close_k, rt_in 31 rfl rfl, ⟨by decide +kernel, by decide +kernel⟩, by decide +kernel, ⟨_, _, rfl, rt_in 305 rfl rfl, rt_in 306 rfl rfl, rt_in 307 rfl rfl⟩⟩
set_option maxRecDepth 100000 in
theorem rt_c_78 : rt_cP (6, 41, 0, mMo_close, 0) := ⟨mMo_close_k, rt_in 37 rfl rfl, ⟨by decide +kernel, by decide +kernel⟩, by decide +kernel, ⟨_, _, rfl, rt_in 600 rfl rfl, rt_in 601 rfl rfl, rt_in 602 rfl rfl⟩⟩
set_option maxRecDepth 100000 in
theorem rt_c_79 : rt_cP (6, 42, 0, mSt_drop, 0) := ⟨mSt_drop_k, rt_in 31 rfl rfl, ⟨by decide +kernel, by decide +kernel⟩, by decide +kernel, ⟨_, _, rfl, rt_in 368 rfl rfl, rt_in 369 rfl rfl, rt_in 370 rfl rfl⟩⟩
set_option maxRecDepth 100000 in
theorem rt_c_80 : rt_cP (6, 45, 0, mMo_drop, 0) := ⟨mMo_drop_k, rt_in 37 rfl rfl, ⟨by decide +kernel, by decide +kernel⟩, by decide +kernel, ⟨_, _, rfl, rt_in 604 rfl rfl, rt_in 605 rfl rfl, rt_in 606 rfl rfl⟩⟩
set_option maxRecDepth 100000 in
theorem rt_c_81 : rt_cP (6, 46, 0, mSt_records, 0) := ⟨mSt_records_k, rt_in 31 rfl rfl, ⟨by decide +kernel, by decide +kernel⟩, by decide +kernel, ⟨_, _, rfl, rt_in 372 rfl rfl, rt_in 373 rfl rfl, rt_in 374 rfl rfl⟩⟩
set_option maxRecDepth 100000 in
theorem rt_c_82 : rt_cP (6, 49, 0, mMo_records, 0) := ⟨mMo_records_k, rt_in 37 rfl rfl, ⟨by decide +kernel, by decide +kernel⟩, by decide +kernel, ⟨_, _, rfl, rt_in 608 rfl rfl, rt_in 609 rfl rfl, rt_in 610 rfl rfl⟩⟩
set_option maxRecDepth 100000 in
theorem rt_c_83 : rt_cP (6, 50, 0, mSt_level, 2) := ⟨mSt_level_k, rt_in 31 rfl rfl, ⟨by decide +kernel, by decide +kernel⟩, by decide +kernel, ⟨_, _, rfl, rt_in 376 rfl rfl, rt_in 377 rfl rfl, rt_in 378 rfl rfl⟩⟩
set_option maxRecDepth 100000 in
theorem rt_c_84 : rt_cP (6, 54, 0, mMo_level, 2) := ⟨mMo_level_k, rt_in 37 rfl rfl, ⟨by decide +kernel, by decide +kernel⟩, by decide +kernel, ⟨_, _, rfl, rt_in 564 rfl rfl, rt_in 565 rfl rfl, rt_in 566 rfl rfl⟩⟩
set_option maxRecDepth 100000 in
theorem rt_c_85 : rt_cP (6, 55, 0, mSt_entries, 1) := ⟨mSt_entries_k, rt_in 31 rfl rfl, ⟨by decide +kernel, by decide +kernel⟩, by decide +kernel, ⟨_, _, rfl, rt_in 381 rfl rfl, rt_in 382 rfl rfl, rt_in 383 rfl rfl⟩⟩
set_option maxRecDepth 100000 in
theorem rt_c_86 : rt_cP (6, 59, 0, mMo_entries, 1) := ⟨mMo_entries_k, rt_in 37 rfl rfl, ⟨by decide +kernel, by decide +kernel⟩, by decide +kernel, ⟨_, _, rfl, rt_in 612 rfl rfl, rt_in 613 rfl rfl, rt_in 614 rfl rfl⟩⟩
set_option maxRecDepth 100000 in
theorem rt_c_87 : rt_cP (6, 60, 0, mSt_entry, 3) := ⟨mSt_entry_k, rt_in 31 rfl rfl, ⟨by decide +kernel, by decide +kernel⟩, by decide +kernel, ⟨_, _, rfl, rt_in 389 rfl rfl, rt_in 390 rfl rfl, rt_in 391 rfl rfl⟩⟩
set_option maxRecDepth 100000 in
theorem rt_c_88 : rt_cP (6, 64, 0, mMo_entry, 3) := ⟨mMo_entry_k, rt_in 37 rfl rfl, ⟨by decide +kernel, by decide +kernel⟩, by decide +kernel, ⟨_, _, rfl, rt_in 632 rfl rfl, rt_in 633 rfl rfl, rt_in 634 rfl rfl⟩⟩
set_option maxRecDepth 100000 in
theorem rt_c_89 : rt_cP (6, 65, 0, mSt_assemble, 3) := ⟨mSt_assemble_k, rt_in 31 rfl rfl, ⟨by decide +kernel, by decide +kernel⟩, by decide +kernel, ⟨_, _, rfl, rt_in 397 rfl rfl, rt_in 398 rfl rfl, rt_in 399 rfl rfl⟩⟩
set_option maxRecDepth 100000 in
theorem rt_c_90 : rt_cP (6, 68, 0, mMo_assemble, 3) := ⟨mMo_assemble_k, rt_in 37 rfl rfl, ⟨by decide +kernel, by decide +kernel⟩, by decide +kernel, ⟨_, _, rfl, rt_in 636 rfl rfl, rt_in 637 rfl rfl, rt_in 638 rfl rfl⟩⟩
set_option maxRecDepth 100000 in
theorem rt_c_91 : rt_cP (6, 69, 0, mSt_event, 2) := ⟨mSt_event_k, rt_in 31 rfl rfl, ⟨by decide +kernel, by decide +kernel⟩, by decide +kernel, ⟨_, _, rfl, rt_in 457 rfl rfl, rt_in 458 rfl rfl, rt_in 459 rfl rfl⟩⟩
set_option maxRecDepth 100000 in
theorem rt_c_92 : rt_cP (6, 72, 0, mMo_event, 2) := ⟨mMo_event_k, rt_in 37 rfl rfl, ⟨by decide +kernel, by decide +kernel⟩, by decide +kernel, ⟨_, _, rfl, rt_in 648 rfl rfl, rt_in 649 rfl rfl, rt_in 650 rfl rfl⟩⟩
set_option maxRecDepth 100000 in
theorem rt_c_93 : rt_cP (5, 61, 0, mMo_isAround, 1) := ⟨mMo_isAround_k, rt_in 37 rfl rfl, ⟨by decide +kernel, by decide +kernel⟩, by decide +kernel, ⟨_, _, rfl, rt_in 552 rfl rfl, rt_in 554 rfl rfl, rt_in 17 rfl rfl⟩⟩
set_option maxRecDepth 100000 in
theorem rt_c_94 : rt_cP (5, 65, 0, mMo_columns, 0) := ⟨mMo_columns_k, rt_in 37 rfl rfl, ⟨by decide +kernel, by decide +kernel⟩, by decide +kernel, ⟨_, _, rfl, rt_in 560 rfl rfl, rt_in 562 rfl rfl, rt_in 18 rfl rfl⟩⟩
set_option maxRecDepth 100000 in
theorem rt_c_95 : rt_cP (5, 69, 0, mMo_isField, 1) := ⟨mMo_isField_k, rt_in 37 rfl rfl, ⟨by decide +kernel, by decide +kernel⟩, by decide +kernel, ⟨_, _, rfl, rt_in 568 rfl rfl, rt_in 570 rfl rfl, rt_in 19 rfl rfl⟩⟩
set_option maxRecDepth 100000 in
theorem rt_c_96 : rt_cP (5, 72, 0, mMo_count, 2) := ⟨mMo_count_k, rt_in 37 rfl rfl, ⟨by decide +kernel, by decide +kernel⟩, by decide +kernel, ⟨_, _, rfl, rt_in 572 rfl rfl, rt_in 574 rfl rfl, rt_in 20 rfl rfl⟩⟩
set_option maxRecDepth 100000 in
theorem rt_c_97 : rt_cP (5, 76, 0, mMo_columnOf, 1) := ⟨mMo_columnOf_k, rt_in 37 rfl rfl, ⟨by decide +kernel, by decide +kernel⟩, by decide +kernel, ⟨_, _, rfl, rt_in 576 rfl rfl, rt_in 578 rfl rfl, rt_in 21 rfl rfl⟩⟩
set_option maxRecDepth 100000 in
theorem rt_c_98 : rt_cP (5, 89, 0, mMo_has, 1) := ⟨mMo_has_k, rt_in 37 rfl rfl, ⟨by decide +kernel, by decide +kernel⟩, by decide +kernel, ⟨_, _, rfl, rt_in 592 rfl rfl, rt_in 594 rfl rfl, rt_in 23 rfl rfl⟩⟩
set_option maxRecDepth 100000 in
theorem rt_c_99 : rt_cP (5, 92, 0, mMo_comes, 3) := ⟨mMo_comes_k, rt_in 37 rfl rfl, ⟨by decide +kernel, by decide +kernel⟩, by decide +kernel, ⟨_, _, rfl, rt_in 588 rfl rfl, rt_in 590 rfl rfl, rt_in 22 rfl rfl⟩⟩
set_option maxRecDepth 100000 in
theorem rt_c_100 : rt_cP (5, 99, 0, mMo_next, 3) := ⟨mMo_next_k, rt_in 37 rfl rfl, ⟨by decide +kernel, by decide +kernel⟩, by decide +kernel, ⟨_, _, rfl, rt_in 624 rfl rfl, rt_in 626 rfl rfl, rt_in 26 rfl rfl⟩⟩
set_option maxRecDepth 100000 in
theorem rt_c_101 : rt_cP (5, 106, 0, mMo_deeper, 2) := ⟨mMo_deeper_k, rt_in 37 rfl rfl, ⟨by decide +kernel, by decide +kernel⟩, by decide +kernel, ⟨_, _, rfl, rt_in 628 rfl rfl, rt_in 630 rfl rfl, rt_in 27 rfl rfl⟩⟩
set_option maxRecDepth 100000 in
theorem rt_c_102 : rt_cP (5, 118, 0, mMo_goesTo, 1) := ⟨mMo_goesTo_k, rt_in 37 rfl rfl, ⟨by decide +kernel, by decide +kernel⟩, by decide +kernel, ⟨_, _, rfl, rt_in 616 rfl rfl, rt_in 618 rfl rfl, rt_in 24 rfl rfl⟩⟩
set_option maxRecDepth 100000 in
theorem rt_c_103 : rt_cP (5, 121, 0, mMo_finds, 1) := ⟨mMo_finds_k, rt_in 37 rfl rfl, ⟨by decide +kernel, by decide +kernel⟩, by decide +kernel, ⟨_, _, rfl, rt_in 620 rfl rfl, rt_in 622 rfl rfl, rt_in 25 rfl rfl⟩⟩
set_option maxRecDepth 100000 in
theorem rt_c_104 : rt_cP (5, 127, 0, mMo_wants, 2) := ⟨mMo_wants_k, rt_in 37 rfl rfl, ⟨by decide +kernel, by decide +kernel⟩, by decide +kernel, ⟨_, _, rfl, rt_in 640 rfl rfl, rt_in 642 rfl rfl, rt_in 28 rfl rfl⟩⟩
set_option maxRecDepth 100000 in
theorem rt_c_105 : rt_cP (5, 131, 0, mMo_tells, 2) := ⟨mMo_tells_k, rt_in 37 rfl rfl, ⟨by decide +kernel, by decide +kernel⟩, by decide +kernel, ⟨_, _, rfl, rt_in 644 rfl rfl, rt_in 646 rfl rfl, rt_in 29 rfl rfl⟩⟩
set_option maxRecDepth 100000 in
theorem rt_c_all : ∀ x ∈ rt_cL, rt_cP x := List.forall_mem_cons.mpr ⟨rt_c_0, List.forall_mem_cons.mpr ⟨rt_c_1, List.forall_mem_cons.mpr ⟨rt_c_2, List.forall_mem_cons.mpr ⟨rt_c_3, List.forall_mem_cons.mpr ⟨rt_c_4, List.forall_mem_cons.mpr ⟨rt_c_5, List.forall_mem_cons.mpr ⟨rt_c_6, List.forall_mem_cons.mpr ⟨rt_c_7, List.forall_mem_cons.mpr ⟨rt_c_8, List.forall_mem_cons.mpr ⟨rt_c_9, List.forall_mem_cons.mpr ⟨rt_c_10, List.forall_mem_cons.mpr ⟨rt_c_11, List.forall_mem_cons.mpr ⟨rt_c_12, List.forall_mem_cons.mpr ⟨rt_c_13, List.forall_mem_cons.mpr ⟨rt_c_14, List.forall_mem_cons.mpr ⟨rt_c_15, List.forall_mem_cons.mpr ⟨rt_c_16, List.forall_mem_cons.mpr ⟨rt_c_17, List.forall_mem_cons.mpr ⟨rt_c_18, List.forall_mem_cons.mpr ⟨rt_c_19, List.forall_mem_cons.mpr ⟨rt_c_20, List.forall_mem_cons.mpr ⟨rt_c_21, List.forall_mem_cons.mpr ⟨rt_c_22, List.forall_mem_cons.mpr ⟨rt_c_23, List.forall_mem_cons.mpr ⟨rt_c_24, List.forall_mem_cons.mpr ⟨rt_c_25, List.forall_mem_cons.mpr ⟨rt_c_26, List.forall_mem_cons.mpr ⟨rt_c_27, List.forall_mem_cons.mpr ⟨rt_c_28, List.forall_mem_cons.mpr ⟨rt_c_29, List.forall_mem_cons.mpr ⟨rt_c_30, List.forall_mem_cons.mpr ⟨rt_c_31, List.forall_mem_cons.mpr ⟨rt_c_32, List.forall_mem_cons.mpr ⟨rt_c_33, List.forall_mem_cons.mpr ⟨rt_c_34, List.forall_mem_cons.mpr ⟨rt_c_35, List.forall_mem_cons.mpr ⟨rt_c_36, List.forall_mem_cons.mpr ⟨rt_c_37, List.forall_mem_cons.mpr ⟨rt_c_38, List.forall_mem_cons.mpr ⟨rt_c_39, List.forall_mem_cons.mpr ⟨rt_c_40, List.forall_mem_cons.mpr ⟨rt_c_41, List.forall_mem_cons.mpr ⟨rt_c_42, List.forall_mem_cons.mpr ⟨rt_c_43, List.forall_mem_cons.mpr ⟨rt_c_44, List.forall_mem_cons.mpr ⟨rt_c_45, List.forall_mem_cons.mpr ⟨rt_c_46, List.forall_mem_cons.mpr ⟨rt_c_47, List.forall_mem_cons.mpr ⟨rt_c_48, List.forall_mem_cons.mpr ⟨rt_c_49, List.forall_mem_cons.mpr ⟨rt_c_50, List.forall_mem_cons.mpr ⟨rt_c_51, List.forall_mem_cons.mpr ⟨rt_c_52, List.forall_mem_cons.mpr ⟨rt_c_53, List.forall_mem_cons.mpr ⟨rt_c_54, List.forall_mem_cons.mpr ⟨rt_c_55, List.forall_mem_cons.mpr ⟨rt_c_56, List.forall_mem_cons.mpr ⟨rt_c_57, List.forall_mem_cons.mpr ⟨rt_c_58, List.forall_mem_cons.mpr ⟨rt_c_59, List.forall_mem_cons.mpr ⟨rt_c_60, List.forall_mem_cons.mpr ⟨rt_c_61, List.forall_mem_cons.mpr ⟨rt_c_62, List.forall_mem_cons.mpr ⟨rt_c_63, List.forall_mem_cons.mpr ⟨rt_c_64, List.forall_mem_cons.mpr ⟨rt_c_65, List.forall_mem_cons.mpr ⟨rt_c_66, List.forall_mem_cons.mpr ⟨rt_c_67, List.forall_mem_cons.mpr ⟨rt_c_68, List.forall_mem_cons.mpr ⟨rt_c_69, List.forall_mem_cons.mpr ⟨rt_c_70, List.forall_mem_cons.mpr ⟨rt_c_71, List.forall_mem_cons.mpr ⟨rt_c_72, List.forall_mem_cons.mpr ⟨rt_c_73, List.forall_mem_cons.mpr ⟨rt_c_74, List.forall_mem_cons.mpr ⟨rt_c_75, List.forall_mem_cons.mpr ⟨rt_c_76, List.forall_mem_cons.mpr ⟨rt_c_77, List.forall_mem_cons.mpr ⟨rt_c_78, List.forall_mem_cons.mpr ⟨rt_c_79, List.forall_mem_cons.mpr ⟨rt_c_80, List.forall_mem_cons.mpr ⟨rt_c_81, List.forall_mem_cons.mpr ⟨rt_c_82, List.forall_mem_cons.mpr ⟨rt_c_83, List.forall_mem_cons.mpr ⟨rt_c_84, List.forall_mem_cons.mpr ⟨rt_c_85, List.forall_mem_cons.mpr ⟨rt_c_86, List.forall_mem_cons.mpr ⟨rt_c_87, List.forall_mem_cons.mpr ⟨rt_c_88, List.forall_mem_cons.mpr ⟨rt_c_89, List.forall_mem_cons.mpr ⟨rt_c_90, List.forall_mem_cons.mpr ⟨rt_c_91, List.forall_mem_cons.mpr ⟨rt_c_92, List.forall_mem_cons.mpr ⟨rt_c_93, List.forall_mem_cons.mpr ⟨rt_c_94, List.forall_mem_cons.mpr ⟨rt_c_95, List.forall_mem_cons.mpr ⟨rt_c_96, List.forall_mem_cons.mpr ⟨rt_c_97, List.forall_mem_cons.mpr ⟨rt_c_98, List.forall_mem_cons.mpr ⟨rt_c_99, List.forall_mem_cons.mpr ⟨rt_c_100, List.forall_mem_cons.mpr ⟨rt_c_101, List.forall_mem_cons.mpr ⟨rt_c_102, List.forall_mem_cons.mpr ⟨rt_c_103, List.forall_mem_cons.mpr ⟨rt_c_104, List.forall_mem_cons.mpr ⟨rt_c_105, fun _ h => absurd h List.not_mem_nil⟩⟩⟩⟩⟩⟩⟩⟩⟩⟩⟩⟩⟩⟩⟩⟩⟩⟩⟩⟩⟩⟩⟩⟩⟩⟩⟩⟩⟩⟩⟩⟩⟩⟩⟩⟩⟩⟩⟩⟩⟩⟩⟩⟩⟩⟩⟩⟩⟩⟩⟩⟩⟩⟩⟩⟩⟩⟩⟩⟩⟩⟩⟩⟩⟩⟩⟩⟩⟩⟩⟩⟩⟩⟩⟩⟩⟩⟩⟩⟩⟩⟩⟩⟩⟩⟩⟩⟩⟩⟩⟩⟩⟩⟩⟩⟩⟩⟩⟩⟩⟩⟩⟩⟩⟩⟩
set_option maxRecDepth 100000 in
theorem rt_c_ok {ci k kd n : Nat} {M' : ri_M} (h : rt_c ci k = some (kd, M', n)) : rt_cP (ci, k, kd, M', n) := rt_c_all _ (rt_lk_mem h)
