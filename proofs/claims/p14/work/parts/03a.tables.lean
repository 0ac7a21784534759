/-! WORDS AND TABLES OF THIS COMMIT'S CODE (written by a program, gen03.py, out of the task's claim/): classes, fields, what pool numbers mean, the methods' instructions. -/
/-- the words that every method has, and those that are carried beside them -/
def rt_tbl : List Cond := lw_tbl.filter goodWord
def rt_isN : Cond → Bool
  | .fieldLinkNest _ _ _ _ _ _ => true
  | .methodLinkNest _ _ _ _ => true
  | _ => false
def rt_sd : List Cond := lw_tbl.filter rt_isN
theorem rt_in {w : Cond} (i : Nat) (h : lw_tbl[i]? = some w) (hg : goodWord w = true) : w ∈ rt_tbl := List.mem_filter.mpr ⟨List.mem_of_getElem? h, hg⟩
theorem rt_inN {w : Cond} (i : Nat) (h : lw_tbl[i]? = some w) (hg : rt_isN w = true) : w ∈ rt_sd := List.mem_filter.mpr ⟨List.mem_of_getElem? h, hg⟩
theorem rt_good (w : Cond) (h : w ∈ rt_tbl) : (w.onTables && w.keeps) = true ∨ ∃ ty, w = .arrayClass ty := good_of_word (List.mem_filter.mp h).2
theorem rt_sd_ok (w : Cond) (h : w ∈ rt_sd) : w.onTables = true ∧ ∀ (u U : State), u.WarmedH U.vm → va_Nw w u → va_Nw w U := by
  have hn := (List.mem_filter.mp h).2
  cases w <;> first | (cases hn; done) | exact ⟨rfl, fun u U hW hZ => va_Nw.warmF hW hZ⟩ | exact ⟨rfl, fun u U hW hZ => va_Nw.warmM hW hZ⟩
def rt_ty : List FieldType := [.int, .long, .array .int, .boolean]
theorem rt_ty_int_in : FieldType.int ∈ rt_ty := by decide
theorem rt_ty_long_in : FieldType.long ∈ rt_ty := by decide
theorem rt_ty_arr : FieldType.array .int ∈ rt_ty := by decide
theorem rt_ty_bool_in : FieldType.boolean ∈ rt_ty := by decide
set_option maxRecDepth 100000 in
theorem rt_arr_int : Cond.arrayClass .int ∈ rt_tbl := rt_in 90 rfl rfl
set_option maxRecDepth 100000 in
theorem rt_arr_long : Cond.arrayClass .long ∈ rt_tbl := rt_in 91 rfl rfl
set_option maxRecDepth 100000 in
theorem rt_arr_bool : Cond.arrayClass .boolean ∈ rt_tbl := rt_in 547 rfl rfl
def rt_cn : Nat → String
  | 0 => "Striping$Columns"
  | 1 => "Striping$Draft"
  | 2 => "Striping$Events"
  | 3 => "Striping$Schema"
  | 4 => "Striping"
  | 5 => "StripingModel"
  | 6 => "StripingLaw"
  | 7 => "java/util/Arrays"
  | 8 => "java/lang/Math"
  | 9 => "java/lang/System"
  | _ => ""
def rt_T0 : u_T := fun k => match k with
  | 0 => ("Striping$Columns", "sizes", "[I", true)
  | _ => ("Striping$Columns", "rows", "[[I", true)
def rt_y0 : Nat → FieldType := fun k => match k with
  | 0 => .array .int
  | _ => .array (.array .int)
def rt_T1 : u_T := fun k => match k with
  | 0 => ("Striping$Draft", "openGroups", "[I", true)
  | 1 => ("Striping$Draft", "newestFields", "[I", true)
  | 2 => ("Striping$Draft", "fields", "[I", false)
  | 3 => ("Striping$Draft", "values", "[I", false)
  | 4 => ("Striping$Draft", "size", "I", false)
  | 5 => ("Striping$Draft", "depth", "I", false)
  | _ => ("Striping$Draft", "begun", "Z", false)
def rt_y1 : Nat → FieldType := fun k => match k with
  | 0 => .array .int
  | 1 => .array .int
  | 2 => .array .int
  | 3 => .array .int
  | 4 => .int
  | 5 => .int
  | _ => .boolean
def rt_T2 : u_T := fun k => match k with
  | 0 => ("Striping$Events", "row", "[I", false)
  | _ => ("Striping$Events", "size", "I", false)
def rt_y2 : Nat → FieldType := fun k => match k with
  | 0 => .array .int
  | _ => .int
def rt_T3 : u_T := fun k => match k with
  | 0 => ("Striping$Schema", "parents", "[I", true)
  | 1 => ("Striping$Schema", "kinds", "[I", true)
  | 2 => ("Striping$Schema", "depths", "[I", true)
  | 3 => ("Striping$Schema", "repetitions", "[I", true)
  | 4 => ("Striping$Schema", "definitions", "[I", true)
  | 5 => ("Striping$Schema", "columnNumbers", "[I", true)
  | 6 => ("Striping$Schema", "ends", "[I", true)
  | 7 => ("Striping$Schema", "columnSets", "[J", true)
  | 8 => ("Striping$Schema", "size", "I", false)
  | 9 => ("Striping$Schema", "leaves", "I", false)
  | _ => ("Striping$Schema", "settled", "Z", false)
def rt_y3 : Nat → FieldType := fun k => match k with
  | 0 => .array .int
  | 1 => .array .int
  | 2 => .array .int
  | 3 => .array .int
  | 4 => .array .int
  | 5 => .array .int
  | 6 => .array .int
  | 7 => .array .long
  | 8 => .int
  | 9 => .int
  | _ => .boolean
def rt_T4 : u_T := fun k => match k with
  | 0 => ("Striping", "schema", "LStriping$Schema;", true)
  | 1 => ("Striping", "draft", "LStriping$Draft;", true)
  | 2 => ("Striping", "events", "LStriping$Events;", true)
  | 3 => ("Striping", "cursors", "[I", true)
  | 4 => ("Striping", "columns", "LStriping$Columns;", false)
  | 5 => ("Striping", "closedRecords", "I", false)
  | 6 => ("Striping", "closedOccurrences", "I", false)
  | 7 => ("Striping", "taken", "I", false)
  | _ => ("Striping", "chosen", "J", false)
def rt_y4 : Nat → FieldType := fun k => match k with
  | 0 => .object "Striping$Schema"
  | 1 => .object "Striping$Draft"
  | 2 => .object "Striping$Events"
  | 3 => .array .int
  | 4 => .object "Striping$Columns"
  | 5 => .int
  | 6 => .int
  | 7 => .int
  | _ => .long
def rt_T5 : u_T := fun k => match k with
  | 0 => ("StripingModel", "parents", "[I", true)
  | 1 => ("StripingModel", "kinds", "[I", true)
  | 2 => ("StripingModel", "depths", "[I", true)
  | 3 => ("StripingModel", "groups", "[Z", true)
  | 4 => ("StripingModel", "fields", "I", false)
  | 5 => ("StripingModel", "ready", "Z", false)
  | 6 => ("StripingModel", "of", "[I", true)
  | 7 => ("StripingModel", "values", "[I", true)
  | 8 => ("StripingModel", "around", "[I", true)
  | 9 => ("StripingModel", "many", "I", false)
  | 10 => ("StripingModel", "begins", "[I", true)
  | 11 => ("StripingModel", "records", "I", false)
  | 12 => ("StripingModel", "isOpen", "Z", false)
  | 13 => ("StripingModel", "inside", "I", false)
  | 14 => ("StripingModel", "way", "[I", true)
  | 15 => ("StripingModel", "at", "[I", true)
  | 16 => ("StripingModel", "steps", "I", false)
  | 17 => ("StripingModel", "repetition", "I", false)
  | 18 => ("StripingModel", "definition", "I", false)
  | 19 => ("StripingModel", "value", "I", false)
  | 20 => ("StripingModel", "wanted", "[Z", true)
  | 21 => ("StripingModel", "events", "[I", true)
  | 22 => ("StripingModel", "told", "[I", true)
  | 23 => ("StripingModel", "eventful", "I", false)
  | _ => ("StripingModel", "found", "I", false)
def rt_y5 : Nat → FieldType := fun k => match k with
  | 0 => .array .int
  | 1 => .array .int
  | 2 => .array .int
  | 3 => .array .boolean
  | 4 => .int
  | 5 => .boolean
  | 6 => .array .int
  | 7 => .array .int
  | 8 => .array .int
  | 9 => .int
  | 10 => .array .int
  | 11 => .int
  | 12 => .boolean
  | 13 => .int
  | 14 => .array .int
  | 15 => .array .int
  | 16 => .int
  | 17 => .int
  | 18 => .int
  | 19 => .int
  | 20 => .array .boolean
  | 21 => .array .int
  | 22 => .array .int
  | 23 => .int
  | _ => .int
def vwCl : List vw_C := [("Striping$Columns", rt_T0, 2), ("Striping$Draft", rt_T1, 7), ("Striping$Events", rt_T2, 2), ("Striping$Schema", rt_T3, 11), ("Striping", rt_T4, 9), ("StripingModel", rt_T5, 25)]
def rt_kP (C : String) (T : u_T) (N : Nat) : Prop := (∀ w ∈ u_ws C T N, w ∈ rt_tbl) ∧ (∃ ty0 : Nat → FieldType, ∀ k, k < N → parseFieldDescriptor (T k).2.2.1 = some (ty0 k)) ∧ (∀ a, a < N → ∀ b, b < N → a ≠ b → (T a).2.1 ≠ (T b).2.1)
set_option maxRecDepth 100000 in
theorem rt_k0 : rt_kP "Striping$Columns" rt_T0 2 := by
  refine ⟨?_, ⟨rt_y0, by decide +kernel⟩, by decide +kernel⟩
  intro w hw
  obtain ⟨k, hk, rfl⟩ := List.mem_map.mp hw
  have hk := List.mem_range.mp hk
  match k, hk with
  | 0, _ => exact rt_in 150 rfl rfl
  | 1, _ => exact rt_in 152 rfl rfl
  | k + 2, hk => exact absurd hk (by omega)
set_option maxRecDepth 100000 in
theorem rt_k1 : rt_kP "Striping$Draft" rt_T1 7 := by
  refine ⟨?_, ⟨rt_y1, by decide +kernel⟩, by decide +kernel⟩
  intro w hw
  obtain ⟨k, hk, rfl⟩ := List.mem_map.mp hw
  have hk := List.mem_range.mp hk
  match k, hk with
  | 0, _ => exact rt_in 108 rfl rfl
  | 1, _ => exact rt_in 110 rfl rfl
  | 2, _ => exact rt_in 112 rfl rfl
  | 3, _ => exact rt_in 114 rfl rfl
  | 4, _ => exact rt_in 116 rfl rfl
  | 5, _ => exact rt_in 118 rfl rfl
  | 6, _ => exact rt_in 120 rfl rfl
  | k + 7, hk => exact absurd hk (by omega)
set_option maxRecDepth 100000 in
theorem rt_k2 : rt_kP "Striping$Events" rt_T2 2 := by
  refine ⟨?_, ⟨rt_y2, by decide +kernel⟩, by decide +kernel⟩
  intro w hw
  obtain ⟨k, hk, rfl⟩ := List.mem_map.mp hw
  have hk := List.mem_range.mp hk
  match k, hk with
  | 0, _ => exact rt_in 132 rfl rfl
  | 1, _ => exact rt_in 134 rfl rfl
  | k + 2, hk => exact absurd hk (by omega)
set_option maxRecDepth 100000 in
theorem rt_k3 : rt_kP "Striping$Schema" rt_T3 11 := by
  refine ⟨?_, ⟨rt_y3, by decide +kernel⟩, by decide +kernel⟩
  intro w hw
  obtain ⟨k, hk, rfl⟩ := List.mem_map.mp hw
  have hk := List.mem_range.mp hk
  match k, hk with
  | 0, _ => exact rt_in 67 rfl rfl
  | 1, _ => exact rt_in 69 rfl rfl
  | 2, _ => exact rt_in 71 rfl rfl
  | 3, _ => exact rt_in 73 rfl rfl
  | 4, _ => exact rt_in 75 rfl rfl
  | 5, _ => exact rt_in 77 rfl rfl
  | 6, _ => exact rt_in 79 rfl rfl
  | 7, _ => exact rt_in 81 rfl rfl
  | 8, _ => exact rt_in 83 rfl rfl
  | 9, _ => exact rt_in 85 rfl rfl
  | 10, _ => exact rt_in 87 rfl rfl
  | k + 11, hk => exact absurd hk (by omega)
set_option maxRecDepth 100000 in
theorem rt_k4 : rt_kP "Striping" rt_T4 9 := by
  refine ⟨?_, ⟨rt_y4, by decide +kernel⟩, by decide +kernel⟩
  intro w hw
  obtain ⟨k, hk, rfl⟩ := List.mem_map.mp hw
  have hk := List.mem_range.mp hk
  match k, hk with
  | 0, _ => exact rt_in 164 rfl rfl
  | 1, _ => exact rt_in 166 rfl rfl
  | 2, _ => exact rt_in 168 rfl rfl
  | 3, _ => exact rt_in 170 rfl rfl
  | 4, _ => exact rt_in 172 rfl rfl
  | 5, _ => exact rt_in 174 rfl rfl
  | 6, _ => exact rt_in 176 rfl rfl
  | 7, _ => exact rt_in 178 rfl rfl
  | 8, _ => exact rt_in 180 rfl rfl
  | k + 9, hk => exact absurd hk (by omega)
set_option maxRecDepth 100000 in
theorem rt_k5 : rt_kP "StripingModel" rt_T5 25 := by
  refine ⟨?_, ⟨rt_y5, by decide +kernel⟩, by decide +kernel⟩
  intro w hw
  obtain ⟨k, hk, rfl⟩ := List.mem_map.mp hw
  have hk := List.mem_range.mp hk
  match k, hk with
  | 0, _ => exact rt_in 496 rfl rfl
  | 1, _ => exact rt_in 498 rfl rfl
  | 2, _ => exact rt_in 500 rfl rfl
  | 3, _ => exact rt_in 502 rfl rfl
  | 4, _ => exact rt_in 504 rfl rfl
  | 5, _ => exact rt_in 506 rfl rfl
  | 6, _ => exact rt_in 508 rfl rfl
  | 7, _ => exact rt_in 510 rfl rfl
  | 8, _ => exact rt_in 512 rfl rfl
  | 9, _ => exact rt_in 514 rfl rfl
  | 10, _ => exact rt_in 516 rfl rfl
  | 11, _ => exact rt_in 518 rfl rfl
  | 12, _ => exact rt_in 520 rfl rfl
  | 13, _ => exact rt_in 522 rfl rfl
  | 14, _ => exact rt_in 524 rfl rfl
  | 15, _ => exact rt_in 526 rfl rfl
  | 16, _ => exact rt_in 528 rfl rfl
  | 17, _ => exact rt_in 530 rfl rfl
  | 18, _ => exact rt_in 532 rfl rfl
  | 19, _ => exact rt_in 534 rfl rfl
  | 20, _ => exact rt_in 536 rfl rfl
  | 21, _ => exact rt_in 538 rfl rfl
  | 22, _ => exact rt_in 540 rfl rfl
  | 23, _ => exact rt_in 542 rfl rfl
  | 24, _ => exact rt_in 544 rfl rfl
  | k + 25, hk => exact absurd hk (by omega)
set_option maxRecDepth 100000 in
theorem rt_k_ok {cj : Nat} {C : String} {T : u_T} {N : Nat} (h : vwCl[cj]? = some (C, T, N)) : rt_kP C T N := by
  match cj, h with
  | 0, h => cases h; exact rt_k0
  | 1, h => cases h; exact rt_k1
  | 2, h => cases h; exact rt_k2
  | 3, h => cases h; exact rt_k3
  | 4, h => cases h; exact rt_k4
  | 5, h => cases h; exact rt_k5
  | k + 6, h => cases h
def rt_lk {α : Type} (a b : Nat) : List (Nat × Nat × α) → Option α
  | [] => none
  | x :: r => match Nat.beq x.1 a with
    | true => match Nat.beq x.2.1 b with
      | true => some x.2.2
      | false => rt_lk a b r
    | false => rt_lk a b r
theorem rt_lk_mem {α : Type} {a b : Nat} {y : α} : ∀ {l : List (Nat × Nat × α)}, rt_lk a b l = some y → (a, b, y) ∈ l
  | [], h => by cases h
  | x :: r, h => by
    unfold rt_lk at h
    split at h
    · rename_i h1
      split at h
      · rename_i h2
        cases h
        rw [← Nat.eq_of_beq_eq_true h1, ← Nat.eq_of_beq_eq_true h2]
        exact List.mem_cons_self
      · exact List.mem_cons_of_mem _ (rt_lk_mem h)
    · exact List.mem_cons_of_mem _ (rt_lk_mem h)
def rt_fL : List (Nat × Nat × Nat × Nat × FieldType × Nat) := [(4, 10, 4, 0, .object "Striping$Schema", 1), (4, 19, 4, 1, .object "Striping$Draft", 1), (4, 26, 4, 2, .object "Striping$Events", 1), (4, 30, 4, 3, .array .int, 1), (4, 39, 4, 4, .object "Striping$Columns", 0), (4, 51, 3, 9, .int, 0), (4, 55, 3, 10, .boolean, 0), (4, 59, 1, 6, .boolean, 0), (4, 62, 4, 5, .int, 0), (4, 99, 1, 5, .int, 0), (4, 135, 4, 8, .long, 0), (4, 145, 2, 1, .int, 0), (4, 154, 4, 6, .int, 0), (4, 157, 1, 4, .int, 0), (4, 161, 4, 7, .int, 0), (0, 15, 0, 0, .array .int, 1), (0, 23, 0, 1, .array (.array .int), 1), (1, 9, 1, 0, .array .int, 1), (1, 15, 1, 1, .array .int, 1), (1, 18, 1, 2, .array .int, 0), (1, 21, 1, 3, .array .int, 0), (1, 27, 1, 6, .boolean, 0), (1, 31, 1, 4, .int, 0), (1, 35, 1, 5, .int, 0), (2, 11, 2, 0, .array .int, 0), (2, 15, 2, 1, .int, 0), (3, 9, 3, 0, .array .int, 1), (3, 15, 3, 1, .array .int, 1), (3, 18, 3, 2, .array .int, 1), (3, 21, 3, 3, .array .int, 1), (3, 24, 3, 4, .array .int, 1), (3, 27, 3, 5, .array .int, 1), (3, 30, 3, 6, .array .int, 1), (3, 33, 3, 7, .array .long, 1), (3, 37, 3, 10, .boolean, 0), (3, 41, 3, 8, .int, 0), (3, 59, 3, 9, .int, 0), (5, 7, 5, 0, .array .int, 1), (5, 13, 5, 1, .array .int, 1), (5, 16, 5, 2, .array .int, 1), (5, 19, 5, 3, .array .boolean, 1), (5, 23, 5, 6, .array .int, 1), (5, 26, 5, 7, .array .int, 1), (5, 29, 5, 8, .array .int, 1), (5, 32, 5, 10, .array .int, 1), (5, 35, 5, 13, .int, 0), (5, 39, 5, 14, .array .int, 1), (5, 42, 5, 15, .array .int, 1), (5, 45, 5, 20, .array .boolean, 1), (5, 48, 5, 21, .array .int, 1), (5, 51, 5, 22, .array .int, 1), (5, 54, 5, 4, .int, 0), (5, 57, 5, 5, .boolean, 0), (5, 80, 5, 12, .boolean, 0), (5, 83, 5, 11, .int, 0), (5, 86, 5, 9, .int, 0), (5, 96, 5, 16, .int, 0), (5, 103, 5, 24, .int, 0), (5, 109, 5, 17, .int, 0), (5, 112, 5, 18, .int, 0), (5, 115, 5, 19, .int, 0), (5, 124, 5, 23, .int, 0)]
def rt_f (ci k : Nat) : Option (Nat × Nat × FieldType × Nat) := rt_lk ci k rt_fL
def rt_fP (x : Nat × Nat × Nat × Nat × FieldType × Nat) : Prop := match x with
  | (ci, k, cj, j, ty, fl) => ∃ (C : String) (T : u_T) (N : Nat), vwCl[cj]? = some (C, T, N) ∧ j < N ∧ parseFieldDescriptor (T j).2.2.1 = some ty ∧ ((fl = 0 → (T j).2.2.2 = false) ∧ (fl ≠ 0 → (T j).2.2.2 = true)) ∧ ((Cond.fieldLink (rt_cn ci) k (T j).1 (T j).2.1 (T j).2.2.1 ∈ rt_tbl ∧ (fl = 1 → (T j).1 = rt_cn ci)) ∨ (fl ≠ 1 ∧ ∃ host, Cond.fieldLinkNest (rt_cn ci) k (T j).1 (T j).2.1 (T j).2.2.1 host ∈ rt_sd))
set_option maxRecDepth 100000 in
theorem rt_f_0 : rt_fP (4, 10, 4, 0, .object "Striping$Schema", 1) := ⟨_, rt_T4, 9, rfl, by decide, by decide +kernel, ⟨fun h => absurd h (by decide), fun _ => rfl⟩, Or.inl ⟨rt_in 155 rfl rfl, fun _ => rfl⟩⟩
set_option maxRecDepth 100000 in
theorem rt_f_1 : rt_fP (4, 19, 4, 1, .object "Striping$Draft", 1) := ⟨_, rt_T4, 9, rfl, by decide, by decide +kernel, ⟨fun h => absurd h (by decide), fun _ => rfl⟩, Or.inl ⟨rt_in 156 rfl rfl, fun _ => rfl⟩⟩
set_option maxRecDepth 100000 in
theorem rt_f_2 : rt_fP (4, 26, 4, 2, .object "Striping$Events", 1) := ⟨_, rt_T4, 9, rfl, by decide, by decide +kernel, ⟨fun h => absurd h (by decide), fun _ => rfl⟩, Or.inl ⟨rt_in 157 rfl rfl, fun _ => rfl⟩⟩
set_option maxRecDepth 100000 in
theorem rt_f_3 : rt_fP (4, 30, 4, 3, .array .int, 1) := ⟨_, rt_T4, 9, rfl, by decide, by decide +kernel, ⟨fun h => absurd h (by decide), fun _ => rfl⟩, Or.inl ⟨rt_in 158 rfl rfl, fun _ => rfl⟩⟩
set_option maxRecDepth 100000 in
theorem rt_f_4 : rt_fP (4, 39, 4, 4, .object "Striping$Columns", 0) := ⟨_, rt_T4, 9, rfl, by decide, by decide +kernel, ⟨fun _ => rfl, fun h => absurd rfl h⟩, Or.inl ⟨rt_in 159 rfl rfl, fun h => absurd h (by decide)⟩⟩
set_option maxRecDepth 100000 in
theorem rt_f_5 : rt_fP (4, 51, 3, 9, .int, 0) := ⟨_, rt_T3, 11, rfl, by decide, by decide +kernel, ⟨fun _ => rfl, fun h => absurd rfl h⟩, Or.inr ⟨by decide, "Striping", rt_inN 64 rfl rfl⟩⟩
set_option maxRecDepth 100000 in
theorem rt_f_6 : rt_fP (4, 55, 3, 10, .boolean, 0) := ⟨_, rt_T3, 11, rfl, by decide, by decide +kernel, ⟨fun _ => rfl, fun h => absurd rfl h⟩, Or.inr ⟨by decide, "Striping", rt_inN 66 rfl rfl⟩⟩
set_option maxRecDepth 100000 in
theorem rt_f_7 : rt_fP (4, 59, 1, 6, .boolean, 0) := ⟨_, rt_T1, 7, rfl, by decide, by decide +kernel, ⟨fun _ => rfl, fun h => absurd rfl h⟩, Or.inr ⟨by decide, "Striping", rt_inN 107 rfl rfl⟩⟩
set_option maxRecDepth 100000 in
theorem rt_f_8 : rt_fP (4, 62, 4, 5, .int, 0) := ⟨_, rt_T4, 9, rfl, by decide, by decide +kernel, ⟨fun _ => rfl, fun h => absurd rfl h⟩, Or.inl ⟨rt_in 160 rfl rfl, fun h => absurd h (by decide)⟩⟩
set_option maxRecDepth 100000 in
theorem rt_f_9 : rt_fP (4, 99, 1, 5, .int, 0) := ⟨_, rt_T1, 7, rfl, by decide, by decide +kernel, ⟨fun _ => rfl, fun h => absurd rfl h⟩, Or.inr ⟨by decide, "Striping", rt_inN 105 rfl rfl⟩⟩
set_option maxRecDepth 100000 in
theorem rt_f_10 : rt_fP (4, 135, 4, 8, .long, 0) := ⟨_, rt_T4, 9, rfl, by decide, by decide +kernel, ⟨fun _ => rfl, fun h => absurd rfl h⟩, Or.inl ⟨rt_in 163 rfl rfl, fun h => absurd h (by decide)⟩⟩
set_option maxRecDepth 100000 in
theorem rt_f_11 : rt_fP (4, 145, 2, 1, .int, 0) := ⟨_, rt_T2, 2, rfl, by decide, by decide +kernel, ⟨fun _ => rfl, fun h => absurd rfl h⟩, Or.inr ⟨by decide, "Striping", rt_inN 131 rfl rfl⟩⟩
set_option maxRecDepth 100000 in
theorem rt_f_12 : rt_fP (4, 154, 4, 6, .int, 0) := ⟨_, rt_T4, 9, rfl, by decide, by decide +kernel, ⟨fun _ => rfl, fun h => absurd rfl h⟩, Or.inl ⟨rt_in 161 rfl rfl, fun h => absurd h (by decide)⟩⟩
set_option maxRecDepth 100000 in
theorem rt_f_13 : rt_fP (4, 157, 1, 4, .int, 0) := ⟨_, rt_T1, 7, rfl, by decide, by decide +kernel, ⟨fun _ => rfl, fun h => absurd rfl h⟩, Or.inr ⟨by decide, "Striping", rt_inN 103 rfl rfl⟩⟩
set_option maxRecDepth 100000 in
theorem rt_f_14 : rt_fP (4, 161, 4, 7, .int, 0) := ⟨_, rt_T4, 9, rfl, by decide, by decide +kernel, ⟨fun _ => rfl, fun h => absurd rfl h⟩, Or.inl ⟨rt_in 162 rfl rfl, fun h => absurd h (by decide)⟩⟩
set_option maxRecDepth 100000 in
theorem rt_f_15 : rt_fP (0, 15, 0, 0, .array .int, 1) := ⟨_, rt_T0, 2, rfl, by decide, by decide +kernel, ⟨fun h => absurd h (by decide), fun _ => rfl⟩, Or.inl ⟨rt_in 148 rfl rfl, fun _ => rfl⟩⟩
set_option maxRecDepth 100000 in
theorem rt_f_16 : rt_fP (0, 23, 0, 1, .array (.array .int), 1) := ⟨_, rt_T0, 2, rfl, by decide, by decide +kernel, ⟨fun h => absurd h (by decide), fun _ => rfl⟩, Or.inl ⟨rt_in 149 rfl rfl, fun _ => rfl⟩⟩
set_option maxRecDepth 100000 in
theorem rt_f_17 : rt_fP (1, 9, 1, 0, .array .int, 1) := ⟨_, rt_T1, 7, rfl, by decide, by decide +kernel, ⟨fun h => absurd h (by decide), fun _ => rfl⟩, Or.inl ⟨rt_in 98 rfl rfl, fun _ => rfl⟩⟩
set_option maxRecDepth 100000 in
theorem rt_f_18 : rt_fP (1, 15, 1, 1, .array .int, 1) := ⟨_, rt_T1, 7, rfl, by decide, by decide +kernel, ⟨fun h => absurd h (by decide), fun _ => rfl⟩, Or.inl ⟨rt_in 99 rfl rfl, fun _ => rfl⟩⟩
set_option maxRecDepth 100000 in
theorem rt_f_19 : rt_fP (1, 18, 1, 2, .array .int, 0) := ⟨_, rt_T1, 7, rfl, by decide, by decide +kernel, ⟨fun _ => rfl, fun h => absurd rfl h⟩, Or.inl ⟨rt_in 100 rfl rfl, fun h => absurd h (by decide)⟩⟩
set_option maxRecDepth 100000 in
theorem rt_f_20 : rt_fP (1, 21, 1, 3, .array .int, 0) := ⟨_, rt_T1, 7, rfl, by decide, by decide +kernel, ⟨fun _ => rfl, fun h => absurd rfl h⟩, Or.inl ⟨rt_in 101 rfl rfl, fun h => absurd h (by decide)⟩⟩
set_option maxRecDepth 100000 in
theorem rt_f_21 : rt_fP (1, 27, 1, 6, .boolean, 0) := ⟨_, rt_T1, 7, rfl, by decide, by decide +kernel, ⟨fun _ => rfl, fun h => absurd rfl h⟩, Or.inl ⟨rt_in 106 rfl rfl, fun h => absurd h (by decide)⟩⟩
set_option maxRecDepth 100000 in
theorem rt_f_22 : rt_fP (1, 31, 1, 4, .int, 0) := ⟨_, rt_T1, 7, rfl, by decide, by decide +kernel, ⟨fun _ => rfl, fun h => absurd rfl h⟩, Or.inl ⟨rt_in 102 rfl rfl, fun h => absurd h (by decide)⟩⟩
set_option maxRecDepth 100000 in
theorem rt_f_23 : rt_fP (1, 35, 1, 5, .int, 0) := ⟨_, rt_T1, 7, rfl, by decide, by decide +kernel, ⟨fun _ => rfl, fun h => absurd rfl h⟩, Or.inl ⟨rt_in 104 rfl rfl, fun h => absurd h (by decide)⟩⟩
set_option maxRecDepth 100000 in
theorem rt_f_24 : rt_fP (2, 11, 2, 0, .array .int, 0) := ⟨_, rt_T2, 2, rfl, by decide, by decide +kernel, ⟨fun _ => rfl, fun h => absurd rfl h⟩, Or.inl ⟨rt_in 129 rfl rfl, fun h => absurd h (by decide)⟩⟩
set_option maxRecDepth 100000 in
theorem rt_f_25 : rt_fP (2, 15, 2, 1, .int, 0) := ⟨_, rt_T2, 2, rfl, by decide, by decide +kernel, ⟨fun _ => rfl, fun h => absurd rfl h⟩, Or.inl ⟨rt_in 130 rfl rfl, fun h => absurd h (by decide)⟩⟩
set_option maxRecDepth 100000 in
theorem rt_f_26 : rt_fP (3, 9, 3, 0, .array .int, 1) := ⟨_, rt_T3, 11, rfl, by decide, by decide +kernel, ⟨fun h => absurd h (by decide), fun _ => rfl⟩, Or.inl ⟨rt_in 54 rfl rfl, fun _ => rfl⟩⟩
set_option maxRecDepth 100000 in
theorem rt_f_27 : rt_fP (3, 15, 3, 1, .array .int, 1) := ⟨_, rt_T3, 11, rfl, by decide, by decide +kernel, ⟨fun h => absurd h (by decide), fun _ => rfl⟩, Or.inl ⟨rt_in 55 rfl rfl, fun _ => rfl⟩⟩
set_option maxRecDepth 100000 in
theorem rt_f_28 : rt_fP (3, 18, 3, 2, .array .int, 1) := ⟨_, rt_T3, 11, rfl, by decide, by decide +kernel, ⟨fun h => absurd h (by decide), fun _ => rfl⟩, Or.inl ⟨rt_in 56 rfl rfl, fun _ => rfl⟩⟩
set_option maxRecDepth 100000 in
theorem rt_f_29 : rt_fP (3, 21, 3, 3, .array .int, 1) := ⟨_, rt_T3, 11, rfl, by decide, by decide +kernel, ⟨fun h => absurd h (by decide), fun _ => rfl⟩, Or.inl ⟨rt_in 57 rfl rfl, fun _ => rfl⟩⟩
set_option maxRecDepth 100000 in
theorem rt_f_30 : rt_fP (3, 24, 3, 4, .array .int, 1) := ⟨_, rt_T3, 11, rfl, by decide, by decide +kernel, ⟨fun h => absurd h (by decide), fun _ => rfl⟩, Or.inl ⟨rt_in 58 rfl rfl, fun _ => rfl⟩⟩
set_option maxRecDepth 100000 in
theorem rt_f_31 : rt_fP (3, 27, 3, 5, .array .int, 1) := ⟨_, rt_T3, 11, rfl, by decide, by decide +kernel, ⟨fun h => absurd h (by decide), fun _ => rfl⟩, Or.inl ⟨rt_in 59 rfl rfl, fun _ => rfl⟩⟩
set_option maxRecDepth 100000 in
theorem rt_f_32 : rt_fP (3, 30, 3, 6, .array .int, 1) := ⟨_, rt_T3, 11, rfl, by decide, by decide +kernel, ⟨fun h => absurd h (by decide), fun _ => rfl⟩, Or.inl ⟨rt_in 60 rfl rfl, fun _ => rfl⟩⟩
set_option maxRecDepth 100000 in
theorem rt_f_33 : rt_fP (3, 33, 3, 7, .array .long, 1) := ⟨_, rt_T3, 11, rfl, by decide, by decide +kernel, ⟨fun h => absurd h (by decide), fun _ => rfl⟩, Or.inl ⟨rt_in 61 rfl rfl, fun _ => rfl⟩⟩
set_option maxRecDepth 100000 in
theorem rt_f_34 : rt_fP (3, 37, 3, 10, .boolean, 0) := ⟨_, rt_T3, 11, rfl, by decide, by decide +kernel, ⟨fun _ => rfl, fun h => absurd rfl h⟩, Or.inl ⟨rt_in 65 rfl rfl, fun h => absurd h (by decide)⟩⟩
set_option maxRecDepth 100000 in
theorem rt_f_35 : rt_fP (3, 41, 3, 8, .int, 0) := ⟨_, rt_T3, 11, rfl, by decide, by decide +kernel, ⟨fun _ => rfl, fun h => absurd rfl h⟩, Or.inl ⟨rt_in 62 rfl rfl, fun h => absurd h (by decide)⟩⟩
set_option maxRecDepth 100000 in
theorem rt_f_36 : rt_fP (3, 59, 3, 9, .int, 0) := ⟨_, rt_T3, 11, rfl, by decide, by decide +kernel, ⟨fun _ => rfl, fun h => absurd rfl h⟩, Or.inl ⟨rt_in 63 rfl rfl, fun h => absurd h (by decide)⟩⟩
set_option maxRecDepth 100000 in
theorem rt_f_37 : rt_fP (5, 7, 5, 0, .array .int, 1) := ⟨_, rt_T5, 25, rfl, by decide, by decide +kernel, ⟨fun h => absurd h (by decide), fun _ => rfl⟩, Or.inl ⟨rt_in 471 rfl rfl, fun _ => rfl⟩⟩
set_option maxRecDepth 100000 in
theorem rt_f_38 : rt_fP (5, 13, 5, 1, .array .int, 1) := ⟨_, rt_T5, 25, rfl, by decide, by decide +kernel, ⟨fun h => absurd h (by decide), fun _ => rfl⟩, Or.inl ⟨rt_in 472 rfl rfl, fun _ => rfl⟩⟩
set_option maxRecDepth 100000 in
theorem rt_f_39 : rt_fP (5, 16, 5, 2, .array .int, 1) := ⟨_, rt_T5, 25, rfl, by decide, by decide +kernel, ⟨fun h => absurd h (by decide), fun _ => rfl⟩, Or.inl ⟨rt_in 473 rfl rfl, fun _ => rfl⟩⟩
set_option maxRecDepth 100000 in
theorem rt_f_40 : rt_fP (5, 19, 5, 3, .array .boolean, 1) := ⟨_, rt_T5, 25, rfl, by decide, by decide +kernel, ⟨fun h => absurd h (by decide), fun _ => rfl⟩, Or.inl ⟨rt_in 474 rfl rfl, fun _ => rfl⟩⟩
set_option maxRecDepth 100000 in
theorem rt_f_41 : rt_fP (5, 23, 5, 6, .array .int, 1) := ⟨_, rt_T5, 25, rfl, by decide, by decide +kernel, ⟨fun h => absurd h (by decide), fun _ => rfl⟩, Or.inl ⟨rt_in 477 rfl rfl, fun _ => rfl⟩⟩
set_option maxRecDepth 100000 in
theorem rt_f_42 : rt_fP (5, 26, 5, 7, .array .int, 1) := ⟨_, rt_T5, 25, rfl, by decide, by decide +kernel, ⟨fun h => absurd h (by decide), fun _ => rfl⟩, Or.inl ⟨rt_in 478 rfl rfl, fun _ => rfl⟩⟩
set_option maxRecDepth 100000 in
theorem rt_f_43 : rt_fP (5, 29, 5, 8, .array .int, 1) := ⟨_, rt_T5, 25, rfl, by decide, by decide +kernel, ⟨fun h => absurd h (by decide), fun _ => rfl⟩, Or.inl ⟨rt_in 479 rfl rfl, fun _ => rfl⟩⟩
set_option maxRecDepth 100000 in
theorem rt_f_44 : rt_fP (5, 32, 5, 10, .array .int, 1) := ⟨_, rt_T5, 25, rfl, by decide, by decide +kernel, ⟨fun h => absurd h (by decide), fun _ => rfl⟩, Or.inl ⟨rt_in 481 rfl rfl, fun _ => rfl⟩⟩
set_option maxRecDepth 100000 in
theorem rt_f_45 : rt_fP (5, 35, 5, 13, .int, 0) := ⟨_, rt_T5, 25, rfl, by decide, by decide +kernel, ⟨fun _ => rfl, fun h => absurd rfl h⟩, Or.inl ⟨rt_in 484 rfl rfl, fun h => absurd h (by decide)⟩⟩
set_option maxRecDepth 100000 in
theorem rt_f_46 : rt_fP (5, 39, 5, 14, .array .int, 1) := ⟨_, rt_T5, 25, rfl, by decide, by decide +kernel, ⟨fun h => absurd h (by decide), fun _ => rfl⟩, Or.inl ⟨rt_in 485 rfl rfl, fun _ => rfl⟩⟩
set_option maxRecDepth 100000 in
theorem rt_f_47 : rt_fP (5, 42, 5, 15, .array .int, 1) := ⟨_, rt_T5, 25, rfl, by decide, by decide +kernel, ⟨fun h => absurd h (by decide), fun _ => rfl⟩, Or.inl ⟨rt_in 486 rfl rfl, fun _ => rfl⟩⟩
set_option maxRecDepth 100000 in
theorem rt_f_48 : rt_fP (5, 45, 5, 20, .array .boolean, 1) := ⟨_, rt_T5, 25, rfl, by decide, by decide +kernel, ⟨fun h => absurd h (by decide), fun _ => rfl⟩, Or.inl ⟨rt_in 491 rfl rfl, fun _ => rfl⟩⟩
set_option maxRecDepth 100000 in
theorem rt_f_49 : rt_fP (5, 48, 5, 21, .array .int, 1) := ⟨_, rt_T5, 25, rfl, by decide, by decide +kernel, ⟨fun h => absurd h (by decide), fun _ => rfl⟩, Or.inl ⟨rt_in 492 rfl rfl, fun _ => rfl⟩⟩
set_option maxRecDepth 100000 in
theorem rt_f_50 : rt_fP (5, 51, 5, 22, .array .int, 1) := ⟨_, rt_T5, 25, rfl, by decide, by decide +kernel, ⟨fun h => absurd h (by decide), fun _ => rfl⟩, Or.inl ⟨rt_in 493 rfl rfl, fun _ => rfl⟩⟩
set_option maxRecDepth 100000 in
theorem rt_f_51 : rt_fP (5, 54, 5, 4, .int, 0) := ⟨_, rt_T5, 25, rfl, by decide, by decide +kernel, ⟨fun _ => rfl, fun h => absurd rfl h⟩, Or.inl ⟨rt_in 475 rfl rfl, fun h => absurd h (by decide)⟩⟩
set_option maxRecDepth 100000 in
theorem rt_f_52 : rt_fP (5, 57, 5, 5, .boolean, 0) := ⟨_, rt_T5, 25, rfl, by decide, by decide +kernel, ⟨fun _ => rfl, fun h => absurd rfl h⟩, Or.inl ⟨rt_in 476 rfl rfl, fun h => absurd h (by decide)⟩⟩
set_option maxRecDepth 100000 in
theorem rt_f_53 : rt_fP (5, 80, 5, 12, .boolean, 0) := ⟨_, rt_T5, 25, rfl, by decide, by decide +kernel, ⟨fun _ => rfl, fun h => absurd rfl h⟩, Or.inl ⟨rt_in 483 rfl rfl, fun h => absurd h (by decide)⟩⟩
set_option maxRecDepth 100000 in
theorem rt_f_54 : rt_fP (5, 83, 5, 11, .int, 0) := ⟨_, rt_T5, 25, rfl, by decide, by decide +kernel, ⟨fun _ => rfl, fun h => absurd rfl h⟩, Or.inl ⟨rt_in 482 rfl rfl, fun h => absurd h (by decide)⟩⟩
set_option maxRecDepth 100000 in
theorem rt_f_55 : rt_fP (5, 86, 5, 9, .int, 0) := ⟨_, rt_T5, 25, rfl, by decide, by decide +kernel, ⟨fun _ => rfl, fun h => absurd rfl h⟩, Or.inl ⟨rt_in 480 rfl rfl, fun h => absurd h (by decide)⟩⟩
set_option maxRecDepth 100000 in
theorem rt_f_56 : rt_fP (5, 96, 5, 16, .int, 0) := ⟨_, rt_T5, 25, rfl, by decide, by decide +kernel, ⟨fun _ => rfl, fun h => absurd rfl h⟩, Or.inl ⟨rt_in 487 rfl rfl, fun h => absurd h (by decide)⟩⟩
set_option maxRecDepth 100000 in
theorem rt_f_57 : rt_fP (5, 103, 5, 24, .int, 0) := ⟨_, rt_T5, 25, rfl, by decide, by decide +kernel, ⟨fun _ => rfl, fun h => absurd rfl h⟩, Or.inl ⟨rt_in 495 rfl rfl, fun h => absurd h (by decide)⟩⟩
set_option maxRecDepth 100000 in
theorem rt_f_58 : rt_fP (5, 109, 5, 17, .int, 0) := ⟨_, rt_T5, 25, rfl, by decide, by decide +kernel, ⟨fun _ => rfl, fun h => absurd rfl h⟩, Or.inl ⟨rt_in 488 rfl rfl, fun h => absurd h (by decide)⟩⟩
set_option maxRecDepth 100000 in
theorem rt_f_59 : rt_fP (5, 112, 5, 18, .int, 0) := ⟨_, rt_T5, 25, rfl, by decide, by decide +kernel, ⟨fun _ => rfl, fun h => absurd rfl h⟩, Or.inl ⟨rt_in 489 rfl rfl, fun h => absurd h (by decide)⟩⟩
set_option maxRecDepth 100000 in
theorem rt_f_60 : rt_fP (5, 115, 5, 19, .int, 0) := ⟨_, rt_T5, 25, rfl, by decide, by decide +kernel, ⟨fun _ => rfl, fun h => absurd rfl h⟩, Or.inl ⟨rt_in 490 rfl rfl, fun h => absurd h (by decide)⟩⟩
set_option maxRecDepth 100000 in
theorem rt_f_61 : rt_fP (5, 124, 5, 23, .int, 0) := ⟨_, rt_T5, 25, rfl, by decide, by decide +kernel, ⟨fun _ => rfl, fun h => absurd rfl h⟩, Or.inl ⟨rt_in 494 rfl rfl, fun h => absurd h (by decide)⟩⟩
set_option maxRecDepth 100000 in
theorem rt_f_all : ∀ x ∈ rt_fL, rt_fP x := List.forall_mem_cons.mpr ⟨rt_f_0, List.forall_mem_cons.mpr ⟨rt_f_1, List.forall_mem_cons.mpr ⟨rt_f_2, List.forall_mem_cons.mpr ⟨rt_f_3, List.forall_mem_cons.mpr ⟨rt_f_4, List.forall_mem_cons.mpr ⟨rt_f_5, List.forall_mem_cons.mpr ⟨rt_f_6, List.forall_mem_cons.mpr ⟨rt_f_7, List.forall_mem_cons.mpr ⟨rt_f_8, List.forall_mem_cons.mpr ⟨rt_f_9, List.forall_mem_cons.mpr ⟨rt_f_10, List.forall_mem_cons.mpr ⟨rt_f_11, List.forall_mem_cons.mpr ⟨rt_f_12, List.forall_mem_cons.mpr ⟨rt_f_13, List.forall_mem_cons.mpr ⟨rt_f_14, List.forall_mem_cons.mpr ⟨rt_f_15, List.forall_mem_cons.mpr ⟨rt_f_16, List.forall_mem_cons.mpr ⟨rt_f_17, List.forall_mem_cons.mpr ⟨rt_f_18, List.forall_mem_cons.mpr ⟨rt_f_19, List.forall_mem_cons.mpr ⟨rt_f_20, List.forall_mem_cons.mpr ⟨rt_f_21, List.forall_mem_cons.mpr ⟨rt_f_22, List.forall_mem_cons.mpr ⟨rt_f_23, List.forall_mem_cons.mpr ⟨rt_f_24, List.forall_mem_cons.mpr ⟨rt_f_25, List.forall_mem_cons.mpr ⟨rt_f_26, List.forall_mem_cons.mpr ⟨rt_f_27, List.forall_mem_cons.mpr ⟨rt_f_28, List.forall_mem_cons.mpr ⟨rt_f_29, List.forall_mem_cons.mpr ⟨rt_f_30, List.forall_mem_cons.mpr ⟨rt_f_31, List.forall_mem_cons.mpr ⟨rt_f_32, List.forall_mem_cons.mpr ⟨rt_f_33, List.forall_mem_cons.mpr ⟨rt_f_34, List.forall_mem_cons.mpr ⟨rt_f_35, List.forall_mem_cons.mpr ⟨rt_f_36, List.forall_mem_cons.mpr ⟨rt_f_37, List.forall_mem_cons.mpr ⟨rt_f_38, List.forall_mem_cons.mpr ⟨rt_f_39, List.forall_mem_cons.mpr ⟨rt_f_40, List.forall_mem_cons.mpr ⟨rt_f_41, List.forall_mem_cons.mpr ⟨rt_f_42, List.forall_mem_cons.mpr ⟨rt_f_43, List.forall_mem_cons.mpr ⟨rt_f_44, List.forall_mem_cons.mpr ⟨rt_f_45, List.forall_mem_cons.mpr ⟨rt_f_46, List.forall_mem_cons.mpr ⟨rt_f_47, List.forall_mem_cons.mpr ⟨rt_f_48, List.forall_mem_cons.mpr ⟨rt_f_49, List.forall_mem_cons.mpr ⟨rt_f_50, List.forall_mem_cons.mpr ⟨rt_f_51, List.forall_mem_cons.mpr ⟨rt_f_52, List.forall_mem_cons.mpr ⟨rt_f_53, List.forall_mem_cons.mpr ⟨rt_f_54, List.forall_mem_cons.mpr ⟨rt_f_55, List.forall_mem_cons.mpr ⟨rt_f_56, List.forall_mem_cons.mpr ⟨rt_f_57, List.forall_mem_cons.mpr ⟨rt_f_58, List.forall_mem_cons.mpr ⟨rt_f_59, List.forall_mem_cons.mpr ⟨rt_f_60, List.forall_mem_cons.mpr ⟨rt_f_61, fun _ h => absurd h List.not_mem_nil⟩⟩⟩⟩⟩⟩⟩⟩⟩⟩⟩⟩⟩⟩⟩⟩⟩⟩⟩⟩⟩⟩⟩⟩⟩⟩⟩⟩⟩⟩⟩⟩⟩⟩⟩⟩⟩⟩⟩⟩⟩⟩⟩⟩⟩⟩⟩⟩⟩⟩⟩⟩⟩⟩⟩⟩⟩⟩⟩⟩⟩⟩
set_option maxRecDepth 100000 in
theorem rt_f_ok {ci k cj j fl : Nat} {ty : FieldType} (h : rt_f ci k = some (cj, j, ty, fl)) : rt_fP (ci, k, cj, j, ty, fl) := rt_f_all _ (rt_lk_mem h)
def rt_nL : List (Nat × Nat × Nat × List Value) := [(4, 7, 3, [.null, .null, .null, .null, .null, .null, .null, .null, .int 0, .int 0, .int 0]), (4, 16, 1, [.null, .null, .null, .null, .int 0, .int 0, .int 0]), (4, 23, 2, [.null, .int 0]), (4, 34, 0, [.null, .null]), (6, 7, 4, [.null, .null, .null, .null, .null, .int 0, .int 0, .int 0, .long 0]), (6, 10, 5, [.null, .null, .null, .null, .int 0, .int 0, .null, .null, .null, .int 0, .null, .int 0, .int 0, .int 0, .null, .null, .int 0, .int 0, .int 0, .int 0, .null, .null, .null, .int 0, .int 0])]
def rt_n (ci k : Nat) : Option (Nat × List Value) := rt_lk ci k rt_nL
def rt_nP (x : Nat × Nat × Nat × List Value) : Prop := match x with
  | (ci, k, cj, fs) => ∃ (C : String) (T : u_T) (N : Nat) (ty0 : Nat → FieldType), vwCl[cj]? = some (C, T, N) ∧ (∀ k, k < N → parseFieldDescriptor (T k).2.2.1 = some (ty0 k)) ∧ Cond.classLink (rt_cn ci) k C ∈ rt_tbl ∧ Cond.instantiable C N ∈ rt_tbl ∧ Cond.initialized C ∈ rt_tbl ∧ N = fs.length ∧ (∀ j, j < N → defaultValue (ty0 j) = vp_V fs j)
set_option maxRecDepth 100000 in
theorem rt_n_0 : rt_nP (4, 7, 3, [.null, .null, .null, .null, .null, .null, .null, .null, .int 0, .int 0, .int 0]) := ⟨_, rt_T3, 11, rt_y3, rfl, by decide +kernel, rt_in 48 rfl rfl, rt_in 49 rfl rfl, rt_in 32 rfl rfl, rfl, by decide +kernel⟩
set_option maxRecDepth 100000 in
theorem rt_n_1 : rt_nP (4, 16, 1, [.null, .null, .null, .null, .int 0, .int 0, .int 0]) := ⟨_, rt_T1, 7, rt_y1, rfl, by decide +kernel, rt_in 92 rfl rfl, rt_in 93 rfl rfl, rt_in 33 rfl rfl, rfl, by decide +kernel⟩
set_option maxRecDepth 100000 in
theorem rt_n_2 : rt_nP (4, 23, 2, [.null, .int 0]) := ⟨_, rt_T2, 2, rt_y2, rfl, by decide +kernel, rt_in 123 rfl rfl, rt_in 124 rfl rfl, rt_in 34 rfl rfl, rfl, by decide +kernel⟩
set_option maxRecDepth 100000 in
theorem rt_n_3 : rt_nP (4, 34, 0, [.null, .null]) := ⟨_, rt_T0, 2, rt_y0, rfl, by decide +kernel, rt_in 137 rfl rfl, rt_in 138 rfl rfl, rt_in 35 rfl rfl, rfl, by decide +kernel⟩
set_option maxRecDepth 100000 in
theorem rt_n_4 : rt_nP (6, 7, 4, [.null, .null, .null, .null, .null, .int 0, .int 0, .int 0, .long 0]) := ⟨_, rt_T4, 9, rt_y4, rfl, by decide +kernel, rt_in 40 rfl rfl, rt_in 41 rfl rfl, rt_in 31 rfl rfl, rfl, by decide +kernel⟩
set_option maxRecDepth 100000 in
theorem rt_n_5 : rt_nP (6, 10, 5, [.null, .null, .null, .null, .int 0, .int 0, .null, .null, .null, .int 0, .null, .int 0, .int 0, .int 0, .null, .null, .int 0, .int 0, .int 0, .int 0, .null, .null, .null, .int 0, .int 0]) := ⟨_, rt_T5, 25, rt_y5, rfl, by decide +kernel, rt_in 465 rfl rfl, rt_in 466 rfl rfl, rt_in 37 rfl rfl, rfl, by decide +kernel⟩
set_option maxRecDepth 100000 in
theorem rt_n_all : ∀ x ∈ rt_nL, rt_nP x := List.forall_mem_cons.mpr ⟨rt_n_0, List.forall_mem_cons.mpr ⟨rt_n_1, List.forall_mem_cons.mpr ⟨rt_n_2, List.forall_mem_cons.mpr ⟨rt_n_3, List.forall_mem_cons.mpr ⟨rt_n_4, List.forall_mem_cons.mpr ⟨rt_n_5, fun _ h => absurd h List.not_mem_nil⟩⟩⟩⟩⟩⟩
set_option maxRecDepth 100000 in
theorem rt_n_ok {ci k cj : Nat} {fs : List Value} (h : rt_n ci k = some (cj, fs)) : rt_nP (ci, k, cj, fs) := rt_n_all _ (rt_lk_mem h)
def rt_iL : List (Nat × Nat × Int32) := []
def rt_i (ci k : Nat) : Option Int32 := rt_lk ci k rt_iL
set_option maxRecDepth 100000 in
theorem rt_i_ok {ci k : Nat} {v : Int32} (h : rt_i ci k = some v) : Cond.constant (rt_cn ci) k v ∈ rt_tbl := absurd (rt_lk_mem h) List.not_mem_nil
def rt_lL : List (Nat × Nat × Int64) := [(4, 131, (4294967295 : Int64)), (4, 133, (65535 : Int64))]
def rt_l (ci k : Nat) : Option Int64 := rt_lk ci k rt_lL
set_option maxRecDepth 100000 in
theorem rt_l_0 : Cond.constantLong (rt_cn 4) 131 (4294967295 : Int64) ∈ rt_tbl := rt_in 405 rfl rfl
set_option maxRecDepth 100000 in
theorem rt_l_1 : Cond.constantLong (rt_cn 4) 133 (65535 : Int64) ∈ rt_tbl := rt_in 406 rfl rfl
def rt_lP (x : Nat × Nat × Int64) : Prop := Cond.constantLong (rt_cn x.1) x.2.1 x.2.2 ∈ rt_tbl
set_option maxRecDepth 100000 in
theorem rt_l_all : ∀ x ∈ rt_lL, rt_lP x := List.forall_mem_cons.mpr ⟨rt_l_0, List.forall_mem_cons.mpr ⟨rt_l_1, fun _ h => absurd h List.not_mem_nil⟩⟩
set_option maxRecDepth 100000 in
theorem rt_l_ok {ci k : Nat} {v : Int64} (h : rt_l ci k = some v) : Cond.constantLong (rt_cn ci) k v ∈ rt_tbl := rt_l_all _ (rt_lk_mem h)
def rt_oL : List (Nat × Nat × Nat) := [(4, 1, 1), (4, 225, 2), (0, 3, 1), (0, 9, 2), (1, 3, 1), (2, 3, 1), (3, 3, 1), (3, 72, 2), (5, 1, 1), (7, 150, 4), (7, 304, 3)]
def rt_o (ci k : Nat) : Nat := match rt_lk ci k rt_oL with
  | some n => n
  | none => 0
def rt_oP (x : Nat × Nat × Nat) : Prop := match x.2.2 with
  | 1 => Cond.methodLink (rt_cn x.1) x.2.1 Lib.objectInit ∈ rt_tbl
  | 2 => Cond.methodLink (rt_cn x.1) x.2.1 Lib.Math.max.name ∈ rt_tbl
  | 3 => Cond.methodLink (rt_cn x.1) x.2.1 Lib.Math.min.name ∈ rt_tbl
  | 4 => Cond.methodLink (rt_cn x.1) x.2.1 arraycopyName ∈ rt_tbl
  | _ => True
set_option maxRecDepth 100000 in
theorem rt_o_0 : rt_oP (4, 1, 1) := rt_in 45 rfl rfl
set_option maxRecDepth 100000 in
theorem rt_o_1 : rt_oP (4, 225, 2) := rt_in 276 rfl rfl
set_option maxRecDepth 100000 in
theorem rt_o_2 : rt_oP (0, 3, 1) := rt_in 142 rfl rfl
set_option maxRecDepth 100000 in
theorem rt_o_3 : rt_oP (0, 9, 2) := rt_in 143 rfl rfl
set_option maxRecDepth 100000 in
theorem rt_o_4 : rt_oP (1, 3, 1) := rt_in 97 rfl rfl
set_option maxRecDepth 100000 in
theorem rt_o_5 : rt_oP (2, 3, 1) := rt_in 128 rfl rfl
set_option maxRecDepth 100000 in
theorem rt_o_6 : rt_oP (3, 3, 1) := rt_in 53 rfl rfl
set_option maxRecDepth 100000 in
theorem rt_o_7 : rt_oP (3, 72, 2) := rt_in 268 rfl rfl
set_option maxRecDepth 100000 in
theorem rt_o_8 : rt_oP (5, 1, 1) := rt_in 470 rfl rfl
set_option maxRecDepth 100000 in
theorem rt_o_9 : rt_oP (7, 150, 4) := rt_in 290 rfl rfl
set_option maxRecDepth 100000 in
theorem rt_o_10 : rt_oP (7, 304, 3) := rt_in 287 rfl rfl
set_option maxRecDepth 100000 in
theorem rt_o_all : ∀ x ∈ rt_oL, rt_oP x := List.forall_mem_cons.mpr ⟨rt_o_0, List.forall_mem_cons.mpr ⟨rt_o_1, List.forall_mem_cons.mpr ⟨rt_o_2, List.forall_mem_cons.mpr ⟨rt_o_3, List.forall_mem_cons.mpr ⟨rt_o_4, List.forall_mem_cons.mpr ⟨rt_o_5, List.forall_mem_cons.mpr ⟨rt_o_6, List.forall_mem_cons.mpr ⟨rt_o_7, List.forall_mem_cons.mpr ⟨rt_o_8, List.forall_mem_cons.mpr ⟨rt_o_9, List.forall_mem_cons.mpr ⟨rt_o_10, fun _ h => absurd h List.not_mem_nil⟩⟩⟩⟩⟩⟩⟩⟩⟩⟩⟩
set_option maxRecDepth 100000 in
theorem rt_o_ok {ci k n : Nat} (h : rt_o ci k = n) : rt_oP (ci, k, n) := by
  unfold rt_o at h
  split at h
  · rename_i m hm
    subst h
    exact rt_o_all _ (rt_lk_mem hm)
  · subst h
    exact trivial
set_option maxRecDepth 100000 in
theorem rt_lf_obj : Cond.instanceMethod Lib.objectInit ∈ rt_tbl ∧ Cond.code Lib.objectInit ⟨#[0xb1]⟩ 1 none ∈ rt_tbl := ⟨rt_in 46 rfl rfl, rt_in 47 rfl rfl⟩
set_option maxRecDepth 100000 in
theorem rt_lf_max : Cond.static Lib.Math.max.name ∈ rt_tbl ∧ Cond.initialized "java/lang/Math" ∈ rt_tbl ∧ Cond.code Lib.Math.max.name Lib.Math.max.code 2 (some .int) ∈ rt_tbl := ⟨rt_in 144 rfl rfl, rt_in 36 rfl rfl, rt_in 145 rfl rfl⟩
set_option maxRecDepth 100000 in
theorem rt_lf_min : Cond.static Lib.Math.min.name ∈ rt_tbl ∧ Cond.initialized "java/lang/Math" ∈ rt_tbl ∧ Cond.code Lib.Math.min.name Lib.Math.min.code 2 (some .int) ∈ rt_tbl := ⟨rt_in 288 rfl rfl, rt_in 36 rfl rfl, rt_in 289 rfl rfl⟩
set_option maxRecDepth 100000 in
theorem rt_lf_cpy : Cond.native arraycopyName ∈ rt_tbl ∧ Cond.static arraycopyName ∈ rt_tbl ∧ Cond.initialized "java/lang/System" ∈ rt_tbl := ⟨rt_in 292 rfl rfl, rt_in 291 rfl rfl, rt_in 39 rfl rfl⟩
def rt_mL : List (Nat × Nat × Unit) := [(0, 21, ())]
def rt_m (ci k : Nat) : Bool := (rt_lk ci k rt_mL).isSome
def rt_mP (x : Nat × Nat × Unit) : Prop := Cond.classLink (rt_cn x.1) x.2.1 "[[I" ∈ rt_tbl
set_option maxRecDepth 100000 in
theorem rt_m_0 : rt_mP (0, 21, ()) := rt_in 146 rfl rfl
set_option maxRecDepth 100000 in
theorem rt_m_all : ∀ x ∈ rt_mL, rt_mP x := List.forall_mem_cons.mpr ⟨rt_m_0, fun _ h => absurd h List.not_mem_nil⟩
set_option maxRecDepth 100000 in
theorem rt_m_ok {ci k : Nat} (h : rt_m ci k = true) : Cond.classLink (rt_cn ci) k "[[I" ∈ rt_tbl := by
  unfold rt_m at h
  obtain ⟨y, hy⟩ := Option.isSome_iff_exists.mp h
  exact rt_m_all _ (rt_lk_mem hy)
set_option maxRecDepth 100000 in
theorem rt_over : lw_tbl[147]? = some (Cond.arrayOver (.array .int)) := rfl
