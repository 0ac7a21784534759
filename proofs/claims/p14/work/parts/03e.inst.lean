/-! (written by gen03.py) -/
set_option maxRecDepth 100000 in
theorem rt_inst0 : Cond.instantiable "Striping$Columns" 2 ∈ rt_tbl := rt_in 138 rfl rfl
set_option maxRecDepth 100000 in
theorem rt_inst1 : Cond.instantiable "Striping$Draft" 7 ∈ rt_tbl := rt_in 93 rfl rfl
set_option maxRecDepth 100000 in
theorem rt_inst2 : Cond.instantiable "Striping$Events" 2 ∈ rt_tbl := rt_in 124 rfl rfl
set_option maxRecDepth 100000 in
theorem rt_inst3 : Cond.instantiable "Striping$Schema" 11 ∈ rt_tbl := rt_in 49 rfl rfl
set_option maxRecDepth 100000 in
theorem rt_inst4 : Cond.instantiable "Striping" 9 ∈ rt_tbl := rt_in 41 rfl rfl
set_option maxRecDepth 100000 in
theorem rt_inst5 : Cond.instantiable "StripingModel" 25 ∈ rt_tbl := rt_in 466 rfl rfl
