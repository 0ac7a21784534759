/-! WHAT IS LEFT: the law's run on the small machine -/
theorem pure_law (b z L : Nat) (xs : Nat → Int32) (hb : b < z) (hL : L ≤ 2048) : ev_W 1000 mLa_law (0, ri_loc 4 [Value.ref b], []) ((fun a => if a = b then some (.inl (.object "", L, .inl xs)) else none), z, 0) (fun v σ' => v = some (.int 1) ∧ σ'.2.1 ≤ z + 600000 ∧ σ'.2.2 ≤ 7302250) := by
  sorry
