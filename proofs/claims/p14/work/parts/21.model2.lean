/-! THE REFERENCE: columns, columnOf, count, ready, level, begin, drop, records. -/
/-- how many of the first n are leaves -/
def mo_lv (G : Nat → Int32) : Nat → Nat
  | 0 => 0
  | n + 1 => mo_lv G n + (if G n = 0 then 1 else 0)
/-- how many on the chain of parents have at least that kind -/
def mo_ct (par kin : Nat → Int32) (least : Int32) : Nat → Int32 → Nat
  | 0, _ => 0
  | m + 1, f => if f = -1 then 0 else (if kin f.toNatClampNeg < least then 0 else 1) + mo_ct par kin least m (par f.toNatClampNeg)
theorem mo_lv_le (G : Nat → Int32) : ∀ n, mo_lv G n ≤ n
  | 0 => Nat.le_refl 0
  | n + 1 => by
    have := mo_lv_le G n
    unfold mo_lv
    split <;> omega
section MO2
variable {d o : Nat} {A : Nat → Nat → Int32} {I : Nat → Int32} {σ0 σ : ri_S} {Q : Option Value → ri_S → Prop}
set_option maxRecDepth 100000 in
theorem mo_columns_loop {n : Nat} (hP : mo_P o A I σ.1) (hI : I 4 = nI n) (hn : n ≤ 48) (k : Q (some (.int (nI (mo_lv (A 3) n)))) σ) : ∀ (m i : Nat), i + m = n → ev_W d mMo_columns (4, [some (.ref o), some (.int (nI (mo_lv (A 3) i))), some (.int (nI i))], []) σ Q := by
  intro m
  induction m with
  | zero =>
    intro i hi
    obtain rfl : i = n := by omega
    refine g_get rfl rfl rfl hP.1 rfl ?_
    refine g_br rfl rfl rfl rfl rfl rfl (fun h => ?_) (fun h => absurd (by rw [hI]; exact nI_le (Nat.le_refl _) (by omega)) h)
    exact g_rt rfl rfl rfl k
  | succ m ih =>
    intro i hi
    refine g_get rfl rfl rfl hP.1 rfl ?_
    refine g_br rfl rfl rfl rfl rfl rfl (fun h => absurd h (by rw [hI]; exact nI_ge (by omega) (by omega))) (fun h => ?_)
    refine g_get rfl rfl rfl hP.1 rfl ?_
    refine mo_zld hP 3 rfl rfl rfl rfl (show i < 48 by omega) (by decide) rfl ?_
    have e : ∀ x : Nat, mo_lv (A 3) (i + 1) = mo_lv (A 3) i + x → ev_W d mMo_columns (4, [some (.ref o), some (.int (nI (mo_lv (A 3) i) + nI x)), some (.int (nI i + 1))], []) σ Q := by
      intro x hx
      rw [nI_add, nI_1, ← hx]
      exact ih (i + 1) (by omega)
    refine g_br rfl rfl rfl rfl rfl rfl (fun h2 => ?_) (fun h2 => ?_)
    · refine ev_go 5 rfl ?_
      exact e 1 (by show mo_lv (A 3) i + (if A 3 i = 0 then 1 else 0) = _; rw [if_pos h2])
    · refine ev_go 6 rfl ?_
      exact e 0 (by show mo_lv (A 3) i + (if A 3 i = 0 then 1 else 0) = _; rw [if_neg h2])
set_option maxRecDepth 100000 in
/-- columns() -/
theorem mo_columns {n : Nat} (hP : mo_P o A I σ.1) (hI : I 4 = nI n) (hn : n ≤ 48) (k : Q (some (.int (nI (mo_lv (A 3) n)))) σ) : ev_W d mMo_columns (0, [some (.ref o), none, none], []) σ Q := by
  refine ev_go 4 rfl ?_
  exact mo_columns_loop hP hI hn k n 0 (by omega)
set_option maxRecDepth 100000 in
theorem mo_columnOf_loop {w : Nat} (hP : mo_P o A I σ.1) (hw : w < 48) (k : Q (some (.int (if A 3 w = 0 then nI (mo_lv (A 3) w) else -1))) σ) : ∀ (m i : Nat), i + m = w → ev_W d mMo_columnOf (4, [some (.ref o), some (.int (nI w)), some (.int (nI (mo_lv (A 3) i))), some (.int (nI i))], []) σ Q := by
  intro m
  induction m with
  | zero =>
    intro i hi
    obtain rfl : i = w := by omega
    refine g_br rfl rfl rfl rfl rfl rfl (fun h => ?_) (fun h => absurd (nI_le (Nat.le_refl _) (by omega)) h)
    refine g_get rfl rfl rfl hP.1 rfl ?_
    refine mo_zld hP 3 rfl rfl rfl rfl (show i < 48 by omega) (by decide) rfl ?_
    refine g_br rfl rfl rfl rfl rfl rfl (fun h2 => ?_) (fun h2 => ?_)
    · refine g_rt rfl rfl rfl ?_
      rw [if_pos h2] at k
      exact k
    · refine g_rt rfl rfl rfl ?_
      rw [if_neg h2] at k
      exact k
  | succ m ih =>
    intro i hi
    refine g_br rfl rfl rfl rfl rfl rfl (fun h => absurd h (nI_ge (by omega) (by omega))) (fun h => ?_)
    refine g_get rfl rfl rfl hP.1 rfl ?_
    refine mo_zld hP 3 rfl rfl rfl rfl (show i < 48 by omega) (by decide) rfl ?_
    have e : ∀ x : Nat, mo_lv (A 3) (i + 1) = mo_lv (A 3) i + x → ev_W d mMo_columnOf (4, [some (.ref o), some (.int (nI w)), some (.int (nI (mo_lv (A 3) i) + nI x)), some (.int (nI i + 1))], []) σ Q := by
      intro x hx
      rw [nI_add, nI_1, ← hx]
      exact ih (i + 1) (by omega)
    refine g_br rfl rfl rfl rfl rfl rfl (fun h2 => ?_) (fun h2 => ?_)
    · refine ev_go 5 rfl ?_
      exact e 1 (by show mo_lv (A 3) i + (if A 3 i = 0 then 1 else 0) = _; rw [if_pos h2])
    · refine ev_go 6 rfl ?_
      exact e 0 (by show mo_lv (A 3) i + (if A 3 i = 0 then 1 else 0) = _; rw [if_neg h2])
set_option maxRecDepth 100000 in
/-- columnOf(f) -/
theorem mo_columnOf {w : Nat} {f : Int32} (hP : mo_P o A I σ.1) (hf : f = nI w) (hw : w < 48) (k : Q (some (.int (if A 3 w = 0 then nI (mo_lv (A 3) w) else -1))) σ) : ev_W d mMo_columnOf (0, [some (.ref o), some (.int f), none, none], []) σ Q := by
  subst hf
  refine ev_go 4 rfl ?_
  exact mo_columnOf_loop hP hw k w 0 (by omega)
set_option maxRecDepth 100000 in
theorem mo_count_loop {n : Nat} {f0 least : Int32} (hP : mo_P o A I σ.1) (hn : n ≤ 48) (hup : mo_up (A 0) n) : ∀ (m : Nat) (f : Int32) (acc : Nat), (f = -1 ∨ ∃ p, p < m ∧ f = nI p) → m ≤ n → Q (some (.int (nI (acc + mo_ct (A 0) (A 1) least m f)))) σ → ev_W d mMo_count (5, [some (.ref o), some (.int f0), some (.int least), some (.int (nI acc)), some (.int f)], []) σ Q := by
  intro m
  induction m with
  | zero =>
    intro f acc hf hm hk
    obtain rfl : f = -1 := by
      rcases hf with h | ⟨p, hp, -⟩
      · exact h
      · exact absurd hp (Nat.not_lt_zero _)
    refine g_br rfl rfl rfl rfl rfl rfl (fun h => ?_) (fun h => absurd rfl h)
    exact g_rt rfl rfl rfl hk
  | succ m ih =>
    intro f acc hf hm hk
    refine g_br rfl rfl rfl rfl rfl rfl (fun h => ?_) (fun h => ?_)
    · refine g_rt rfl rfl rfl ?_
      unfold mo_ct at hk
      rw [if_pos h] at hk
      exact hk
    · obtain ⟨p, hp, rfl⟩ : ∃ p, p < m + 1 ∧ f = nI p := by
        rcases hf with h9 | h9
        · exact absurd h9 h
        · exact h9
      have hp2 : p < 2 ^ 31 := by omega
      unfold mo_ct at hk
      rw [if_neg h, nI_clamp hp2] at hk
      refine g_get rfl rfl rfl hP.1 rfl ?_
      refine mo_ald hP 1 rfl rfl rfl rfl (show p < 48 by omega) (by decide) rfl ?_
      have go : ∀ x : Nat, x = (if A 1 p < least then 0 else 1) → ev_W d mMo_count (28, [some (.ref o), some (.int f0), some (.int least), some (.int (nI acc)), some (.int (nI p))], [.int (nI x), .int (nI acc)]) σ Q := by
        intro x ex
        refine g_get rfl rfl rfl hP.1 rfl ?_
        refine mo_ald hP 0 rfl rfl rfl rfl (show p < 48 by omega) (by decide) rfl ?_
        refine ev_go 2 rfl ?_
        rw [nI_add]
        refine ih (A 0 p) (acc + x) ?_ (by omega) (by rw [ex, Nat.add_assoc]; exact hk)
        rcases hup p (by omega) with q | ⟨w, hw, q⟩
        · exact Or.inl q
        · exact Or.inr ⟨w, by omega, q⟩
      refine g_br rfl rfl rfl rfl rfl rfl (fun h2 => ?_) (fun h2 => ?_)
      · refine ev_go 1 rfl ?_
        exact go 0 (by rw [if_pos h2])
      · refine ev_go 2 rfl ?_
        exact go 1 (by rw [if_neg h2])
set_option maxRecDepth 100000 in
/-- count(f, least) -/
theorem mo_count {n w : Nat} {f least : Int32} (hP : mo_P o A I σ.1) (hf : f = nI w) (hw : w < n) (hn : n ≤ 48) (hup : mo_up (A 0) n) (k : Q (some (.int (nI (mo_ct (A 0) (A 1) least n f)))) σ) : ev_W d mMo_count (0, [some (.ref o), some (.int f), some (.int least), none, none], []) σ Q := by
  refine ev_go 4 rfl ?_
  refine mo_count_loop hP hn hup n f 0 (Or.inr ⟨w, hw, hf⟩) (Nat.le_refl _) ?_
  rw [Nat.zero_add]
  exact k
end MO2
