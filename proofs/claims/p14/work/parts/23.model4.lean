/-! THE REFERENCE: level, begin, has, comes, open, leaf, close, drop, records, event, tells. -/
section MO4
variable {d o : Nat} {A : Nat → Nat → Int32} {I : Nat → Int32} {σ0 σ : ri_S} {Q : Option Value → ri_S → Prop}
set_option maxRecDepth 100000 in
/-- level(f, what) -/
theorem mo_level {n : Nat} {f wh : Int32} (hP : mo_P o A I σ.1) (hI : I 4 = nI n) (hn : n ≤ 48) (hup : mo_up (A 0) n) (k : ∀ v : Int32, Q (some (.int v)) σ) : ev_W (d + 1) mMo_level (0, [some (.ref o), some (.int f), some (.int wh)], []) σ Q := by
  refine g_clV rfl rfl rfl rfl hP.1 rfl rfl rfl ?_
  refine mo_isField hP (fun h1 h2 => ?_) (fun h0 => ?_)
  rotate_left
  · refine g_br rfl rfl rfl rfl rfl rfl (fun h => ?_) (fun h => absurd rfl h)
    exact g_rt rfl rfl rfl (k _)
  obtain ⟨w, hw, e⟩ : ∃ w, w < n ∧ f = nI w := by
    obtain ⟨w, hw, e⟩ := nI_of (Int32.not_lt.mpr h1)
    rw [e, hI] at h2
    exact ⟨w, (nI_ltI hw (by omega)).mp h2, e⟩
  refine g_br rfl rfl rfl rfl rfl rfl (fun h => absurd h (by decide)) (fun h => ?_)
  refine g_br rfl rfl rfl rfl rfl rfl (fun h3 => ?_) (fun h3 => ?_)
  · refine g_clV rfl rfl rfl rfl hP.1 rfl rfl rfl ?_
    refine mo_count hP e hw hn hup ?_
    exact g_rt rfl rfl rfl (k _)
  refine g_br rfl rfl rfl rfl rfl rfl (fun h4 => ?_) (fun h4 => ?_)
  · refine g_clV rfl rfl rfl rfl hP.1 rfl rfl rfl ?_
    refine mo_count hP e hw hn hup ?_
    exact g_rt rfl rfl rfl (k _)
  refine g_br rfl rfl rfl rfl rfl rfl (fun h5 => ?_) (fun h5 => ?_)
  · refine g_get rfl rfl rfl hP.1 rfl ?_
    refine g_br rfl rfl rfl rfl rfl rfl (fun h6 => ?_) (fun h6 => ?_)
    · exact g_rt rfl rfl rfl (k _)
    · refine g_clV rfl rfl rfl rfl hP.1 rfl rfl rfl ?_
      refine mo_columnOf hP e (by omega) ?_
      exact g_rt rfl rfl rfl (k _)
  · exact g_rt rfl rfl rfl (k _)
set_option maxRecDepth 100000 in
/-- begin() -/
theorem mo_begin {r : Nat} (hW : mo_W o A I σ0 σ) (hr : I 11 = nI r) (hr2 : r ≤ 128)
    (kno : ¬ (¬ I 5 = 0 ∧ I 12 = 0 ∧ r < 128) → Q (some (.int 0)) σ)
    (kyes : ∀ σ' : ri_S, (¬ I 5 = 0 ∧ I 12 = 0 ∧ r < 128) → mo_W o (va_up A 7 (upd (A 7) r (I 9))) (va_up (va_up I 12 1) 13 (-1)) σ0 σ' → Q (some (.int 1)) σ') :
    ev_W d mMo_begin (0, [some (.ref o)], []) σ Q := by
  have hP := hW.1
  refine g_get rfl rfl rfl hP.1 rfl ?_
  refine g_br rfl rfl rfl rfl rfl rfl (fun h1 => ?_) (fun h1 => ?_)
  · exact g_rt rfl rfl rfl (kno (fun q => q.1 h1))
  refine g_get rfl rfl rfl hP.1 rfl ?_
  refine g_br rfl rfl rfl rfl rfl rfl (fun h2 => ?_) (fun h2 => ?_)
  rotate_left
  · exact g_rt rfl rfl rfl (kno (fun q => h2 q.2.1))
  refine g_get rfl rfl rfl hP.1 rfl ?_
  refine g_br rfl rfl rfl rfl rfl rfl (fun h3 => ?_) (fun h3 => ?_)
  · refine g_rt rfl rfl rfl (kno (fun q => ?_))
    rw [hr] at h3
    have := (nI_eq (by omega) (by decide)).mp (show nI r = nI 128 from h3)
    omega
  have h4 : r < 128 := by
    rcases Nat.lt_or_ge r 128 with q | q
    · exact q
    · exact absurd (by rw [hr, show r = 128 by omega]; rfl) h3
  refine g_get rfl rfl rfl hP.1 rfl ?_
  refine g_get rfl rfl rfl hP.1 rfl ?_
  refine g_get rfl rfl rfl hP.1 rfl ?_
  refine mo_ast hW 7 rfl rfl rfl hr (show r < 129 by omega) (by decide) rfl (fun σ1 hW1 => ?_)
  refine mo_set hW1 rfl rfl rfl rfl rfl rfl rfl (fun σ2 hW2 => ?_)
  refine mo_set hW2 rfl rfl rfl rfl rfl rfl rfl (fun σ3 hW3 => ?_)
  exact g_rt rfl rfl rfl (kyes σ3 ⟨h1, h2, h4⟩ hW3)
set_option maxRecDepth 100000 in
theorem mo_has_loop {f : Int32} {m b : Nat} (hP : mo_P o A I σ.1) (hm : I 9 = nI m) (hm2 : m ≤ 2048) (k : Q (some (.int (nI (mo_cn (A 4) (A 6) f (I 13) b (m - b))))) σ) : ∀ (t j : Nat), b + j + t = m → ev_W d mMo_has (12, [some (.ref o), some (.int f), some (.int (nI (mo_cn (A 4) (A 6) f (I 13) b j))), some (.int (nI (b + j)))], []) σ Q := by
  intro t
  induction t with
  | zero =>
    intro j hj
    refine g_get rfl rfl rfl hP.1 rfl ?_
    refine g_br rfl rfl rfl rfl rfl rfl (fun h => ?_) (fun h => absurd (by rw [hm]; exact nI_le (by omega) (by omega)) h)
    rw [show m - b = j by omega] at k
    exact g_rt rfl rfl rfl k
  | succ t ih =>
    intro j hj
    refine g_get rfl rfl rfl hP.1 rfl ?_
    refine g_br rfl rfl rfl rfl rfl rfl (fun h => absurd h (by rw [hm]; exact nI_ge (by omega) (by omega))) (fun h => ?_)
    have nxt : ∀ x : Nat, x = (if A 4 (b + j) = f ∧ A 6 (b + j) = I 13 then 1 else 0) → ev_W d mMo_has (49, [some (.ref o), some (.int f), some (.int (nI (mo_cn (A 4) (A 6) f (I 13) b j))), some (.int (nI (b + j)))], [.int (nI x), .int (nI (mo_cn (A 4) (A 6) f (I 13) b j))]) σ Q := by
      intro x hx
      refine ev_go 4 rfl ?_
      show ev_W d mMo_has (12, [some (.ref o), some (.int f), some (.int (nI (mo_cn (A 4) (A 6) f (I 13) b j) + nI x)), some (.int (nI (b + j) + 1))], []) σ Q
      rw [nI_add, nI_1, hx]
      exact ih (j + 1) (by omega)
    refine g_get rfl rfl rfl hP.1 rfl ?_
    refine mo_ald hP 4 rfl rfl rfl rfl (show b + j < 2048 by omega) (by decide) rfl ?_
    refine g_br rfl rfl rfl rfl rfl rfl (fun h1 => ?_) (fun h1 => ?_)
    · refine g_get rfl rfl rfl hP.1 rfl ?_
      refine mo_ald hP 6 rfl rfl rfl rfl (show b + j < 2048 by omega) (by decide) rfl ?_
      refine g_get rfl rfl rfl hP.1 rfl ?_
      refine g_br rfl rfl rfl rfl rfl rfl (fun h2 => ?_) (fun h2 => ?_)
      · refine ev_go 2 rfl ?_
        exact nxt 1 (by rw [if_pos ⟨h1, h2⟩])
      · refine ev_go 1 rfl ?_
        exact nxt 0 (by rw [if_neg (fun q => h2 q.2)])
    · refine ev_go 1 rfl ?_
      exact nxt 0 (by rw [if_neg (fun q => h1 q.1)])
set_option maxRecDepth 100000 in
/-- has(f) -/
theorem mo_has {f : Int32} {m b r : Nat} (hP : mo_P o A I σ.1) (hr : I 11 = nI r) (hr2 : r ≤ 128) (hb : A 7 r = nI b) (hbm : b ≤ m) (hm : I 9 = nI m) (hm2 : m ≤ 2048) (k : Q (some (.int (nI (mo_cn (A 4) (A 6) f (I 13) b (m - b))))) σ) : ev_W d mMo_has (0, [some (.ref o), some (.int f), none, none], []) σ Q := by
  refine g_get rfl rfl rfl hP.1 rfl ?_
  refine g_get rfl rfl rfl hP.1 rfl ?_
  refine mo_ald hP 7 rfl rfl rfl hr (show r < 129 by omega) (by decide) rfl ?_
  rw [hb]
  refine ev_go 1 rfl ?_
  exact mo_has_loop hP hm hm2 k (m - b) 0 (by omega)
set_option maxRecDepth 100000 in
/-- drop() -/
theorem mo_drop {r : Nat} (hW : mo_W o A I σ0 σ) (hr : I 11 = nI r) (hr2 : r ≤ 128) (kno : I 12 = 0 → Q (some (.int 0)) σ)
    (kyes : ∀ σ' : ri_S, ¬ I 12 = 0 → mo_W o A (va_up (va_up (va_up I 12 0) 9 (A 7 r)) 13 (-1)) σ0 σ' → Q (some (.int 1)) σ') : ev_W d mMo_drop (0, [some (.ref o)], []) σ Q := by
  have hP := hW.1
  refine g_get rfl rfl rfl hP.1 rfl ?_
  refine g_br rfl rfl rfl rfl rfl rfl (fun h1 => ?_) (fun h1 => ?_)
  · exact g_rt rfl rfl rfl (kno h1)
  refine mo_set hW rfl rfl rfl rfl rfl rfl rfl (fun σ1 hW1 => ?_)
  refine g_get rfl rfl rfl hW1.1.1 rfl ?_
  refine g_get rfl rfl rfl hW1.1.1 rfl ?_
  refine mo_ald hW1.1 7 rfl rfl rfl hr (show r < 129 by omega) (by decide) rfl ?_
  refine mo_set hW1 rfl rfl rfl rfl rfl rfl rfl (fun σ2 hW2 => ?_)
  refine mo_set hW2 rfl rfl rfl rfl rfl rfl rfl (fun σ3 hW3 => ?_)
  exact g_rt rfl rfl rfl (kyes σ3 h1 hW3)
set_option maxRecDepth 100000 in
/-- records() -/
theorem mo_records (hP : mo_P o A I σ.1) (k : Q (some (.int (I 11))) σ) : ev_W d mMo_records (0, [some (.ref o)], []) σ Q := by
  refine g_get rfl rfl rfl hP.1 rfl ?_
  exact g_rt rfl rfl rfl k
set_option maxRecDepth 100000 in
/-- event(k, what) -/
theorem mo_event {k wh : Int32} {v : Nat} (hP : mo_P o A I σ.1) (hv : I 23 = nI v) (hv2 : v ≤ 4096) (kk : ∀ x : Int32, x = (if k < 0 ∨ nI v ≤ k then -1 else if wh = 0 then A 11 k.toNatClampNeg else if wh = 1 then A 12 k.toNatClampNeg else -1) → Q (some (.int x)) σ) : ev_W d mMo_event (0, [some (.ref o), some (.int k), some (.int wh)], []) σ Q := by
  refine g_br rfl rfl rfl rfl rfl rfl (fun h1 => ?_) (fun h1 => ?_)
  · exact g_rt rfl rfl rfl (kk _ (by rw [if_pos (Or.inl h1)]))
  refine g_get rfl rfl rfl hP.1 rfl ?_
  refine g_br rfl rfl rfl rfl rfl rfl (fun h2 => ?_) (fun h2 => ?_)
  rotate_left
  · exact g_rt rfl rfl rfl (kk _ (by rw [if_pos (Or.inr (by rw [← hv]; exact Int32.not_lt.mp h2))]))
  rw [hv] at h2
  obtain ⟨w, hw, e⟩ := nI_of h1
  subst e
  have hwv : w < v := (nI_ltI hw (by omega)).mp h2
  have en : ¬ (nI w < 0 ∨ nI v ≤ nI w) := by
    rintro (q | q)
    · exact h1 q
    · exact absurd q (nI_ge hwv (by omega))
  refine g_br rfl rfl rfl rfl rfl rfl (fun h3 => ?_) (fun h3 => ?_)
  · refine g_get rfl rfl rfl hP.1 rfl ?_
    refine mo_ald hP 11 rfl rfl rfl rfl (show w < 4096 by omega) (by decide) rfl ?_
    exact g_rt rfl rfl rfl (kk _ (by rw [if_neg en, if_pos h3, nI_clamp hw]))
  refine g_br rfl rfl rfl rfl rfl rfl (fun h4 => ?_) (fun h4 => ?_)
  · refine g_get rfl rfl rfl hP.1 rfl ?_
    refine mo_ald hP 12 rfl rfl rfl rfl (show w < 4096 by omega) (by decide) rfl ?_
    exact g_rt rfl rfl rfl (kk _ (by rw [if_neg en, if_neg h3, if_pos h4, nI_clamp hw]))
  · exact g_rt rfl rfl rfl (kk _ (by rw [if_neg en, if_neg h3, if_neg h4]))
set_option maxRecDepth 100000 in
/-- tells(e, v) -/
theorem mo_tells {e x : Int32} {v : Nat} (hW : mo_W o A I σ0 σ) (hv : I 23 = nI v) (hv2 : v < 4096) (kk : ∀ σ' : ri_S, mo_W o (va_up (va_up A 11 (upd (A 11) v e)) 12 (upd (A 12) v x)) (va_up I 23 (nI (v + 1))) σ0 σ' → Q none σ') : ev_W d mMo_tells (0, [some (.ref o), some (.int e), some (.int x)], []) σ Q := by
  have hP := hW.1
  refine g_get rfl rfl rfl hP.1 rfl ?_
  refine g_get rfl rfl rfl hP.1 rfl ?_
  refine mo_ast hW 11 rfl rfl rfl hv hv2 (by decide) rfl (fun σ1 hW1 => ?_)
  refine g_get rfl rfl rfl hW1.1.1 rfl ?_
  refine g_get rfl rfl rfl hW1.1.1 rfl ?_
  refine mo_ast hW1 12 rfl rfl rfl hv hv2 (by decide) rfl (fun σ2 hW2 => ?_)
  refine g_get rfl rfl rfl hW2.1.1 rfl ?_
  refine mo_set hW2 rfl rfl rfl rfl rfl rfl rfl (fun σ3 hW3 => ?_)
  refine g_rt rfl rfl rfl (kk σ3 ?_)
  rw [← nI_1, ← hv]
  exact hW3
end MO4
