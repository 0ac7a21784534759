/-! THE LAW'S RUN (written by gen79.py). -/
section LAW
variable {c1 c2 x0 m0 sb L : Nat} {xs : Nat → Int32} {σ : ri_S} {Q : Option Value → ri_S → Prop} {i : Nat}
theorem la_ald {d : Nat} {M : ri_M} {F : ri_F} {pc np tg q : Nat} {kv j : Int32} {l : List (Option Value)} {r : List Value} (hs : σ.1 sb = some (.inl (.object "", L, .inl xs))) (hgo : ri_go 99 M F = (pc, l, .int j :: .ref sb :: r)) (hf : ri_find pc M.2.2.2.2.2 = some (.iaload, np, tg, kv)) (hj : j = nI q) (hq : q < L) (hL : L ≤ 2048) (kk : ev_W d M (np, l, .int (xs q) :: r) σ Q) : ev_W d M F σ Q := by
  subst hj
  refine g_iald hgo hf hs rfl (nI_in hq (by omega)) ?_
  rw [nI_clamp (by omega)]
  exact kk
set_option maxRecDepth 100000 in
theorem la_field (hL : L ≤ 2048) (hi : i + 4 ≤ L) (h : gi_P c1 c2 x0 m0 sb L xs σ) (kk : ∀ σ' : ri_S, gi_P c1 c2 x0 m0 sb L xs σ' → ev_W 1000 mLa_law (455, [some (.ref sb), some (.ref x0), some (.ref m0), some (.int (nI i))], []) σ' Q) : ev_W 1000 mLa_law (100, [some (.ref sb), some (.ref x0), some (.ref m0), some (.int (nI i))], []) σ Q := by
  obtain ⟨hs, fx, hx⟩ := h.s
  by_cases hz : xs (i + 3) = 0
  · refine la_ald hs rfl rfl (nI_add i 1) (show i + 1 < L by omega) hL ?_
    refine la_ald hs rfl rfl (nI_add i 2) (show i + 2 < L by omega) hL ?_
    refine la_ald hs rfl rfl (nI_add i 3) (show i + 3 < L by omega) hL ?_
    refine g_br rfl rfl rfl rfl rfl rfl (fun _ => ?_) (fun z => absurd hz z)
    refine g_clV rfl rfl rfl rfl hx rfl rfl rfl ?_
    refine op_field h (Or.inl rfl) (fun v σ1 hs1 k2 => ?_)
    obtain ⟨hs2, fm, hm⟩ := hs1
    refine la_ald hs2 rfl rfl (nI_add i 1) (show i + 1 < L by omega) hL ?_
    refine la_ald hs2 rfl rfl (nI_add i 2) (show i + 2 < L by omega) hL ?_
    refine la_ald hs2 rfl rfl (nI_add i 3) (show i + 3 < L by omega) hL ?_
    refine g_br rfl rfl rfl rfl rfl rfl (fun _ => ?_) (fun z => absurd hz z)
    refine g_clV rfl rfl rfl rfl hm rfl rfl rfl ?_
    refine k2 _ _ (fun σ2 h2 => ?_)
    exact ev_go 2 rfl (kk σ2 h2)
  · refine la_ald hs rfl rfl (nI_add i 1) (show i + 1 < L by omega) hL ?_
    refine la_ald hs rfl rfl (nI_add i 2) (show i + 2 < L by omega) hL ?_
    refine la_ald hs rfl rfl (nI_add i 3) (show i + 3 < L by omega) hL ?_
    refine g_br rfl rfl rfl rfl rfl rfl (fun z => absurd z hz) (fun _ => ?_)
    refine g_clV rfl rfl rfl rfl hx rfl rfl rfl ?_
    refine op_field h (Or.inr rfl) (fun v σ1 hs1 k2 => ?_)
    obtain ⟨hs2, fm, hm⟩ := hs1
    refine la_ald hs2 rfl rfl (nI_add i 1) (show i + 1 < L by omega) hL ?_
    refine la_ald hs2 rfl rfl (nI_add i 2) (show i + 2 < L by omega) hL ?_
    refine la_ald hs2 rfl rfl (nI_add i 3) (show i + 3 < L by omega) hL ?_
    refine g_br rfl rfl rfl rfl rfl rfl (fun z => absurd z hz) (fun _ => ?_)
    refine g_clV rfl rfl rfl rfl hm rfl rfl rfl ?_
    refine k2 _ _ (fun σ2 h2 => ?_)
    exact ev_go 2 rfl (kk σ2 h2)
set_option maxRecDepth 100000 in
theorem la_ready (hL : L ≤ 2048) (hi : i + 4 ≤ L) (h : gi_P c1 c2 x0 m0 sb L xs σ) (kk : ∀ σ' : ri_S, gi_P c1 c2 x0 m0 sb L xs σ' → ev_W 1000 mLa_law (455, [some (.ref sb), some (.ref x0), some (.ref m0), some (.int (nI i))], []) σ' Q) : ev_W 1000 mLa_law (159, [some (.ref sb), some (.ref x0), some (.ref m0), some (.int (nI i))], []) σ Q := by
  obtain ⟨hs, fx, hx⟩ := h.s
  refine g_clV rfl rfl rfl rfl hx rfl rfl rfl ?_
  refine op_ready h (fun v σ1 hs1 k2 => ?_)
  obtain ⟨hs2, fm, hm⟩ := hs1
  refine g_clV rfl rfl rfl rfl hm rfl rfl rfl ?_
  refine k2 _ _ (fun σ2 h2 => ?_)
  exact ev_go 2 rfl (kk σ2 h2)
set_option maxRecDepth 100000 in
theorem la_begin (hL : L ≤ 2048) (hi : i + 4 ≤ L) (h : gi_P c1 c2 x0 m0 sb L xs σ) (kk : ∀ σ' : ri_S, gi_P c1 c2 x0 m0 sb L xs σ' → ev_W 1000 mLa_law (455, [some (.ref sb), some (.ref x0), some (.ref m0), some (.int (nI i))], []) σ' Q) : ev_W 1000 mLa_law (172, [some (.ref sb), some (.ref x0), some (.ref m0), some (.int (nI i))], []) σ Q := by
  obtain ⟨hs, fx, hx⟩ := h.s
  refine g_clV rfl rfl rfl rfl hx rfl rfl rfl ?_
  refine op_begin h (fun v σ1 hs1 k2 => ?_)
  obtain ⟨hs2, fm, hm⟩ := hs1
  refine g_clV rfl rfl rfl rfl hm rfl rfl rfl ?_
  refine k2 _ _ (fun σ2 h2 => ?_)
  exact ev_go 2 rfl (kk σ2 h2)
set_option maxRecDepth 100000 in
theorem la_open (hL : L ≤ 2048) (hi : i + 4 ≤ L) (h : gi_P c1 c2 x0 m0 sb L xs σ) (kk : ∀ σ' : ri_S, gi_P c1 c2 x0 m0 sb L xs σ' → ev_W 1000 mLa_law (455, [some (.ref sb), some (.ref x0), some (.ref m0), some (.int (nI i))], []) σ' Q) : ev_W 1000 mLa_law (185, [some (.ref sb), some (.ref x0), some (.ref m0), some (.int (nI i))], []) σ Q := by
  obtain ⟨hs, fx, hx⟩ := h.s
  refine la_ald hs rfl rfl (nI_add i 1) (show i + 1 < L by omega) hL ?_
  refine g_clV rfl rfl rfl rfl hx rfl rfl rfl ?_
  refine op_open h (fun v σ1 hs1 k2 => ?_)
  obtain ⟨hs2, fm, hm⟩ := hs1
  refine la_ald hs2 rfl rfl (nI_add i 1) (show i + 1 < L by omega) hL ?_
  refine g_clV rfl rfl rfl rfl hm rfl rfl rfl ?_
  refine k2 _ _ (fun σ2 h2 => ?_)
  exact ev_go 2 rfl (kk σ2 h2)
set_option maxRecDepth 100000 in
theorem la_leaf (hL : L ≤ 2048) (hi : i + 4 ≤ L) (h : gi_P c1 c2 x0 m0 sb L xs σ) (kk : ∀ σ' : ri_S, gi_P c1 c2 x0 m0 sb L xs σ' → ev_W 1000 mLa_law (455, [some (.ref sb), some (.ref x0), some (.ref m0), some (.int (nI i))], []) σ' Q) : ev_W 1000 mLa_law (208, [some (.ref sb), some (.ref x0), some (.ref m0), some (.int (nI i))], []) σ Q := by
  obtain ⟨hs, fx, hx⟩ := h.s
  refine la_ald hs rfl rfl (nI_add i 1) (show i + 1 < L by omega) hL ?_
  refine la_ald hs rfl rfl (nI_add i 2) (show i + 2 < L by omega) hL ?_
  refine g_clV rfl rfl rfl rfl hx rfl rfl rfl ?_
  refine op_leaf h (fun v σ1 hs1 k2 => ?_)
  obtain ⟨hs2, fm, hm⟩ := hs1
  refine la_ald hs2 rfl rfl (nI_add i 1) (show i + 1 < L by omega) hL ?_
  refine la_ald hs2 rfl rfl (nI_add i 2) (show i + 2 < L by omega) hL ?_
  refine g_clV rfl rfl rfl rfl hm rfl rfl rfl ?_
  refine k2 _ _ (fun σ2 h2 => ?_)
  exact ev_go 2 rfl (kk σ2 h2)
set_option maxRecDepth 100000 in
theorem la_close (hL : L ≤ 2048) (hi : i + 4 ≤ L) (h : gi_P c1 c2 x0 m0 sb L xs σ) (kk : ∀ σ' : ri_S, gi_P c1 c2 x0 m0 sb L xs σ' → ev_W 1000 mLa_law (455, [some (.ref sb), some (.ref x0), some (.ref m0), some (.int (nI i))], []) σ' Q) : ev_W 1000 mLa_law (241, [some (.ref sb), some (.ref x0), some (.ref m0), some (.int (nI i))], []) σ Q := by
  obtain ⟨hs, fx, hx⟩ := h.s
  refine g_clV rfl rfl rfl rfl hx rfl rfl rfl ?_
  refine op_close h (fun v σ1 hs1 k2 => ?_)
  obtain ⟨hs2, fm, hm⟩ := hs1
  refine g_clV rfl rfl rfl rfl hm rfl rfl rfl ?_
  refine k2 _ _ (fun σ2 h2 => ?_)
  exact ev_go 2 rfl (kk σ2 h2)
set_option maxRecDepth 100000 in
theorem la_drop (hL : L ≤ 2048) (hi : i + 4 ≤ L) (h : gi_P c1 c2 x0 m0 sb L xs σ) (kk : ∀ σ' : ri_S, gi_P c1 c2 x0 m0 sb L xs σ' → ev_W 1000 mLa_law (455, [some (.ref sb), some (.ref x0), some (.ref m0), some (.int (nI i))], []) σ' Q) : ev_W 1000 mLa_law (254, [some (.ref sb), some (.ref x0), some (.ref m0), some (.int (nI i))], []) σ Q := by
  obtain ⟨hs, fx, hx⟩ := h.s
  refine g_clV rfl rfl rfl rfl hx rfl rfl rfl ?_
  refine op_drop h (fun v σ1 hs1 k2 => ?_)
  obtain ⟨hs2, fm, hm⟩ := hs1
  refine g_clV rfl rfl rfl rfl hm rfl rfl rfl ?_
  refine k2 _ _ (fun σ2 h2 => ?_)
  exact ev_go 2 rfl (kk σ2 h2)
set_option maxRecDepth 100000 in
theorem la_records (hL : L ≤ 2048) (hi : i + 4 ≤ L) (h : gi_P c1 c2 x0 m0 sb L xs σ) (kk : ∀ σ' : ri_S, gi_P c1 c2 x0 m0 sb L xs σ' → ev_W 1000 mLa_law (455, [some (.ref sb), some (.ref x0), some (.ref m0), some (.int (nI i))], []) σ' Q) : ev_W 1000 mLa_law (267, [some (.ref sb), some (.ref x0), some (.ref m0), some (.int (nI i))], []) σ Q := by
  obtain ⟨hs, fx, hx⟩ := h.s
  refine g_clV rfl rfl rfl rfl hx rfl rfl rfl ?_
  refine op_records h (fun v σ1 hs1 k2 => ?_)
  obtain ⟨hs2, fm, hm⟩ := hs1
  refine g_clV rfl rfl rfl rfl hm rfl rfl rfl ?_
  refine k2 _ _ (fun σ2 h2 => ?_)
  exact ev_go 2 rfl (kk σ2 h2)
set_option maxRecDepth 100000 in
theorem la_level (hL : L ≤ 2048) (hi : i + 4 ≤ L) (h : gi_P c1 c2 x0 m0 sb L xs σ) (kk : ∀ σ' : ri_S, gi_P c1 c2 x0 m0 sb L xs σ' → ev_W 1000 mLa_law (455, [some (.ref sb), some (.ref x0), some (.ref m0), some (.int (nI i))], []) σ' Q) : ev_W 1000 mLa_law (280, [some (.ref sb), some (.ref x0), some (.ref m0), some (.int (nI i))], []) σ Q := by
  obtain ⟨hs, fx, hx⟩ := h.s
  refine la_ald hs rfl rfl (nI_add i 1) (show i + 1 < L by omega) hL ?_
  refine la_ald hs rfl rfl (nI_add i 2) (show i + 2 < L by omega) hL ?_
  refine g_clV rfl rfl rfl rfl hx rfl rfl rfl ?_
  refine op_level h (fun v σ1 hs1 k2 => ?_)
  obtain ⟨hs2, fm, hm⟩ := hs1
  refine la_ald hs2 rfl rfl (nI_add i 1) (show i + 1 < L by omega) hL ?_
  refine la_ald hs2 rfl rfl (nI_add i 2) (show i + 2 < L by omega) hL ?_
  refine g_clV rfl rfl rfl rfl hm rfl rfl rfl ?_
  refine k2 _ _ (fun v2 σ2 h2 => ?_)
  exact ev_go 2 rfl (kk σ2 h2)
set_option maxRecDepth 100000 in
theorem la_entries (hL : L ≤ 2048) (hi : i + 4 ≤ L) (h : gi_P c1 c2 x0 m0 sb L xs σ) (kk : ∀ σ' : ri_S, gi_P c1 c2 x0 m0 sb L xs σ' → ev_W 1000 mLa_law (455, [some (.ref sb), some (.ref x0), some (.ref m0), some (.int (nI i))], []) σ' Q) : ev_W 1000 mLa_law (313, [some (.ref sb), some (.ref x0), some (.ref m0), some (.int (nI i))], []) σ Q := by
  obtain ⟨hs, fx, hx⟩ := h.s
  refine la_ald hs rfl rfl (nI_add i 1) (show i + 1 < L by omega) hL ?_
  refine g_clV rfl rfl rfl rfl hx rfl rfl rfl ?_
  refine op_entries h (fun v σ1 hs1 k2 => ?_)
  obtain ⟨hs2, fm, hm⟩ := hs1
  refine la_ald hs2 rfl rfl (nI_add i 1) (show i + 1 < L by omega) hL ?_
  refine g_clV rfl rfl rfl rfl hm rfl rfl rfl ?_
  refine k2 _ _ (fun σ2 h2 => ?_)
  exact ev_go 2 rfl (kk σ2 h2)
set_option maxRecDepth 100000 in
theorem la_entry (hL : L ≤ 2048) (hi : i + 4 ≤ L) (h : gi_P c1 c2 x0 m0 sb L xs σ) (kk : ∀ σ' : ri_S, gi_P c1 c2 x0 m0 sb L xs σ' → ev_W 1000 mLa_law (455, [some (.ref sb), some (.ref x0), some (.ref m0), some (.int (nI i))], []) σ' Q) : ev_W 1000 mLa_law (336, [some (.ref sb), some (.ref x0), some (.ref m0), some (.int (nI i))], []) σ Q := by
  obtain ⟨hs, fx, hx⟩ := h.s
  refine la_ald hs rfl rfl (nI_add i 1) (show i + 1 < L by omega) hL ?_
  refine la_ald hs rfl rfl (nI_add i 2) (show i + 2 < L by omega) hL ?_
  refine la_ald hs rfl rfl (nI_add i 3) (show i + 3 < L by omega) hL ?_
  refine g_clV rfl rfl rfl rfl hx rfl rfl rfl ?_
  refine op_entry h (fun v σ1 hs1 k2 => ?_)
  obtain ⟨hs2, fm, hm⟩ := hs1
  refine la_ald hs2 rfl rfl (nI_add i 1) (show i + 1 < L by omega) hL ?_
  refine la_ald hs2 rfl rfl (nI_add i 2) (show i + 2 < L by omega) hL ?_
  refine la_ald hs2 rfl rfl (nI_add i 3) (show i + 3 < L by omega) hL ?_
  refine g_clV rfl rfl rfl rfl hm rfl rfl rfl ?_
  refine k2 _ _ (fun σ2 h2 => ?_)
  exact ev_go 2 rfl (kk σ2 h2)
set_option maxRecDepth 100000 in
theorem la_assemble (hL : L ≤ 2048) (hi : i + 4 ≤ L) (h : gi_P c1 c2 x0 m0 sb L xs σ) (kk : ∀ σ' : ri_S, gi_P c1 c2 x0 m0 sb L xs σ' → ev_W 1000 mLa_law (455, [some (.ref sb), some (.ref x0), some (.ref m0), some (.int (nI i))], []) σ' Q) : ev_W 1000 mLa_law (379, [some (.ref sb), some (.ref x0), some (.ref m0), some (.int (nI i))], []) σ Q := by
  obtain ⟨hs, fx, hx⟩ := h.s
  refine la_ald hs rfl rfl (nI_add i 1) (show i + 1 < L by omega) hL ?_
  refine la_ald hs rfl rfl (nI_add i 2) (show i + 2 < L by omega) hL ?_
  refine la_ald hs rfl rfl (nI_add i 3) (show i + 3 < L by omega) hL ?_
  refine g_clV rfl rfl rfl rfl hx rfl rfl rfl ?_
  refine op_assemble h (fun v σ1 hs1 k2 => ?_)
  obtain ⟨hs2, fm, hm⟩ := hs1
  refine la_ald hs2 rfl rfl (nI_add i 1) (show i + 1 < L by omega) hL ?_
  refine la_ald hs2 rfl rfl (nI_add i 2) (show i + 2 < L by omega) hL ?_
  refine la_ald hs2 rfl rfl (nI_add i 3) (show i + 3 < L by omega) hL ?_
  refine g_clV rfl rfl rfl rfl hm rfl rfl rfl ?_
  refine k2 _ _ (fun σ2 h2 => ?_)
  exact ev_go 2 rfl (kk σ2 h2)
set_option maxRecDepth 100000 in
theorem la_event (hL : L ≤ 2048) (hi : i + 4 ≤ L) (h : gi_P c1 c2 x0 m0 sb L xs σ) (kk : ∀ σ' : ri_S, gi_P c1 c2 x0 m0 sb L xs σ' → ev_W 1000 mLa_law (455, [some (.ref sb), some (.ref x0), some (.ref m0), some (.int (nI i))], []) σ' Q) : ev_W 1000 mLa_law (422, [some (.ref sb), some (.ref x0), some (.ref m0), some (.int (nI i))], []) σ Q := by
  obtain ⟨hs, fx, hx⟩ := h.s
  refine la_ald hs rfl rfl (nI_add i 1) (show i + 1 < L by omega) hL ?_
  refine la_ald hs rfl rfl (nI_add i 2) (show i + 2 < L by omega) hL ?_
  refine g_clV rfl rfl rfl rfl hx rfl rfl rfl ?_
  refine op_event h (fun v σ1 hs1 k2 => ?_)
  obtain ⟨hs2, fm, hm⟩ := hs1
  refine la_ald hs2 rfl rfl (nI_add i 1) (show i + 1 < L by omega) hL ?_
  refine la_ald hs2 rfl rfl (nI_add i 2) (show i + 2 < L by omega) hL ?_
  refine g_clV rfl rfl rfl rfl hm rfl rfl rfl ?_
  refine k2 _ _ (fun σ2 h2 => ?_)
  exact g_br rfl rfl rfl rfl rfl rfl (fun _ => kk σ2 h2) (fun z => absurd rfl z)
theorem la_sub {m : Nat} : nI (m + 4) - 4 = nI m := by
  rw [show nI (m + 4) = nI m + 4 from (nI_add m 4).symm]
  exact Int32.add_sub_cancel _ _
theorem la_out (hL : L ≤ 2048) (h : L < i + 4) (hi : i ≤ 2052) : nI L - 4 < nI i := by
  rcases Nat.lt_or_ge L 4 with z | z
  · refine Int32.lt_of_lt_of_le (b := 0) ?_ (nI_pos' (by omega))
    match L, z with
    | 0, _ => decide
    | 1, _ => decide
    | 2, _ => decide
    | 3, _ => decide
  · obtain ⟨m, rfl⟩ : ∃ m, L = m + 4 := ⟨L - 4, by omega⟩
    rw [la_sub]
    exact nI_lt (by omega) (by omega)
theorem la_in (hL : L ≤ 2048) (h : i + 4 ≤ L) : ¬ nI L - 4 < nI i := by
  obtain ⟨m, rfl⟩ : ∃ m, L = m + 4 := ⟨L - 4, by omega⟩
  rw [la_sub]
  exact nI_nlt (by omega) (by omega)
set_option maxRecDepth 100000 in
theorem la_loop (hL : L ≤ 2048) (kend : ∀ σ' : ri_S, gi_P c1 c2 x0 m0 sb L xs σ' → Q (some (.int 1)) σ') : ∀ (t i : Nat) (σ : ri_S), L ≤ i + t → i ≤ 2052 → gi_P c1 c2 x0 m0 sb L xs σ → ev_W 1000 mLa_law (18, [some (.ref sb), some (.ref x0), some (.ref m0), some (.int (nI i))], []) σ Q := by
  intro t
  induction t with
  | zero =>
    intro i σ hi hi2 h
    refine g_alen rfl rfl h.s.1 rfl ?_
    refine g_br rfl rfl rfl rfl rfl rfl (fun _ => g_rt rfl rfl rfl (kend σ h)) (fun z => absurd ?_ z)
    exact la_out hL (by omega) hi2
  | succ t ih =>
    intro i σ hi hi2 h
    refine g_alen rfl rfl h.s.1 rfl ?_
    rcases Nat.lt_or_ge L (i + 4) with q | q
    · exact g_br rfl rfl rfl rfl rfl rfl (fun _ => g_rt rfl rfl rfl (kend σ h)) (fun z => absurd (la_out hL q hi2) z)
    refine g_br rfl rfl rfl rfl rfl rfl (fun z => absurd z (la_in hL q)) (fun _ => ?_)
    refine la_ald h.s.1 rfl rfl rfl (show i < L by omega) hL ?_
    have nx : ∀ σ' : ri_S, gi_P c1 c2 x0 m0 sb L xs σ' → ev_W 1000 mLa_law (455, [some (.ref sb), some (.ref x0), some (.ref m0), some (.int (nI i))], []) σ' Q := by
      intro σ' h'
      refine ev_go 2 rfl ?_
      show ev_W 1000 mLa_law (18, [some (.ref sb), some (.ref x0), some (.ref m0), some (.int (nI i + 4))], []) σ' Q
      rw [show nI i + 4 = nI (i + 4) from nI_add i 4]
      exact ih (i + 4) σ' (by omega) (by omega) h'
    refine ev_go 2 rfl ?_
    show ev_W 1000 mLa_law (32, [some (.ref sb), some (.ref x0), some (.ref m0), some (.int (nI i))], [.int (xs i &&& 15)]) σ Q
    obtain ⟨c, hc, ec⟩ := pk_andE (xs i) (m := 15) 4 (by decide)
    rw [ec]
    have hc2 : c < 16 := hc
    clear ec hc
    match c, hc2 with
    | 0, _ => exact g_px rfl rfl rfl rfl rfl rfl (la_field hL q h nx)
    | 1, _ => exact g_px rfl rfl rfl rfl rfl rfl (la_ready hL q h nx)
    | 2, _ => exact g_px rfl rfl rfl rfl rfl rfl (la_begin hL q h nx)
    | 3, _ => exact g_px rfl rfl rfl rfl rfl rfl (la_open hL q h nx)
    | 4, _ => exact g_px rfl rfl rfl rfl rfl rfl (la_leaf hL q h nx)
    | 5, _ => exact g_px rfl rfl rfl rfl rfl rfl (la_close hL q h nx)
    | 6, _ => exact g_px rfl rfl rfl rfl rfl rfl (la_drop hL q h nx)
    | 7, _ => exact g_px rfl rfl rfl rfl rfl rfl (la_records hL q h nx)
    | 8, _ => exact g_px rfl rfl rfl rfl rfl rfl (la_level hL q h nx)
    | 9, _ => exact g_px rfl rfl rfl rfl rfl rfl (la_entries hL q h nx)
    | 10, _ => exact g_px rfl rfl rfl rfl rfl rfl (la_entry hL q h nx)
    | 11, _ => exact g_px rfl rfl rfl rfl rfl rfl (la_assemble hL q h nx)
    | 12, _ => exact g_px rfl rfl rfl rfl rfl rfl (la_event hL q h nx)
    | 13, _ => exact g_px rfl rfl rfl rfl rfl rfl (nx σ h)
    | 14, _ => exact g_px rfl rfl rfl rfl rfl rfl (nx σ h)
    | 15, _ => exact g_px rfl rfl rfl rfl rfl rfl (nx σ h)
    | c + 16, hq => exact absurd hq (by omega)
end LAW
