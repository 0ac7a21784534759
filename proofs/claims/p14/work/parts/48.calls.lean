/-! STRIPING'S CALLS. cl_P: all of Striping's cells (roles 0 .. 68). Schema A S I; draft F V G W, k occurrences, depth dp, begun bg; N columns col; events ev; cr records and co occurrences closed; c1 c2: the room. -/
def cl_P (c1 c2 : Nat) (a : Nat → Nat) (D : Nat → Option ri_E) (σ : ri_S) (A : Nat → Nat → Int32) (S : Nat → Int64) (I F V G W : Nat → Int32) (k dp : Nat) (bg : Int32) (N : Nat) (col : Nat → List co_E) (ev : List (Int32 × Int32)) (cr co : Int32) : Prop :=
  gw_P a D σ ∧ ∃ (lf lv le : Nat) (ln : Nat → Nat) (C : Nat → Int32) (tk : Int32) (ch : Int64), D 0 = some (.inr (4, so_fs a cr co tk ch)) ∧ sh_P a D A S I ∧ dr_P a D F V G W lf lv k dp bg ∧ el_P a D ev le ∧ D 8 = some (.inl (.int, 48, .inl C)) ∧ co_P a D N col ln ∧ (24 * σ.2.1 + (if I 10 = 0 then 72 else 0) ≤ c1 + (lf + lv + le + co_su N ln) ∧ σ.2.2 + (if I 10 = 0 then 2 else 0) ≤ c2 + 2 * (lf + lv + le + co_su N ln))
def cl_F (a : Nat → Nat) (D : Nat → Option ri_E) (a' : Nat → Nat) (D' : Nat → Option ri_E) : Prop := (∀ i, 69 ≤ i → D' i = D i ∧ a' i = a i) ∧ a' 0 = a 0
theorem so_fr {a a' : Nat → Nat} (h : ∀ i, i = 60 ∨ i = 1 ∨ i = 6 ∨ i = 8 ∨ i = 9 → a' i = a i) (cr co tk : Int32) (ch : Int64) : so_fs a' cr co tk ch = so_fs a cr co tk ch := by
  unfold so_fs
  rw [h 60 (by omega), h 1 (by omega), h 6 (by omega), h 8 (by omega), h 9 (by omega)]
section CL
variable {c1 c2 : Nat} {a : Nat → Nat} {D : Nat → Option ri_E} {σ : ri_S} {A : Nat → Nat → Int32} {S : Nat → Int64} {I F V G W : Nat → Int32} {k dp : Nat} {bg : Int32} {N n lw : Nat} {col : Nat → List co_E} {ev : List (Int32 × Int32)} {cr co : Int32} {d : Nat} {Q : Option Value → ri_S → Prop}
theorem cl_F.rf : cl_F a D a D := ⟨fun _ _ => ⟨rfl, rfl⟩, rfl⟩
theorem cl_P.o (h : cl_P c1 c2 a D σ A S I F V G W k dp bg N col ev cr co) : ∃ (tk : Int32) (ch : Int64), σ.1 (a 0) = some (.inr (4, so_fs a cr co tk ch)) := by
  obtain ⟨hG, lf, lv, le, ln, C, tk, ch, ho, -⟩ := h
  exact ⟨tk, ch, hG.at ho⟩
theorem cl_P.sc (h : cl_P c1 c2 a D σ A S I F V G W k dp bg N col ev cr co) : sc_P (a 60) A S I σ.1 := by
  obtain ⟨hG, lf, lv, le, ln, C, tk, ch, ho, hs, -⟩ := h
  exact hs.sc hG
/-- Schema changes -/
theorem cl_P.us {A' : Nat → Nat → Int32} {S' : Nat → Int64} {I' : Nat → Int32} {σ' : ri_S} (h : cl_P c1 c2 a D σ A S I F V G W k dp bg N col ev cr co) (hW : sc_W (a 60) A' S' I' σ σ') (hI : I' 10 = I 10) : ∃ D', cl_P c1 c2 a D' σ' A' S' I' F V G W k dp bg N col ev cr co ∧ cl_F a D a D' := by
  obtain ⟨hG, lf, lv, le, ln, C, tk, ch, ho, hs, hd, he, hC, hc, hr⟩ := h
  obtain ⟨D', h1, h2, h3, h4⟩ := hs.up hG hW
  refine ⟨D', ⟨h1, lf, lv, le, ln, C, tk, ch, (h3 0 (by decide)).1.trans ho, h2, hd.fr (fun i _ _ => h3 i (by omega)), he.fr (fun i _ _ => h3 i (by omega)), (h3 8 (by decide)).1.trans hC, hc.fr (fun i _ _ => h3 i (by omega)), ?_⟩, fun i hi => h3 i (by omega), rfl⟩
  rw [hI, h4]
  exact hr
/-- the draft changes, without new rows -/
theorem cl_P.ud {D' : Nat → Option ri_E} {σ' : ri_S} {k' dp' lf lv : Nat} {bg' : Int32} {G' W' : Nat → Int32} (h : cl_P c1 c2 a D σ A S I F V G W k dp bg N col ev cr co) (hd0 : dr_P a D F V G W lf lv k dp bg) (h1 : gw_P a D' σ') (h2 : dr_P a D' F V G' W' lf lv k' dp' bg') (h3 : gw_F 1 6 a D a D') (h4 : σ'.2 = σ.2) : cl_P c1 c2 a D' σ' A S I F V G' W' k' dp' bg' N col ev cr co ∧ cl_F a D a D' := by
  obtain ⟨hG, lf1, lv1, le, ln, C, tk, ch, ho, hs, hd, he, hC, hc, hr⟩ := h
  obtain rfl : lf1 = lf := by have := hd.2.2.2.1.symm.trans hd0.2.2.2.1; cases this; rfl
  obtain rfl : lv1 = lv := by have := hd.2.2.2.2.1.symm.trans hd0.2.2.2.2.1; cases this; rfl
  refine ⟨⟨h1, lf1, lv1, le, ln, C, tk, ch, (h3 0 (by decide)).1.trans ho, hs.fr (fun i _ _ => h3 i (by omega)), h2, he.fr (fun i _ _ => h3 i (by omega)), (h3 8 (by decide)).1.trans hC, hc.fr (fun i _ _ => h3 i (by omega)), ?_⟩, fun i hi => h3 i (by omega), rfl⟩
  rw [h4]
  exact hr
set_option maxRecDepth 100000 in
/-- field(parent, kind, group) -/
theorem cl_field {p kd gb : Int32} (h : cl_P c1 c2 a D σ A S I F V G W k dp bg N col ev cr co) (hI : I 8 = nI n) (hn : n ≤ 48) (hl : I 9 = nI lw) (hup : mo_up (A 0) n) (kno : ¬ sc_yes A I n p kd → Q (some (.int (-1))) σ) (kyes : sc_yes A I n p kd → ∀ (D' : Nat → Option ri_E) (σ' : ri_S), cl_P c1 c2 a D' σ' (va_up (sc_A1 A n lw p kd gb) 6 (sc_st1 A S n lw p gb).1) (sc_st1 A S n lw p gb).2 (if gb = 0 then va_up (va_up I 8 (nI (n + 1))) 9 (nI (lw + 1)) else va_up I 8 (nI (n + 1))) F V G W k dp bg N col ev cr co → cl_F a D a D' → Q (some (.int (nI n))) σ') : ev_W (d + 4) mSt_field (0, [some (.ref (a 0)), some (.int p), some (.int kd), some (.int gb)], []) σ Q := by
  obtain ⟨tk, ch, ho⟩ := h.o
  have hP := h.sc
  refine g_get rfl rfl rfl ho rfl ?_
  refine g_clV rfl rfl rfl rfl hP.1 rfl rfl rfl ?_
  refine sc_add (σ0 := σ) ⟨hP, fun _ _ => rfl, rfl⟩ hI hn hl hup (fun z => ?_) (fun z σ' hW => ?_)
  · exact g_rt rfl rfl rfl (kno z)
  · obtain ⟨D', h1, h2⟩ := h.us hW (by split <;> rfl)
    exact g_rt rfl rfl rfl (kyes z D' σ' h1 h2)
set_option maxRecDepth 100000 in
/-- begin() -/
theorem cl_begin (h : cl_P c1 c2 a D σ A S I F V G W k dp bg N col ev cr co) (kno : ¬ (¬ I 10 = 0 ∧ bg = 0 ∧ cr < 128) → Q (some (.int 0)) σ) (kyes : ¬ I 10 = 0 ∧ bg = 0 ∧ cr < 128 → ∀ (D' : Nat → Option ri_E) (σ' : ri_S), cl_P c1 c2 a D' σ' A S I F V (upd G 0 (-1)) (upd W 0 (-1)) 0 0 1 N col ev cr co → cl_F a D a D' → Q (some (.int 1)) σ') : ev_W (d + 2) mSt_begin (0, [some (.ref (a 0))], []) σ Q := by
  obtain ⟨tk, ch, ho⟩ := h.o
  have hP := h.sc
  obtain ⟨hG, lf, lv, le, ln, C, tk', ch', -, hs, hd, -⟩ := id h
  refine g_get rfl rfl rfl ho rfl ?_
  refine g_get rfl rfl rfl hP.1 rfl ?_
  refine g_br rfl rfl rfl rfl rfl rfl (fun g1 => ?_) (fun g1 => ?_)
  · exact g_rt rfl rfl rfl (kno (fun z => z.1 g1))
  refine g_get rfl rfl rfl ho rfl ?_
  refine g_get rfl rfl rfl (hG.at hd.1) rfl ?_
  refine g_br rfl rfl rfl rfl rfl rfl (fun g2 => ?_) (fun g2 => ?_)
  rotate_left
  · exact g_rt rfl rfl rfl (kno (fun z => g2 z.2.1))
  refine g_get rfl rfl rfl ho rfl ?_
  refine g_br rfl rfl rfl rfl rfl rfl (fun g3 => ?_) (fun g3 => ?_)
  rotate_left
  · exact g_rt rfl rfl rfl (kno (fun z => g3 z.2.2))
  refine g_get rfl rfl rfl ho rfl ?_
  refine g_clV rfl rfl rfl rfl (hG.at hd.1) rfl rfl rfl ?_
  refine dr_start hG hd (fun D1 σ1 h1 h2 h3 h4 => ?_)
  obtain ⟨e1, e2⟩ := h.ud hd h1 h2 h3 h4
  exact g_rt rfl rfl rfl (kyes ⟨g1, g2, g3⟩ D1 σ1 e1 e2)
/-- an occurrence of field w may come -/
def cl_may (A : Nat → Nat → Int32) (n : Nat) (G W : Nat → Int32) (k dp : Nat) (bg co : Int32) (q w : Nat) : Prop := ¬ bg = 0 ∧ A 0 w = G dp ∧ co + nI k < 2048 ∧ ¬ nI w < W dp ∧ (nI w = W dp → A 1 w = 2) ∧ ¬ sc_req A n (G dp) q (nI w)
set_option maxRecDepth 100000 in
/-- mayCome(field) -/
theorem cl_mayCome {w q : Nat} (h : cl_P c1 c2 a D σ A S I F V G W k dp bg N col ev cr co) (hI : I 8 = nI n) (hn : n ≤ 48) (hw : w < n) (hq : (if W dp + 1 < 0 then 0 else W dp + 1) = nI q) (hq2 : q < 2 ^ 31) (k1 : cl_may A n G W k dp bg co q w → Q (some (.int 1)) σ) (k0 : ¬ cl_may A n G W k dp bg co q w → Q (some (.int 0)) σ) : ev_W (d + 3) mSt_mayCome (0, [some (.ref (a 0)), some (.int (nI w)), none], []) σ Q := by
  have one : ∀ w', w' < n → nI w = nI w' → w' = w := fun w' h1 h2 => ((nI_eq (by omega) (by omega)).mp h2).symm
  obtain ⟨tk, ch, ho⟩ := h.o
  have hP := h.sc
  obtain ⟨hG, lf, lv, le, ln, C, tk', ch', -, hs, hd, -⟩ := h
  refine g_get rfl rfl rfl ho rfl ?_
  refine g_get rfl rfl rfl (hG.at hd.1) rfl ?_
  refine g_br rfl rfl rfl rfl rfl rfl (fun g1 => ?_) (fun g1 => ?_)
  · exact g_rt rfl rfl rfl (k0 (fun z => z.1 g1))
  refine g_get rfl rfl rfl ho rfl ?_
  refine g_clV rfl rfl rfl rfl hP.1 rfl rfl rfl ?_
  refine sc_parentOf hP hI hn (fun w' h1 h2 => ?_) (fun h0 => absurd rfl (h0 w hw))
  rw [one w' h1 h2]
  refine g_get rfl rfl rfl ho rfl ?_
  refine g_clV rfl rfl rfl rfl (hG.at hd.1) rfl rfl rfl ?_
  refine dr_group hG hd ?_
  refine g_br rfl rfl rfl rfl rfl rfl (fun g2 => ?_) (fun g2 => ?_)
  rotate_left
  · exact g_rt rfl rfl rfl (k0 (fun z => g2 z.2.1))
  refine g_get rfl rfl rfl ho rfl ?_
  refine g_get rfl rfl rfl ho rfl ?_
  refine g_get rfl rfl rfl (hG.at hd.1) rfl ?_
  refine g_br rfl rfl rfl rfl rfl rfl (fun g3 => ?_) (fun g3 => ?_)
  rotate_left
  · exact g_rt rfl rfl rfl (k0 (fun z => g3 z.2.2.1))
  refine g_get rfl rfl rfl ho rfl ?_
  refine g_clV rfl rfl rfl rfl (hG.at hd.1) rfl rfl rfl ?_
  refine dr_newest hG hd ?_
  refine g_br rfl rfl rfl rfl rfl rfl (fun g4 => ?_) (fun g4 => ?_)
  · exact g_rt rfl rfl rfl (k0 (fun z => z.2.2.2.1 g4))
  have rest : (nI w = W dp → A 1 w = 2) → ev_W (d + 3) mSt_mayCome (82, [some (.ref (a 0)), some (.int (nI w)), some (.int (W dp))], []) σ Q := by
    intro g5
    refine g_get rfl rfl rfl ho rfl ?_
    refine g_get rfl rfl rfl ho rfl ?_
    refine g_clV rfl rfl rfl rfl (hG.at hd.1) rfl rfl rfl ?_
    refine dr_group hG hd ?_
    refine g_clV rfl rfl rfl rfl hP.1 rfl rfl rfl ?_
    refine sc_requires hP hn hI hq hq2 (fun z => ?_) (fun z => ?_)
    · refine g_br rfl rfl rfl rfl rfl rfl (fun h => absurd h (by decide)) (fun _ => ?_)
      exact g_rt rfl rfl rfl (k0 (fun y => y.2.2.2.2.2 z))
    · refine g_br rfl rfl rfl rfl rfl rfl (fun _ => ?_) (fun h => absurd rfl h)
      exact g_rt rfl rfl rfl (k1 ⟨g1, g2, g3, g4, g5, z⟩)
  refine g_br rfl rfl rfl rfl rfl rfl (fun g5 => ?_) (fun g5 => ?_)
  rotate_left
  · exact rest (fun z => absurd z g5)
  refine g_get rfl rfl rfl ho rfl ?_
  refine g_clV rfl rfl rfl rfl hP.1 rfl rfl rfl ?_
  refine sc_kindOf hP hI hn (fun w' h1 h2 => ?_) (fun h0 => absurd rfl (h0 w hw))
  rw [one w' h1 h2]
  refine g_br rfl rfl rfl rfl rfl rfl (fun g6 => ?_) (fun g6 => ?_)
  · exact rest (fun _ => g6)
  · exact g_rt rfl rfl rfl (k0 (fun z => g6 (z.2.2.2.2.1 g5)))
/-- an occurrence comes: what the draft becomes -/
theorem cl_P.ua {a' : Nat → Nat} {D' : Nat → Option ri_E} {σ' : ri_S} {F' V' W' : Nat → Int32} {lf lv lf' lv' k' : Nat} (h : cl_P c1 c2 a D σ A S I F V G W k dp bg N col ev cr co) (hd : dr_P a D F V G W lf lv k dp bg) (h1 : gw_P a' D' σ') (h2 : dr_P a' D' F' V' G W' lf' lv' k' dp bg) (h3 : gw_F 1 6 a D a' D') (h5 : a' 1 = a 1) (h4 : gw_ro (lf + lv) (lf' + lv') σ σ') : cl_P c1 c2 a' D' σ' A S I F' V' G W' k' dp bg N col ev cr co ∧ cl_F a D a' D' := by
  obtain ⟨hG, lf1, lv1, le, ln, C, tk, ch, ho, hs, hd1, he, hC, hc, hr⟩ := h
  obtain rfl : lf1 = lf := by have := hd1.2.2.2.1.symm.trans hd.2.2.2.1; cases this; rfl
  obtain rfl : lv1 = lv := by have := hd1.2.2.2.2.1.symm.trans hd.2.2.2.2.1; cases this; rfl
  refine ⟨⟨h1, lf', lv', le, ln, C, tk, ch, ?_, hs.fr (fun i _ _ => h3 i (by omega)), h2, he.fr (fun i _ _ => h3 i (by omega)), (h3 8 (by decide)).1.trans hC, hc.fr (fun i _ _ => h3 i (by omega)), ?_⟩, fun i hi => h3 i (by omega), (h3 0 (by decide)).2⟩
  · rw [so_fr (a := a) (a' := a') (fun i hi => ?_)]
    · exact (h3 0 (by decide)).1.trans ho
    · by_cases z : i = 1
      · rw [z]; exact h5
      · exact (h3 i (by omega)).2
  · unfold gw_ro at h4
    omega
set_option maxRecDepth 100000 in
/-- leaf(field, value) -/
theorem cl_leaf {f v : Int32} {q : Nat} (h : cl_P c1 c2 a D σ A S I F V G W k dp bg N col ev cr co) (hI : I 8 = nI n) (hn : n ≤ 48) (hk : k < 2048 ∨ ¬ co + nI k < 2048) (hq : (if W dp + 1 < 0 then 0 else W dp + 1) = nI q) (hq2 : q < 2 ^ 31) (kno : ¬ (∃ w, w < n ∧ f = nI w ∧ ¬ A 5 w = -1 ∧ cl_may A n G W k dp bg co q w) → Q (some (.int 0)) σ) (kyes : ∀ w, w < n → f = nI w → ¬ A 5 w = -1 → cl_may A n G W k dp bg co q w → ∀ (a' : Nat → Nat) (D' : Nat → Option ri_E) (σ' : ri_S) (F' V' : Nat → Int32), (∀ j, j < k → F' j = F j ∧ V' j = V j) → F' k = f → V' k = v → cl_P c1 c2 a' D' σ' A S I F' V' G (upd W dp f) (k + 1) dp bg N col ev cr co → cl_F a D a' D' → Q (some (.int 1)) σ') : ev_W (d + 4) mSt_leaf (0, [some (.ref (a 0)), some (.int f), some (.int v)], []) σ Q := by
  obtain ⟨tk, ch, ho⟩ := h.o
  have hP := h.sc
  refine g_get rfl rfl rfl ho rfl ?_
  refine g_clV rfl rfl rfl rfl hP.1 rfl rfl rfl ?_
  refine sc_isLeaf hP hI hn (fun w hw e h1 => ?_) (fun h0 => ?_)
  rotate_left
  · refine g_br rfl rfl rfl rfl rfl rfl (fun _ => ?_) (fun h => absurd rfl h)
    exact g_rt rfl rfl rfl (kno (fun ⟨w, z1, z2, z3, _⟩ => z3 (h0 w z1 z2)))
  subst e
  refine g_br rfl rfl rfl rfl rfl rfl (fun h => absurd h (by decide)) (fun _ => ?_)
  refine g_clV rfl rfl rfl rfl ho rfl rfl rfl ?_
  refine cl_mayCome h hI hn hw hq hq2 (fun z => ?_) (fun z => ?_)
  rotate_left
  · refine g_br rfl rfl rfl rfl rfl rfl (fun _ => ?_) (fun h => absurd rfl h)
    refine g_rt rfl rfl rfl (kno (fun ⟨w', z1, z2, z3, z4⟩ => z ?_))
    rw [(nI_eq (by omega) (by omega)).mp z2]
    exact z4
  refine g_br rfl rfl rfl rfl rfl rfl (fun h => absurd h (by decide)) (fun _ => ?_)
  obtain ⟨hG, lf, lv, le, ln, C, tk', ch', -, hs, hd, -⟩ := id h
  refine g_get rfl rfl rfl ho rfl ?_
  refine g_clV rfl rfl rfl rfl (hG.at hd.1) rfl rfl rfl ?_
  refine dr_add hG hd (hk.resolve_right (fun y => y z.2.2.1)) (fun a' D' σ' F' V' lf' lv' g1 g2 g3 g4 g5 g6 g7 g8 => ?_)
  obtain ⟨e1, e2⟩ := h.ua hd g1 g2 g6 g7 g8
  exact g_rt rfl rfl rfl (kyes w hw rfl h1 z a' D' σ' F' V' g3 g4 g5 e1 e2)
set_option maxRecDepth 100000 in
/-- open(field) -/
theorem cl_open {f : Int32} {q : Nat} (h : cl_P c1 c2 a D σ A S I F V G W k dp bg N col ev cr co) (hI : I 8 = nI n) (hn : n ≤ 48) (hk : k < 2048 ∨ ¬ co + nI k < 2048) (hdp : ∀ w, w < n → A 0 w = G dp → dp < 16) (hq : (if W dp + 1 < 0 then 0 else W dp + 1) = nI q) (hq2 : q < 2 ^ 31) (kno : ¬ (∃ w, w < n ∧ f = nI w ∧ A 5 w = -1 ∧ cl_may A n G W k dp bg co q w) → Q (some (.int 0)) σ) (kyes : ∀ w, w < n → f = nI w → A 5 w = -1 → cl_may A n G W k dp bg co q w → ∀ (a' : Nat → Nat) (D' : Nat → Option ri_E) (σ' : ri_S) (F' V' : Nat → Int32), (∀ j, j < k → F' j = F j ∧ V' j = V j) → F' k = f → V' k = 0 → cl_P c1 c2 a' D' σ' A S I F' V' (upd G (dp + 1) f) (upd (upd W dp f) (dp + 1) (-1)) (k + 1) (dp + 1) bg N col ev cr co → cl_F a D a' D' → Q (some (.int 1)) σ') : ev_W (d + 4) mSt_open (0, [some (.ref (a 0)), some (.int f)], []) σ Q := by
  obtain ⟨tk, ch, ho⟩ := h.o
  have hP := h.sc
  refine g_get rfl rfl rfl ho rfl ?_
  refine g_clV rfl rfl rfl rfl hP.1 rfl rfl rfl ?_
  refine sc_isGroup hP hI hn (fun w hw e h1 => ?_) (fun h0 => ?_)
  rotate_left
  · refine g_br rfl rfl rfl rfl rfl rfl (fun _ => ?_) (fun h => absurd rfl h)
    exact g_rt rfl rfl rfl (kno (fun ⟨w, z1, z2, z3, _⟩ => h0 w z1 z2 z3))
  subst e
  refine g_br rfl rfl rfl rfl rfl rfl (fun h => absurd h (by decide)) (fun _ => ?_)
  refine g_clV rfl rfl rfl rfl ho rfl rfl rfl ?_
  refine cl_mayCome h hI hn hw hq hq2 (fun z => ?_) (fun z => ?_)
  rotate_left
  · refine g_br rfl rfl rfl rfl rfl rfl (fun _ => ?_) (fun h => absurd rfl h)
    refine g_rt rfl rfl rfl (kno (fun ⟨w', z1, z2, z3, z4⟩ => z ?_))
    rw [(nI_eq (by omega) (by omega)).mp z2]
    exact z4
  refine g_br rfl rfl rfl rfl rfl rfl (fun h => absurd h (by decide)) (fun _ => ?_)
  obtain ⟨hG, lf, lv, le, ln, C, tk', ch', -, hs, hd, -⟩ := id h
  refine g_get rfl rfl rfl ho rfl ?_
  refine g_clV rfl rfl rfl rfl (hG.at hd.1) rfl rfl rfl ?_
  refine dr_add hG hd (hk.resolve_right (fun y => y z.2.2.1)) (fun a' D' σ' F' V' lf' lv' g1 g2 g3 g4 g5 g6 g7 g8 => ?_)
  obtain ⟨e1, e2⟩ := h.ua hd g1 g2 g6 g7 g8
  obtain ⟨tk2, ch2, ho2⟩ := e1.o
  rw [e2.2] at ho2
  refine g_get rfl rfl rfl ho2 rfl ?_
  refine g_clV rfl rfl rfl rfl (g1.at g2.1) rfl rfl rfl ?_
  refine dr_enter g1 g2 (hdp w hw z.2.1) (fun D2 σ2 q1 q2 q3 q4 => ?_)
  obtain ⟨y1, y2⟩ := e1.ud g2 q1 q2 q3 q4
  exact g_rt rfl rfl rfl (kyes w hw rfl h1 z a' D2 σ2 F' V' g3 g4 g5 y1 ⟨fun i hi => ⟨(y2.1 i hi).1.trans (e2.1 i hi).1, (e2.1 i hi).2⟩, e2.2⟩)
set_option maxRecDepth 100000 in
/-- drop() -/
theorem cl_drop (h : cl_P c1 c2 a D σ A S I F V G W k dp bg N col ev cr co) (kno : bg = 0 → Q (some (.int 0)) σ) (kyes : ¬ bg = 0 → ∀ (D' : Nat → Option ri_E) (σ' : ri_S), cl_P c1 c2 a D' σ' A S I F V G W 0 0 0 N col ev cr co → cl_F a D a D' → Q (some (.int 1)) σ') : ev_W (d + 1) mSt_drop (0, [some (.ref (a 0))], []) σ Q := by
  obtain ⟨tk, ch, ho⟩ := h.o
  obtain ⟨hG, lf, lv, le, ln, C, tk', ch', -, hs, hd, -⟩ := id h
  refine g_get rfl rfl rfl ho rfl ?_
  refine g_get rfl rfl rfl (hG.at hd.1) rfl ?_
  refine g_br rfl rfl rfl rfl rfl rfl (fun g1 => ?_) (fun g1 => ?_)
  · exact g_rt rfl rfl rfl (kno g1)
  refine g_get rfl rfl rfl ho rfl ?_
  refine g_clV rfl rfl rfl rfl (hG.at hd.1) rfl rfl rfl ?_
  refine dr_clear hG hd (fun D1 σ1 h1 h2 h3 h4 => ?_)
  obtain ⟨e1, e2⟩ := h.ud hd h1 h2 h3 h4
  exact g_rt rfl rfl rfl (kyes g1 D1 σ1 e1 e2)
set_option maxRecDepth 100000 in
/-- records() -/
theorem cl_records (h : cl_P c1 c2 a D σ A S I F V G W k dp bg N col ev cr co) (kk : Q (some (.int cr)) σ) : ev_W d mSt_records (0, [some (.ref (a 0))], []) σ Q := by
  obtain ⟨tk, ch, ho⟩ := h.o
  refine g_get rfl rfl rfl ho rfl ?_
  exact g_rt rfl rfl rfl kk
/-- what level answers -/
def cl_lev (A : Nat → Nat → Int32) (w : Nat) (wh : Int32) : Int32 := if wh = 0 then A 3 w else if wh = 1 then A 4 w else if wh = 2 then A 5 w else -1
set_option maxRecDepth 100000 in
/-- entries(column) -/
theorem cl_entries {x : Int32} (h : cl_P c1 c2 a D σ A S I F V G W k dp bg N col ev cr co) (kk : Q (some (.int (co_sz N col x))) σ) : ev_W (d + 2) mSt_entries (0, [some (.ref (a 0)), some (.int x)], []) σ Q := by
  obtain ⟨tk, ch, ho⟩ := h.o
  obtain ⟨hG, lf, lv, le, ln, C, tk', ch', -, hs, hd, he, hC, hc, -⟩ := h
  refine g_get rfl rfl rfl ho rfl ?_
  refine g_clV rfl rfl rfl rfl (hG.at hc.1) rfl rfl rfl ?_
  refine co_sizeOf hG hc ?_
  exact g_rt rfl rfl rfl kk
set_option maxRecDepth 100000 in
/-- entry(column, k, what) -/
theorem cl_entry {x y w : Int32} (h : cl_P c1 c2 a D σ A S I F V G W k dp bg N col ev cr co) (kk : Q (some (.int (co_rd N col x y w))) σ) : ev_W (d + 2) mSt_entry (0, [some (.ref (a 0)), some (.int x), some (.int y), some (.int w)], []) σ Q := by
  obtain ⟨tk, ch, ho⟩ := h.o
  obtain ⟨hG, lf, lv, le, ln, C, tk', ch', -, hs, hd, he, hC, hc, -⟩ := h
  refine g_get rfl rfl rfl ho rfl ?_
  refine g_clV rfl rfl rfl rfl (hG.at hc.1) rfl rfl rfl ?_
  refine co_read hG hc ?_
  exact g_rt rfl rfl rfl kk
/-- what event(k, what) answers of the events ev -/
def cl_ev (ev : List (Int32 × Int32)) (x wh : Int32) : Int32 := if x < 0 ∨ wh < 0 ∨ 2 ≤ wh then -1 else match ev[x.toNatClampNeg]? with
  | some e => if wh = 0 then e.1 else e.2
  | none => -1
theorem es_rd_ev {E : Nat → Int32} (hl : ev.length ≤ 4096) (hE : ∀ q e, ev[q]? = some e → E (2 * q) = e.1 ∧ E (2 * q + 1) = e.2) (x wh : Int32) : es_rd E ev.length x wh = cl_ev ev x wh := by
  unfold es_rd cl_ev
  by_cases g1 : x < 0
  · rw [if_pos (Or.inl g1), if_pos (Or.inl g1)]
  by_cases g3 : wh < 0
  · rw [if_pos (Or.inr (Or.inr (Or.inl g3))), if_pos (Or.inr (Or.inl g3))]
  by_cases g4 : 2 ≤ wh
  · rw [if_pos (Or.inr (Or.inr (Or.inr g4))), if_pos (Or.inr (Or.inr g4))]
  obtain ⟨p, hp, rfl⟩ := nI_of g1
  obtain ⟨v, hv, rfl⟩ := nI_of g3
  have hv2 : v < 2 := by
    rcases Nat.lt_or_ge v 2 with z | z
    · exact z
    · exact absurd (show nI 2 ≤ nI v from nI_le z hv) g4
  rw [if_neg (show ¬ (nI p < 0 ∨ nI v < 0 ∨ 2 ≤ nI v) from fun z => z.elim g1 (fun z => z.elim g3 g4)), nI_clamp hp, nI_clamp hv]
  by_cases g2 : nI ev.length ≤ nI p
  · rw [if_pos (Or.inr (Or.inl g2)), List.getElem?_eq_none ((nI_leI (by omega) hp).mp g2)]
  have hpl : p < ev.length := by
    rcases Nat.lt_or_ge p ev.length with z | z
    · exact z
    · exact absurd (nI_le z hp) g2
  rw [if_neg (fun z => z.elim g1 (fun z => z.elim g2 (fun z => z.elim g3 g4))), List.getElem?_eq_getElem hpl]
  obtain ⟨w1, w2⟩ := hE p _ (List.getElem?_eq_getElem hpl)
  match v, hv2 with
  | 0, _ => exact w1.trans (if_pos rfl).symm
  | 1, _ => exact w2.trans (if_neg (by decide)).symm
set_option maxRecDepth 100000 in
/-- event(k, what) -/
theorem cl_event {x wh : Int32} (h : cl_P c1 c2 a D σ A S I F V G W k dp bg N col ev cr co) (kk : Q (some (.int (cl_ev ev x wh))) σ) : ev_W (d + 1) mSt_event (0, [some (.ref (a 0)), some (.int x), some (.int wh)], []) σ Q := by
  obtain ⟨tk, ch, ho⟩ := h.o
  obtain ⟨hG, lf, lv, le, ln, C, tk', ch', -, hs, hd, ⟨E, he, hE⟩, -⟩ := h
  refine g_get rfl rfl rfl ho rfl ?_
  refine g_clV rfl rfl rfl rfl (hG.at he.1) rfl rfl rfl ?_
  refine es_read hG he ?_
  rw [es_rd_ev (by have := he.2.2; omega) hE]
  exact g_rt rfl rfl rfl kk
end CL
