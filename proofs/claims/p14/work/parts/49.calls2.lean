/-! STRIPING'S CALLS: level, close, assemble, ready. -/
section CL2
variable {c1 c2 : Nat} {a : Nat → Nat} {D : Nat → Option ri_E} {σ : ri_S} {A : Nat → Nat → Int32} {S : Nat → Int64} {I F V G W : Nat → Int32} {k dp : Nat} {bg : Int32} {N n lw : Nat} {col : Nat → List co_E} {ev : List (Int32 × Int32)} {cr co : Int32} {d : Nat} {Q : Option Value → ri_S → Prop}
set_option maxRecDepth 100000 in
/-- level(field, what) -/
theorem cl_level {f wh : Int32} (h : cl_P c1 c2 a D σ A S I F V G W k dp bg N col ev cr co) (hI : I 8 = nI n) (hn : n ≤ 48) (k0 : (∀ w, w < n → ¬ f = nI w) → Q (some (.int (-1))) σ) (k1 : ∀ w, w < n → f = nI w → Q (some (.int (cl_lev A w wh))) σ) : ev_W (d + 2) mSt_level (0, [some (.ref (a 0)), some (.int f), some (.int wh)], []) σ Q := by
  obtain ⟨tk, ch, ho⟩ := h.o
  have hP := h.sc
  refine g_get rfl rfl rfl ho rfl ?_
  refine g_clV rfl rfl rfl rfl hP.1 rfl rfl rfl ?_
  refine sc_has hP hI hn (fun w hw e => ?_) (fun h0 => ?_)
  rotate_left
  · refine g_br rfl rfl rfl rfl rfl rfl (fun _ => ?_) (fun h => absurd rfl h)
    exact g_rt rfl rfl rfl (k0 h0)
  have one : ∀ w', w' < n → f = nI w' → w' = w := fun w' h1 h2 => (nI_eq (by omega) (by omega)).mp (h2.symm.trans e)
  refine g_br rfl rfl rfl rfl rfl rfl (fun h => absurd h (by decide)) (fun _ => ?_)
  have kk := k1 w hw e
  unfold cl_lev at kk
  by_cases z0 : wh = 0
  · subst z0
    rw [if_pos rfl] at kk
    refine g_px rfl rfl rfl rfl rfl rfl ?_
    refine g_get rfl rfl rfl ho rfl ?_
    refine g_clV rfl rfl rfl rfl hP.1 rfl rfl rfl ?_
    refine sc_repetitionOf hP hI hn (fun w' h1 h2 => ?_) (fun h0 => absurd e (h0 w hw))
    rw [one w' h1 h2]
    exact g_rt rfl rfl rfl kk
  rw [if_neg z0] at kk
  by_cases z1 : wh = 1
  · subst z1
    rw [if_pos rfl] at kk
    refine g_px rfl rfl rfl rfl rfl rfl ?_
    refine g_get rfl rfl rfl ho rfl ?_
    refine g_clV rfl rfl rfl rfl hP.1 rfl rfl rfl ?_
    refine sc_definitionOf hP hI hn (fun w' h1 h2 => ?_) (fun h0 => absurd e (h0 w hw))
    rw [one w' h1 h2]
    exact g_rt rfl rfl rfl kk
  rw [if_neg z1] at kk
  by_cases z2 : wh = 2
  · subst z2
    rw [if_pos rfl] at kk
    refine g_px rfl rfl rfl rfl rfl rfl ?_
    refine g_get rfl rfl rfl ho rfl ?_
    refine g_clV rfl rfl rfl rfl hP.1 rfl rfl rfl ?_
    refine sc_columnOf hP hI hn (fun w' h1 h2 => ?_) (fun h0 => absurd e (h0 w hw))
    rw [one w' h1 h2]
    exact g_rt rfl rfl rfl kk
  rw [if_neg z2] at kk
  have hout : wh.toInt < 0 ∨ (2 : Int) < wh.toInt := by
    rcases Int.lt_or_le wh.toInt 0 with y | y
    · exact Or.inl y
    rcases Int.lt_or_le 2 wh.toInt with y2 | y2
    · exact Or.inr y2
    exfalso
    have h3 : wh.toInt = 0 ∨ wh.toInt = 1 ∨ wh.toInt = 2 := by omega
    rcases h3 with q | q | q
    · exact z0 (Int32.toInt_inj.mp (q.trans (by decide)))
    · exact z1 (Int32.toInt_inj.mp (q.trans (by decide)))
    · exact z2 (Int32.toInt_inj.mp (q.trans (by decide)))
  refine g_px rfl rfl rfl rfl rfl (if_pos hout) ?_
  exact g_rt rfl rfl rfl kk
/-- up to where the fields of group g are asked for -/
def cl_to (A : Nat → Nat → Int32) (n : Nat) (g : Int32) : Int32 := if g = -1 then nI n else A 6 g.toNatClampNeg
set_option maxRecDepth 100000 in
/-- keepRecord() -/
theorem cl_keep (h : cl_P c1 c2 a D σ A S I F V G W k dp bg N col ev cr co) (hI : I 8 = nI n) (hn : n ≤ 48) (hup : mo_up (A 0) n) (hend : ∀ w, w < n → ∃ e, e ≤ n ∧ A 6 w = nI e) (kk : ∀ (a' : Nat → Nat) (D' : Nat → Option ri_E) (σ' : ri_S), cl_P c1 c2 a' D' σ' A S I F V G W 0 0 0 N (tk_all A S F V k N n col).2 ev (cr + 1) (co + nI k) → cl_F a D a' D' → Q none σ') : ev_W (d + 61) mSt_keepRecord (0, [some (.ref (a 0))], []) σ Q := by
  obtain ⟨hG, lf, lv, le, ln, C, tk, ch, ho, hs, hd, he, hC, hc, hr⟩ := h
  have hw0 : tw_P a D σ (co_su N ln) cr co ch N (tk, col) a D σ := ⟨hG, ho, ⟨fun _ _ => rfl, fun _ _ => rfl⟩, ln, hc, gw_ro.rf rfl⟩
  refine tw_put hw0 rfl rfl rfl (fun D1 σ1 hw1 => ?_)
  refine g_clV rfl rfl rfl rfl hw1.o rfl rfl rfl ?_
  refine tk_takeAll hs hd hI hn hup hend hw1 (fun a2 D2 σ2 hw2 => ?_)
  have hd2 := hw2.dr hd
  have e0 := hw2.2.2.1.2 0 (by decide)
  have e1 := hw2.2.2.1.2 1 (by decide)
  obtain ⟨g1, g2, g3, ln2, g4, g5⟩ := hw2
  rw [← e0]
  refine g_get rfl rfl rfl (g1.at g2) rfl ?_
  refine gw_put g1 g2 rfl rfl rfl rfl rfl rfl (fun σ3 hG3 e3 => ?_)
  refine g_get rfl rfl rfl (hG3.at (i := 0) rfl) rfl ?_
  refine g_get rfl rfl rfl (hG3.at (i := 0) rfl) rfl ?_
  refine g_get rfl rfl rfl (hG3.at (i := 1) hd2.1) rfl ?_
  refine gw_put hG3 (i := 0) rfl rfl rfl rfl rfl rfl rfl (fun σ4 hG4 e4 => ?_)
  refine g_get rfl rfl rfl (hG4.at (i := 0) rfl) rfl ?_
  have hd4 : ∀ x y : Option ri_E, dr_P a2 (va_up (va_up D2 0 x) 0 y) F V G W lf lv k dp bg := fun x y => hd2.fr (fun i _ _ => ⟨(va_up_n (by omega)).trans (va_up_n (by omega)), rfl⟩)
  refine g_clV rfl rfl rfl rfl (hG4.at (hd4 _ _).1) rfl rfl rfl ?_
  refine dr_clear hG4 (hd4 _ _) (fun D5 σ5 hG5 hd5 hF5 e5 => ?_)
  have fr : ∀ i, (6 ≤ i) → D5 i = D2 i := fun i hi => (hF5 i (by omega)).1.trans ((va_up_n (by omega)).trans (va_up_n (by omega)))
  refine g_rt rfl rfl rfl (kk a2 D5 σ5 ⟨hG5, lf, lv, le, ln2, C, _, ch, (hF5 0 (by decide)).1, ?_, hd5, ?_, ?_, ?_, ?_⟩ ⟨fun i hi => ⟨(fr i (by omega)).trans (g3.1 i (by omega)), g3.2 i (by omega)⟩, e0⟩)
  · exact hs.fr (fun i _ _ => ⟨(fr i (by omega)).trans (g3.1 i (by omega)), g3.2 i (by omega)⟩)
  · exact he.fr (fun i _ _ => ⟨(fr i (by omega)).trans (g3.1 i (by omega)), g3.2 i (by omega)⟩)
  · exact ((fr 8 (by decide)).trans (g3.1 8 (by decide))).trans hC
  · exact g4.fr (fun i _ _ => ⟨fr i (by omega), rfl⟩)
  · have e : σ5.2 = σ2.2 := e5.trans (e4.trans e3)
    unfold gw_ro at g5
    rw [e]
    omega
set_option maxRecDepth 100000 in
/-- close() -/
theorem cl_close {q : Nat} (h : cl_P c1 c2 a D σ A S I F V G W k dp bg N col ev cr co) (hI : I 8 = nI n) (hn : n ≤ 48) (hup : mo_up (A 0) n) (hend : ∀ w, w < n → ∃ e, e ≤ n ∧ A 6 w = nI e) (hg : ¬ bg = 0 → G dp = -1 ∨ ∃ w, w < n ∧ G dp = nI w) (hq : (if W dp + 1 < 0 then 0 else W dp + 1) = nI q) (hq2 : q < 2 ^ 31) (kno : ¬ (¬ bg = 0 ∧ ¬ sc_req A n (G dp) q (cl_to A n (G dp))) → Q (some (.int 0)) σ)
    (kin : ∀ dp', dp = dp' + 1 → ¬ bg = 0 → ¬ sc_req A n (G dp) q (cl_to A n (G dp)) → ∀ (D' : Nat → Option ri_E) (σ' : ri_S), cl_P c1 c2 a D' σ' A S I F V G W k dp' bg N col ev cr co → cl_F a D a D' → Q (some (.int 1)) σ')
    (kout : dp = 0 → ¬ bg = 0 → ¬ sc_req A n (G dp) q (cl_to A n (G dp)) → ∀ (a' : Nat → Nat) (D' : Nat → Option ri_E) (σ' : ri_S), cl_P c1 c2 a' D' σ' A S I F V G W 0 0 0 N (tk_all A S F V k N n col).2 ev (cr + 1) (co + nI k) → cl_F a D a' D' → Q (some (.int 1)) σ') : ev_W (d + 62) mSt_close (0, [some (.ref (a 0)), none], []) σ Q := by
  obtain ⟨tk, ch, ho⟩ := h.o
  have hP := h.sc
  obtain ⟨hG, lf, lv, le, ln, C, tk', ch', -, hs, hd, -⟩ := id h
  refine g_get rfl rfl rfl ho rfl ?_
  refine g_get rfl rfl rfl (hG.at hd.1) rfl ?_
  refine g_br rfl rfl rfl rfl rfl rfl (fun g1 => ?_) (fun g1 => ?_)
  · exact g_rt rfl rfl rfl (kno (fun z => z.1 g1))
  refine g_get rfl rfl rfl ho rfl ?_
  refine g_clV rfl rfl rfl rfl (hG.at hd.1) rfl rfl rfl ?_
  refine dr_group hG hd ?_
  refine g_get rfl rfl rfl ho rfl ?_
  refine g_get rfl rfl rfl ho rfl ?_
  refine g_clV rfl rfl rfl rfl (hG.at hd.1) rfl rfl rfl ?_
  refine dr_newest hG hd ?_
  refine g_get rfl rfl rfl ho rfl ?_
  refine g_clV rfl rfl rfl rfl hP.1 rfl rfl rfl ?_
  have rest : ∀ x : Int32, x = cl_to A n (G dp) → ev_W (d + 62) mSt_close (42, [some (.ref (a 0)), some (.int (G dp))], [.int x, .int (W dp + 1), .int (G dp), .ref (a 60)]) σ Q := by
    intro x hx
    subst hx
    refine g_clV rfl rfl rfl rfl hP.1 rfl rfl rfl ?_
    refine sc_requires hP hn hI hq hq2 (fun z => ?_) (fun z => ?_)
    · refine g_br rfl rfl rfl rfl rfl rfl (fun h => absurd h (by decide)) (fun _ => ?_)
      exact g_rt rfl rfl rfl (kno (fun y => y.2 z))
    refine g_br rfl rfl rfl rfl rfl rfl (fun _ => ?_) (fun h => absurd rfl h)
    refine g_get rfl rfl rfl ho rfl ?_
    refine g_get rfl rfl rfl (hG.at hd.1) rfl ?_
    refine g_br rfl rfl rfl rfl rfl rfl (fun g2 => ?_) (fun g2 => ?_)
    · have hdp : dp = 0 := by
        rcases Nat.eq_zero_or_pos dp with y | y
        · exact y
        · exact absurd g2 (nI_nle y (by have := hd.2.2.2.2.2; omega))
      refine g_clV rfl rfl rfl rfl ho rfl rfl rfl ?_
      refine cl_keep h hI hn hup hend (fun a' D' σ' h1 h2 => ?_)
      exact g_rt rfl rfl rfl (kout hdp g1 z a' D' σ' h1 h2)
    · obtain ⟨dp', rfl⟩ : ∃ dp', dp = dp' + 1 := by
        rcases Nat.eq_zero_or_pos dp with y | y
        · exact absurd (by rw [y]; decide) g2
        · exact ⟨dp - 1, by omega⟩
      refine g_get rfl rfl rfl ho rfl ?_
      refine g_clV rfl rfl rfl rfl (hG.at hd.1) rfl rfl rfl ?_
      refine dr_leave hG hd (fun D1 σ1 h1 h2 h3 h4 => ?_)
      obtain ⟨e1, e2⟩ := h.ud hd h1 h2 h3 h4
      exact g_rt rfl rfl rfl (kin dp' rfl g1 z D1 σ1 e1 e2)
  refine sc_endOf hP hI hn (fun w hw e => ?_) (fun h0 => ?_)
  · refine rest _ ?_
    unfold cl_to
    rw [e, if_neg (nI_nm1 (by omega)), nI_clamp (by omega)]
  · refine rest _ ?_
    unfold cl_to
    rw [if_pos ((hg g1).resolve_right (fun ⟨w, hw, e⟩ => h0 w hw e))]
/-- the set of columns that assemble is given -/
def cl_ch (lo hi : Int32) : Int64 := (lo.toInt64 &&& 4294967295) ||| ((hi.toInt64 &&& 65535) <<< ((32 : Int32).toInt64 &&& 63))
set_option maxRecDepth 100000 in
/-- assemble(record, low, high) -/
theorem cl_assemble {r lo hi : Int32} (h : cl_P c1 c2 a D σ A S I F V G W k dp bg N col ev cr co) (hI : I 8 = nI n) (hn : n ≤ 48) (hend : ∀ w, w < n → ∃ e, e ≤ n ∧ A 6 w = nI e) (kno : (r < 0 ∨ cr ≤ r) → ∀ (D' : Nat → Option ri_E) (σ' : ri_S), cl_P c1 c2 a D' σ' A S I F V G W k dp bg N col [] cr co → cl_F a D a D' → Q (some (.int (-1))) σ')
    (kyes : ¬ (r < 0 ∨ cr ≤ r) → ∀ (a' : Nat → Nat) (D' : Nat → Option ri_E) (σ' : ri_S) (C : Nat → Int32), cl_P c1 c2 a' D' σ' A S I F V G W k dp bg N col (pu_all A S (cl_ch lo hi) N n col (pu_seek N col (cl_ch lo hi) r 48 0 C, [])).2 cr co → cl_F a D a' D' → Q (some (.int (nI (pu_all A S (cl_ch lo hi) N n col (pu_seek N col (cl_ch lo hi) r 48 0 C, [])).2.length))) σ') : ev_W (d + 61) mSt_assemble (0, [some (.ref (a 0)), some (.int r), some (.int lo), some (.int hi)], []) σ Q := by
  obtain ⟨hG, lf, lv, le, ln, C, tk, ch, ho, hs, hd, ⟨E, he, hE⟩, hC, hc, hr⟩ := h
  refine g_get rfl rfl rfl (hG.at ho) rfl ?_
  refine g_clV rfl rfl rfl rfl (hG.at he.1) rfl rfl rfl ?_
  refine es_clear hG he (fun D1 σ1 hG1 he1 hF1 e1 => ?_)
  have ho1 := (hF1 0 (by decide)).1.trans ho
  have hs1 : sh_P a D1 A S I := hs.fr (fun i _ _ => hF1 i (by omega))
  have hd1 : dr_P a D1 F V G W lf lv k dp bg := hd.fr (fun i _ _ => hF1 i (by omega))
  have hc1 : co_P a D1 N col ln := hc.fr (fun i _ _ => hF1 i (by omega))
  have hC1 := (hF1 8 (by decide)).1.trans hC
  have el1 : el_P a D1 [] le := ⟨E, he1, fun q e z => by cases z⟩
  have hno : ∀ tk ch, D1 0 = some (.inr (4, so_fs a cr co tk ch)) → cl_P c1 c2 a D1 σ1 A S I F V G W k dp bg N col [] cr co := fun tk ch z => ⟨hG1, lf, lv, le, ln, C, tk, ch, z, hs1, hd1, el1, hC1, hc1, by rw [e1]; exact hr⟩
  have hF0 : cl_F a D a D1 := ⟨fun i hi => hF1 i (by omega), rfl⟩
  refine g_br rfl rfl rfl rfl rfl rfl (fun g1 => ?_) (fun g1 => ?_)
  · exact g_rt rfl rfl rfl (kno (Or.inl g1) D1 σ1 (hno tk ch ho1) hF0)
  refine g_get rfl rfl rfl (hG1.at ho1) rfl ?_
  refine g_br rfl rfl rfl rfl rfl rfl (fun g2 => ?_) (fun g2 => ?_)
  rotate_left
  · exact g_rt rfl rfl rfl (kno (Or.inr (Int32.not_lt.mp g2)) D1 σ1 (hno tk ch ho1) hF0)
  refine gw_put hG1 ho1 rfl rfl rfl rfl rfl rfl (fun σ2 hG2 e2 => ?_)
  have ho2 : va_up D1 0 (some (.inr (4, (so_fs a cr co tk ch).set 8 (.long (cl_ch lo hi))))) 0 = some (.inr (4, so_fs a cr co tk (cl_ch lo hi))) := rfl
  have hF2 : gw_F 0 1 a D1 a (va_up D1 0 (some (.inr (4, (so_fs a cr co tk ch).set 8 (.long (cl_ch lo hi)))))) := gw_F.rf.up (by decide) (by decide)
  have hs2 := hs1.fr (fun i _ _ => hF2 i (by omega))
  have hc2 := hc1.fr (fun i _ _ => hF2 i (by omega))
  have hw2 : pw_P a _ σ2 le (C, []) a _ σ2 := ⟨hG2, ⟨fun _ _ => rfl, fun _ _ => rfl⟩, hC1, le, el1.fr (fun i _ _ => hF2 i (by omega)), gw_ro.rf rfl⟩
  refine g_clV rfl rfl rfl rfl (hw2.o ho2) rfl rfl rfl ?_
  refine ev_go 2 rfl ?_
  refine pu_seek_loop ho2 hc2 48 0 _ _ σ2 (by omega) hw2 (fun D3 σ3 hw3 => ?_)
  refine g_clV rfl rfl rfl rfl (hw3.o ho2) rfl rfl rfl ?_
  refine pu_putAll hs2 ho2 hc2 hI hn hend hw3 (fun a4 D4 σ4 hw4 => ?_)
  refine g_get rfl rfl rfl (hw4.o ho2) rfl ?_
  refine g_get rfl rfl rfl hw4.e rfl ?_
  have hdd := hd1.fr (fun i _ _ => hF2 i (by omega))
  obtain ⟨q1, q2, q3, le4, q4, q5⟩ := id hw4
  refine g_rt rfl rfl rfl (kyes (fun z => z.elim g1 (fun y => absurd g2 (Int32.not_lt.mpr y))) a4 D4 σ4 C ⟨q1, lf, lv, le4, ln, _, tk, cl_ch lo hi, ?_, ?_, ?_, q4, q3, hw4.cq hc2, ?_⟩ ⟨fun i hi => ⟨?_, ?_⟩, q2.2 0 (by decide)⟩)
  · rw [so_fr (fun i hi => q2.2 i (by omega))]
    exact (q2.1 0 (by decide)).trans ho2
  · exact hs2.fr (fun i _ _ => ⟨q2.1 i (by omega), q2.2 i (by omega)⟩)
  · exact hdd.fr (fun i _ _ => ⟨q2.1 i (by omega), q2.2 i (by omega)⟩)
  · unfold gw_ro at q5
    rw [e2, e1] at q5
    omega
  · exact (q2.1 i (by omega)).trans ((hF2 i (by omega)).1.trans (hF1 i (by omega)).1)
  · exact q2.2 i (by omega)
theorem gw_P.grid (h : gw_P a D σ) (n m s : Nat) : gw_P (fun i => if i = 11 then σ.2.1 else if 12 ≤ i ∧ i < 12 + n then σ.2.1 + 1 + (i - 12) else a i) (fun i => if i = 11 then some (.inl (.array .int, n, .inr (.inr (.inr (.inr (fun j => if j < n then some (σ.2.1 + 1 + j) else none)))))) else if 12 ≤ i ∧ i < 12 + n then some (.inl (.int, m, .inl fun _ => 0)) else D i) (ri_grid σ.1 σ.2.1 n m, σ.2.1 + 1 + n, s) := by
  refine ⟨fun i j hi hj hij => ?_, fun i e he => ?_⟩
  · have lt : ∀ q, ¬ q = 11 → ¬ (12 ≤ q ∧ q < 12 + n) → (if q = 11 then some (.inl (.array .int, n, .inr (.inr (.inr (.inr (fun j => if j < n then some (σ.2.1 + 1 + j) else none)))))) else if 12 ≤ q ∧ q < 12 + n then some (.inl (.int, m, .inl fun _ => 0)) else D q) ≠ none → D q ≠ none ∧ a q < σ.2.1 := fun q z1 z2 hq => by
      rw [if_neg z1, if_neg z2] at hq
      refine ⟨hq, ?_⟩
      cases hx : D q with
      | none => exact absurd hx hq
      | some x => exact h.lt hx
    dsimp only at hij
    by_cases y1 : i = 11
    · rw [if_pos y1] at hij
      by_cases y2 : j = 11
      · omega
      rw [if_neg y2] at hij
      by_cases y3 : 12 ≤ j ∧ j < 12 + n
      · rw [if_pos y3] at hij
        omega
      · rw [if_neg y3] at hij
        have := (lt j y2 y3 hj).2
        omega
    rw [if_neg y1] at hij
    by_cases y4 : 12 ≤ i ∧ i < 12 + n
    · rw [if_pos y4] at hij
      by_cases y2 : j = 11
      · rw [if_pos y2] at hij
        omega
      rw [if_neg y2] at hij
      by_cases y3 : 12 ≤ j ∧ j < 12 + n
      · rw [if_pos y3] at hij
        omega
      · rw [if_neg y3] at hij
        have := (lt j y2 y3 hj).2
        omega
    rw [if_neg y4] at hij
    have hi' := lt i y1 y4 hi
    by_cases y2 : j = 11
    · rw [if_pos y2] at hij
      omega
    rw [if_neg y2] at hij
    by_cases y3 : 12 ≤ j ∧ j < 12 + n
    · rw [if_pos y3] at hij
      omega
    · rw [if_neg y3] at hij
      exact h.1 i j hi'.1 (lt j y2 y3 hj).1 hij
  · dsimp only at he ⊢
    unfold ri_grid
    by_cases y1 : i = 11
    · rw [if_pos y1] at he ⊢
      rw [if_pos rfl]
      exact ⟨by omega, he⟩
    rw [if_neg y1] at he ⊢
    by_cases y2 : 12 ≤ i ∧ i < 12 + n
    · rw [if_pos y2] at he ⊢
      rw [if_neg (by omega), if_pos ⟨by omega, by omega⟩]
      exact ⟨by omega, he⟩
    · rw [if_neg y2] at he ⊢
      have := h.lt he
      rw [if_neg (by omega), if_neg (by omega)]
      exact ⟨by omega, h.at he⟩
theorem gw_putF {M : ri_M} {F : ri_F} {pc np tg : Nat} {kv : Int32} {L : List (Option Value)} {r : List Value} (hG : gw_P a D σ) {i k cj j : Nat} {ty : FieldType} {fs : List Value} {v : Value} (hd : D i = some (.inr (cj, fs))) (hgo : ri_go 99 M F = (pc, L, v :: .ref (a i) :: r)) (hf : ri_find pc M.2.2.2.2.2 = some (.putfield k, np, tg, kv)) (ht : rt_f M.1 k = some (cj, j, ty, 1)) (hi : M.2.1.name = "<init>") (hn : narrow ty v = v) (hfi : fits ty v = true) (hj : Nat.blt j fs.length = true) (kk : ∀ σ' : ri_S, gw_P a (va_up D i (some (.inr (cj, fs.set j v)))) σ' → σ'.2 = σ.2 → ev_W d M (np, L, r) σ' Q) : ev_W d M F σ Q := g_putF hgo hf ht hi (hG.at hd) hn hfi hj (kk _ (hG.set hd _) rfl)
set_option maxRecDepth 100000 in
/-- Columns(count) -/
theorem co_init (hG : gw_P a D σ) (h9 : D 9 = some (.inr (0, [.null, .null]))) {cnt : Int32} (hc : cnt = nI n) (hn : n ≤ 48) (kk : ∀ (a' : Nat → Nat) (D' : Nat → Option ri_E) (σ' : ri_S), gw_P a' D' σ' → co_P a' D' n (fun _ => []) (fun _ => 24) → (∀ i, (i < 9 ∨ 60 ≤ i) → D' i = D i) → (∀ i, (i < 10 ∨ 60 ≤ i) → a' i = a i) → σ'.2 = (σ.2.1 + 1 + 1 + n, σ.2.2 + n + n + n * 24) → Q none σ') : ev_W (d + 1) mCo_init (0, [some (.ref (a 9)), some (.int cnt), none], []) σ Q := by
  subst hc
  refine g_lf rfl rfl rfl rfl rfl ?_
  refine g_max rfl rfl rfl rfl rfl ?_
  rw [show (if nI n < 0 then 0 else nI n) = nI n from if_neg (nI_pos (by omega))]
  refine g_newi rfl rfl (nI_pos (by omega)) (nI_clamp (by omega)) (by omega) ?_
  have hG1 := hG.new 10 (.inl (.int, n, .inl fun _ => 0)) (σ.2.1 + 1) (σ.2.2 + n) (by omega)
  refine gw_putF hG1 (i := 9) h9 rfl rfl rfl rfl rfl rfl rfl (fun σ2 hG2 e2 => ?_)
  refine g_grid rfl rfl rfl (nI_pos (by omega)) (by decide) (nI_clamp (by omega)) (by decide : (24 : Int32).toNatClampNeg = 24) (by omega) (by omega) ?_
  have hG3 := hG2.grid n 24 (σ2.2.2 + n + n * 24)
  refine gw_putF hG3 (i := 9) rfl rfl rfl rfl rfl rfl rfl rfl (fun σ4 hG4 e4 => ?_)
  refine g_rt rfl rfl rfl (kk _ _ σ4 hG4 ⟨rfl, ⟨_, rfl, fun c hc => rfl⟩, ⟨_, rfl, fun c hc => ?_⟩, fun c hc => ⟨(fun _ => 0), ?_, ?_, ?_⟩, hn⟩ (fun i hi => ?_) (fun i hi => ?_) ?_)
  · show (if c < n then some (σ2.2.1 + 1 + c) else none) = some (if 12 + c = 11 then _ else if 12 ≤ 12 + c ∧ 12 + c < 12 + n then σ2.2.1 + 1 + (12 + c - 12) else _)
    rw [if_pos hc, if_neg (by omega), if_pos ⟨by omega, by omega⟩, Nat.add_sub_cancel_left]
  · exact (va_up_n (by omega)).trans ((if_neg (by omega)).trans (if_pos ⟨by omega, by omega⟩))
  · intro q e z
    cases z
  · show 3 * 0 ≤ 24 ∧ 24 ≤ 24 ∧ 24 ≤ 13056 ∧ 0 ≤ 2176
    decide
  · exact (va_up_n (by omega)).trans ((if_neg (by omega)).trans ((if_neg (by omega)).trans ((va_up_n (by omega)).trans (va_up_n (by omega)))))
  · exact (if_neg (by omega)).trans ((if_neg (by omega)).trans (va_up_n (by omega)))
  · rw [e4, e2]
theorem co_su_24 : ∀ n, co_su n (fun _ => 24) = n * 24
  | 0 => rfl
  | n + 1 => by
    show co_su n (fun _ => 24) + 24 = _
    rw [co_su_24 n, Nat.succ_mul]
set_option maxRecDepth 100000 in
/-- ready() -/
theorem cl_ready (h : cl_P c1 c2 a D σ A S I F V G W k dp bg N col ev cr co) (hI : I 8 = nI n) (hn : n ≤ 48) (hl : I 9 = nI lw) (hlw : lw ≤ 48) (hN : I 10 = 0 → N = 0) (kno : ¬ (I 10 = 0 ∧ 0 < n ∧ sc_full A n) → Q (some (.int (-1))) σ) (kyes : I 10 = 0 ∧ 0 < n ∧ sc_full A n → ∀ (a' : Nat → Nat) (D' : Nat → Option ri_E) (σ' : ri_S), cl_P c1 c2 a' D' σ' A S (va_up I 10 1) F V G W k dp bg lw (fun _ => []) ev cr co → cl_F a D a' D' → Q (some (.int (nI lw))) σ') : ev_W (d + 3) mSt_ready (0, [some (.ref (a 0))], []) σ Q := by
  obtain ⟨hG, lf, lv, le, ln, C, tk, ch, ho, hs, hd, he, hC, hc, hr⟩ := h
  have hP := hs.sc hG
  refine g_get rfl rfl rfl (hG.at ho) rfl ?_
  refine g_clV rfl rfl rfl rfl hP.1 rfl rfl rfl ?_
  refine sc_settle (σ0 := σ) ⟨hP, fun _ _ => rfl, rfl⟩ hn hI (fun z => ?_) (fun σ1 z hW => ?_)
  · refine g_br rfl rfl rfl rfl rfl rfl (fun _ => ?_) (fun h => absurd rfl h)
    exact g_rt rfl rfl rfl (kno z)
  obtain ⟨D1, hG1, hs1, hF1, e1⟩ := hs.up hG hW
  have ho1 := (hF1 0 (by decide)).1.trans ho
  have hP1 := hs1.sc hG1
  refine g_br rfl rfl rfl rfl rfl rfl (fun h => absurd h (by decide)) (fun _ => ?_)
  refine g_new rfl rfl rfl ?_
  have hG2 := hG1.new 9 (.inr (0, [.null, .null])) (σ1.2.1 + 1) (σ1.2.2 + 2) (by omega)
  have hs2 : sh_P (va_up a 9 σ1.2.1) (va_up D1 9 (some (.inr (0, [.null, .null])))) A S (va_up I 10 1) := hs1.fr (fun i _ _ => ⟨va_up_n (by omega), va_up_n (by omega)⟩)
  have hP2 := hs2.sc hG2
  refine g_get rfl rfl rfl (hG2.at (i := 0) ho1) rfl ?_
  refine g_get rfl rfl rfl hP2.1 rfl ?_
  refine g_clC rfl rfl rfl (Or.inl rfl) rfl rfl rfl rfl ?_
  refine co_init hG2 (va_up_s) (n := lw) hl hlw (fun a3 D3 σ3 hG3 hc3 hD3 ha3 e3 => ?_)
  have ho3 : D3 0 = some (.inr (4, so_fs a cr co tk ch)) := (hD3 0 (by decide)).trans ho1
  have a30 : a3 0 = a 0 := ha3 0 (by decide)
  have a39 : a3 9 = σ1.2.1 := ha3 9 (by decide)
  rw [← a30, ← a39]
  refine gw_put hG3 ho3 rfl rfl rfl rfl rfl rfl (fun σ4 hG4 e4 => ?_)
  have fr : ∀ i, ((1 ≤ i ∧ i < 9) ∨ 60 ≤ i) → va_up D3 0 (some (.inr (4, (so_fs a cr co tk ch).set 4 (.ref (a3 9))))) i = D1 i ∧ a3 i = a i := fun i hi => ⟨(va_up_n (by omega)).trans ((hD3 i (by omega)).trans (va_up_n (by omega))), (ha3 i (by omega)).trans (va_up_n (by omega))⟩
  have hs4 : sh_P a3 (va_up D3 0 (some (.inr (4, (so_fs a cr co tk ch).set 4 (.ref (a3 9)))))) A S (va_up I 10 1) := hs1.fr (fun i _ _ => fr i (by omega))
  have hP4 := hs4.sc hG4
  have ho4 : va_up D3 0 (some (.inr (4, (so_fs a cr co tk ch).set 4 (.ref (a3 9))))) 0 = some (.inr (4, so_fs a3 cr co tk ch)) := by
    rw [va_up_s]
    unfold so_fs
    rw [(fr 60 (by decide)).2, (fr 1 (by decide)).2, (fr 6 (by decide)).2, (fr 8 (by decide)).2]
    rfl
  refine g_get rfl rfl rfl (hG4.at ho4) rfl ?_
  refine g_get rfl rfl rfl hP4.1 rfl ?_
  refine g_rt rfl rfl rfl ?_
  rw [show va_up I 10 1 9 = nI lw from hl]
  refine kyes z a3 _ σ4 ⟨hG4, lf, lv, le, fun _ => 24, C, tk, ch, ho4, hs4, ?_, ?_, ?_, ?_, ?_⟩ ⟨fun i hi => ⟨(fr i (by omega)).1.trans (hF1 i (by omega)).1, (fr i (by omega)).2⟩, a30⟩
  · exact hd.fr (fun i _ _ => ⟨(fr i (by omega)).1.trans (hF1 i (by omega)).1, (fr i (by omega)).2⟩)
  · exact he.fr (fun i _ _ => ⟨(fr i (by omega)).1.trans (hF1 i (by omega)).1, (fr i (by omega)).2⟩)
  · exact ((fr 8 (by decide)).1.trans (hF1 8 (by decide)).1).trans hC
  · exact hc3.fr (fun i _ _ => ⟨va_up_n (by omega), rfl⟩)
  · rw [e4, e3, co_su_24, show (va_up I 10 1 10 : Int32) = 1 from rfl, if_neg (by decide), if_neg (by decide)]
    rw [if_pos z.1, if_pos z.1, hN z.1] at hr
    have e0 : co_su 0 ln = 0 := rfl
    rw [e0, ← e1] at hr
    show 24 * (σ1.2.1 + 1 + 1 + 1 + lw) + 0 ≤ _ ∧ σ1.2.2 + 2 + lw + lw + lw * 24 + 0 ≤ _
    omega
set_option maxRecDepth 100000 in
/-- a group comes where no record has begun -/
theorem cl_open' {f : Int32} (h : cl_P c1 c2 a D σ A S I F V G W k dp bg N col ev cr co) (hI : I 8 = nI n) (hn : n ≤ 48) (hbg : bg = 0) (kno : bg = 0 → Q (some (.int 0)) σ) : ev_W (d + 4) mSt_open (0, [some (.ref (a 0)), some (.int f)], []) σ Q := by
  obtain ⟨tk, ch, ho⟩ := h.o
  have hP := h.sc
  refine g_get rfl rfl rfl ho rfl ?_
  refine g_clV rfl rfl rfl rfl hP.1 rfl rfl rfl ?_
  refine sc_isGroup hP hI hn (fun w hw e h1 => ?_) (fun h0 => ?_)
  rotate_left
  · refine g_br rfl rfl rfl rfl rfl rfl (fun _ => ?_) (fun h => absurd rfl h)
    exact g_rt rfl rfl rfl (kno hbg)
  refine g_br rfl rfl rfl rfl rfl rfl (fun h => absurd h (by decide)) (fun _ => ?_)
  refine g_clV rfl rfl rfl rfl ho rfl rfl rfl ?_
  obtain ⟨hG, lf, lv, le, ln, C, tk', ch', -, hs, hd, -⟩ := id h
  refine g_get rfl rfl rfl ho rfl ?_
  refine g_get rfl rfl rfl (hG.at hd.1) rfl ?_
  refine g_br rfl rfl rfl rfl rfl rfl (fun g1 => ?_) (fun g1 => absurd hbg g1)
  refine g_rt rfl rfl rfl ?_
  refine g_br rfl rfl rfl rfl rfl rfl (fun _ => ?_) (fun h => absurd rfl h)
  exact g_rt rfl rfl rfl (kno hbg)
end CL2
