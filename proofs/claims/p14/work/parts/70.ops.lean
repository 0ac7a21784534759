/-! BOTH TOGETHER. gj_P: Striping's cells, the reference's, and the links between them. gi_P: the same with the places that the law holds: x0 Striping, m0 the reference, sb the script (L ints xs). -/
def gj_P (c1 c2 : Nat) (a : Nat → Nat) (D : Nat → Option ri_E) (σ : ri_S) (A : Nat → Nat → Int32) (S : Nat → Int64) (I F V G W : Nat → Int32) (k dp : Nat) (bg : Int32) (N : Nat) (col : Nat → List co_E) (ev : List (Int32 × Int32)) (cr co : Int32) (B : Nat → Nat → Int32) (J : Nat → Int32) (n lw b r : Nat) : Prop :=
  cl_P c1 c2 a D σ A S I F V G W k dp bg N col ev cr co ∧ mh_P a D B J ∧ li_S A I B J n lw ∧ (∀ f, f < n → B 3 f = 0 ∨ B 3 f = 1) ∧ li_D A n G W k dp bg cr co B J b r ∧ tr_A A n B J b k r ∧ (J 5 = 0 → N = 0 ∧ b = 0 ∧ k = 0 ∧ r = 0 ∧ bg = 0) ∧ gx_P A S n F V k N col ev B J lw b r
def gl_P (x0 m0 sb L : Nat) (xs : Nat → Int32) (a : Nat → Nat) (D : Nat → Option ri_E) : Prop := a 0 = x0 ∧ a 70 = m0 ∧ a 98 = sb ∧ D 98 = some (.inl (.object "", L, .inl xs))
def gi_P (c1 c2 x0 m0 sb L : Nat) (xs : Nat → Int32) (σ : ri_S) : Prop := ∃ a D A S I F V G W k dp bg N col ev cr co B J n lw b r, gl_P x0 m0 sb L xs a D ∧ gj_P c1 c2 a D σ A S I F V G W k dp bg N col ev cr co B J n lw b r
/-- what the law needs between the two calls -/
def hs_P (m0 sb L : Nat) (xs : Nat → Int32) (σ : ri_S) : Prop := σ.1 sb = some (.inl (.object "", L, .inl xs)) ∧ ∃ fs, σ.1 m0 = some (.inr (5, fs))
section OPS
variable {c1 c2 x0 m0 sb L : Nat} {xs : Nat → Int32} {a a' : Nat → Nat} {D D' : Nat → Option ri_E} {σ σ' σ'' : ri_S} {A : Nat → Nat → Int32} {S : Nat → Int64} {I F V G W : Nat → Int32} {k dp : Nat} {bg : Int32} {N : Nat} {col : Nat → List co_E} {ev : List (Int32 × Int32)} {cr co : Int32} {B B' : Nat → Nat → Int32} {J J' : Nat → Int32} {n lw b r d : Nat} {Q : Option Value → ri_S → Prop}
theorem gl_P.fr (h : gl_P x0 m0 sb L xs a D) (hF : cl_F a D a' D') : gl_P x0 m0 sb L xs a' D' := ⟨hF.2.trans h.1, (hF.1 70 (by decide)).2.trans h.2.1, (hF.1 98 (by decide)).2.trans h.2.2.1, (hF.1 98 (by decide)).1.trans h.2.2.2⟩
theorem mh_P.cf (h : mh_P a D B J) (hF : cl_F a D a' D') : mh_P a' D' B J := h.fr (fun i h1 h2 => hF.1 i (by omega))
theorem hs_of (hl : gl_P x0 m0 sb L xs a D) (hm : mh_P a D B J) (hG : gw_P a D σ) : hs_P m0 sb L xs σ := by
  obtain ⟨-, rfl, rfl, h4⟩ := hl
  exact ⟨hG.at h4, _, hG.at hm.2.1⟩
/-- the reference's cells change, Striping's stay -/
theorem cl_P.um (h : cl_P c1 c2 a D σ A S I F V G W k dp bg N col ev cr co) (h1 : gw_P a D' σ') (h3 : gw_F 70 84 a D a D') (h4 : σ'.2 = σ.2) : cl_P c1 c2 a D' σ' A S I F V G W k dp bg N col ev cr co := by
  obtain ⟨hG, lf, lv, le, ln, C, tk, ch, ho, hs, hd, he, hC, hc, hr⟩ := h
  refine ⟨h1, lf, lv, le, ln, C, tk, ch, (h3 0 (by decide)).1.trans ho, hs.fr (fun i _ _ => h3 i (by omega)), hd.fr (fun i _ _ => h3 i (by omega)), he.fr (fun i _ _ => h3 i (by omega)), (h3 8 (by decide)).1.trans hC, hc.fr (fun i _ _ => h3 i (by omega)), ?_⟩
  rw [h4]
  exact hr
theorem gl_P.um (h : gl_P x0 m0 sb L xs a D) (h3 : gw_F 70 84 a D a D') : gl_P x0 m0 sb L xs a D' := ⟨h.1, h.2.1, h.2.2.1, (h3 98 (by decide)).1.trans h.2.2.2⟩
theorem li_S.same (h : li_S A I B J n lw) (hB : ∀ i, i < 8 → B' i = B i) (hJ : ∀ j, j < 16 → J' j = J j) : li_S A I B' J' n lw := by
  unfold li_S at *
  rw [hB 0 (by decide), hB 1 (by decide), hB 2 (by decide), hB 3 (by decide), hJ 4 (by decide), hJ 5 (by decide)]
  exact h
theorem li_D.same (h : li_D A n G W k dp bg cr co B J b r) (hB : ∀ i, i < 8 → B' i = B i) (hJ : ∀ j, j < 16 → J' j = J j) : li_D A n G W k dp bg cr co B' J' b r := by
  unfold li_D li_O li_Pj li_L li_hs at *
  rw [hB 4 (by decide), hB 6 (by decide), hB 7 (by decide), hJ 9 (by decide), hJ 11 (by decide), hJ 12 (by decide), hJ 13 (by decide)]
  exact h
/-- the reference's other cells change -/
theorem gj_P.same {ev' : List (Int32 × Int32)} (h : gj_P c1 c2 a D σ A S I F V G W k dp bg N col ev cr co B J n lw b r) (h1 : cl_P c1 c2 a' D' σ' A S I F V G W k dp bg N col ev' cr co) (h2 : mh_P a' D' B' J') (hB : ∀ i, i < 8 → B' i = B i) (hJ : ∀ j, j < 16 → J' j = J j) (hv : gx_E ev' B' J') : gj_P c1 c2 a' D' σ' A S I F V G W k dp bg N col ev' cr co B' J' n lw b r := by
  obtain ⟨-, -, g1, g2, g3, g4, g5, g6⟩ := h
  refine ⟨h1, h2, g1.same hB hJ, ?_, g3.same hB hJ, g4.same (hB 3 (by decide)) (hB 4 (by decide)) (hB 6 (by decide)) (hB 7 (by decide)) (hJ 13 (by decide)), ?_, g6.same hB hJ hv⟩
  · rw [hB 3 (by decide)]; exact g2
  · rw [hJ 5 (by decide)]; exact g5
set_option maxRecDepth 100000 in
/-- field -/
theorem op_field (h : gi_P c1 c2 x0 m0 sb L xs σ) {p kd gb : Int32} (hgb : gb = 0 ∨ gb = 1) (kk : ∀ (v : Int32) (σ1 : ri_S), hs_P m0 sb L xs σ1 → (∀ (d2 : Nat) (Q2 : Option Value → ri_S → Prop), (∀ σ2, gi_P c1 c2 x0 m0 sb L xs σ2 → Q2 (some (.int v)) σ2) → ev_W (d2 + 10) mMo_field (0, [some (.ref m0), some (.int p), some (.int kd), some (.int gb)], []) σ1 Q2) → Q (some (.int v)) σ1) : ev_W (d + 70) mSt_field (0, [some (.ref x0), some (.int p), some (.int kd), some (.int gb)], []) σ Q := by
  have h0 := h
  obtain ⟨a, D, A, S, I, F, V, G, W, k, dp, bg, N, col, ev, cr, co, B, J, n, lw, b, r, hl, hc, hm, hS, hB3, hD, hT, hZ, hv⟩ := h
  have hS0 := hS
  obtain ⟨hn, hI8, hJ4, hr, hI9, hlw, hup, hde, ⟨e0, e1, e2⟩, h5, hE⟩ := hS
  have hl0 := hl
  obtain ⟨rfl, rfl, rfl, hl4⟩ := hl
  have hup0 : mo_up (B 0) n := by rw [e0]; exact hup
  refine cl_field hc hI8 hn hI9 hup (fun z => ?_) (fun z D1 σ1 hc1 hF1 => ?_)
  · refine kk (-1) σ (hs_of hl0 hm hc.1) (fun d2 Q2 k2 => ?_)
    refine mo_field (σ0 := σ) ⟨hm.mo hc.1, fun _ _ => rfl, rfl⟩ hJ4 hn hup0 hgb (fun _ => k2 σ h0) (fun σ2 y1 y2 y3 y4 y5 _ => ?_)
    exact absurd ((li_yes hS0).mpr ⟨y1, y2, y3, y4, y5⟩) z
  · have hm1 := hm.cf hF1
    refine kk (nI n) σ1 (hs_of (hl0.fr hF1) hm1 hc1.1) (fun d2 Q2 k2 => ?_)
    obtain ⟨y1, y2, y3, y4, y5⟩ := (li_yes hS0).mp z
    refine mo_field (σ0 := σ1) ⟨hm1.mo hc1.1, fun _ _ => rfl, rfl⟩ hJ4 hn hup0 hgb (fun q => ?_) (fun σ2 _ _ _ _ _ hW => k2 σ2 ?_)
    · exfalso
      rcases q with q | q | q | q | q | q | ⟨q, q2⟩
      · exact q y1
      · omega
      · exact y3 q
      · exact y4 q
      · rcases y5 with x | ⟨w, hw, x, -⟩
        · rw [x] at q; exact absurd q (by decide)
        · rw [x] at q; exact nI_m1 (by omega) (Int32.le_of_lt q)
      · rcases y5 with x | ⟨w, hw, x, -⟩
        · rw [x] at q; exact nI_m1 (by omega) q
        · rw [x] at q
          have := (nI_leI (by omega) (by omega)).mp q
          omega
      · rcases y5 with x | ⟨w, hw, x, x1, x2, x3⟩
        · exact q x
        · rw [x, nI_clamp (by omega)] at q2
          rw [x] at x2
          rcases q2 with q2 | q2 | q2
          · exact x1 q2
          · exact q2 x2
          · exact x3 q2
    · obtain ⟨D2, g1, g2, g3, g4⟩ := hm1.up hc1.1 hW
      obtain ⟨z1, z2, z3, z4, z5⟩ := hZ y1
      subst z1
      subst z2
      subst z3
      subst z4
      subst z5
      refine ⟨a, D2, _, _, _, F, V, G, W, 0, dp, 0, 0, col, ev, cr, co, _, _, n + 1, _, 0, 0, (hl0.fr hF1).um g3, hc1.um g1 g3 g4, g2, hS0.add z, fun f hf => ?_, ?_, ?_, fun _ => ⟨rfl, rfl, rfl, rfl, rfl⟩, hv.field hS0 z hgb y1⟩
      · show upd (B 3) n gb f = 0 ∨ upd (B 3) n gb f = 1
        unfold upd
        by_cases x : f = n
        · rw [if_pos x]; exact hgb
        · rw [if_neg x]; exact hB3 f (by omega)
      · obtain ⟨⟨d1, d2', d3, d4⟩, ⟨d5, d6, d7, d8, d9, d10, d11⟩, d13, d12⟩ := hD
        exact ⟨⟨d1, d2', d3, d4⟩, ⟨d5, d6, d7, d8, d9, d10, d11⟩, fun t t1 t2 => absurd t2 (by omega), fun x => absurd rfl x⟩
      · obtain ⟨Bn, t1, t2, t3, t4, t5⟩ := hT
        exact ⟨Bn, t1, t2, fun i hi => absurd hi (Nat.not_lt_zero _), tr_R.nil, Or.inl ⟨rfl, (t5.resolve_right (fun y => absurd y.1 (by decide))).2⟩⟩
theorem li_full (hS : li_S A I B J n lw) : sc_full A n ↔ ∀ f, f < n → mo_full B n f := by
  have hg := fun w hw => li_grp (w := w) hS hw
  obtain ⟨hn, hI8, hJ4, hr, hI9, hlw, hup, hde, ⟨e0, e1, e2⟩, h5, hE⟩ := hS
  unfold sc_full mo_full
  rw [e0]
  refine forall_congr' fun f => forall_congr' fun hf => ?_
  rw [hg f hf]
  obtain ⟨e, he, h1, h2, -, h4, -⟩ := hE f hf
  rw [he, nI_eq (by omega) (by omega), h4]
  by_cases z : B 3 f = 0
  · exact ⟨fun _ => Or.inl z, fun _ y => absurd z y⟩
  · by_cases y : ∃ g, g < n ∧ A 0 g = nI f
    · exact ⟨fun _ => Or.inr y, fun _ _ x => x y⟩
    · exact ⟨fun x => absurd y (x z), fun x => absurd x (fun q => q.elim z y)⟩
set_option maxRecDepth 100000 in
/-- ready -/
theorem op_ready (h : gi_P c1 c2 x0 m0 sb L xs σ) (kk : ∀ (v : Int32) (σ1 : ri_S), hs_P m0 sb L xs σ1 → (∀ (d2 : Nat) (Q2 : Option Value → ri_S → Prop), (∀ σ2, gi_P c1 c2 x0 m0 sb L xs σ2 → Q2 (some (.int v)) σ2) → ev_W (d2 + 10) mMo_ready (0, [some (.ref m0), none, none, none, none], []) σ1 Q2) → Q (some (.int v)) σ1) : ev_W (d + 70) mSt_ready (0, [some (.ref x0)], []) σ Q := by
  have h0 := h
  obtain ⟨a, D, A, S, I, F, V, G, W, k, dp, bg, N, col, ev, cr, co, B, J, n, lw, b, r, hl, hc, hm, hS, hB3, hD, hT, hZ, hv⟩ := h
  have hS0 := hS
  obtain ⟨hn, hI8, hJ4, hr, hI9, hlw, hup, hde, ⟨e0, e1, e2⟩, h5, hE⟩ := hS
  have hl0 := hl
  obtain ⟨rfl, rfl, rfl, hl4⟩ := hl
  have hlw2 : lw ≤ 48 := by rw [hlw]; exact Nat.le_trans (mo_lv_le _ _) hn
  have iff1 : (I 10 = 0 ∧ 0 < n ∧ sc_full A n) ↔ ((J 5 = 0 ∧ 0 < n) ∧ ∀ f, f < n → mo_full B n f) := by
    rw [hr, li_full hS0, and_assoc]
  refine cl_ready hc hI8 hn hI9 hlw2 (fun z => (hZ (hr.symm.trans z)).1) (fun z => ?_) (fun z a1 D1 σ1 hc1 hF1 => ?_)
  · refine kk (-1) σ (hs_of hl0 hm hc.1) (fun d2 Q2 k2 => ?_)
    refine mo_ready (σ0 := σ) ⟨hm.mo hc.1, fun _ _ => rfl, rfl⟩ hJ4 hn (fun _ => k2 σ h0) (fun σ2 y _ => absurd (iff1.mpr y) z)
  · have hm1 := hm.cf hF1
    have hl1 := hl0.fr hF1
    refine kk (nI lw) σ1 (hs_of hl1 hm1 hc1.1) (fun d2 Q2 k2 => ?_)
    rw [← hl1.2.1]
    refine mo_ready (σ0 := σ1) ⟨hm1.mo hc1.1, fun _ _ => rfl, rfl⟩ hJ4 hn (fun q => absurd (iff1.mp z) q) (fun σ2 _ hW => ?_)
    rw [← hlw]
    refine k2 σ2 ?_
    obtain ⟨D2, g1, g2, g3, g4⟩ := hm1.up hc1.1 hW
    refine ⟨a1, D2, A, S, _, F, V, G, W, k, dp, bg, lw, _, ev, cr, co, B, _, n, lw, b, r, hl1.um g3, hc1.um g1 g3 g4, g2, ⟨hn, hI8, hJ4, rfl, hI9, hlw, hup, hde, ⟨e0, e1, e2⟩, h5, hE⟩, hB3, hD, hT, fun x => absurd (show (1 : Int32) = 0 from x) (by decide), hv.ready (hZ (iff1.mp z).1.1).2.2.2.1⟩
set_option maxRecDepth 100000 in
/-- begin -/
theorem op_begin (h : gi_P c1 c2 x0 m0 sb L xs σ) (kk : ∀ (v : Int32) (σ1 : ri_S), hs_P m0 sb L xs σ1 → (∀ (d2 : Nat) (Q2 : Option Value → ri_S → Prop), (∀ σ2, gi_P c1 c2 x0 m0 sb L xs σ2 → Q2 (some (.int v)) σ2) → ev_W (d2 + 10) mMo_begin (0, [some (.ref m0)], []) σ1 Q2) → Q (some (.int v)) σ1) : ev_W (d + 70) mSt_begin (0, [some (.ref x0)], []) σ Q := by
  have h0 := h
  obtain ⟨a, D, A, S, I, F, V, G, W, k, dp, bg, N, col, ev, cr, co, B, J, n, lw, b, r, hl, hc, hm, hS, hB3, hD, hT, hZ, hv⟩ := h
  have hD0 := hD
  obtain ⟨⟨d1, d2', d3, d4⟩, ⟨d5, d6, d7, d8, d9, d10, d11⟩, d13, d12⟩ := hD
  have hl0 := hl
  obtain ⟨rfl, rfl, rfl, hl4⟩ := hl
  have iff1 : (¬ I 10 = 0 ∧ bg = 0 ∧ cr < 128) ↔ (¬ J 5 = 0 ∧ J 12 = 0 ∧ r < 128) := by
    rw [hS.2.2.2.1, d10, d5, show (128 : Int32) = nI 128 from rfl, nI_ltI (by omega) (by decide)]
  refine cl_begin hc (fun z => ?_) (fun z D1 σ1 hc1 hF1 => ?_)
  · refine kk 0 σ (hs_of hl0 hm hc.1) (fun d2 Q2 k2 => ?_)
    refine mo_begin (σ0 := σ) ⟨hm.mo hc.1, fun _ _ => rfl, rfl⟩ d6 d1 (fun _ => k2 σ h0) (fun σ2 y _ => absurd (iff1.mpr y) z)
  · have hm1 := hm.cf hF1
    refine kk 1 σ1 (hs_of (hl0.fr hF1) hm1 hc1.1) (fun d2 Q2 k2 => ?_)
    obtain ⟨y1, y2, y3⟩ := iff1.mp z
    refine mo_begin (σ0 := σ1) ⟨hm1.mo hc1.1, fun _ _ => rfl, rfl⟩ d6 d1 (fun q => absurd (iff1.mp z) q) (fun σ2 _ hW => k2 σ2 ?_)
    obtain ⟨D2, g1, g2, g3, g4⟩ := hm1.up hc1.1 hW
    have hk0 : k = 0 := (d3 z.2.1).1
    subst hk0
    refine ⟨a, D2, A, S, I, F, V, _, _, 0, 0, 1, N, col, ev, cr, co, _, _, n, lw, b, r, (hl0.fr hF1).um g3, hc1.um g1 g3 g4, g2, hS, hB3, hD0.begin hS.1 z.2.1 y3, hT.begin d9 rfl, fun x => absurd x y1, hv.begin (d9.trans d7.symm)⟩
set_option maxRecDepth 100000 in
/-- drop -/
theorem op_drop (h : gi_P c1 c2 x0 m0 sb L xs σ) (kk : ∀ (v : Int32) (σ1 : ri_S), hs_P m0 sb L xs σ1 → (∀ (d2 : Nat) (Q2 : Option Value → ri_S → Prop), (∀ σ2, gi_P c1 c2 x0 m0 sb L xs σ2 → Q2 (some (.int v)) σ2) → ev_W (d2 + 10) mMo_drop (0, [some (.ref m0)], []) σ1 Q2) → Q (some (.int v)) σ1) : ev_W (d + 70) mSt_drop (0, [some (.ref x0)], []) σ Q := by
  have h0 := h
  obtain ⟨a, D, A, S, I, F, V, G, W, k, dp, bg, N, col, ev, cr, co, B, J, n, lw, b, r, hl, hc, hm, hS, hB3, hD, hT, hZ, hv⟩ := h
  have hD0 := hD
  obtain ⟨⟨d1, d2', d3, d4⟩, ⟨d5, d6, d7, d8, d9, d10, d11⟩, d13, d12⟩ := hD
  have hl0 := hl
  obtain ⟨rfl, rfl, rfl, hl4⟩ := hl
  refine cl_drop hc (fun z => ?_) (fun z D1 σ1 hc1 hF1 => ?_)
  · refine kk 0 σ (hs_of hl0 hm hc.1) (fun d2 Q2 k2 => ?_)
    refine mo_drop (σ0 := σ) ⟨hm.mo hc.1, fun _ _ => rfl, rfl⟩ d6 d1 (fun _ => k2 σ h0) (fun σ2 y _ => absurd (d10.trans z) y)
  · have hm1 := hm.cf hF1
    refine kk 1 σ1 (hs_of (hl0.fr hF1) hm1 hc1.1) (fun d2 Q2 k2 => ?_)
    refine mo_drop (σ0 := σ1) ⟨hm1.mo hc1.1, fun _ _ => rfl, rfl⟩ d6 d1 (fun q => absurd (d10.symm.trans q) z) (fun σ2 _ hW => k2 σ2 ?_)
    obtain ⟨D2, g1, g2, g3, g4⟩ := hm1.up hc1.1 hW
    refine ⟨a, D2, A, S, I, F, V, G, W, 0, 0, 0, N, col, ev, cr, co, B, _, n, lw, b, r, (hl0.fr hF1).um g3, hc1.um g1 g3 g4, g2, hS, hB3, hD0.drop, hT.drop rfl, fun x => ?_, hv.drop⟩
    have := hZ x
    exact absurd this.2.2.2.2 z
set_option maxRecDepth 100000 in
/-- records -/
theorem op_records (h : gi_P c1 c2 x0 m0 sb L xs σ) (kk : ∀ (v : Int32) (σ1 : ri_S), hs_P m0 sb L xs σ1 → (∀ (d2 : Nat) (Q2 : Option Value → ri_S → Prop), (∀ σ2, gi_P c1 c2 x0 m0 sb L xs σ2 → Q2 (some (.int v)) σ2) → ev_W (d2 + 10) mMo_records (0, [some (.ref m0)], []) σ1 Q2) → Q (some (.int v)) σ1) : ev_W (d + 70) mSt_records (0, [some (.ref x0)], []) σ Q := by
  have h0 := h
  obtain ⟨a, D, A, S, I, F, V, G, W, k, dp, bg, N, col, ev, cr, co, B, J, n, lw, b, r, hl, hc, hm, hS, hB3, hD, hT, hZ, hv⟩ := h
  obtain ⟨⟨d1, d2', d3, d4⟩, ⟨d5, d6, d7, d8, d9, d10, d11⟩, d13, d12⟩ := hD
  have hl0 := hl
  obtain ⟨rfl, rfl, rfl, hl4⟩ := hl
  refine cl_records hc ?_
  refine kk cr σ (hs_of hl0 hm hc.1) (fun d2 Q2 k2 => ?_)
  refine mo_records (hm.mo hc.1) ?_
  rw [d6, ← d5]
  exact k2 σ h0
end OPS
