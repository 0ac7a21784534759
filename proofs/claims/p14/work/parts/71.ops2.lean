/-! BOTH TOGETHER: an occurrence comes, a group ends, the reads. -/
section OPS2
variable {c1 c2 x0 m0 sb L : Nat} {xs : Nat → Int32} {a a' : Nat → Nat} {D D' : Nat → Option ri_E} {σ σ' σ'' : ri_S} {A : Nat → Nat → Int32} {S : Nat → Int64} {I F V G W : Nat → Int32} {k dp : Nat} {bg : Int32} {N : Nat} {col : Nat → List co_E} {ev : List (Int32 × Int32)} {cr co : Int32} {B B' : Nat → Nat → Int32} {J J' : Nat → Int32} {n lw b r d : Nat} {Q : Option Value → ri_S → Prop}
/-- what the reference is given -/
theorem li_in (h : li_D A n G W k dp bg cr co B J b r) : J 13 = -1 ∨ ∃ q, q < b + k ∧ J 13 = nI q := by
  obtain ⟨⟨d1, d2', d3, d4⟩, ⟨d5, d6, d7, d8, d9, d10, d11⟩, d13, d12⟩ := h
  by_cases z : bg = 0
  · exact Or.inl (d3 z).2
  · obtain ⟨P, o1, o2, o3, o4, o5, o6, o7⟩ := d12 z
    rw [o4]
    match dp, o6 with
    | 0, _ => exact Or.inl o2
    | j + 1, o6 =>
      obtain ⟨q, w, e1, e2, e3, -⟩ := o6 j (by omega)
      exact Or.inr ⟨q, e3, e1⟩
/-- where an occurrence of w comes to lie -/
theorem li_where (h : li_D A n G W k dp bg cr co B J b r) (hbg : ¬ bg = 0) {w : Nat} (hps : A 0 w = G dp) : J 13 = -1 ∧ A 0 w = -1 ∨ ∃ q u, b ≤ q ∧ q < b + k ∧ J 13 = nI q ∧ B 4 q = nI u ∧ u < n ∧ A 0 w = nI u := by
  obtain ⟨-, -, -, d12⟩ := h
  obtain ⟨P, o1, o2, o3, o4, o5, o6, o7⟩ := d12 hbg
  rw [o4, hps]
  match dp, o6 with
  | 0, _ => exact Or.inl ⟨o2, o3⟩
  | j + 1, o6 =>
    obtain ⟨q, w, e1, e2, e3, e4, e5, e6, hw, -⟩ := o6 j (by omega)
    exact Or.inr ⟨q, w, e2, e3, e1, e5, hw, e6⟩
/-- the required ones ahead of w are there -/
theorem li_ahead (hS : li_S A I B J n lw) (h : li_D A n G W k dp bg cr co B J b r) {w : Nat} {gb : Int32} (hw : w < n) (hm : mo_may B J n b (b + k) (nI w) gb) (hps : A 0 w = G dp) : ∀ P : Nat → Int32, J 13 = P dp → ∀ g, g < n → A 0 g = G dp → A 1 g = 0 → g < w → li_hs B b k (P dp) (nI g) := by
  intro P hP g hg g1 g2 g3
  obtain ⟨hn, -, -, -, -, -, -, -, ⟨e0, e1, e2⟩, -, -⟩ := hS
  obtain ⟨-, w', hw', ew, -, -, -, -, hcg⟩ := hm
  obtain rfl : w = w' := (nI_eq (by omega) (by omega)).mp ew
  have := hcg g hg
  unfold mo_cg at this
  rw [e0, e1] at this
  rcases (this (g1.trans hps.symm)).1 with x | x | x
  · omega
  · exact absurd g2 x
  · exact (li_hs_iff hP g).mp x
theorem li_nm (hS : li_S A I B J n lw) (hD : li_D A n G W k dp bg cr co B J b r) (hG3 : ∀ f, f < n → B 3 f = 0 ∨ B 3 f = 1) {f gb : Int32} {q : Nat} (hq : (if W dp + 1 < 0 then 0 else W dp + 1) = nI q) (hq2 : q < 2 ^ 31) : (∃ w, w < n ∧ f = nI w ∧ B 3 w = gb ∧ cl_may A n G W k dp bg co q w) ↔ mo_may B J n b (b + k) f gb := by
  constructor
  · rintro ⟨w, hw, rfl, h3, hm⟩
    exact (li_may hS hD hG3 hw h3 hq hq2).mp hm
  · intro hm
    obtain ⟨-, w, hw, ew, h3, -⟩ := id hm
    subst ew
    exact ⟨w, hw, rfl, h3, (li_may hS hD hG3 hw h3 hq hq2).mpr hm⟩
set_option maxRecDepth 100000 in
/-- leaf -/
theorem op_leaf (h : gi_P c1 c2 x0 m0 sb L xs σ) {f x : Int32} (kk : ∀ (v : Int32) (σ1 : ri_S), hs_P m0 sb L xs σ1 → (∀ (d2 : Nat) (Q2 : Option Value → ri_S → Prop), (∀ σ2, gi_P c1 c2 x0 m0 sb L xs σ2 → Q2 (some (.int v)) σ2) → ev_W (d2 + 10) mMo_leaf (0, [some (.ref m0), some (.int f), some (.int x)], []) σ1 Q2) → Q (some (.int v)) σ1) : ev_W (d + 70) mSt_leaf (0, [some (.ref x0), some (.int f), some (.int x)], []) σ Q := by
  have h0 := h
  obtain ⟨a, D, A, S, I, F, V, G, W, k, dp, bg, N, col, ev, cr, co, B, J, n, lw, b, r, hl, hc, hm, hS, hB3, hD, hT, hZ, hv⟩ := h
  have hD0 := hD
  obtain ⟨⟨d1, d2', d3, d4⟩, ⟨d5, d6, d7, d8, d9, d10, d11⟩, d13, d12⟩ := hD
  have hl0 := hl
  obtain ⟨rfl, rfl, rfl, hl4⟩ := hl
  have hn := hS.1
  obtain ⟨q, hq, hq2⟩ := li_q0 (W dp)
  have nm := li_nm (f := f) (gb := 0) hS hD0 hB3 hq hq2
  have hk : k < 2048 ∨ ¬ co + nI k < 2048 := by
    rcases Nat.lt_or_ge k 2048 with y | y
    · exact Or.inl y
    · refine Or.inr (fun z => ?_)
      rw [d8, nI_add, show (2048 : Int32) = nI 2048 from rfl, nI_ltI (by omega) (by decide)] at z
      omega
  have conv : (∃ w, w < n ∧ f = nI w ∧ ¬ A 5 w = -1 ∧ cl_may A n G W k dp bg co q w) ↔ mo_may B J n b (b + k) f 0 := by
    rw [← nm]
    refine exists_congr fun w => and_congr_right fun hw => and_congr_right fun _ => and_congr_left fun _ => ?_
    rw [li_grp hS hw]
    exact ⟨fun y => Decidable.of_not_not y, fun y z => z y⟩
  refine cl_leaf hc hS.2.1 hn hk hq hq2 (fun z => ?_) (fun w hw ew z1 z2 a1 D1 σ1 F1 V1 hFa hFb hFc hc1 hF1 => ?_)
  · refine kk 0 σ (hs_of hl0 hm hc.1) (fun d2 Q2 k2 => ?_)
    refine mo_leaf (σ0 := σ) ⟨hm.mo hc.1, fun _ _ => rfl, rfl⟩ hS.2.2.1 hn d6 d1 d7 (by omega) d9 d2' (li_in hD0) (fun _ => k2 σ h0) (fun σ2 y _ => absurd (conv.mpr y) z)
  · have hm1 := hm.cf hF1
    have hl1 := hl0.fr hF1
    have hmay := conv.mp ⟨w, hw, ew, z1, z2⟩
    refine kk 1 σ1 (hs_of hl1 hm1 hc1.1) (fun d2 Q2 k2 => ?_)
    rw [← hl1.2.1]
    refine mo_leaf (σ0 := σ1) ⟨hm1.mo hc1.1, fun _ _ => rfl, rfl⟩ hS.2.2.1 hn d6 d1 d7 (by omega) d9 d2' (li_in hD0) (fun y => absurd hmay y) (fun σ2 _ hW => k2 σ2 ?_)
    obtain ⟨D2, g1, g2, g3, g4⟩ := hm1.up hc1.1 hW
    subst ew
    have hbg : ¬ bg = 0 := z2.1
    have hb3 : B 3 w = 0 := by
      have := (not_congr (li_grp hS hw)).mp z1
      exact Decidable.of_not_not this
    have hlt : b + k < 2048 := by
      obtain ⟨-, _, _, _, _, _, y, _⟩ := id hmay
      exact y
    refine ⟨a1, D2, A, S, I, F1, V1, G, _, k + 1, dp, bg, N, col, ev, cr, co, _, _, n, lw, b, r, hl1.um g3, hc1.um g1 g3 g4, g2, hS, hB3, li_come hn hD0 hbg hlt hw z2.2.1 z2.2.2.2.1 (li_ahead hS hD0 hw hmay z2.2.1), hT.come hlt hw hn (li_where hD0 hbg z2.2.1) (Or.inl ⟨hb3, rfl⟩), fun y => ?_, hv.come hS hD0 hT hbg hlt hw z2.2.2.2.1 z2.2.2.2.2.1 hFa hFb hFc (Or.inl ⟨hb3, rfl⟩) rfl rfl⟩
    exact absurd (hZ y).2.2.2.2 hbg
set_option maxRecDepth 100000 in
/-- open -/
theorem op_open (h : gi_P c1 c2 x0 m0 sb L xs σ) {f : Int32} (kk : ∀ (v : Int32) (σ1 : ri_S), hs_P m0 sb L xs σ1 → (∀ (d2 : Nat) (Q2 : Option Value → ri_S → Prop), (∀ σ2, gi_P c1 c2 x0 m0 sb L xs σ2 → Q2 (some (.int v)) σ2) → ev_W (d2 + 10) mMo_open (0, [some (.ref m0), some (.int f)], []) σ1 Q2) → Q (some (.int v)) σ1) : ev_W (d + 70) mSt_open (0, [some (.ref x0), some (.int f)], []) σ Q := by
  have h0 := h
  obtain ⟨a, D, A, S, I, F, V, G, W, k, dp, bg, N, col, ev, cr, co, B, J, n, lw, b, r, hl, hc, hm, hS, hB3, hD, hT, hZ, hv⟩ := h
  have hD0 := hD
  obtain ⟨⟨d1, d2', d3, d4⟩, ⟨d5, d6, d7, d8, d9, d10, d11⟩, d13, d12⟩ := hD
  have hl0 := hl
  obtain ⟨rfl, rfl, rfl, hl4⟩ := hl
  have hn := hS.1
  obtain ⟨q, hq, hq2⟩ := li_q0 (W dp)
  have nm := li_nm (f := f) (gb := 1) hS hD0 hB3 hq hq2
  have hk : k < 2048 ∨ ¬ co + nI k < 2048 := by
    rcases Nat.lt_or_ge k 2048 with y | y
    · exact Or.inl y
    · refine Or.inr (fun z => ?_)
      rw [d8, nI_add, show (2048 : Int32) = nI 2048 from rfl, nI_ltI (by omega) (by decide)] at z
      omega
  have conv : (∃ w, w < n ∧ f = nI w ∧ A 5 w = -1 ∧ cl_may A n G W k dp bg co q w) ↔ mo_may B J n b (b + k) f 1 := by
    rw [← nm]
    refine exists_congr fun w => and_congr_right fun hw => and_congr_right fun _ => and_congr_left fun _ => ?_
    rw [li_grp hS hw]
    rcases hB3 w hw with y | y
    · rw [y]; decide
    · rw [y]; decide
  by_cases hbg : bg = 0
  · have no : ¬ ∃ w, w < n ∧ f = nI w ∧ A 5 w = -1 ∧ cl_may A n G W k dp bg co q w := fun ⟨w, _, _, _, z⟩ => z.1 hbg
    refine cl_open' hc hS.2.1 hn hbg (fun _ => ?_)
    refine kk 0 σ (hs_of hl0 hm hc.1) (fun d2 Q2 k2 => ?_)
    refine mo_open (σ0 := σ) ⟨hm.mo hc.1, fun _ _ => rfl, rfl⟩ hS.2.2.1 hn d6 d1 d7 (by omega) d9 d2' (li_in hD0) (fun _ => k2 σ h0) (fun σ2 y _ => absurd (conv.mpr y) no)
  refine cl_open hc hS.2.1 hn hk (fun w hw e => (li_deep hS hD0 hbg hw e).1) hq hq2 (fun z => ?_) (fun w hw ew z1 z2 a1 D1 σ1 F1 V1 hFa hFb hFc hc1 hF1 => ?_)
  · refine kk 0 σ (hs_of hl0 hm hc.1) (fun d2 Q2 k2 => ?_)
    refine mo_open (σ0 := σ) ⟨hm.mo hc.1, fun _ _ => rfl, rfl⟩ hS.2.2.1 hn d6 d1 d7 (by omega) d9 d2' (li_in hD0) (fun _ => k2 σ h0) (fun σ2 y _ => absurd (conv.mpr y) z)
  · have hm1 := hm.cf hF1
    have hl1 := hl0.fr hF1
    have hmay := conv.mp ⟨w, hw, ew, z1, z2⟩
    refine kk 1 σ1 (hs_of hl1 hm1 hc1.1) (fun d2 Q2 k2 => ?_)
    rw [← hl1.2.1]
    refine mo_open (σ0 := σ1) ⟨hm1.mo hc1.1, fun _ _ => rfl, rfl⟩ hS.2.2.1 hn d6 d1 d7 (by omega) d9 d2' (li_in hD0) (fun y => absurd hmay y) (fun σ2 _ hW => k2 σ2 ?_)
    obtain ⟨D2, g1, g2, g3, g4⟩ := hm1.up hc1.1 hW
    subst ew
    have hb3 : ¬ B 3 w = 0 := (li_grp hS hw).mp z1
    have hlt : b + k < 2048 := by
      obtain ⟨-, _, _, _, _, _, y, _⟩ := id hmay
      exact y
    obtain ⟨y1, y2⟩ := li_deep hS hD0 hbg hw z2.2.1
    have hco := li_come (v := 0) hn hD0 hbg hlt hw z2.2.1 z2.2.2.2.1 (li_ahead hS hD0 hw hmay z2.2.1)
    have hen := hco.enter hn hbg hw (if_pos rfl) (if_pos rfl) z1 y2 y1
    refine ⟨a1, D2, A, S, I, F1, V1, _, _, k + 1, dp + 1, bg, N, col, ev, cr, co, _, _, n, lw, b, r, hl1.um g3, hc1.um g1 g3 g4, g2, hS, hB3, hen, hT.come hlt hw hn (li_where hD0 hbg z2.2.1) (Or.inr ⟨hb3, rfl⟩), fun y => ?_, hv.come hS hD0 hT hbg hlt hw z2.2.2.2.1 z2.2.2.2.2.1 hFa hFb hFc (Or.inr ⟨hb3, rfl, rfl⟩) rfl rfl⟩
    exact absurd (hZ y).2.2.2.2 hbg
set_option maxRecDepth 100000 in
/-- close -/
theorem op_close (h : gi_P c1 c2 x0 m0 sb L xs σ) (kk : ∀ (v : Int32) (σ1 : ri_S), hs_P m0 sb L xs σ1 → (∀ (d2 : Nat) (Q2 : Option Value → ri_S → Prop), (∀ σ2, gi_P c1 c2 x0 m0 sb L xs σ2 → Q2 (some (.int v)) σ2) → ev_W (d2 + 10) mMo_close (0, [some (.ref m0), none, none], []) σ1 Q2) → Q (some (.int v)) σ1) : ev_W (d + 70) mSt_close (0, [some (.ref x0), none], []) σ Q := by
  have h0 := h
  obtain ⟨a, D, A, S, I, F, V, G, W, k, dp, bg, N, col, ev, cr, co, B, J, n, lw, b, r, hl, hc, hm, hS, hB3, hD, hT, hZ, hv⟩ := h
  have hD0 := hD
  obtain ⟨⟨d1, d2', d3, d4⟩, ⟨d5, d6, d7, d8, d9, d10, d11⟩, d13, d12⟩ := hD
  have hl0 := hl
  obtain ⟨rfl, rfl, rfl, hl4⟩ := hl
  have hn := hS.1
  have hup := hS.2.2.2.2.2.2.1
  obtain ⟨q, hq, hq2⟩ := li_q0 (W dp)
  have hend : ∀ w, w < n → ∃ e, e ≤ n ∧ A 6 w = nI e := fun w hw => by
    obtain ⟨e, e1, -, e2, -⟩ := hS.2.2.2.2.2.2.2.2.2.2 w hw
    exact ⟨e, e2, e1⟩
  have hg : ¬ bg = 0 → G dp = -1 ∨ ∃ w, w < n ∧ G dp = nI w := fun z => by
    obtain ⟨P, o1, o2, o3, o4, o5, o6, o7⟩ := d12 z
    match dp, o6 with
    | 0, _ => exact Or.inl o3
    | j + 1, o6 =>
      obtain ⟨q, w, e1, e2, e3, e4, e5, e6, hw, -⟩ := o6 j (by omega)
      exact Or.inr ⟨w, hw, e6⟩
  refine cl_close hc hS.2.1 hn hup hend hg hq hq2 (fun z => ?_) (fun dp' edp z1 z2 D1 σ1 hc1 hF1 => ?_) (fun edp z1 z2 a1 D1 σ1 hc1 hF1 => ?_)
  · refine kk 0 σ (hs_of hl0 hm hc.1) (fun d2 Q2 k2 => ?_)
    have no : ¬ (¬ J 12 = 0 ∧ mo_end B J n b (b + k)) := fun y => z (by
      have hbg : ¬ bg = 0 := by rw [← d10]; exact y.1
      exact ⟨hbg, (li_end hS hD0 hbg hq hq2).mpr y.2⟩)
    exact mo_close (σ0 := σ) ⟨hm.mo hc.1, fun _ _ => rfl, rfl⟩ hS.2.2.1 hn d6 d1 (fun y => d4 (by rw [← d10]; exact y)) d7 (by omega) d9 d2' (li_in hD0) (fun _ => k2 σ h0) (fun σ2 y1 y2 _ _ => absurd ⟨y1, y2⟩ no) (fun σ2 q y1 y2 _ _ _ => absurd ⟨y1, y2⟩ no)
  · have hm1 := hm.cf hF1
    have hl1 := hl0.fr hF1
    have hme := (li_end hS hD0 z1 hq hq2).mp z2
    have hj12 : ¬ J 12 = 0 := by rw [d10]; exact z1
    subst edp
    obtain ⟨P, o1, o2, o3, o4, o5, o6, o7⟩ := d12 z1
    obtain ⟨t, u, t1, t2, t3, -⟩ := o6 dp' (by omega)
    have hj13 : J 13 = nI t := o4.trans t1
    refine kk 1 σ1 (hs_of hl1 hm1 hc1.1) (fun d2 Q2 k2 => ?_)
    refine mo_close (σ0 := σ1) ⟨hm1.mo hc1.1, fun _ _ => rfl, rfl⟩ hS.2.2.1 hn d6 d1 (fun _ => d4 z1) d7 (by omega) d9 d2' (li_in hD0) (fun y => absurd ⟨hj12, hme⟩ y) (fun σ2 y1 y2 y3 _ => absurd (hj13.symm.trans y3) (nI_nm1 (by omega))) (fun σ2 t' y1 y2 y3 y4 hW => k2 σ2 ?_)
    obtain ⟨D2, g1, g2, g3, g4⟩ := hm1.up hc1.1 hW
    have et : t' = t := (nI_eq (by omega) (by omega)).mp (y4.symm.trans hj13)
    subst et
    refine ⟨a, D2, A, S, I, F, V, G, W, k, dp', bg, N, col, ev, cr, co, B, _, n, lw, b, r, hl1.um g3, hc1.um g1 g3 g4, g2, hS, hB3, hD0.inner z1 t3 hj13, hT.inner d2' hj13 t2 t3 rfl, hZ, hv.inner hS d2' hj13 t3 hme⟩
  · have hm1 := hm.cf hF1
    have hl1 := hl0.fr hF1
    have hme := (li_end hS hD0 z1 hq hq2).mp z2
    have hj12 : ¬ J 12 = 0 := by rw [d10]; exact z1
    subst edp
    obtain ⟨P, o1, o2, o3, o4, o5, o6, o7⟩ := d12 z1
    have hj13 : J 13 = -1 := o4.trans o2
    refine kk 1 σ1 (hs_of hl1 hm1 hc1.1) (fun d2 Q2 k2 => ?_)
    rw [← hl1.2.1]
    refine mo_close (σ0 := σ1) ⟨hm1.mo hc1.1, fun _ _ => rfl, rfl⟩ hS.2.2.1 hn d6 d1 (fun _ => d4 z1) d7 (by omega) d9 d2' (li_in hD0) (fun y => absurd ⟨hj12, hme⟩ y) (fun σ2 y1 y2 y3 hW => k2 σ2 ?_) (fun σ2 t' y1 y2 y3 y4 hW => absurd (y4.symm.trans hj13) (nI_nm1 (by omega)))
    obtain ⟨D2, g1, g2, g3, g4⟩ := hm1.up hc1.1 hW
    refine ⟨a1, D2, A, S, I, F, V, G, W, 0, 0, 0, N, _, ev, _, _, _, _, n, lw, b + k, r + 1, hl1.um g3, hc1.um g1 g3 g4, g2, hS, hB3, hD0.outer z1, hT.outer hj13, fun y => ?_, hv.outer hS hT d2' (d4 z1) hj13 hme⟩
    exact absurd (hZ y).2.2.2.2 z1
end OPS2
