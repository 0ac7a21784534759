/-! ONE CALL ON A FRESH OBJECT (p1): no field is there; level answers -1 on both sides. -/
/-- as gi_P, with no field -/
def gz_P (c1 c2 x0 m0 sb L : Nat) (xs : Nat → Int32) (σ : ri_S) : Prop := ∃ a D A S I F V G W k dp bg N col ev cr co B J lw b r, gl_P x0 m0 sb L xs a D ∧ gj_P c1 c2 a D σ A S I F V G W k dp bg N col ev cr co B J 0 lw b r
section FRESH
variable {c1 c2 x0 m0 sb L : Nat} {xs : Nat → Int32} {σ : ri_S} {d : Nat} {Q : Option Value → ri_S → Prop}
theorem gz_P.g (h : gz_P c1 c2 x0 m0 sb L xs σ) : gi_P c1 c2 x0 m0 sb L xs σ := by
  obtain ⟨a, D, A, S, I, F, V, G, W, k, dp, bg, N, col, ev, cr, co, B, J, lw, b, r, h⟩ := h
  exact ⟨a, D, A, S, I, F, V, G, W, k, dp, bg, N, col, ev, cr, co, B, J, 0, lw, b, r, h⟩
set_option maxRecDepth 100000 in
theorem mo_level0 {o : Nat} {A : Nat → Nat → Int32} {I : Nat → Int32} {f wh : Int32} (hP : mo_P o A I σ.1) (hI : I 4 = nI 0) (k : Q (some (.int (-1))) σ) : ev_W (d + 1) mMo_level (0, [some (.ref o), some (.int f), some (.int wh)], []) σ Q := by
  refine g_clV rfl rfl rfl rfl hP.1 rfl rfl rfl ?_
  refine mo_isField hP (fun h1 h2 => ?_) (fun h0 => ?_)
  · exfalso
    rw [hI] at h2
    exact absurd (Int32.lt_of_le_of_lt h1 h2) (by decide)
  · refine g_br rfl rfl rfl rfl rfl rfl (fun h => ?_) (fun h => absurd rfl h)
    exact g_rt rfl rfl rfl k
set_option maxRecDepth 100000 in
/-- level on a fresh object -/
theorem op_level0 (h : gz_P c1 c2 x0 m0 sb L xs σ) {f wh : Int32} (kk : ∀ (v : Int32) (σ1 : ri_S), hs_P m0 sb L xs σ1 → (∀ (d2 : Nat) (Q2 : Option Value → ri_S → Prop), (∀ σ2, gi_P c1 c2 x0 m0 sb L xs σ2 → Q2 (some (.int v)) σ2) → ev_W (d2 + 10) mMo_level (0, [some (.ref m0), some (.int f), some (.int wh)], []) σ1 Q2) → Q (some (.int v)) σ1) : ev_W (d + 70) mSt_level (0, [some (.ref x0), some (.int f), some (.int wh)], []) σ Q := by
  have h0 := h.g
  obtain ⟨a, D, A, S, I, F, V, G, W, k, dp, bg, N, col, ev, cr, co, B, J, lw, b, r, hl, hc, hm, hS, hB3, hD, hT, hZ, hv⟩ := h
  have hl0 := hl
  obtain ⟨rfl, rfl, rfl, hl4⟩ := hl
  exact cl_level hc hS.2.1 hS.1 (fun _ => kk (-1) σ (hs_of hl0 hm hc.1) (fun d2 Q2 k2 => mo_level0 (hm.mo hc.1) hS.2.2.1 (k2 σ h0))) (fun w hw _ => absurd hw (Nat.not_lt_zero _))
end FRESH
