/-! BOTH TOGETHER: the reads, and assemble; nothing is said here of their answers. -/
section OPS3
variable {c1 c2 x0 m0 sb L : Nat} {xs : Nat → Int32} {σ : ri_S} {d : Nat} {Q : Option Value → ri_S → Prop}
theorem gi_P.s (h : gi_P c1 c2 x0 m0 sb L xs σ) : σ.1 sb = some (.inl (.object "", L, .inl xs)) ∧ ∃ fs, σ.1 x0 = some (.inr (4, fs)) := by
  obtain ⟨a, D, A, S, I, F, V, G, W, k, dp, bg, N, col, ev, cr, co, B, J, n, lw, b, r, hl, hc, -⟩ := h
  obtain ⟨tk, ch, ho⟩ := hc.o
  obtain ⟨rfl, rfl, rfl, hl4⟩ := hl
  exact ⟨hc.1.at hl4, _, ho⟩
/-- the room at the end -/
theorem gi_P.room (h : gi_P c1 c2 x0 m0 sb L xs σ) : 24 * σ.2.1 ≤ c1 + 651264 ∧ σ.2.2 ≤ c2 + 1302528 := by
  obtain ⟨a, D, A, S, I, F, V, G, W, k, dp, bg, N, col, ev, cr, co, B, J, n, lw, b, r, hl, hc, -⟩ := h
  obtain ⟨hG, lf, lv, le, ln, C, tk, ch, ho, hs, hd, ⟨E, he, -⟩, hC, hco, hr⟩ := hc
  have h1 := hd.2.2.2.2.2
  have h2 := he.2.2
  have h3 : co_su N ln ≤ N * 13056 := co_su_le N (fun c hc => by
    obtain ⟨_, _, _, z⟩ := hco.2.2.2.1 c hc
    exact z.2.2.1)
  have h4 : N * 13056 ≤ 48 * 13056 := Nat.mul_le_mul_right _ hco.2.2.2.2
  omega
set_option maxRecDepth 100000 in
/-- level -/
theorem op_level (h : gi_P c1 c2 x0 m0 sb L xs σ) {f wh : Int32} (kk : ∀ (v : Int32) (σ1 : ri_S), hs_P m0 sb L xs σ1 → (∀ (d2 : Nat) (Q2 : Option Value → ri_S → Prop), (∀ (v2 : Int32) σ2, gi_P c1 c2 x0 m0 sb L xs σ2 → Q2 (some (.int v2)) σ2) → ev_W (d2 + 10) mMo_level (0, [some (.ref m0), some (.int f), some (.int wh)], []) σ1 Q2) → Q (some (.int v)) σ1) : ev_W (d + 70) mSt_level (0, [some (.ref x0), some (.int f), some (.int wh)], []) σ Q := by
  have h0 := h
  obtain ⟨a, D, A, S, I, F, V, G, W, k, dp, bg, N, col, ev, cr, co, B, J, n, lw, b, r, hl, hc, hm, hS, hB3, hD, hT, hZ, hv⟩ := h
  have hl0 := hl
  obtain ⟨rfl, rfl, rfl, hl4⟩ := hl
  have hup0 : mo_up (B 0) n := by rw [hS.2.2.2.2.2.2.2.2.1.1]; exact hS.2.2.2.2.2.2.1
  have go : ∀ v : Int32, Q (some (.int v)) σ := fun v => kk v σ (hs_of hl0 hm hc.1) (fun d2 Q2 k2 => mo_level (hm.mo hc.1) hS.2.2.1 hS.1 hup0 (fun v2 => k2 v2 σ h0))
  exact cl_level hc hS.2.1 hS.1 (fun _ => go _) (fun w _ _ => go _)
/-- the reference's records -/
theorem tr_A.rec {A B : Nat → Nat → Int32} {J : Nat → Int32} {n b k r : Nat} (h : tr_A A n B J b k r) (hb : b ≤ 2048) : ∃ Bn : Nat → Nat, (∀ i, i ≤ r → B 7 i = nI (Bn i) ∧ Bn i ≤ 2048) ∧ ∀ i, i < r → Bn i ≤ Bn (i + 1) ∧ tr_R A n B (Bn i) (Bn (i + 1)) := by
  obtain ⟨Bn, h1, h2, h3, -⟩ := h
  exact ⟨Bn, fun i hi => ⟨(h1 i hi).1, Nat.le_trans (h1 i hi).2 hb⟩, h3⟩
set_option maxRecDepth 100000 in
/-- entries -/
theorem op_entries (h : gi_P c1 c2 x0 m0 sb L xs σ) {c : Int32} (kk : ∀ (v : Int32) (σ1 : ri_S), hs_P m0 sb L xs σ1 → (∀ (d2 : Nat) (Q2 : Option Value → ri_S → Prop), (∀ σ2, gi_P c1 c2 x0 m0 sb L xs σ2 → Q2 (some (.int v)) σ2) → ev_W (d2 + 10) mMo_entries (0, [some (.ref m0), some (.int c)], []) σ1 Q2) → Q (some (.int v)) σ1) : ev_W (d + 70) mSt_entries (0, [some (.ref x0), some (.int c)], []) σ Q := by
  have h0 := h
  obtain ⟨a, D, A, S, I, F, V, G, W, k, dp, bg, N, col, ev, cr, co, B, J, n, lw, b, r, hl, hj⟩ := h
  have hj0 := hj
  obtain ⟨hc, hm, hS, hB3, hD, hT, hZ, hv⟩ := hj
  have hl0 := hl
  obtain ⟨rfl, rfl, rfl, hl4⟩ := hl
  obtain ⟨e0, e1, e2⟩ := hS.2.2.2.2.2.2.2.2.1
  have hup0 : mo_up (B 0) n := by rw [e0]; exact hS.2.2.2.2.2.2.1
  have hde0 : mo_de (B 0) (B 2) n := by rw [e0, e2]; exact hS.2.2.2.2.2.2.2.1
  obtain ⟨Bn, t1, t2⟩ := hT.rec (by have := hD.1.2.1; omega)
  refine cl_entries hc ?_
  refine kk _ σ (hs_of hl0 hm hc.1) (fun d2 Q2 k2 => ?_)
  refine mo_entries (σ0 := σ) (B := Bn) ⟨hm.mo hc.1, fun _ _ => rfl, rfl⟩ hS.2.2.1 hS.1 hup0 hde0 hD.2.1.2.1 hD.1.1 t1 (tr_ents hD.1.1 (fun i hi => (t1 i hi).2)) (fun hno => ?_) (fun σ2 f kq w at' J' y1 y2 y3 y4 hJ hJ23 hW => ?_)
  · have e : co_sz N col c = -1 := if_neg (col_no hS hv.2.2.2.1 (fun z => (hZ z).1) hno)
    rw [← e]
    exact k2 σ h0
  · obtain ⟨w1, w2, w3, w4, w5⟩ := col_yes hS hv.2.2.2.1 y1 y2 y3
    obtain ⟨y4, hkq⟩ := y4
    have e : co_sz N col c = nI (mo_ents B n r Bn f kq).length := by
      rw [ents_eq hS hv.1 hT (by have := hD.1.2.1; omega) t1 y2 w1 y4 hkq, ← w4]
      exact if_pos w3
    rw [← e]
    refine k2 σ2 ?_
    obtain ⟨D2, g1, g2, g3, g4⟩ := hm.up hc.1 hW
    refine ⟨a, D2, A, S, I, F, V, G, W, k, dp, bg, N, col, ev, cr, co, _, J', n, lw, b, r, hl0.um g3, hj0.same (hc.um g1 g3 g4) g2 (fun i hi => ?_) hJ (hv.2.2.2.2.same hJ23 ((va_up_n (by decide)).trans (va_up_n (by decide))) ((va_up_n (by decide)).trans (va_up_n (by decide))))⟩
    exact (va_up_n (by omega)).trans (va_up_n (by omega))
set_option maxRecDepth 100000 in
/-- entry -/
theorem op_entry (h : gi_P c1 c2 x0 m0 sb L xs σ) {c e wh : Int32} (kk : ∀ (v : Int32) (σ1 : ri_S), hs_P m0 sb L xs σ1 → (∀ (d2 : Nat) (Q2 : Option Value → ri_S → Prop), (∀ σ2, gi_P c1 c2 x0 m0 sb L xs σ2 → Q2 (some (.int v)) σ2) → ev_W (d2 + 10) mMo_entry (0, [some (.ref m0), some (.int c), some (.int e), some (.int wh)], []) σ1 Q2) → Q (some (.int v)) σ1) : ev_W (d + 70) mSt_entry (0, [some (.ref x0), some (.int c), some (.int e), some (.int wh)], []) σ Q := by
  have h0 := h
  obtain ⟨a, D, A, S, I, F, V, G, W, k, dp, bg, N, col, ev, cr, co, B, J, n, lw, b, r, hl, hj⟩ := h
  have hj0 := hj
  obtain ⟨hc, hm, hS, hB3, hD, hT, hZ, hv⟩ := hj
  have hl0 := hl
  obtain ⟨rfl, rfl, rfl, hl4⟩ := hl
  obtain ⟨e0, e1, e2⟩ := hS.2.2.2.2.2.2.2.2.1
  have hup0 : mo_up (B 0) n := by rw [e0]; exact hS.2.2.2.2.2.2.1
  have hde0 : mo_de (B 0) (B 2) n := by rw [e0, e2]; exact hS.2.2.2.2.2.2.2.1
  obtain ⟨Bn, t1, t2⟩ := hT.rec (by have := hD.1.2.1; omega)
  refine cl_entry hc ?_
  refine kk _ σ (hs_of hl0 hm hc.1) (fun d2 Q2 k2 => ?_)
  refine mo_entry (σ0 := σ) (B := Bn) ⟨hm.mo hc.1, fun _ _ => rfl, rfl⟩ hS.2.2.1 hS.1 hup0 hde0 hD.2.1.2.1 hD.1.1 t1 (tr_ents hD.1.1 (fun i hi => (t1 i hi).2)) (fun hno => ?_) (fun σ2 f kq w at' J' v2 y1 y2 y3 y4 hJ hJ23 hW y5 => ?_)
  · have ex : co_rd N col c e wh = -1 := if_neg (col_no hS hv.2.2.2.1 (fun z => (hZ z).1) hno)
    rw [← ex]
    exact k2 σ h0
  · obtain ⟨w1, w2, w3, w4, w5⟩ := col_yes hS hv.2.2.2.1 y1 y2 y3
    obtain ⟨y4, hkq⟩ := y4
    have hb2 := hD.1.2.1
    have hr2 := hD.1.1
    rw [ents_eq hS hv.1 hT (by omega) t1 y2 w1 y4 hkq] at y5
    have ex : co_rd N col c e wh = v2 := rd_what w3 w4 (by omega) y5
    rw [← ex]
    refine k2 σ2 ?_
    obtain ⟨D2, g1, g2, g3, g4⟩ := hm.up hc.1 hW
    refine ⟨a, D2, A, S, I, F, V, G, W, k, dp, bg, N, col, ev, cr, co, _, J', n, lw, b, r, hl0.um g3, hj0.same (hc.um g1 g3 g4) g2 (fun i hi => ?_) hJ (hv.2.2.2.2.same hJ23 ((va_up_n (by decide)).trans (va_up_n (by decide))) ((va_up_n (by decide)).trans (va_up_n (by decide))))⟩
    exact (va_up_n (by omega)).trans (va_up_n (by omega))
set_option maxRecDepth 100000 in
/-- event -/
theorem op_event (h : gi_P c1 c2 x0 m0 sb L xs σ) {e wh : Int32} (kk : ∀ (v : Int32) (σ1 : ri_S), hs_P m0 sb L xs σ1 → (∀ (d2 : Nat) (Q2 : Option Value → ri_S → Prop), (∀ σ2, gi_P c1 c2 x0 m0 sb L xs σ2 → Q2 (some (.int v)) σ2) → ev_W (d2 + 10) mMo_event (0, [some (.ref m0), some (.int e), some (.int wh)], []) σ1 Q2) → Q (some (.int v)) σ1) : ev_W (d + 70) mSt_event (0, [some (.ref x0), some (.int e), some (.int wh)], []) σ Q := by
  have h0 := h
  obtain ⟨a, D, A, S, I, F, V, G, W, k, dp, bg, N, col, ev, cr, co, B, J, n, lw, b, r, hl, hc, hm, hS, hB3, hD, hT, hZ, -, -, -, -, v1, v2, v3⟩ := h
  have hl0 := hl
  obtain ⟨rfl, rfl, rfl, hl4⟩ := hl
  refine cl_event hc ?_
  refine kk _ σ (hs_of hl0 hm hc.1) (fun d2 Q2 k2 => ?_)
  refine mo_event (hm.mo hc.1) v1 v2 (fun x hx => ?_)
  rw [hx, ← ev_what v3 v2]
  exact k2 σ h0
set_option maxRecDepth 100000 in
/-- assemble -/
theorem op_assemble (h : gi_P c1 c2 x0 m0 sb L xs σ) {rc lo hi : Int32} (kk : ∀ (v : Int32) (σ1 : ri_S), hs_P m0 sb L xs σ1 → (∀ (d2 : Nat) (Q2 : Option Value → ri_S → Prop), (∀ σ2, gi_P c1 c2 x0 m0 sb L xs σ2 → Q2 (some (.int v)) σ2) → ev_W (d2 + 10) mMo_assemble (0, [some (.ref m0), some (.int rc), some (.int lo), some (.int hi), none, none], []) σ1 Q2) → Q (some (.int v)) σ1) : ev_W (d + 70) mSt_assemble (0, [some (.ref x0), some (.int rc), some (.int lo), some (.int hi)], []) σ Q := by
  obtain ⟨a, D, A, S, I, F, V, G, W, k, dp, bg, N, col, ev, cr, co, B, J, n, lw, b, r, hl, hj⟩ := h
  have hj0 := hj
  obtain ⟨hc, hm, hS, hB3, hD, hT, hZ, hv⟩ := hj
  have hl0 := hl
  obtain ⟨rfl, rfl, rfl, hl4⟩ := hl
  obtain ⟨e0, e1, e2⟩ := hS.2.2.2.2.2.2.2.2.1
  have hup := hS.2.2.2.2.2.2.1
  have hup0 : mo_up (B 0) n := by rw [e0]; exact hup
  have hcr : cr = nI r := hD.2.1.1
  have hr := hD.1.1
  have hb2 := hD.1.2.1
  obtain ⟨Bn, t1, t2⟩ := hT.rec (by omega)
  have hend : ∀ w, w < n → ∃ e, e ≤ n ∧ A 6 w = nI e := fun w hw => by
    obtain ⟨e, e1, -, e2, -⟩ := hS.2.2.2.2.2.2.2.2.2.2 w hw
    exact ⟨e, e2, e1⟩
  have hok : ∀ i w, i < r → w = mo_wd (B 0) (B 3) lo hi n (mo_z (B 10) n) n → as_ok (B 4) (B 6) (B 3) w 2048 2048 (Bn (i + 1) - Bn i) (Bn i) (-1) ∧ (as_ev (B 4) (B 6) (B 5) (B 3) w 2048 (Bn (i + 1) - Bn i) (Bn i) (-1)).length ≤ 4096 := fun i w hi hw => by
    rw [e0] at hw
    exact tr_tell (t2 i hi).2 (t1 (i + 1) (by omega)).2 hS.1 hup hw (t2 i hi).1
  refine cl_assemble hc hS.2.1 hS.1 hend (fun z D1 σ1 hc1 hF1 => ?_) (fun z a1 D1 σ1 C hc1 hF1 => ?_)
  · have hm1 := hm.cf hF1
    have hl1 := hl0.fr hF1
    refine kk (-1) σ1 (hs_of hl1 hm1 hc1.1) (fun d2 Q2 k2 => ?_)
    refine mo_assemble (σ0 := σ1) (B := Bn) (M := 2048) (m := 2048) ⟨hm1.mo hc1.1, fun _ _ => rfl, rfl⟩ hS.2.2.1 hS.1 hup0 hD.2.1.2.1 hD.1.1 t1 (by decide) (fun i hi => (t2 i hi).1) hok (fun _ σ2 hW => k2 σ2 ?_) (fun i w x y l σ2 hi' ei _ _ _ _ _ => ?_)
    · obtain ⟨D2, g1, g2, g3, g4⟩ := hm1.up hc1.1 hW
      exact ⟨a, D2, A, S, I, F, V, G, W, k, dp, bg, N, col, [], cr, co, B, _, n, lw, b, r, hl1.um g3, hj0.same (hc1.um g1 g3 g4) g2 (fun i hi => rfl) (fun j hj => va_up_n (by omega)) ⟨rfl, by decide, fun κ en h => by simp at h⟩⟩
    · exfalso
      rw [ei, hcr] at z
      rcases z with z | z
      · exact nI_pos (by omega) z
      · exact nI_ge hi' (by omega) z
  · have hm1 := hm.cf hF1
    have hl1 := hl0.fr hF1
    refine kk _ σ1 (hs_of hl1 hm1 hc1.1) (fun d2 Q2 k2 => ?_)
    rw [← hl1.2.1]
    refine mo_assemble (σ0 := σ1) (B := Bn) (M := 2048) (m := 2048) ⟨hm1.mo hc1.1, fun _ _ => rfl, rfl⟩ hS.2.2.1 hS.1 hup0 hD.2.1.2.1 hD.1.1 t1 (by decide) (fun i hi => (t2 i hi).1) hok (fun q σ2 hW => ?_) (fun i w x y l σ2 hi' ei ew el hh hlen hW => ?_)
    · exact absurd (by rw [hcr]; exact q) z
    · subst ei
      have h5 : ¬ J 5 = 0 := fun y => by
        have := (hZ y).2.2.2.1
        omega
      have eX := el.trans (asm_eq hS hv hT hb2 hr h5 hi' ew t1 C).symm
      subst eX
      refine k2 σ2 ?_
      obtain ⟨D2, g1, g2, g3, g4⟩ := hm1.up hc1.1 hW
      exact ⟨a1, D2, A, S, I, F, V, G, W, k, dp, bg, N, col, _, cr, co, _, _, n, lw, b, r, hl1.um g3, hj0.same (hc1.um g1 g3 g4) g2 (fun i hi => (va_up_n (by omega)).trans ((va_up_n (by omega)).trans (va_up_n (by omega)))) (fun j hj => va_up_n (by omega)) ⟨rfl, hlen, hh⟩⟩
end OPS3
