/-! DRAFT, roles 1 .. 5: F fields, V values (of length lf, lv; k of them stand), G openGroups, W newestFields, dp depth, bg begun. -/
def dr_P (a : Nat → Nat) (D : Nat → Option ri_E) (F V G W : Nat → Int32) (lf lv k dp : Nat) (bg : Int32) : Prop :=
  D 1 = some (.inr (1, [.ref (a 2), .ref (a 3), .ref (a 4), .ref (a 5), .int (nI k), .int (nI dp), .int bg])) ∧ D 2 = some (.inl (.int, 17, .inl G)) ∧ D 3 = some (.inl (.int, 17, .inl W)) ∧ D 4 = some (.inl (.int, lf, .inl F)) ∧ D 5 = some (.inl (.int, lv, .inl V)) ∧ (k ≤ lf ∧ k ≤ lv ∧ 32 ≤ lf ∧ 32 ≤ lv ∧ lf ≤ 4096 ∧ lv ≤ 4096 ∧ k ≤ 2048 ∧ dp ≤ 16 ∧ (bg = 0 ∨ bg = 1))
section DR
variable {a : Nat → Nat} {D : Nat → Option ri_E} {F V G W : Nat → Int32} {lf lv k dp : Nat} {bg : Int32} {d : Nat} {σ : ri_S} {Q : Option Value → ri_S → Prop}
theorem dr_P.fr {a' : Nat → Nat} {D' : Nat → Option ri_E} (h : dr_P a D F V G W lf lv k dp bg) (hF : ∀ i, 1 ≤ i → i < 6 → D' i = D i ∧ a' i = a i) : dr_P a' D' F V G W lf lv k dp bg := by
  obtain ⟨h1, h2, h3, h4, h5, h6⟩ := h
  refine ⟨?_, ?_, ?_, ?_, ?_, h6⟩
  · rw [(hF 1 (by decide) (by decide)).1, (hF 2 (by decide) (by decide)).2, (hF 3 (by decide) (by decide)).2, (hF 4 (by decide) (by decide)).2, (hF 5 (by decide) (by decide)).2]; exact h1
  · rw [(hF 2 (by decide) (by decide)).1]; exact h2
  · rw [(hF 3 (by decide) (by decide)).1]; exact h3
  · rw [(hF 4 (by decide) (by decide)).1]; exact h4
  · rw [(hF 5 (by decide) (by decide)).1]; exact h5
set_option maxRecDepth 100000 in
/-- clear() -/
theorem dr_clear (hG : gw_P a D σ) (hd : dr_P a D F V G W lf lv k dp bg) (kk : ∀ (D' : Nat → Option ri_E) (σ' : ri_S), gw_P a D' σ' → dr_P a D' F V G W lf lv 0 0 0 → gw_F 1 6 a D a D' → σ'.2 = σ.2 → Q none σ') : ev_W d mDr_clear (0, [some (.ref (a 1))], []) σ Q := by
  obtain ⟨h1, h2, h3, h4, h5, h6⟩ := hd
  refine gw_put hG h1 rfl rfl rfl rfl rfl rfl (fun σ1 hG1 e1 => ?_)
  refine gw_put hG1 (i := 1) rfl rfl rfl rfl rfl rfl rfl (fun σ2 hG2 e2 => ?_)
  refine gw_put hG2 (i := 1) rfl rfl rfl rfl rfl rfl rfl (fun σ3 hG3 e3 => ?_)
  refine g_rt rfl rfl rfl (kk _ σ3 hG3 ⟨rfl, h2, h3, h4, h5, ?_⟩ ?_ ?_)
  · exact ⟨Nat.zero_le _, Nat.zero_le _, h6.2.2.1, h6.2.2.2.1, h6.2.2.2.2.1, h6.2.2.2.2.2.1, Nat.zero_le _, Nat.zero_le _, Or.inl rfl⟩
  · exact ((gw_F.rf.up (by decide) (by decide)).up (by decide) (by decide)).up (by decide) (by decide)
  · exact e3.trans (e2.trans e1)
set_option maxRecDepth 100000 in
/-- start() -/
theorem dr_start (hG : gw_P a D σ) (hd : dr_P a D F V G W lf lv k dp bg) (kk : ∀ (D' : Nat → Option ri_E) (σ' : ri_S), gw_P a D' σ' → dr_P a D' F V (upd G 0 (-1)) (upd W 0 (-1)) lf lv 0 0 1 → gw_F 1 6 a D a D' → σ'.2 = σ.2 → Q none σ') : ev_W (d + 1) mDr_start (0, [some (.ref (a 1))], []) σ Q := by
  refine g_clV rfl rfl rfl rfl (hG.at hd.1) rfl rfl rfl ?_
  refine dr_clear hG hd (fun D1 σ1 hG1 hd1 hF1 e1 => ?_)
  obtain ⟨h1, h2, h3, h4, h5, h6⟩ := hd1
  refine gw_put hG1 h1 rfl rfl rfl rfl rfl rfl (fun σ2 hG2 e2 => ?_)
  refine g_get rfl rfl rfl (hG2.at (i := 1) rfl) rfl ?_
  refine gw_ast hG2 (i := 2) h2 rfl rfl (show (0 : Int32) = nI 0 from rfl) (by decide) (by decide) (fun σ3 hG3 e3 => ?_)
  refine g_get rfl rfl rfl (hG3.at (i := 1) rfl) rfl ?_
  refine gw_ast hG3 (i := 3) h3 rfl rfl (show (0 : Int32) = nI 0 from rfl) (by decide) (by decide) (fun σ4 hG4 e4 => ?_)
  refine g_rt rfl rfl rfl (kk _ σ4 hG4 ⟨rfl, rfl, rfl, h4, h5, ?_⟩ ?_ ?_)
  · exact ⟨h6.1, h6.2.1, h6.2.2.1, h6.2.2.2.1, h6.2.2.2.2.1, h6.2.2.2.2.2.1, h6.2.2.2.2.2.2.1, h6.2.2.2.2.2.2.2.1, Or.inr rfl⟩
  · exact hF1.tr (((gw_F.rf.up (by decide) (by decide)).up (by decide) (by decide)).up (by decide) (by decide))
  · exact e4.trans (e3.trans (e2.trans e1))
set_option maxRecDepth 100000 in
/-- group() -/
theorem dr_group (hG : gw_P a D σ) (hd : dr_P a D F V G W lf lv k dp bg) (kk : Q (some (.int (G dp))) σ) : ev_W d mDr_group (0, [some (.ref (a 1))], []) σ Q := by
  refine g_get rfl rfl rfl (hG.at hd.1) rfl ?_
  refine g_get rfl rfl rfl (hG.at hd.1) rfl ?_
  refine gw_ald hG hd.2.1 rfl rfl rfl (by have := hd.2.2.2.2.2; omega) (by decide) ?_
  exact g_rt rfl rfl rfl kk
set_option maxRecDepth 100000 in
/-- newest() -/
theorem dr_newest (hG : gw_P a D σ) (hd : dr_P a D F V G W lf lv k dp bg) (kk : Q (some (.int (W dp))) σ) : ev_W d mDr_newest (0, [some (.ref (a 1))], []) σ Q := by
  refine g_get rfl rfl rfl (hG.at hd.1) rfl ?_
  refine g_get rfl rfl rfl (hG.at hd.1) rfl ?_
  refine gw_ald hG hd.2.2.1 rfl rfl rfl (by have := hd.2.2.2.2.2; omega) (by decide) ?_
  exact g_rt rfl rfl rfl kk
/-- the occurrence at t -/
def dr_at (F : Nat → Int32) (k : Nat) (x : Int32) (t : Int32) : Int32 := if t < 0 ∨ nI k ≤ t then x else F t.toNatClampNeg
set_option maxRecDepth 100000 in
/-- fieldAt(t) -/
theorem dr_fieldAt (hG : gw_P a D σ) (hd : dr_P a D F V G W lf lv k dp bg) {t : Int32} (kk : Q (some (.int (dr_at F k (-1) t))) σ) : ev_W d mDr_fieldAt (0, [some (.ref (a 1)), some (.int t)], []) σ Q := by
  have hb := hd.2.2.2.2.2
  unfold dr_at at kk
  refine g_br rfl rfl rfl rfl rfl rfl (fun h => ?_) (fun h => ?_)
  · rw [if_pos (Or.inl h)] at kk
    exact g_rt rfl rfl rfl kk
  refine g_get rfl rfl rfl (hG.at hd.1) rfl ?_
  refine g_br rfl rfl rfl rfl rfl rfl (fun h2 => ?_) (fun h2 => ?_)
  · rw [if_pos (Or.inr h2)] at kk
    exact g_rt rfl rfl rfl kk
  rw [if_neg (fun z => z.elim h h2)] at kk
  obtain ⟨w, hw, rfl⟩ := nI_of h
  have hwk : w < k := by
    rcases Nat.lt_or_ge w k with z | z
    · exact z
    · exact absurd (nI_le z hw) h2
  rw [nI_clamp hw] at kk
  refine g_get rfl rfl rfl (hG.at hd.1) rfl ?_
  refine gw_ald hG hd.2.2.2.1 rfl rfl rfl (by omega) (by omega) ?_
  exact g_rt rfl rfl rfl kk
set_option maxRecDepth 100000 in
/-- valueAt(t) -/
theorem dr_valueAt (hG : gw_P a D σ) (hd : dr_P a D F V G W lf lv k dp bg) {t : Int32} (kk : Q (some (.int (dr_at V k 0 t))) σ) : ev_W d mDr_valueAt (0, [some (.ref (a 1)), some (.int t)], []) σ Q := by
  have hb := hd.2.2.2.2.2
  unfold dr_at at kk
  refine g_br rfl rfl rfl rfl rfl rfl (fun h => ?_) (fun h => ?_)
  · rw [if_pos (Or.inl h)] at kk
    exact g_rt rfl rfl rfl kk
  refine g_get rfl rfl rfl (hG.at hd.1) rfl ?_
  refine g_br rfl rfl rfl rfl rfl rfl (fun h2 => ?_) (fun h2 => ?_)
  · rw [if_pos (Or.inr h2)] at kk
    exact g_rt rfl rfl rfl kk
  rw [if_neg (fun z => z.elim h h2)] at kk
  obtain ⟨w, hw, rfl⟩ := nI_of h
  have hwk : w < k := by
    rcases Nat.lt_or_ge w k with z | z
    · exact z
    · exact absurd (nI_le z hw) h2
  rw [nI_clamp hw] at kk
  refine g_get rfl rfl rfl (hG.at hd.1) rfl ?_
  refine gw_ald hG hd.2.2.2.2.1 rfl rfl rfl (by omega) (by omega) ?_
  exact g_rt rfl rfl rfl kk
set_option maxRecDepth 100000 in
/-- leave() -/
theorem dr_leave (hG : gw_P a D σ) (hd : dr_P a D F V G W lf lv k (dp + 1) bg) (kk : ∀ (D' : Nat → Option ri_E) (σ' : ri_S), gw_P a D' σ' → dr_P a D' F V G W lf lv k dp bg → gw_F 1 6 a D a D' → σ'.2 = σ.2 → Q none σ') : ev_W d mDr_leave (0, [some (.ref (a 1))], []) σ Q := by
  have hb := hd.2.2.2.2.2
  refine g_get rfl rfl rfl (hG.at hd.1) rfl ?_
  refine g_br rfl rfl rfl rfl rfl rfl (fun h => absurd h (nI_nle (by omega) (by omega))) (fun h => ?_)
  refine g_get rfl rfl rfl (hG.at hd.1) rfl ?_
  refine gw_put hG hd.1 rfl rfl rfl rfl rfl rfl (fun σ1 hG1 e1 => ?_)
  rw [nI_pred] at hG1
  refine g_rt rfl rfl rfl (kk _ σ1 hG1 ⟨rfl, hd.2.1, hd.2.2.1, hd.2.2.2.1, hd.2.2.2.2.1, ⟨by omega, by omega, by omega, by omega, by omega, by omega, by omega, by omega, hb.2.2.2.2.2.2.2.2⟩⟩ (gw_F.rf.up (by decide) (by decide)) e1)
set_option maxRecDepth 100000 in
/-- enter(group) -/
theorem dr_enter (hG : gw_P a D σ) (hd : dr_P a D F V G W lf lv k dp bg) (hdp : dp < 16) {g : Int32} (kk : ∀ (D' : Nat → Option ri_E) (σ' : ri_S), gw_P a D' σ' → dr_P a D' F V (upd G (dp + 1) g) (upd W (dp + 1) (-1)) lf lv k (dp + 1) bg → gw_F 1 6 a D a D' → σ'.2 = σ.2 → Q none σ') : ev_W d mDr_enter (0, [some (.ref (a 1)), some (.int g)], []) σ Q := by
  have hb := hd.2.2.2.2.2
  refine g_get rfl rfl rfl (hG.at hd.1) rfl ?_
  refine g_br rfl rfl rfl rfl rfl rfl (fun h => ?_) (fun h => absurd (show nI dp < nI 16 from nI_lt hdp (by decide)) h)
  refine g_get rfl rfl rfl (hG.at hd.1) rfl ?_
  refine gw_put hG hd.1 rfl rfl rfl rfl rfl rfl (fun σ1 hG1 e1 => ?_)
  rw [nI_1] at hG1
  refine g_get rfl rfl rfl (hG1.at (i := 1) rfl) rfl ?_
  refine g_get rfl rfl rfl (hG1.at (i := 1) rfl) rfl ?_
  refine gw_ast hG1 (i := 2) hd.2.1 rfl rfl rfl (show dp + 1 < 17 by omega) (by decide) (fun σ2 hG2 e2 => ?_)
  refine g_get rfl rfl rfl (hG2.at (i := 1) rfl) rfl ?_
  refine g_get rfl rfl rfl (hG2.at (i := 1) rfl) rfl ?_
  refine gw_ast hG2 (i := 3) hd.2.2.1 rfl rfl rfl (show dp + 1 < 17 by omega) (by decide) (fun σ3 hG3 e3 => ?_)
  refine g_rt rfl rfl rfl (kk _ σ3 hG3 ⟨rfl, rfl, rfl, hd.2.2.2.1, hd.2.2.2.2.1, ⟨by omega, by omega, by omega, by omega, by omega, by omega, by omega, by omega, hb.2.2.2.2.2.2.2.2⟩⟩ ?_ ?_)
  · exact ((gw_F.rf.up (by decide) (by decide)).up (by decide) (by decide)).up (by decide) (by decide)
  · exact e3.trans (e2.trans e1)
set_option maxRecDepth 100000 in
/-- add(field, value) -/
theorem dr_add (hG : gw_P a D σ) (hd : dr_P a D F V G W lf lv k dp bg) (hk : k < 2048) {f v : Int32} (kk : ∀ (a' : Nat → Nat) (D' : Nat → Option ri_E) (σ' : ri_S) (F' V' : Nat → Int32) (lf' lv' : Nat), gw_P a' D' σ' → dr_P a' D' F' V' G (upd W dp f) lf' lv' (k + 1) dp bg → (∀ j, j < k → F' j = F j ∧ V' j = V j) → F' k = f → V' k = v → gw_F 1 6 a D a' D' → a' 1 = a 1 → gw_ro (lf + lv) (lf' + lv') σ σ' → Q none σ') : ev_W (d + 3) mDr_add (0, [some (.ref (a 1)), some (.int f), some (.int v)], []) σ Q := by
  have hb := hd.2.2.2.2.2
  obtain ⟨h1, h2, h3, h4, h5, -⟩ := hd
  refine g_get rfl rfl rfl (hG.at h1) rfl ?_
  refine g_br rfl rfl rfl rfl rfl rfl (fun h => ?_) (fun h => absurd (show nI k < nI 2048 from nI_lt hk (by decide)) h)
  refine g_get rfl rfl rfl (hG.at h1) rfl ?_
  refine g_get rfl rfl rfl (hG.at h1) rfl ?_
  refine g_clN rfl rfl rfl rfl rfl rfl ?_
  refine st_withRoom hG h4 (by omega) (by omega) (show k + 1 ≤ 50000 by omega) (nI_1 k) (fun q1 n1 f1 σ1 hG1 hf1 hk1 hn1 hl1 ho1 => ?_)
  refine gw_put hG1 (i := 1) h1 rfl rfl rfl rfl rfl rfl (fun σ2 hG2 e2 => ?_)
  refine g_get rfl rfl rfl (hG2.at (i := 1) rfl) rfl ?_
  refine g_get rfl rfl rfl (hG2.at (i := 1) rfl) rfl ?_
  refine g_clN rfl rfl rfl rfl rfl rfl ?_
  refine st_withRoom hG2 (i := 5) h5 (by omega) (by omega) (show k + 1 ≤ 50000 by omega) (nI_1 k) (fun q2 n2 f2 σ3 hG3 hf2 hk2 hn2 hl2 ho2 => ?_)
  refine gw_put hG3 (i := 1) rfl rfl rfl rfl rfl rfl rfl (fun σ4 hG4 e4 => ?_)
  refine g_get rfl rfl rfl (hG4.at (i := 1) rfl) rfl ?_
  refine g_get rfl rfl rfl (hG4.at (i := 1) rfl) rfl ?_
  refine gw_ast hG4 (i := 4) rfl rfl rfl rfl (show k < n1 by omega) (by omega) (fun σ5 hG5 e5 => ?_)
  refine g_get rfl rfl rfl (hG5.at (i := 1) rfl) rfl ?_
  refine g_get rfl rfl rfl (hG5.at (i := 1) rfl) rfl ?_
  refine gw_ast hG5 (i := 5) rfl rfl rfl rfl (show k < n2 by omega) (by omega) (fun σ6 hG6 e6 => ?_)
  refine g_get rfl rfl rfl (hG6.at (i := 1) rfl) rfl ?_
  refine gw_put hG6 (i := 1) rfl rfl rfl rfl rfl rfl rfl (fun σ7 hG7 e7 => ?_)
  rw [nI_1] at hG7
  refine g_get rfl rfl rfl (hG7.at (i := 1) rfl) rfl ?_
  refine g_get rfl rfl rfl (hG7.at (i := 1) rfl) rfl ?_
  refine gw_ast hG7 (i := 3) h3 rfl rfl rfl (show dp < 17 by omega) (by decide) (fun σ8 hG8 e8 => ?_)
  refine g_rt rfl rfl rfl (kk _ _ σ8 _ _ n1 n2 hG8 ⟨rfl, h2, rfl, rfl, rfl, ⟨by omega, by omega, by omega, by omega, by omega, by omega, by omega, by omega, hb.2.2.2.2.2.2.2.2⟩⟩ (fun j hj => ⟨?_, ?_⟩) ?_ ?_ ?_ rfl ?_)
  · exact (if_neg (by omega)).trans (hf1 j (by omega))
  · exact (if_neg (by omega)).trans (hf2 j (by omega))
  · exact if_pos rfl
  · exact if_pos rfl
  · intro j hj
    refine ⟨?_, ?_⟩
    · exact (va_up_n (by omega)).trans <| (va_up_n (by omega)).trans <| (va_up_n (by omega)).trans <| (va_up_n (by omega)).trans <| (va_up_n (by omega)).trans <| (va_up_n (by omega)).trans <| (va_up_n (by omega)).trans <| va_up_n (by omega)
    · exact (va_up_n (by omega)).trans (va_up_n (by omega))
  · have e : σ8.2 = σ3.2 := e8.trans (e7.trans (e6.trans (e5.trans e4)))
    unfold gw_ro at *
    rw [e]
    rw [e2] at ho2
    omega
end DR
