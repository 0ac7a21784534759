/-! EVENTS, roles 6 and 7: k events stand in the row E of length le. -/
def es_P (a : Nat → Nat) (D : Nat → Option ri_E) (E : Nat → Int32) (le k : Nat) : Prop := D 6 = some (.inr (2, [.ref (a 7), .int (nI k)])) ∧ D 7 = some (.inl (.int, le, .inl E)) ∧ (2 * k ≤ le ∧ 64 ≤ le ∧ le ≤ 16384 ∧ k ≤ 4096)
section ES
variable {a : Nat → Nat} {D : Nat → Option ri_E} {E : Nat → Int32} {le k : Nat} {d : Nat} {σ : ri_S} {Q : Option Value → ri_S → Prop}
theorem es_P.fr {a' : Nat → Nat} {D' : Nat → Option ri_E} (h : es_P a D E le k) (hF : ∀ i, 6 ≤ i → i < 8 → D' i = D i ∧ a' i = a i) : es_P a' D' E le k := by
  obtain ⟨h1, h2, h3⟩ := h
  refine ⟨?_, ?_, h3⟩
  · rw [(hF 6 (by decide) (by decide)).1, (hF 7 (by decide) (by decide)).2]; exact h1
  · rw [(hF 7 (by decide) (by decide)).1]; exact h2
set_option maxRecDepth 100000 in
/-- clear() -/
theorem es_clear (hG : gw_P a D σ) (hd : es_P a D E le k) (kk : ∀ (D' : Nat → Option ri_E) (σ' : ri_S), gw_P a D' σ' → es_P a D' E le 0 → gw_F 6 8 a D a D' → σ'.2 = σ.2 → Q none σ') : ev_W d mEv_clear (0, [some (.ref (a 6))], []) σ Q := by
  refine gw_put hG hd.1 rfl rfl rfl rfl rfl rfl (fun σ1 hG1 e1 => ?_)
  have hb := hd.2.2
  exact g_rt rfl rfl rfl (kk _ σ1 hG1 ⟨rfl, hd.2.1, by omega⟩ (gw_F.rf.up (by decide) (by decide)) e1)
set_option maxRecDepth 100000 in
/-- add(event, value) -/
theorem es_add (hG : gw_P a D σ) (hd : es_P a D E le k) {e v : Int32} (kfull : k = 4096 → Q none σ) (kk : ∀ (a' : Nat → Nat) (D' : Nat → Option ri_E) (σ' : ri_S) (E' : Nat → Int32) (le' : Nat), k < 4096 → gw_P a' D' σ' → es_P a' D' E' le' (k + 1) → (∀ j, j < 2 * k → E' j = E j) → E' (2 * k) = e → E' (2 * k + 1) = v → gw_F 6 8 a D a' D' → a' 6 = a 6 → gw_ro le le' σ σ' → Q none σ') : ev_W (d + 3) mEv_add (0, [some (.ref (a 6)), some (.int e), some (.int v), none], []) σ Q := by
  have hb := hd.2.2
  obtain ⟨h1, h2, -⟩ := hd
  refine g_get rfl rfl rfl (hG.at h1) rfl ?_
  refine g_br rfl rfl rfl rfl rfl rfl (fun h => ?_) (fun h => ?_)
  rotate_left
  · refine g_rt rfl rfl rfl (kfull ?_)
    rcases Nat.lt_or_ge k 4096 with z | z
    · exact absurd (show nI k < nI 4096 from nI_lt z (by decide)) h
    · omega
  have hk : k < 4096 := (nI_ltI (b := 4096) (by omega) (by decide)).mp h
  refine g_get rfl rfl rfl (hG.at h1) rfl ?_
  refine g_get rfl rfl rfl (hG.at h1) rfl ?_
  have e2 : (2 : Int32) * nI k = nI (2 * k) := nI_mul 2 k
  refine g_clN rfl rfl rfl rfl rfl rfl ?_
  refine st_withRoom hG h2 (by omega) (by omega) (show 2 * k + 2 ≤ 50000 by omega) (by show (2 : Int32) * nI k + 2 = _; rw [e2]; exact nI_add (2 * k) 2) (fun q1 n1 f1 σ1 hG1 hf1 hk1 hn1 hl1 ho1 => ?_)
  refine gw_put hG1 (i := 6) h1 rfl rfl rfl rfl rfl rfl (fun σ2 hG2 e3 => ?_)
  refine g_get rfl rfl rfl (hG2.at (i := 6) rfl) rfl ?_
  refine gw_ast hG2 (i := 7) rfl rfl rfl e2 (show 2 * k < n1 by omega) (by omega) (fun σ3 hG3 e4 => ?_)
  refine g_get rfl rfl rfl (hG3.at (i := 6) rfl) rfl ?_
  refine gw_ast hG3 (i := 7) rfl rfl rfl (by show (2 : Int32) * nI k + 1 = _; rw [e2]; exact nI_1 (2 * k)) (show 2 * k + 1 < n1 by omega) (by omega) (fun σ4 hG4 e5 => ?_)
  refine g_get rfl rfl rfl (hG4.at (i := 6) rfl) rfl ?_
  refine gw_put hG4 (i := 6) rfl rfl rfl rfl rfl rfl rfl (fun σ5 hG5 e6 => ?_)
  rw [nI_1] at hG5
  refine g_rt rfl rfl rfl (kk _ _ σ5 _ n1 hk hG5 ⟨rfl, rfl, by omega⟩ (fun j hj => ?_) ?_ ?_ ?_ rfl ?_)
  · exact (if_neg (by omega)).trans ((if_neg (by omega)).trans (hf1 j (by omega)))
  · exact (if_neg (by omega)).trans (if_pos rfl)
  · exact if_pos rfl
  · intro j hj
    refine ⟨?_, ?_⟩
    · exact (va_up_n (by omega)).trans <| (va_up_n (by omega)).trans <| (va_up_n (by omega)).trans <| (va_up_n (by omega)).trans <| va_up_n (by omega)
    · exact va_up_n (by omega)
  · have e : σ5.2 = σ1.2 := e6.trans (e5.trans (e4.trans e3))
    unfold gw_ro at *
    rw [e]
    exact ho1
/-- what event(k, what) answers -/
def es_rd (E : Nat → Int32) (k : Nat) (x wh : Int32) : Int32 := if x < 0 ∨ nI k ≤ x ∨ wh < 0 ∨ 2 ≤ wh then -1 else E (2 * x.toNatClampNeg + wh.toNatClampNeg)
set_option maxRecDepth 100000 in
/-- read(k, what) -/
theorem es_read (hG : gw_P a D σ) (hd : es_P a D E le k) {x wh : Int32} (kk : Q (some (.int (es_rd E k x wh))) σ) : ev_W d mEv_read (0, [some (.ref (a 6)), some (.int x), some (.int wh)], []) σ Q := by
  have hb := hd.2.2
  unfold es_rd at kk
  refine g_br rfl rfl rfl rfl rfl rfl (fun h => ?_) (fun h => ?_)
  · rw [if_pos (Or.inl h)] at kk
    exact g_rt rfl rfl rfl kk
  refine g_get rfl rfl rfl (hG.at hd.1) rfl ?_
  refine g_br rfl rfl rfl rfl rfl rfl (fun h2 => ?_) (fun h2 => ?_)
  · rw [if_pos (Or.inr (Or.inl h2))] at kk
    exact g_rt rfl rfl rfl kk
  refine g_br rfl rfl rfl rfl rfl rfl (fun h3 => ?_) (fun h3 => ?_)
  · rw [if_pos (Or.inr (Or.inr (Or.inl h3)))] at kk
    exact g_rt rfl rfl rfl kk
  refine g_br rfl rfl rfl rfl rfl rfl (fun h4 => ?_) (fun h4 => ?_)
  rotate_left
  · rw [if_pos (Or.inr (Or.inr (Or.inr (Int32.not_lt.mp h4))))] at kk
    exact g_rt rfl rfl rfl kk
  rw [if_neg (fun z => z.elim h (fun z => z.elim h2 (fun z => z.elim h3 (fun z => absurd h4 (Int32.not_lt.mpr z)))))] at kk
  obtain ⟨p, hp, rfl⟩ := nI_of h
  obtain ⟨q, hq, rfl⟩ := nI_of h3
  have hpk : p < k := by
    rcases Nat.lt_or_ge p k with z | z
    · exact z
    · exact absurd (nI_le z hp) h2
  have hq2 : q < 2 := (nI_ltI (b := 2) hq (by decide)).mp h4
  rw [nI_clamp hp, nI_clamp hq] at kk
  refine g_get rfl rfl rfl (hG.at hd.1) rfl ?_
  refine gw_ald hG hd.2.1 rfl rfl (by show (2 : Int32) * nI p + nI q = _; rw [show (2 : Int32) * nI p = nI (2 * p) from nI_mul 2 p]; exact nI_add _ _) (by omega) (by omega) ?_
  exact g_rt rfl rfl rfl kk
end ES
