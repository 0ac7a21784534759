/-! THE REFERENCE: comes, open, leaf, close. -/
/-- how many occurrences of field g the open group has -/
def mo_hs (A : Nat → Nat → Int32) (I : Nat → Int32) (b m g : Nat) : Nat := mo_cn (A 4) (A 6) (nI g) (I 13) b (m - b)
/-- the open group's field; -1: the record -/
def mo_ps (A : Nat → Nat → Int32) (I : Nat → Int32) : Int32 := if I 13 = -1 then -1 else A 4 (I 13).toNatClampNeg
/-- what comes asks of a field g beside f = w -/
def mo_cg (A : Nat → Nat → Int32) (I : Nat → Int32) (b m w g : Nat) : Prop := A 0 g = A 0 w → (w ≤ g ∨ ¬ A 1 g = 0 ∨ 0 < mo_hs A I b m g) ∧ (g ≤ w ∨ mo_hs A I b m g = 0)
/-- an occurrence of f may come -/
def mo_may (A : Nat → Nat → Int32) (I : Nat → Int32) (n b m : Nat) (f gb : Int32) : Prop := ¬ I 12 = 0 ∧ ∃ w, w < n ∧ f = nI w ∧ A 3 w = gb ∧ A 0 w = mo_ps A I ∧ m < 2048 ∧ (A 1 w = 2 ∨ mo_hs A I b m w = 0) ∧ ∀ g, g < n → mo_cg A I b m w g
section MO5
variable {d o : Nat} {A : Nat → Nat → Int32} {I : Nat → Int32} {σ0 σ : ri_S} {Q : Option Value → ri_S → Prop}
theorem mo_hs_lt {b m g : Nat} (hm2 : m ≤ 2048) : mo_hs A I b m g < 2 ^ 31 := by
  have := mo_cn_le (A 4) (A 6) (nI g) (I 13) b (m - b)
  unfold mo_hs
  omega
set_option maxRecDepth 100000 in
set_option maxHeartbeats 1000000 in
theorem mo_comes_loop {v gb : Int32} {n w b m r : Nat} (hP : mo_P o A I σ.1) (hI : I 4 = nI n) (hn : n ≤ 48) (hw : w < n) (hr : I 11 = nI r) (hr2 : r ≤ 128) (hb : A 7 r = nI b) (hbm : b ≤ m) (hm : I 9 = nI m) (hm2 : m ≤ 2048)
    (k : ∀ x : Int32, (x = 0 ∨ x = 1) → (x = 1 ↔ ∀ q, q < n → mo_cg A I b m w q) → ev_W (d + 1) mMo_comes (174, [some (.ref o), some (.int (nI w)), some (.int v), some (.int gb), some (.int x), some (.int (nI n))], []) σ Q) :
    ∀ (t g : Nat) (x : Int32), g + t = n → (x = 0 ∨ x = 1) → (x = 1 ↔ ∀ q, q < g → mo_cg A I b m w q) → ev_W (d + 1) mMo_comes (91, [some (.ref o), some (.int (nI w)), some (.int v), some (.int gb), some (.int x), some (.int (nI g))], []) σ Q := by
  intro t
  induction t with
  | zero =>
    intro g x hg hx hx2
    obtain rfl : g = n := by omega
    refine g_get rfl rfl rfl hP.1 rfl ?_
    refine g_br rfl rfl rfl rfl rfl rfl (fun h1 => ?_) (fun h1 => absurd (by rw [hI]; exact nI_le (Nat.le_refl _) (by omega)) h1)
    exact k x hx hx2
  | succ t ih =>
    intro g x hg hx hx2
    have hhs : mo_hs A I b m g < 2 ^ 31 := mo_hs_lt hm2
    refine g_get rfl rfl rfl hP.1 rfl ?_
    refine g_br rfl rfl rfl rfl rfl rfl (fun h1 => absurd h1 (by rw [hI]; exact nI_ge (by omega) (by omega))) (fun h1 => ?_)
    have on : ∀ y : Int32, (y = 0 ∨ y = 1) → (y = 1 ↔ x = 1 ∧ mo_cg A I b m w g) → ev_W (d + 1) mMo_comes (91, [some (.ref o), some (.int (nI w)), some (.int v), some (.int gb), some (.int y), some (.int (nI g + 1))], []) σ Q := by
      intro y hy hy2
      rw [nI_1]
      refine ih (g + 1) y (by omega) hy ?_
      rw [hy2, hx2]
      constructor
      · rintro ⟨q1, q2⟩ q hq
        rcases Nat.lt_succ_iff_lt_or_eq.mp hq with e | e
        · exact q1 q e
        · subst e; exact q2
      · intro q
        exact ⟨fun q1 h => q q1 (by omega), q g (by omega)⟩
    have nxt : ∀ y : Int32, (y = 0 ∨ y = 1) → (y = 1 ↔ x = 1 ∧ mo_cg A I b m w g) → ev_W (d + 1) mMo_comes (166, [some (.ref o), some (.int (nI w)), some (.int v), some (.int gb), some (.int x), some (.int (nI g))], [.int y]) σ Q := by
      intro y hy hy2
      refine ev_go 3 rfl ?_
      exact on y hy hy2
    have no : ¬ (x = 1 ∧ mo_cg A I b m w g) → ev_W (d + 1) mMo_comes (165, [some (.ref o), some (.int (nI w)), some (.int v), some (.int gb), some (.int x), some (.int (nI g))], []) σ Q := by
      intro q
      refine ev_go 1 rfl ?_
      exact nxt 0 (Or.inl rfl) ⟨fun z => absurd z (by decide), fun z => absurd z q⟩
    have yes : (x = 1 ∧ mo_cg A I b m w g) → ev_W (d + 1) mMo_comes (161, [some (.ref o), some (.int (nI w)), some (.int v), some (.int gb), some (.int x), some (.int (nI g))], []) σ Q := by
      intro q
      refine ev_go 2 rfl ?_
      exact nxt 1 (Or.inr rfl) ⟨fun _ => q, fun _ => rfl⟩
    refine g_get rfl rfl rfl hP.1 rfl ?_
    refine mo_ald hP 0 rfl rfl rfl rfl (show g < 48 by omega) (by decide) rfl ?_
    refine g_get rfl rfl rfl hP.1 rfl ?_
    refine mo_ald hP 0 rfl rfl rfl rfl (show w < 48 by omega) (by decide) rfl ?_
    refine g_br rfl rfl rfl rfl rfl rfl (fun h2 => ?_) (fun h2 => ?_)
    rotate_left
    · refine ev_go 2 rfl ?_
      exact on x hx ⟨fun q => ⟨q, fun z => absurd z h2⟩, fun q => q.1⟩
    refine g_br rfl rfl rfl rfl rfl rfl (fun h3 => ?_) (fun h3 => ?_)
    · exact no (fun q => by rw [h3] at q; exact absurd q.1 (by decide))
    have e1 : x = 1 := by
      rcases hx with q | q
      · exact absurd q h3
      · exact q
    have second : (w ≤ g ∨ ¬ A 1 g = 0 ∨ 0 < mo_hs A I b m g) → ev_W (d + 1) mMo_comes (146, [some (.ref o), some (.int (nI w)), some (.int v), some (.int gb), some (.int x), some (.int (nI g))], []) σ Q := by
      intro q
      refine g_br rfl rfl rfl rfl rfl rfl (fun h4 => ?_) (fun h4 => ?_)
      · exact yes ⟨e1, fun _ => ⟨q, Or.inl ((nI_leI (by omega) (by omega)).mp h4)⟩⟩
      · have hlt : w < g := by
          rcases Nat.lt_or_ge w g with z | z
          · exact z
          · exact absurd (nI_le z (by omega)) h4
        refine g_clV rfl rfl rfl rfl hP.1 rfl rfl rfl ?_
        refine mo_has hP hr hr2 hb hbm hm hm2 ?_
        refine g_br rfl rfl rfl rfl rfl rfl (fun h5 => ?_) (fun h5 => ?_)
        · exact yes ⟨e1, fun _ => ⟨q, Or.inr ((mo_e0 hhs).mp h5)⟩⟩
        · refine no (fun z => ?_)
          rcases (z.2 h2).2 with z2 | z2
          · omega
          · exact h5 ((mo_e0 hhs).mpr z2)
    refine g_br rfl rfl rfl rfl rfl rfl (fun h4 => ?_) (fun h4 => ?_)
    · exact second (Or.inl ((nI_leI (by omega) (by omega)).mp h4))
    have hgw : ¬ w ≤ g := fun z => h4 (nI_le z (by omega))
    refine g_get rfl rfl rfl hP.1 rfl ?_
    refine mo_ald hP 1 rfl rfl rfl rfl (show g < 48 by omega) (by decide) rfl ?_
    refine g_br rfl rfl rfl rfl rfl rfl (fun h5 => ?_) (fun h5 => ?_)
    · refine g_clV rfl rfl rfl rfl hP.1 rfl rfl rfl ?_
      refine mo_has hP hr hr2 hb hbm hm hm2 ?_
      refine g_br rfl rfl rfl rfl rfl rfl (fun h6 => ?_) (fun h6 => ?_)
      · refine no (fun z => ?_)
        have e0 := (mo_n0 hhs).mp h6
        rcases (z.2 h2).1 with z2 | z2 | z2
        · exact hgw z2
        · exact z2 h5
        · omega
      · refine second (Or.inr (Or.inr ?_))
        rcases Nat.eq_zero_or_pos (mo_hs A I b m g) with z | z
        · exact absurd ((mo_n0 hhs).mpr z) h6
        · exact z
    · exact second (Or.inr (Or.inl h5))
set_option maxRecDepth 100000 in
set_option maxHeartbeats 1000000 in
/-- comes(f, v, group) -/
theorem mo_comes {f v gb : Int32} {n b m r : Nat} (hW : mo_W o A I σ0 σ) (hI : I 4 = nI n) (hn : n ≤ 48) (hr : I 11 = nI r) (hr2 : r ≤ 128) (hb : A 7 r = nI b) (hbm : b ≤ m) (hm : I 9 = nI m) (hm2 : m ≤ 2048) (hin : I 13 = -1 ∨ ∃ q, q < m ∧ I 13 = nI q)
    (kno : ¬ mo_may A I n b m f gb → Q (some (.int 0)) σ)
    (kyes : ∀ σ' : ri_S, mo_may A I n b m f gb → mo_W o (va_up (va_up (va_up A 4 (upd (A 4) m f)) 5 (upd (A 5) m v)) 6 (upd (A 6) m (I 13))) (va_up I 9 (nI (m + 1))) σ0 σ' → Q (some (.int 1)) σ') :
    ev_W (d + 2) mMo_comes (0, [some (.ref o), some (.int f), some (.int v), some (.int gb), none, none], []) σ Q := by
  have hP := hW.1
  refine g_get rfl rfl rfl hP.1 rfl ?_
  refine g_br rfl rfl rfl rfl rfl rfl (fun h1 => ?_) (fun h1 => ?_)
  · exact g_rt rfl rfl rfl (kno (fun q => q.1 h1))
  refine g_clV rfl rfl rfl rfl hP.1 rfl rfl rfl ?_
  refine mo_isField hP (fun z1 z2 => ?_) (fun z0 => ?_)
  rotate_left
  · refine g_br rfl rfl rfl rfl rfl rfl (fun h => ?_) (fun h => absurd rfl h)
    refine g_rt rfl rfl rfl (kno (fun q => ?_))
    obtain ⟨-, w, hw, e, -⟩ := q
    refine z0 ⟨?_, ?_⟩
    · rw [e]; exact nI_pos' (by omega)
    · rw [e, hI]; exact nI_lt hw (by omega)
  obtain ⟨w, hw, e⟩ : ∃ w, w < n ∧ f = nI w := by
    obtain ⟨w, hw, e⟩ := nI_of (Int32.not_lt.mpr z1)
    rw [e, hI] at z2
    exact ⟨w, (nI_ltI hw (by omega)).mp z2, e⟩
  subst e
  have inj : ∀ w', w' < n → nI w = nI w' → w' = w := fun w' h' e' => ((nI_eq (by omega) (by omega)).mp e').symm
  refine g_br rfl rfl rfl rfl rfl rfl (fun h => absurd h (by decide)) (fun h => ?_)
  refine g_get rfl rfl rfl hP.1 rfl ?_
  refine mo_zld hP 3 rfl rfl rfl rfl (show w < 48 by omega) (by decide) rfl ?_
  refine g_br rfl rfl rfl rfl rfl rfl (fun h2 => ?_) (fun h2 => ?_)
  rotate_left
  · refine g_rt rfl rfl rfl (kno (fun q => ?_))
    obtain ⟨-, w', hw', e', q2, -⟩ := q
    rw [inj w' hw' e'] at q2
    exact h2 q2
  refine g_get rfl rfl rfl hP.1 rfl ?_
  refine mo_ald hP 0 rfl rfl rfl rfl (show w < 48 by omega) (by decide) rfl ?_
  refine g_get rfl rfl rfl hP.1 rfl ?_
  have third : ∀ x : Int32, x = mo_ps A I → ev_W (d + 2) mMo_comes (52, [some (.ref o), some (.int (nI w)), some (.int v), some (.int gb), none, none], [.int x, .int (A 0 w)]) σ Q := by
    intro x hx
    subst hx
    refine g_br rfl rfl rfl rfl rfl rfl (fun h3 => ?_) (fun h3 => ?_)
    rotate_left
    · refine g_rt rfl rfl rfl (kno (fun q => ?_))
      obtain ⟨-, w', hw', e', -, q2, -⟩ := q
      rw [inj w' hw' e'] at q2
      exact h3 q2
    refine g_get rfl rfl rfl hP.1 rfl ?_
    refine g_br rfl rfl rfl rfl rfl rfl (fun h4 => ?_) (fun h4 => ?_)
    · refine g_rt rfl rfl rfl (kno (fun q => ?_))
      obtain ⟨-, w', hw', e', -, -, q2, -⟩ := q
      rw [hm] at h4
      have := (nI_eq (by omega) (by decide)).mp (show nI m = nI 2048 from h4)
      omega
    have hm3 : m < 2048 := by
      rcases Nat.lt_or_ge m 2048 with z | z
      · exact z
      · exact absurd (by rw [hm, show m = 2048 by omega]; rfl) h4
    have loop : (A 1 w = 2 ∨ mo_hs A I b m w = 0) → ev_W (d + 2) mMo_comes (85, [some (.ref o), some (.int (nI w)), some (.int v), some (.int gb), none, none], []) σ Q := by
      intro hq
      refine ev_go 4 rfl ?_
      refine mo_comes_loop hP hI hn hw hr hr2 hb hbm hm hm2 (fun x hx hx2 => ?_) n 0 1 (by omega) (Or.inr rfl) ⟨fun _ q h => absurd h (Nat.not_lt_zero _), fun _ => rfl⟩
      refine g_br rfl rfl rfl rfl rfl rfl (fun h5 => ?_) (fun h5 => ?_)
      · refine g_rt rfl rfl rfl (kno (fun q => ?_))
        obtain ⟨-, w', hw', e', -, -, -, -, q2⟩ := q
        rw [inj w' hw' e'] at q2
        have := hx2.mpr q2
        rw [h5] at this
        exact absurd this (by decide)
      have e1 : x = 1 := by
        rcases hx with q | q
        · exact absurd q h5
        · exact q
      have all : mo_may A I n b m (nI w) gb := ⟨h1, w, hw, rfl, h2, h3, hm3, hq, hx2.mp e1⟩
      refine g_get rfl rfl rfl hP.1 rfl ?_
      refine g_get rfl rfl rfl hP.1 rfl ?_
      refine mo_ast hW 4 rfl rfl rfl hm hm3 (by decide) rfl (fun σ1 hW1 => ?_)
      refine g_get rfl rfl rfl hW1.1.1 rfl ?_
      refine g_get rfl rfl rfl hW1.1.1 rfl ?_
      refine mo_ast hW1 5 rfl rfl rfl hm hm3 (by decide) rfl (fun σ2 hW2 => ?_)
      refine g_get rfl rfl rfl hW2.1.1 rfl ?_
      refine g_get rfl rfl rfl hW2.1.1 rfl ?_
      refine g_get rfl rfl rfl hW2.1.1 rfl ?_
      refine mo_ast hW2 6 rfl rfl rfl hm hm3 (by decide) rfl (fun σ3 hW3 => ?_)
      refine g_get rfl rfl rfl hW3.1.1 rfl ?_
      refine mo_set hW3 rfl rfl rfl rfl rfl rfl rfl (fun σ4 hW4 => ?_)
      refine g_rt rfl rfl rfl (kyes σ4 all ?_)
      rw [← nI_1, ← hm]
      exact hW4
    refine g_get rfl rfl rfl hP.1 rfl ?_
    refine mo_ald hP 1 rfl rfl rfl rfl (show w < 48 by omega) (by decide) rfl ?_
    refine g_br rfl rfl rfl rfl rfl rfl (fun h5 => ?_) (fun h5 => ?_)
    · exact loop (Or.inl h5)
    · refine g_clV rfl rfl rfl rfl hP.1 rfl rfl rfl ?_
      refine mo_has hP hr hr2 hb hbm hm hm2 ?_
      have hhs : mo_hs A I b m w < 2 ^ 31 := mo_hs_lt hm2
      refine g_br rfl rfl rfl rfl rfl rfl (fun h6 => ?_) (fun h6 => ?_)
      · exact loop (Or.inr ((mo_n0 hhs).mp h6))
      · refine g_rt rfl rfl rfl (kno (fun q => ?_))
        obtain ⟨-, w', hw', e', -, -, -, q2, -⟩ := q
        rw [inj w' hw' e'] at q2
        rcases q2 with q2 | q2
        · exact h5 q2
        · exact h6 ((mo_n0 hhs).mpr q2)
  refine g_br rfl rfl rfl rfl rfl rfl (fun h3 => ?_) (fun h3 => ?_)
  · refine ev_go 2 rfl ?_
    exact third (-1) (by unfold mo_ps; rw [if_pos h3])
  · obtain ⟨q, hq, eq⟩ : ∃ q, q < m ∧ I 13 = nI q := by
      rcases hin with z | z
      · exact absurd z h3
      · exact z
    refine g_get rfl rfl rfl hP.1 rfl ?_
    refine g_get rfl rfl rfl hP.1 rfl ?_
    refine mo_ald hP 4 rfl rfl rfl eq (show q < 2048 by omega) (by decide) rfl ?_
    exact third (A 4 q) (by unfold mo_ps; rw [if_neg h3, eq, nI_clamp (by omega)])
end MO5
