/-! THE REFERENCE: open, leaf, close. -/
/-- the open group, or the record, may end -/
def mo_end (A : Nat → Nat → Int32) (I : Nat → Int32) (n b m : Nat) : Prop := ∀ g, g < n → A 0 g = mo_ps A I → A 1 g = 0 → 0 < mo_hs A I b m g
section MO6
variable {d o : Nat} {A : Nat → Nat → Int32} {I : Nat → Int32} {σ0 σ : ri_S} {Q : Option Value → ri_S → Prop}
set_option maxRecDepth 100000 in
/-- leaf(f, v) -/
theorem mo_leaf {f v : Int32} {n b m r : Nat} (hW : mo_W o A I σ0 σ) (hI : I 4 = nI n) (hn : n ≤ 48) (hr : I 11 = nI r) (hr2 : r ≤ 128) (hb : A 7 r = nI b) (hbm : b ≤ m) (hm : I 9 = nI m) (hm2 : m ≤ 2048) (hin : I 13 = -1 ∨ ∃ q, q < m ∧ I 13 = nI q)
    (kno : ¬ mo_may A I n b m f 0 → Q (some (.int 0)) σ)
    (kyes : ∀ σ' : ri_S, mo_may A I n b m f 0 → mo_W o (va_up (va_up (va_up A 4 (upd (A 4) m f)) 5 (upd (A 5) m v)) 6 (upd (A 6) m (I 13))) (va_up I 9 (nI (m + 1))) σ0 σ' → Q (some (.int 1)) σ') :
    ev_W (d + 3) mMo_leaf (0, [some (.ref o), some (.int f), some (.int v)], []) σ Q := by
  refine g_clV rfl rfl rfl rfl hW.1.1 rfl rfl rfl ?_
  refine mo_comes hW hI hn hr hr2 hb hbm hm hm2 hin (fun q => ?_) (fun σ1 q hW1 => ?_)
  · exact g_rt rfl rfl rfl (kno q)
  · exact g_rt rfl rfl rfl (kyes σ1 q hW1)
set_option maxRecDepth 100000 in
/-- open(f) -/
theorem mo_open {f : Int32} {n b m r : Nat} (hW : mo_W o A I σ0 σ) (hI : I 4 = nI n) (hn : n ≤ 48) (hr : I 11 = nI r) (hr2 : r ≤ 128) (hb : A 7 r = nI b) (hbm : b ≤ m) (hm : I 9 = nI m) (hm2 : m ≤ 2048) (hin : I 13 = -1 ∨ ∃ q, q < m ∧ I 13 = nI q)
    (kno : ¬ mo_may A I n b m f 1 → Q (some (.int 0)) σ)
    (kyes : ∀ σ' : ri_S, mo_may A I n b m f 1 → mo_W o (va_up (va_up (va_up A 4 (upd (A 4) m f)) 5 (upd (A 5) m 0)) 6 (upd (A 6) m (I 13))) (va_up (va_up I 9 (nI (m + 1))) 13 (nI m)) σ0 σ' → Q (some (.int 1)) σ') :
    ev_W (d + 3) mMo_open (0, [some (.ref o), some (.int f)], []) σ Q := by
  refine g_clV rfl rfl rfl rfl hW.1.1 rfl rfl rfl ?_
  refine mo_comes hW hI hn hr hr2 hb hbm hm hm2 hin (fun q => ?_) (fun σ1 q hW1 => ?_)
  · refine g_br rfl rfl rfl rfl rfl rfl (fun h => ?_) (fun h => absurd rfl h)
    exact g_rt rfl rfl rfl (kno q)
  · refine g_br rfl rfl rfl rfl rfl rfl (fun h => absurd h (by decide)) (fun h => ?_)
    refine g_get rfl rfl rfl hW1.1.1 rfl ?_
    refine mo_set hW1 rfl rfl rfl rfl rfl rfl rfl (fun σ2 hW2 => ?_)
    refine g_rt rfl rfl rfl (kyes σ2 q ?_)
    rw [← show nI (m + 1) - 1 = nI m from nI_pred m]
    exact hW2
set_option maxRecDepth 100000 in
theorem mo_close_loop {ps : Int32} {n b m r : Nat} (hP : mo_P o A I σ.1) (hI : I 4 = nI n) (hn : n ≤ 48) (hr : I 11 = nI r) (hr2 : r ≤ 128) (hb : A 7 r = nI b) (hbm : b ≤ m) (hm : I 9 = nI m) (hm2 : m ≤ 2048) (hps : ps = mo_ps A I)
    (kno : ¬ mo_end A I n b m → Q (some (.int 0)) σ) (kyes : mo_end A I n b m → ev_W (d + 1) mMo_close (76, [some (.ref o), some (.int ps), some (.int (nI n))], []) σ Q) :
    ∀ (t g : Nat), g + t = n → (∀ q, q < g → A 0 q = mo_ps A I → A 1 q = 0 → 0 < mo_hs A I b m q) → ev_W (d + 1) mMo_close (33, [some (.ref o), some (.int ps), some (.int (nI g))], []) σ Q := by
  intro t
  induction t with
  | zero =>
    intro g hg hall
    obtain rfl : g = n := by omega
    refine g_get rfl rfl rfl hP.1 rfl ?_
    refine g_br rfl rfl rfl rfl rfl rfl (fun h1 => ?_) (fun h1 => absurd (by rw [hI]; exact nI_le (Nat.le_refl _) (by omega)) h1)
    exact kyes hall
  | succ t ih =>
    intro g hg hall
    have hhs : mo_hs A I b m g < 2 ^ 31 := mo_hs_lt hm2
    refine g_get rfl rfl rfl hP.1 rfl ?_
    refine g_br rfl rfl rfl rfl rfl rfl (fun h1 => absurd h1 (by rw [hI]; exact nI_ge (by omega) (by omega))) (fun h1 => ?_)
    have nxt : (A 0 g = mo_ps A I → A 1 g = 0 → 0 < mo_hs A I b m g) → ev_W (d + 1) mMo_close (70, [some (.ref o), some (.int ps), some (.int (nI g))], []) σ Q := by
      intro q
      refine ev_go 2 rfl ?_
      show ev_W (d + 1) mMo_close (33, [some (.ref o), some (.int ps), some (.int (nI g + 1))], []) σ Q
      rw [nI_1]
      refine ih (g + 1) (by omega) (fun z hz => ?_)
      rcases Nat.lt_succ_iff_lt_or_eq.mp hz with e | e
      · exact hall z e
      · subst e; exact q
    refine g_get rfl rfl rfl hP.1 rfl ?_
    refine mo_ald hP 0 rfl rfl rfl rfl (show g < 48 by omega) (by decide) rfl ?_
    refine g_br rfl rfl rfl rfl rfl rfl (fun h2 => ?_) (fun h2 => ?_)
    rotate_left
    · exact nxt (fun z => absurd (z.trans hps.symm) h2)
    refine g_get rfl rfl rfl hP.1 rfl ?_
    refine mo_ald hP 1 rfl rfl rfl rfl (show g < 48 by omega) (by decide) rfl ?_
    refine g_br rfl rfl rfl rfl rfl rfl (fun h3 => ?_) (fun h3 => ?_)
    rotate_left
    · exact nxt (fun _ z => absurd z h3)
    refine g_clV rfl rfl rfl rfl hP.1 rfl rfl rfl ?_
    refine mo_has hP hr hr2 hb hbm hm hm2 ?_
    refine g_br rfl rfl rfl rfl rfl rfl (fun h4 => ?_) (fun h4 => ?_)
    · refine g_rt rfl rfl rfl (kno (fun z => ?_))
      have := z g (by omega) (h2.trans hps) h3
      have e0 := (mo_e0 hhs).mp h4
      omega
    · refine nxt (fun _ _ => ?_)
      rcases Nat.eq_zero_or_pos (mo_hs A I b m g) with z | z
      · exact absurd ((mo_e0 hhs).mpr z) h4
      · exact z
set_option maxRecDepth 100000 in
/-- close() -/
theorem mo_close {n b m r : Nat} (hW : mo_W o A I σ0 σ) (hI : I 4 = nI n) (hn : n ≤ 48) (hr : I 11 = nI r) (hr2 : r ≤ 128) (hr3 : ¬ I 12 = 0 → r < 128) (hb : A 7 r = nI b) (hbm : b ≤ m) (hm : I 9 = nI m) (hm2 : m ≤ 2048) (hin : I 13 = -1 ∨ ∃ q, q < m ∧ I 13 = nI q)
    (kno : ¬ (¬ I 12 = 0 ∧ mo_end A I n b m) → Q (some (.int 0)) σ)
    (krec : ∀ σ' : ri_S, ¬ I 12 = 0 → mo_end A I n b m → I 13 = -1 → mo_W o (va_up A 7 (upd (A 7) (r + 1) (nI m))) (va_up (va_up I 12 0) 11 (nI (r + 1))) σ0 σ' → Q (some (.int 1)) σ')
    (kgrp : ∀ (σ' : ri_S) (q : Nat), ¬ I 12 = 0 → mo_end A I n b m → q < m → I 13 = nI q → mo_W o A (va_up I 13 (A 6 q)) σ0 σ' → Q (some (.int 1)) σ') :
    ev_W (d + 1) mMo_close (0, [some (.ref o), none, none], []) σ Q := by
  have hP := hW.1
  refine g_get rfl rfl rfl hP.1 rfl ?_
  refine g_br rfl rfl rfl rfl rfl rfl (fun h1 => ?_) (fun h1 => ?_)
  · exact g_rt rfl rfl rfl (kno (fun q => q.1 h1))
  refine g_get rfl rfl rfl hP.1 rfl ?_
  have loop : ∀ x : Int32, x = mo_ps A I → ev_W (d + 1) mMo_close (30, [some (.ref o), none, none], [.int x]) σ Q := by
    intro x hx
    refine ev_go 3 rfl ?_
    refine mo_close_loop hP hI hn hr hr2 hb hbm hm hm2 hx (fun q => kno (fun z => q z.2)) (fun q => ?_) n 0 (by omega) (fun z hz => absurd hz (Nat.not_lt_zero _))
    refine g_get rfl rfl rfl hP.1 rfl ?_
    refine g_br rfl rfl rfl rfl rfl rfl (fun h2 => ?_) (fun h2 => ?_)
    · refine mo_set hW rfl rfl rfl rfl rfl rfl rfl (fun σ1 hW1 => ?_)
      refine g_get rfl rfl rfl hW1.1.1 rfl ?_
      refine mo_set hW1 rfl rfl rfl rfl rfl rfl rfl (fun σ2 hW2 => ?_)
      refine g_get rfl rfl rfl hW2.1.1 rfl ?_
      refine g_get rfl rfl rfl hW2.1.1 rfl ?_
      refine g_get rfl rfl rfl hW2.1.1 rfl ?_
      have e : I 11 + 1 = nI (r + 1) := by rw [hr]; exact nI_1 r
      refine mo_ast hW2 7 rfl rfl rfl (i := r + 1) e (show r + 1 < 129 by have := hr3 h1; omega) (by decide) rfl (fun σ3 hW3 => ?_)
      refine g_rt rfl rfl rfl (krec σ3 h1 q h2 ?_)
      rw [← e, ← hm]
      exact hW3
    · obtain ⟨w, hw, ew⟩ : ∃ w, w < m ∧ I 13 = nI w := by
        rcases hin with z | z
        · exact absurd z h2
        · exact z
      refine g_get rfl rfl rfl hP.1 rfl ?_
      refine g_get rfl rfl rfl hP.1 rfl ?_
      refine mo_ald hP 6 rfl rfl rfl ew (show w < 2048 by omega) (by decide) rfl ?_
      refine mo_set hW rfl rfl rfl rfl rfl rfl rfl (fun σ1 hW1 => ?_)
      exact g_rt rfl rfl rfl (kgrp σ1 w h1 q hw ew hW1)
  refine g_br rfl rfl rfl rfl rfl rfl (fun h3 => ?_) (fun h3 => ?_)
  · refine ev_go 2 rfl ?_
    exact loop (-1) (by unfold mo_ps; rw [if_pos h3])
  · obtain ⟨q, hq, eq⟩ : ∃ q, q < m ∧ I 13 = nI q := by
      rcases hin with z | z
      · exact absurd z h3
      · exact z
    refine g_get rfl rfl rfl hP.1 rfl ?_
    refine g_get rfl rfl rfl hP.1 rfl ?_
    refine mo_ald hP 4 rfl rfl rfl eq (show q < 2048 by omega) (by decide) rfl ?_
    exact loop (A 4 q) (by unfold mo_ps; rw [if_neg h3, eq, nI_clamp (by omega)])
end MO6
