/-! THE REFERENCE: wants. -/
/-- the bit of column c in (low, high) -/
def mo_bit (lo hi c : Int32) : Prop := ((if 32 ≤ c then hi >>> ((c - 32) &&& 31) else lo >>> (c &&& 31)) &&& 1) = 1
/-- field f is a leaf whose column is chosen -/
def mo_is (G : Nat → Int32) (lo hi : Int32) (f : Nat) : Prop := G f = 0 ∧ mo_bit lo hi (nI (mo_lv G f))
/-- f and the groups around it are marked -/
def mo_mk (par : Nat → Int32) : Nat → Int32 → (Nat → Int32) → (Nat → Int32)
  | 0, _, w => w
  | m + 1, g, w => if g = -1 then w else mo_mk par m (par g.toNatClampNeg) (upd w g.toNatClampNeg 1)
def mo_z (w : Nat → Int32) (i : Nat) : Nat → Int32 := fun j => if j < i then 0 else w j
theorem mo_z_s (w : Nat → Int32) (i : Nat) : upd (mo_z w i) i 0 = mo_z w (i + 1) := by
  funext j
  unfold upd mo_z
  by_cases e : j = i
  · rw [if_pos e, if_pos (by omega)]
  · by_cases h : j < i
    · rw [if_neg e, if_pos h, if_pos (by omega)]
    · rw [if_neg e, if_neg h, if_neg (by omega)]
theorem mo_z_0 (w : Nat → Int32) : mo_z w 0 = w := by
  funext j
  unfold mo_z
  rw [if_neg (by omega)]
/-- marked behind the first i fields -/
noncomputable def mo_wd (par G : Nat → Int32) (lo hi : Int32) (n : Nat) (w : Nat → Int32) : Nat → (Nat → Int32)
  | 0 => w
  | i + 1 => by
    classical exact if mo_is G lo hi i then mo_mk par n (nI i) (mo_wd par G lo hi n w i) else mo_wd par G lo hi n w i
section MO14
variable {d o : Nat} {A : Nat → Nat → Int32} {I : Nat → Int32} {σ0 σ : ri_S} {Q : Option Value → ri_S → Prop}
set_option maxRecDepth 100000 in
theorem mo_wants_zero {lo hi : Int32} {n : Nat} (hI : I 4 = nI n) (hn : n ≤ 48) (w : Nat → Int32) (kk : ∀ σ' : ri_S, mo_W o (va_up A 10 (mo_z w n)) I σ0 σ' → ev_W (d + 1) mMo_wants (23, [some (.ref o), some (.int lo), some (.int hi), some (.int (nI n)), none, none, none], []) σ' Q) : ∀ (t i : Nat) (σ : ri_S), i + t = n → mo_W o (va_up A 10 (mo_z w i)) I σ0 σ → ev_W (d + 1) mMo_wants (2, [some (.ref o), some (.int lo), some (.int hi), some (.int (nI i)), none, none, none], []) σ Q := by
  intro t
  induction t with
  | zero =>
    intro i σ hit hW
    obtain rfl : i = n := by omega
    refine g_get rfl rfl rfl hW.1.1 rfl ?_
    refine g_br rfl rfl rfl rfl rfl rfl (fun h1 => ?_) (fun h1 => absurd (by rw [hI]; exact nI_le (Nat.le_refl _) (by omega)) h1)
    exact kk σ hW
  | succ t ih =>
    intro i σ hit hW
    refine g_get rfl rfl rfl hW.1.1 rfl ?_
    refine g_br rfl rfl rfl rfl rfl rfl (fun h1 => absurd h1 (by rw [hI]; exact nI_ge (by omega) (by omega))) (fun h1 => ?_)
    refine g_get rfl rfl rfl hW.1.1 rfl ?_
    refine mo_zst hW 10 rfl rfl rfl rfl (show i < 48 by omega) (by decide) rfl (Or.inl rfl) (fun σ1 hW1 => ?_)
    rw [bx_uu] at hW1
    change mo_W o (va_up A 10 (upd (mo_z w i) i 0)) I σ0 σ1 at hW1
    rw [mo_z_s] at hW1
    refine ev_go 2 rfl ?_
    show ev_W (d + 1) mMo_wants (2, [some (.ref o), some (.int lo), some (.int hi), some (.int (nI i + 1)), none, none, none], []) σ1 Q
    rw [nI_1]
    exact ih (i + 1) σ1 (by omega) hW1
set_option maxRecDepth 100000 in
theorem mo_wants_mark {lo hi c : Int32} {n i : Nat} (hn : n ≤ 48) (hup : mo_up (A 0) n) : ∀ (m : Nat) (g : Int32) (w : Nat → Int32) (σ : ri_S), (g = -1 ∨ ∃ p, p < m ∧ g = nI p) → m ≤ n → mo_W o (va_up A 10 w) I σ0 σ →
    (∀ (σ' : ri_S) (g' : Int32), mo_W o (va_up A 10 (mo_mk (A 0) m g w)) I σ0 σ' → ev_W (d + 1) mMo_wants (114, [some (.ref o), some (.int lo), some (.int hi), some (.int (nI i)), some (.int c), some (.int 1), some (.int g')], []) σ' Q) → ev_W (d + 1) mMo_wants (83, [some (.ref o), some (.int lo), some (.int hi), some (.int (nI i)), some (.int c), some (.int 1), some (.int g)], []) σ Q := by
  intro m
  induction m with
  | zero =>
    intro g w σ hg hm hW kk
    obtain rfl : g = -1 := by
      rcases hg with h | ⟨p, hp, -⟩
      · exact h
      · exact absurd hp (Nat.not_lt_zero _)
    refine g_br rfl rfl rfl rfl rfl rfl (fun h1 => ?_) (fun h1 => absurd rfl h1)
    exact kk σ _ hW
  | succ m ih =>
    intro g w σ hg hm hW kk
    refine g_br rfl rfl rfl rfl rfl rfl (fun h1 => ?_) (fun h1 => ?_)
    · unfold mo_mk at kk
      rw [if_pos h1] at kk
      exact kk σ _ hW
    · obtain ⟨p, hp, rfl⟩ := hg.resolve_left h1
      unfold mo_mk at kk
      rw [if_neg h1, nI_clamp (by omega)] at kk
      refine g_br rfl rfl rfl rfl rfl rfl (fun h2 => absurd h2 (by decide)) (fun h2 => ?_)
      refine g_get rfl rfl rfl hW.1.1 rfl ?_
      refine mo_zst hW 10 rfl rfl rfl rfl (show p < 48 by omega) (by decide) rfl (Or.inr rfl) (fun σ1 hW1 => ?_)
      rw [bx_uu] at hW1
      change mo_W o (va_up A 10 (upd w p 1)) I σ0 σ1 at hW1
      refine g_get rfl rfl rfl hW1.1.1 rfl ?_
      refine mo_ald hW1.1 0 rfl rfl rfl rfl (show p < 48 by omega) (by decide) rfl ?_
      refine ev_go 2 rfl ?_
      refine ih (A 0 p) _ σ1 ?_ (by omega) hW1 kk
      rcases hup p (by omega) with q | ⟨z, hz, q⟩
      · exact Or.inl q
      · exact Or.inr ⟨z, by omega, q⟩
set_option maxRecDepth 100000 in
set_option maxHeartbeats 1000000 in
theorem mo_wants_loop {lo hi : Int32} {n : Nat} (hI : I 4 = nI n) (hn : n ≤ 48) (hup : mo_up (A 0) n) (w : Nat → Int32) (kk : ∀ σ' : ri_S, mo_W o (va_up A 10 (mo_wd (A 0) (A 3) lo hi n w n)) I σ0 σ' → Q none σ') : ∀ (t i : Nat) (σ : ri_S) (x4 x5 x6 : Option Value), i + t = n → mo_W o (va_up A 10 (mo_wd (A 0) (A 3) lo hi n w i)) I σ0 σ → ev_W (d + 1) mMo_wants (25, [some (.ref o), some (.int lo), some (.int hi), some (.int (nI i)), x4, x5, x6], []) σ Q := by
  intro t
  induction t with
  | zero =>
    intro i σ x4 x5 x6 hit hW
    obtain rfl : i = n := by omega
    refine g_get rfl rfl rfl hW.1.1 rfl ?_
    refine g_br rfl rfl rfl rfl rfl rfl (fun h1 => ?_) (fun h1 => absurd (by rw [hI]; exact nI_le (Nat.le_refl _) (by omega)) h1)
    exact g_rt rfl rfl rfl (kk σ hW)
  | succ t ih =>
    intro i σ x4 x5 x6 hit hW
    refine g_get rfl rfl rfl hW.1.1 rfl ?_
    refine g_br rfl rfl rfl rfl rfl rfl (fun h1 => absurd h1 (by rw [hI]; exact nI_ge (by omega) (by omega))) (fun h1 => ?_)
    refine g_clV rfl rfl rfl rfl hW.1.1 rfl rfl rfl ?_
    refine mo_columnOf hW.1 rfl (show i < 48 by omega) ?_
    show ev_W (d + 1) mMo_wants (38, [some (.ref o), some (.int lo), some (.int hi), some (.int (nI i)), x4, x5, x6], [.int (if A 3 i = 0 then nI (mo_lv (A 3) i) else -1)]) σ Q
    have eW : mo_wd (A 0) (A 3) lo hi n w (i + 1) = by classical exact if mo_is (A 3) lo hi i then mo_mk (A 0) n (nI i) (mo_wd (A 0) (A 3) lo hi n w i) else mo_wd (A 0) (A 3) lo hi n w i := rfl
    have nxt : ∀ (σ' : ri_S) (y4 y5 y6 : Int32), mo_W o (va_up A 10 (mo_wd (A 0) (A 3) lo hi n w (i + 1))) I σ0 σ' → ev_W (d + 1) mMo_wants (114, [some (.ref o), some (.int lo), some (.int hi), some (.int (nI i)), some (.int y4), some (.int y5), some (.int y6)], []) σ' Q := by
      intro σ' y4 y5 y6 hW'
      refine ev_go 2 rfl ?_
      show ev_W (d + 1) mMo_wants (25, [some (.ref o), some (.int lo), some (.int hi), some (.int (nI i + 1)), some (.int y4), some (.int y5), some (.int y6)], []) σ' Q
      rw [nI_1]
      exact ih (i + 1) σ' _ _ _ (by omega) hW'
    have no : ∀ y4 : Int32, ¬ mo_is (A 3) lo hi i → ev_W (d + 1) mMo_wants (77, [some (.ref o), some (.int lo), some (.int hi), some (.int (nI i)), some (.int y4), x5, x6], []) σ Q := by
      intro y4 hno
      refine ev_go 4 rfl ?_
      show ev_W (d + 1) mMo_wants (83, [some (.ref o), some (.int lo), some (.int hi), some (.int (nI i)), some (.int y4), some (.int 0), some (.int (nI i))], []) σ Q
      refine g_br rfl rfl rfl rfl rfl rfl (fun h2 => absurd h2 (nI_nm1 (by omega))) (fun h2 => ?_)
      refine g_br rfl rfl rfl rfl rfl rfl (fun h3 => ?_) (fun h3 => absurd rfl h3)
      refine nxt σ _ _ _ ?_
      rw [eW, if_neg hno]
      exact hW
    by_cases hg : A 3 i = 0
    · rw [if_pos hg]
      have hlv : mo_lv (A 3) i < 2 ^ 31 := by have := mo_lv_le (A 3) i; omega
      refine g_br rfl rfl rfl rfl rfl rfl (fun h2 => absurd h2 (nI_nm1 hlv)) (fun h2 => ?_)
      have tst : ∀ y : Int32, y = (if 32 ≤ nI (mo_lv (A 3) i) then hi >>> ((nI (mo_lv (A 3) i) - 32) &&& 31) else lo >>> (nI (mo_lv (A 3) i) &&& 31)) → ev_W (d + 1) mMo_wants (67, [some (.ref o), some (.int lo), some (.int hi), some (.int (nI i)), some (.int (nI (mo_lv (A 3) i))), x5, x6], [.int y]) σ Q := by
        intro y hy
        refine g_br rfl rfl rfl rfl rfl rfl (fun h3 => ?_) (fun h3 => ?_)
        · have his : mo_is (A 3) lo hi i := ⟨hg, by unfold mo_bit; rw [← hy]; exact h3⟩
          refine ev_go 5 rfl ?_
          show ev_W (d + 1) mMo_wants (83, [some (.ref o), some (.int lo), some (.int hi), some (.int (nI i)), some (.int (nI (mo_lv (A 3) i))), some (.int 1), some (.int (nI i))], []) σ Q
          refine mo_wants_mark hn hup n (nI i) _ σ (Or.inr ⟨i, by omega, rfl⟩) (Nat.le_refl _) hW (fun σ' g' hW' => ?_)
          refine nxt σ' _ _ _ ?_
          rw [eW, if_pos his]
          exact hW'
        · exact no _ (fun z => h3 (by have := z.2; unfold mo_bit at this; rw [← hy] at this; exact this))
      refine g_br rfl rfl rfl rfl rfl rfl (fun h3 => ?_) (fun h3 => ?_)
      · refine ev_go 5 rfl ?_
        exact tst _ (by rw [if_pos h3])
      · refine ev_go 4 rfl ?_
        exact tst _ (by rw [if_neg h3])
    · rw [if_neg hg]
      refine g_br rfl rfl rfl rfl rfl rfl (fun h2 => ?_) (fun h2 => absurd rfl h2)
      exact no _ (fun z => hg z.1)
set_option maxRecDepth 100000 in
/-- wants(low, high) -/
theorem mo_wants {lo hi : Int32} {n : Nat} (hW : mo_W o A I σ0 σ) (hI : I 4 = nI n) (hn : n ≤ 48) (hup : mo_up (A 0) n) (kk : ∀ σ' : ri_S, mo_W o (va_up A 10 (mo_wd (A 0) (A 3) lo hi n (mo_z (A 10) n) n)) I σ0 σ' → Q none σ') : ev_W (d + 1) mMo_wants (0, [some (.ref o), some (.int lo), some (.int hi), none, none, none, none], []) σ Q := by
  refine ev_go 2 rfl ?_
  have hA : va_up A 10 (mo_z (A 10) 0) = A := by
    rw [mo_z_0]
    funext j
    unfold va_up
    by_cases z : j = 10
    · rw [if_pos z, z]
    · rw [if_neg z]
  refine mo_wants_zero hI hn (A 10) (fun σ1 hW1 => ?_) n 0 σ (by omega) (by rw [hA]; exact hW)
  refine ev_go 2 rfl ?_
  exact mo_wants_loop hI hn hup (mo_z (A 10) n) kk n 0 σ1 none none none (by omega) hW1
end MO14
