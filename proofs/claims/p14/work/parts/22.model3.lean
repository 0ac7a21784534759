/-! THE REFERENCE: ready, level, begin, has, comes, open, leaf, close, drop, records, event, tells. -/
/-- how many of the j occurrences from b on are of f and lie in ins -/
def mo_cn (ofs aro : Nat → Int32) (f ins : Int32) (b : Nat) : Nat → Nat
  | 0 => 0
  | j + 1 => mo_cn ofs aro f ins b j + (if ofs (b + j) = f ∧ aro (b + j) = ins then 1 else 0)
theorem mo_cn_le (ofs aro : Nat → Int32) (f ins : Int32) (b : Nat) : ∀ j, mo_cn ofs aro f ins b j ≤ j
  | 0 => Nat.le_refl 0
  | j + 1 => by
    have := mo_cn_le ofs aro f ins b j
    unfold mo_cn
    split <;> omega
theorem mo_n0 {c : Nat} (h : c < 2 ^ 31) : nI c ≤ 0 ↔ c = 0 := by
  constructor
  · intro q
    rcases Nat.eq_zero_or_pos c with e | e
    · exact e
    · exact absurd q (nI_nle e h)
  · rintro rfl
    decide
theorem mo_e0 {c : Nat} (h : c < 2 ^ 31) : nI c = 0 ↔ c = 0 := by
  constructor
  · intro q
    rcases Nat.eq_zero_or_pos c with e | e
    · exact e
    · exact absurd q (nI_ne0 e h)
  · rintro rfl
    rfl
section MO3
variable {d o : Nat} {A : Nat → Nat → Int32} {I : Nat → Int32} {σ0 σ : ri_S} {Q : Option Value → ri_S → Prop}
set_option maxRecDepth 100000 in
theorem mo_ready_in {n f : Nat} {x1 : Int32} (hP : mo_P o A I σ.1) (hI : I 4 = nI n) (hn : n ≤ 48) : ∀ (m g : Nat) (h : Int32), g + m = n → (h = 0 ∨ h = 1) → (∀ r : Int32, (r = 0 ∨ r = 1) → (r = 1 ↔ h = 1 ∨ ∃ q, g ≤ q ∧ q < n ∧ A 0 q = nI f) → ev_W d mMo_ready (84, [some (.ref o), some (.int x1), some (.int (nI f)), some (.int r), some (.int (nI n))], []) σ Q) → ev_W d mMo_ready (48, [some (.ref o), some (.int x1), some (.int (nI f)), some (.int h), some (.int (nI g))], []) σ Q := by
  intro m
  induction m with
  | zero =>
    intro g h hg hh hk
    obtain rfl : g = n := by omega
    refine g_get rfl rfl rfl hP.1 rfl ?_
    refine g_br rfl rfl rfl rfl rfl rfl (fun h1 => ?_) (fun h1 => absurd (by rw [hI]; exact nI_le (Nat.le_refl _) (by omega)) h1)
    exact hk h hh ⟨fun q => Or.inl q, fun q => q.elim id (fun ⟨w, q1, q2, _⟩ => absurd q2 (by omega))⟩
  | succ m ih =>
    intro g h hg hh hk
    refine g_get rfl rfl rfl hP.1 rfl ?_
    refine g_br rfl rfl rfl rfl rfl rfl (fun h1 => absurd h1 (by rw [hI]; exact nI_ge (by omega) (by omega))) (fun h1 => ?_)
    have nxt : ∀ b : Int32, (b = 0 ∨ b = 1) → (b = 1 ↔ h = 1 ∨ A 0 g = nI f) → ev_W d mMo_ready (77, [some (.ref o), some (.int x1), some (.int (nI f)), some (.int h), some (.int (nI g))], [.int b]) σ Q := by
      intro b hb hb2
      refine ev_go 3 rfl ?_
      show ev_W d mMo_ready (48, [some (.ref o), some (.int x1), some (.int (nI f)), some (.int b), some (.int (nI g + 1))], []) σ Q
      rw [nI_1]
      refine ih (g + 1) b (by omega) hb (fun r hr hr2 => hk r hr (hr2.trans ?_))
      rw [hb2]
      constructor
      · rintro ((q | q) | ⟨w, q1, q2, q3⟩)
        · exact Or.inl q
        · exact Or.inr ⟨g, Nat.le_refl _, by omega, q⟩
        · exact Or.inr ⟨w, by omega, q2, q3⟩
      · rintro (q | ⟨w, q1, q2, q3⟩)
        · exact Or.inl (Or.inl q)
        · rcases Nat.eq_or_lt_of_le q1 with e | e
          · subst e; exact Or.inl (Or.inr q3)
          · exact Or.inr ⟨w, e, q2, q3⟩
    refine g_br rfl rfl rfl rfl rfl rfl (fun h2 => ?_) (fun h2 => ?_)
    · refine g_get rfl rfl rfl hP.1 rfl ?_
      refine mo_ald hP 0 rfl rfl rfl rfl (show g < 48 by omega) (by decide) rfl ?_
      refine g_br rfl rfl rfl rfl rfl rfl (fun h3 => ?_) (fun h3 => ?_)
      · refine ev_go 2 rfl ?_
        exact nxt 1 (Or.inr rfl) ⟨fun _ => Or.inr h3, fun _ => rfl⟩
      · refine ev_go 1 rfl ?_
        refine nxt 0 (Or.inl rfl) ⟨fun q => absurd q (by decide), fun q => ?_⟩
        rcases q with q | q
        · rw [h2] at q; exact absurd q (by decide)
        · exact absurd q h3
    · have e1 : h = 1 := by
        rcases hh with q | q
        · exact absurd q h2
        · exact q
      refine ev_go 2 rfl ?_
      exact nxt 1 (Or.inr rfl) ⟨fun _ => Or.inl e1, fun _ => rfl⟩
/-- every group among the n has a field -/
def mo_full (A : Nat → Nat → Int32) (n f : Nat) : Prop := A 3 f = 0 ∨ ∃ q, q < n ∧ A 0 q = nI f
set_option maxRecDepth 100000 in
theorem mo_ready_out {n : Nat} (hW : mo_W o A I σ0 σ) (hI : I 4 = nI n) (hn : n ≤ 48) (gd0 : Prop)
    (kno : ¬ (gd0 ∧ ∀ f, f < n → mo_full A n f) → Q (some (.int (-1))) σ) (kyes : ∀ σ' : ri_S, (gd0 ∧ ∀ f, f < n → mo_full A n f) → mo_W o A (va_up I 5 1) σ0 σ' → Q (some (.int (nI (mo_lv (A 3) n)))) σ') :
    ∀ (m f : Nat) (g : Int32) (x3 x4 : Option Value), f + m = n → (g = 0 ∨ g = 1) → (g = 1 ↔ gd0 ∧ ∀ q, q < f → mo_full A n q) → ri_two [some (.ref o), some (.int g), some (.int (nI f)), x3, x4] 3 = false → ev_W (d + 1) mMo_ready (22, [some (.ref o), some (.int g), some (.int (nI f)), x3, x4], []) σ Q := by
  have hP := hW.1
  intro m
  induction m with
  | zero =>
    intro f g x3 x4 hf hg hg2 h34
    obtain rfl : f = n := by omega
    refine g_get rfl rfl rfl hP.1 rfl ?_
    refine g_br rfl rfl rfl rfl rfl rfl (fun h1 => ?_) (fun h1 => absurd (by rw [hI]; exact nI_le (Nat.le_refl _) (by omega)) h1)
    refine g_br rfl rfl rfl rfl rfl rfl (fun h2 => ?_) (fun h2 => ?_)
    · refine g_rt rfl rfl rfl (kno (fun q => ?_))
      have := hg2.mpr q
      rw [h2] at this
      exact absurd this (by decide)
    · have e1 : g = 1 := by
        rcases hg with q | q
        · exact absurd q h2
        · exact q
      refine mo_set hW rfl rfl rfl rfl rfl rfl rfl (fun σ1 hW1 => ?_)
      refine g_clV rfl rfl rfl rfl hW1.1.1 rfl rfl rfl ?_
      refine mo_columns hW1.1 hI hn ?_
      exact g_rt rfl rfl rfl (kyes σ1 (hg2.mp e1) hW1)
  | succ m ih =>
    intro f g x3 x4 hf hg hg2 h34
    refine g_get rfl rfl rfl hP.1 rfl ?_
    refine g_br rfl rfl rfl rfl rfl rfl (fun h1 => absurd h1 (by rw [hI]; exact nI_ge (by omega) (by omega))) (fun h1 => ?_)
    refine g_get rfl rfl rfl hP.1 rfl ?_
    refine mo_zld hP 3 rfl rfl rfl rfl (show f < 48 by omega) (by decide) rfl ?_
    have inn : ∀ h : Int32, (h = 0 ∨ h = 1) → (h = 1 ↔ A 3 f = 0) → ev_W (d + 1) mMo_ready (48, [some (.ref o), some (.int g), some (.int (nI f)), some (.int h), some (.int (nI 0))], []) σ Q := by
      intro h hh hh2
      refine mo_ready_in hP hI hn n 0 h (by omega) hh (fun r hr hr2 => ?_)
      have efull : r = 1 ↔ mo_full A n f := by
        rw [hr2, hh2]
        unfold mo_full
        constructor
        · rintro (q | ⟨w, -, q2, q3⟩)
          · exact Or.inl q
          · exact Or.inr ⟨w, q2, q3⟩
        · rintro (q | ⟨w, q2, q3⟩)
          · exact Or.inl q
          · exact Or.inr ⟨w, Nat.zero_le _, q2, q3⟩
      have nxt : ∀ b : Int32, (b = 0 ∨ b = 1) → (b = 1 ↔ g = 1 ∧ r = 1) → ev_W (d + 1) mMo_ready (97, [some (.ref o), some (.int g), some (.int (nI f)), some (.int r), some (.int (nI n))], [.int b]) σ Q := by
        intro b hb hb2
        refine ev_go 3 rfl ?_
        show ev_W (d + 1) mMo_ready (22, [some (.ref o), some (.int b), some (.int (nI f + 1)), some (.int r), some (.int (nI n))], []) σ Q
        rw [nI_1]
        refine ih (f + 1) b _ _ (by omega) hb ?_ rfl
        rw [hb2, hg2, efull]
        constructor
        · rintro ⟨⟨q1, q2⟩, q3⟩
          refine ⟨q1, fun q hq => ?_⟩
          rcases Nat.lt_succ_iff_lt_or_eq.mp hq with e | e
          · exact q2 q e
          · subst e; exact q3
        · rintro ⟨q1, q2⟩
          exact ⟨⟨q1, fun q hq => q2 q (by omega)⟩, q2 f (by omega)⟩
      refine g_br rfl rfl rfl rfl rfl rfl (fun h2 => ?_) (fun h2 => ?_)
      · refine ev_go 1 rfl ?_
        exact nxt 0 (Or.inl rfl) ⟨fun q => absurd q (by decide), fun q => by rw [h2] at q; exact absurd q.1 (by decide)⟩
      · have e1 : g = 1 := by
          rcases hg with q | q
          · exact absurd q h2
          · exact q
        refine g_br rfl rfl rfl rfl rfl rfl (fun h3 => ?_) (fun h3 => ?_)
        · refine ev_go 1 rfl ?_
          exact nxt 0 (Or.inl rfl) ⟨fun q => absurd q (by decide), fun q => by rw [h3] at q; exact absurd q.2 (by decide)⟩
        · have e2 : r = 1 := by
            rcases hr with q | q
            · exact absurd q h3
            · exact q
          refine ev_go 2 rfl ?_
          exact nxt 1 (Or.inr rfl) ⟨fun _ => ⟨e1, e2⟩, fun _ => rfl⟩
    refine g_br rfl rfl rfl rfl rfl rfl (fun h2 => ?_) (fun h2 => ?_)
    · refine ev_go 5 rfl ?_
      exact inn 1 (Or.inr rfl) ⟨fun _ => h2, fun _ => rfl⟩
    · refine ev_go 4 rfl ?_
      exact inn 0 (Or.inl rfl) ⟨fun q => absurd q (by decide), fun q => absurd q h2⟩
set_option maxRecDepth 100000 in
/-- ready() -/
theorem mo_ready {n : Nat} (hW : mo_W o A I σ0 σ) (hI : I 4 = nI n) (hn : n ≤ 48)
    (kno : ¬ ((I 5 = 0 ∧ 0 < n) ∧ ∀ f, f < n → mo_full A n f) → Q (some (.int (-1))) σ) (kyes : ∀ σ' : ri_S, ((I 5 = 0 ∧ 0 < n) ∧ ∀ f, f < n → mo_full A n f) → mo_W o A (va_up I 5 1) σ0 σ' → Q (some (.int (nI (mo_lv (A 3) n)))) σ') :
    ev_W (d + 1) mMo_ready (0, [some (.ref o), none, none, none, none], []) σ Q := by
  have hP := hW.1
  refine g_get rfl rfl rfl hP.1 rfl ?_
  have go : ∀ g : Int32, (g = 0 ∨ g = 1) → (g = 1 ↔ I 5 = 0 ∧ 0 < n) → ev_W (d + 1) mMo_ready (22, [some (.ref o), some (.int g), some (.int (nI 0)), none, none], []) σ Q := by
    intro g hg hg2
    refine mo_ready_out hW hI hn (I 5 = 0 ∧ 0 < n) kno kyes n 0 g none none (by omega) hg ?_ rfl
    rw [hg2]
    exact ⟨fun q => ⟨q, fun _ h => absurd h (Nat.not_lt_zero _)⟩, fun q => q.1⟩
  refine g_br rfl rfl rfl rfl rfl rfl (fun h1 => ?_) (fun h1 => ?_)
  · refine g_get rfl rfl rfl hP.1 rfl ?_
    refine g_br rfl rfl rfl rfl rfl rfl (fun h2 => ?_) (fun h2 => ?_)
    · refine ev_go 4 rfl ?_
      refine go 0 (Or.inl rfl) ⟨fun q => absurd q (by decide), fun q => ?_⟩
      rw [hI] at h2
      have := (mo_n0 (by omega)).mp h2
      omega
    · refine ev_go 5 rfl ?_
      refine go 1 (Or.inr rfl) ⟨fun _ => ⟨h1, ?_⟩, fun _ => rfl⟩
      rcases Nat.eq_zero_or_pos n with e | e
      · exact absurd (by rw [hI, e]; decide) h2
      · exact e
  · refine ev_go 4 rfl ?_
    exact go 0 (Or.inl rfl) ⟨fun q => absurd q (by decide), fun q => absurd q.1 h1⟩
end MO3
