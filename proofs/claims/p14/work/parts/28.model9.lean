/-! THE REFERENCE: deeper, goesTo. -/
section MO9
variable {d o : Nat} {A : Nat → Nat → Int32} {I : Nat → Int32} {σ0 σ : ri_S} {Q : Option Value → ri_S → Prop}
set_option maxRecDepth 100000 in
theorem mo_deeper_loop {rc fr : Int32} {u e s : Nat} (hs : I 16 = nI s) (hs2 : s ≤ 16) (hrc : rc + 1 = nI u) (hu : u < 129) (he : A 7 u = nI e) (he2 : e ≤ 2048) : ∀ (t i : Nat) (at_ : Nat → Int32) (σ : ri_S), i + 1 + t = s → (∃ p, p < e ∧ at_ i = nI p) → mo_W o (va_up A 9 at_) I σ0 σ →
    (∀ σ' : ri_S, mo_W o (va_up A 9 (mo_dp (A 4) (A 6) (A 8) e t at_ i).1) I σ0 σ' → Q (some (.int (nI (mo_dp (A 4) (A 6) (A 8) e t at_ i).2))) σ') → ev_W (d + 1) mMo_deeper (2, [some (.ref o), some (.int rc), some (.int fr), some (.int (nI i))], []) σ Q := by
  intro t
  induction t with
  | zero =>
    intro i at_ σ hi hp hW kk
    have e1 : nI i + 1 = nI s := by rw [nI_1, show i + 1 = s by omega]
    refine g_get rfl rfl rfl hW.1.1 rfl ?_
    refine g_br rfl rfl rfl rfl rfl rfl (fun h1 => ?_) (fun h1 => absurd (by rw [hs, e1]; exact nI_le (Nat.le_refl _) (by omega)) h1)
    exact g_rt rfl rfl rfl (kk σ hW)
  | succ t ih =>
    intro i at_ σ hi hp hW kk
    obtain ⟨p, hp, ep⟩ := hp
    have hp31 : p < 2 ^ 31 := by omega
    refine g_get rfl rfl rfl hW.1.1 rfl ?_
    refine g_br rfl rfl rfl rfl rfl rfl (fun h1 => absurd h1 (by rw [hs, nI_1]; exact nI_ge (by omega) (by omega))) (fun h1 => ?_)
    refine g_get rfl rfl rfl hW.1.1 rfl ?_
    refine g_get rfl rfl rfl hW.1.1 rfl ?_
    refine mo_ald hW.1 9 rfl rfl rfl rfl (show i < 17 by omega) (by decide) rfl ?_
    refine g_clV rfl rfl rfl rfl hW.1.1 rfl rfl rfl ?_
    have ex : (va_up A 9 at_ 9 i) + 1 = nI (p + 1) := by show at_ i + 1 = _; rw [ep]; exact nI_1 p
    refine mo_next (e := e) hW.1 hrc hu he he2 (nI_1 i) (show i + 1 < 17 by omega) ex (by omega) ?_
    unfold mo_dp at kk
    rw [ep, nI_clamp hp31] at kk
    have ein : mo_ins (va_up A 9 at_ 9) (i + 1) = nI p := ep
    rw [ein]
    show ev_W (d + 1) mMo_deeper (35, [some (.ref o), some (.int rc), some (.int fr), some (.int (nI i))], [.int (mo_nx (A 4) (A 6) (A 8 (i + 1)) (nI p) (e - (p + 1)) (p + 1)), .int (nI i + 1), .ref (o + 10)]) σ Q
    have hor := mo_nx_or (A 4) (A 6) (A 8 (i + 1)) (nI p) (e - (p + 1)) (p + 1)
    generalize mo_nx (A 4) (A 6) (A 8 (i + 1)) (nI p) (e - (p + 1)) (p + 1) = x at kk hor ⊢
    refine mo_ast hW 9 rfl rfl rfl (nI_1 i) (show i + 1 < 17 by omega) (by decide) rfl (fun σ1 hW1 => ?_)
    rw [bx_uu] at hW1
    change mo_W o (va_up A 9 (upd at_ (i + 1) x)) I σ0 σ1 at hW1
    refine g_get rfl rfl rfl hW1.1.1 rfl ?_
    refine mo_ald hW1.1 9 rfl rfl rfl (nI_1 i) (show i + 1 < 17 by omega) (by decide) rfl ?_
    have ev : va_up A 9 (upd at_ (i + 1) x) 9 (i + 1) = x := pk_us
    rw [ev]
    refine g_br rfl rfl rfl rfl rfl rfl (fun h2 => ?_) (fun h2 => ?_)
    · rw [if_pos h2] at kk
      refine g_rt rfl rfl rfl (kk σ1 ?_)
      rw [h2] at hW1
      exact hW1
    · rw [if_neg h2] at kk
      refine ev_go 2 rfl ?_
      show ev_W (d + 1) mMo_deeper (2, [some (.ref o), some (.int rc), some (.int fr), some (.int (nI i + 1))], []) σ1 Q
      rw [nI_1]
      refine ih (i + 1) _ σ1 (by omega) ?_ hW1 kk
      rcases hor with z | ⟨q, q1, q2, q3, -⟩
      · exact absurd z h2
      · exact ⟨q, by omega, pk_us.trans q3⟩
set_option maxRecDepth 100000 in
/-- deeper(record, from) -/
theorem mo_deeper {rc fr : Int32} {u e s i : Nat} {at_ : Nat → Int32} (hW : mo_W o (va_up A 9 at_) I σ0 σ) (hs : I 16 = nI s) (hs2 : s ≤ 16) (hrc : rc + 1 = nI u) (hu : u < 129) (he : A 7 u = nI e) (he2 : e ≤ 2048) (hf : fr = nI i) (hi : i < s) (hp : ∃ p, p < e ∧ at_ i = nI p)
    (kk : ∀ σ' : ri_S, mo_W o (va_up A 9 (mo_dp (A 4) (A 6) (A 8) e (s - 1 - i) at_ i).1) I σ0 σ' → Q (some (.int (nI (mo_dp (A 4) (A 6) (A 8) e (s - 1 - i) at_ i).2))) σ') : ev_W (d + 1) mMo_deeper (0, [some (.ref o), some (.int rc), some (.int fr), none], []) σ Q := by
  subst hf
  refine ev_go 2 rfl ?_
  exact mo_deeper_loop hs hs2 hrc hu he he2 (s - 1 - i) i at_ σ (by omega) hp hW kk
/-- the leaf of a column among the first n -/
def mo_lf (G : Nat → Int32) (c : Int32) : Nat → Int32
  | 0 => -1
  | f + 1 => if 0 ≤ c ∧ (if G f = 0 then nI (mo_lv G f) else -1) = c then nI f else mo_lf G c f
theorem mo_lf_or (G : Nat → Int32) (c : Int32) : ∀ n, mo_lf G c n = -1 ∨ ∃ f, f < n ∧ mo_lf G c n = nI f ∧ G f = 0 ∧ c = nI (mo_lv G f)
  | 0 => Or.inl rfl
  | n + 1 => by
    unfold mo_lf
    by_cases h : 0 ≤ c ∧ (if G n = 0 then nI (mo_lv G n) else -1) = c
    · rw [if_pos h]
      by_cases g : G n = 0
      · rw [if_pos g] at h
        exact Or.inr ⟨n, Nat.lt_succ_self n, rfl, g, h.2.symm⟩
      · rw [if_neg g] at h
        rw [← h.2] at h
        exact absurd h.1 (by decide)
    · rw [if_neg h]
      rcases mo_lf_or G c n with q | ⟨f, q1, q2⟩
      · exact Or.inl q
      · exact Or.inr ⟨f, by omega, q2⟩
/-- the way to a leaf, filled from its end -/
def mo_wy (par : Nat → Int32) : Nat → Int32 → (Nat → Int32) → (Nat → Int32)
  | 0, _, w => w
  | t + 1, f, w => mo_wy par t (par f.toNatClampNeg) (upd w t f)
/-- depths: one more than the parent's, at most 16 -/
def mo_de (par dep : Nat → Int32) (n : Nat) : Prop := ∀ f, f < n → ∃ k, k < 16 ∧ dep f = nI (k + 1) ∧ (par f = -1 ∧ k = 0 ∨ ∃ p, p < f ∧ par f = nI p ∧ 0 < k ∧ dep p = nI k)
set_option maxRecDepth 100000 in
theorem mo_goesTo_way {c lf : Int32} {n : Nat} (hn : n ≤ 48) (hde : mo_de (A 0) (A 2) n) : ∀ (t : Nat) (f : Int32) (w : Nat → Int32) (σ : ri_S), (t = 0 ∨ ∃ q, q < n ∧ f = nI q ∧ A 2 q = nI t) → t ≤ 16 → mo_W o (va_up A 8 w) I σ0 σ →
    (∀ σ' : ri_S, mo_W o (va_up A 8 (mo_wy (A 0) t f w)) I σ0 σ' → Q (some (.int 1)) σ') → ev_W d mMo_goesTo (71, [some (.ref o), some (.int c), some (.int lf), some (.int f), some (.int (nI t - 1))], []) σ Q := by
  intro t
  induction t with
  | zero =>
    intro f w σ hf ht hW kk
    refine g_br rfl rfl rfl rfl rfl rfl (fun h1 => ?_) (fun h1 => absurd (by decide) h1)
    exact g_rt rfl rfl rfl (kk σ hW)
  | succ t ih =>
    intro f w σ hf ht hW kk
    obtain ⟨q, hq, e, eq⟩ : ∃ q, q < n ∧ f = nI q ∧ A 2 q = nI (t + 1) := by
      rcases hf with z | z
      · exact absurd z (Nat.succ_ne_zero t)
      · exact z
    subst e
    rw [nI_pred t]
    refine g_br rfl rfl rfl rfl rfl rfl (fun h1 => absurd h1 (nI_pos (by omega))) (fun h1 => ?_)
    refine g_get rfl rfl rfl hW.1.1 rfl ?_
    refine mo_ast hW 8 rfl rfl rfl rfl (show t < 17 by omega) (by decide) rfl (fun σ1 hW1 => ?_)
    rw [bx_uu] at hW1
    change mo_W o (va_up A 8 (upd w t (nI q))) I σ0 σ1 at hW1
    refine g_get rfl rfl rfl hW1.1.1 rfl ?_
    refine mo_ald hW1.1 0 rfl rfl rfl rfl (show q < 48 by omega) (by decide) rfl ?_
    refine ev_go 3 rfl ?_
    show ev_W d mMo_goesTo (71, [some (.ref o), some (.int c), some (.int lf), some (.int (A 0 q)), some (.int (nI t + -1))], []) σ1 Q
    rw [show nI t + -1 = nI t - 1 from (Int32.sub_eq_add_neg _ _).symm]
    refine ih (A 0 q) _ σ1 ?_ (by omega) hW1 (fun σ' h' => kk σ' ?_)
    · obtain ⟨k, k1, k2, k3⟩ := hde q hq
      have ek : k = t := by
        have := (nI_eq (by omega) (by omega)).mp (k2.symm.trans eq)
        omega
      subst ek
      rcases k3 with ⟨-, z⟩ | ⟨p, z1, z2, z3, z4⟩
      · exact Or.inl z
      · exact Or.inr ⟨p, by omega, z2, z4⟩
    · have ew : mo_wy (A 0) (t + 1) (nI q) w = mo_wy (A 0) t (A 0 q) (upd w t (nI q)) := by
        show mo_wy (A 0) t (A 0 (nI q).toNatClampNeg) _ = _
        rw [nI_clamp (by omega)]
      rw [ew]
      exact h'
set_option maxRecDepth 100000 in
theorem mo_goesTo_leaf {c : Int32} {n : Nat} (hP : mo_P o A I σ.1) (hI : I 4 = nI n) (hn : n ≤ 48) (hrd : ¬ I 5 = 0) (kk : ev_W (d + 1) mMo_goesTo (44, [some (.ref o), some (.int c), some (.int (mo_lf (A 3) c n)), some (.int (nI n)), none], []) σ Q) : ∀ (t i : Nat), i + t = n → ev_W (d + 1) mMo_goesTo (4, [some (.ref o), some (.int c), some (.int (mo_lf (A 3) c i)), some (.int (nI i)), none], []) σ Q := by
  intro t
  induction t with
  | zero =>
    intro i hi
    obtain rfl : i = n := by omega
    refine g_get rfl rfl rfl hP.1 rfl ?_
    refine g_br rfl rfl rfl rfl rfl rfl (fun h1 => ?_) (fun h1 => absurd (by rw [hI]; exact nI_le (Nat.le_refl _) (by omega)) h1)
    exact kk
  | succ t ih =>
    intro i hi
    refine g_get rfl rfl rfl hP.1 rfl ?_
    refine g_br rfl rfl rfl rfl rfl rfl (fun h1 => absurd h1 (by rw [hI]; exact nI_ge (by omega) (by omega))) (fun h1 => ?_)
    refine g_get rfl rfl rfl hP.1 rfl ?_
    refine g_br rfl rfl rfl rfl rfl rfl (fun h2 => absurd h2 hrd) (fun h2 => ?_)
    have on : ∀ y : Int32, y = mo_lf (A 3) c (i + 1) → ev_W (d + 1) mMo_goesTo (37, [some (.ref o), some (.int c), some (.int (mo_lf (A 3) c i)), some (.int (nI i)), none], [.int y]) σ Q := by
      intro y hy
      subst hy
      refine ev_go 3 rfl ?_
      show ev_W (d + 1) mMo_goesTo (4, [some (.ref o), some (.int c), some (.int (mo_lf (A 3) c (i + 1))), some (.int (nI i + 1)), none], []) σ Q
      rw [nI_1]
      exact ih (i + 1) (by omega)
    have ecase : mo_lf (A 3) c (i + 1) = if 0 ≤ c ∧ (if A 3 i = 0 then nI (mo_lv (A 3) i) else -1) = c then nI i else mo_lf (A 3) c i := rfl
    refine g_br rfl rfl rfl rfl rfl rfl (fun h3 => ?_) (fun h3 => ?_)
    · refine ev_go 1 rfl ?_
      exact on _ (by rw [ecase, if_neg (fun z => absurd h3 (Int32.not_lt.mpr z.1))])
    · refine g_clV rfl rfl rfl rfl hP.1 rfl rfl rfl ?_
      refine mo_columnOf hP rfl (show i < 48 by omega) ?_
      refine g_br rfl rfl rfl rfl rfl rfl (fun h4 => ?_) (fun h4 => ?_)
      · refine ev_go 2 rfl ?_
        exact on _ (by rw [ecase, if_pos ⟨Int32.not_lt.mp h3, h4⟩])
      · refine ev_go 1 rfl ?_
        exact on _ (by rw [ecase, if_neg (fun z => h4 z.2)])
set_option maxRecDepth 100000 in
/-- goesTo(column) -/
theorem mo_goesTo {c : Int32} {n : Nat} (hW : mo_W o A I σ0 σ) (hI : I 4 = nI n) (hn : n ≤ 48) (hde : mo_de (A 0) (A 2) n)
    (kno : (I 5 = 0 ∨ mo_lf (A 3) c n = -1) → Q (some (.int 0)) σ)
    (kyes : ∀ (σ' : ri_S) (f k : Nat), ¬ I 5 = 0 → f < n → mo_lf (A 3) c n = nI f → A 2 f = nI k → 0 < k → k ≤ 16 → mo_W o (va_up A 8 (mo_wy (A 0) k (nI f) (A 8))) (va_up I 16 (nI k)) σ0 σ' → Q (some (.int 1)) σ') :
    ev_W (d + 1) mMo_goesTo (0, [some (.ref o), some (.int c), none, none, none], []) σ Q := by
  have hP := hW.1
  by_cases hrd : I 5 = 0
  · refine g_get rfl rfl rfl hP.1 rfl ?_
    have out : ∀ x3 : Int32, ev_W (d + 1) mMo_goesTo (44, [some (.ref o), some (.int c), some (.int (-1)), some (.int x3), none], []) σ Q := by
      intro x3
      refine g_br rfl rfl rfl rfl rfl rfl (fun h1 => ?_) (fun h1 => absurd rfl h1)
      exact g_rt rfl rfl rfl (kno (Or.inl hrd))
    refine g_br rfl rfl rfl rfl rfl rfl (fun h1 => ?_) (fun h1 => ?_)
    · exact out 0
    · refine g_get rfl rfl rfl hP.1 rfl ?_
      refine g_br rfl rfl rfl rfl rfl rfl (fun h2 => ?_) (fun h2 => absurd hrd h2)
      exact out 0
  · refine ev_go 4 rfl ?_
    refine mo_goesTo_leaf hP hI hn hrd ?_ n 0 (by omega)
    refine g_br rfl rfl rfl rfl rfl rfl (fun h1 => ?_) (fun h1 => ?_)
    · exact g_rt rfl rfl rfl (kno (Or.inr h1))
    · obtain ⟨f, hf, ef, -⟩ : ∃ f, f < n ∧ mo_lf (A 3) c n = nI f ∧ True := by
        rcases mo_lf_or (A 3) c n with z | ⟨f, z1, z2, -⟩
        · exact absurd z h1
        · exact ⟨f, z1, z2, trivial⟩
      obtain ⟨k, k1, k2, -⟩ := hde f hf
      refine g_get rfl rfl rfl hP.1 rfl ?_
      refine mo_ald hP 2 rfl rfl rfl ef (show f < 48 by omega) (by decide) rfl ?_
      rw [k2]
      refine mo_set hW rfl rfl rfl rfl rfl rfl rfl (fun σ1 hW1 => ?_)
      refine g_get rfl rfl rfl hW1.1.1 rfl ?_
      refine ev_go 3 rfl ?_
      show ev_W (d + 1) mMo_goesTo (71, [some (.ref o), some (.int c), some (.int (mo_lf (A 3) c n)), some (.int (mo_lf (A 3) c n)), some (.int (nI (k + 1) - 1))], []) σ1 Q
      have hA : va_up A 8 (A 8) = A := by
        funext j
        unfold va_up
        by_cases z : j = 8
        · rw [if_pos z, z]
        · rw [if_neg z]
      refine mo_goesTo_way hn hde (k + 1) _ (A 8) σ1 (Or.inr ⟨f, hf, ef, k2⟩) (by omega) (by rw [hA]; exact hW1) (fun σ' h' => ?_)
      refine kyes σ' f (k + 1) hrd hf ef k2 (by omega) (by omega) ?_
      rw [ef] at h'
      exact h'
end MO9
