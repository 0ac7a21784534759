/-! THE REFERENCE: assemble. -/
abbrev as_E : Type := Int32 × Int32
/-- the two rows hold the events l -/
def as_h (a b : Nat → Int32) (l : List as_E) : Prop := ∀ (κ : Nat) (en : as_E), l[κ]? = some en → a κ = en.1 ∧ b κ = en.2
theorem as_h.add {a b : Nat → Int32} {l : List as_E} (h : as_h a b l) (e x : Int32) : as_h (upd a l.length e) (upd b l.length x) (l ++ [(e, x)]) := by
  intro κ en hκ
  rcases Nat.lt_or_ge κ l.length with z | z
  · rw [List.getElem?_append_left z] at hκ
    rw [pk_un (by omega), pk_un (by omega)]
    exact h κ en hκ
  · rw [List.getElem?_append_right z] at hκ
    have hz : κ - l.length < 1 := (List.getElem?_eq_some_iff.mp hκ).1
    have e0 : κ = l.length := by omega
    subst e0
    rw [Nat.sub_self] at hκ
    cases hκ
    exact ⟨pk_us, pk_us⟩
/-- groups end, from the one that is open up to tg -/
def as_pp (ofs aro : Nat → Int32) (tg : Int32) : Nat → Int32 → List as_E
  | 0, _ => []
  | m + 1, i => if i = tg then [] else (2 * ofs i.toNatClampNeg + 1, 0) :: as_pp ofs aro tg m (aro i.toNatClampNeg)
/-- tg is reached so, in at most so many steps, over the first M occurrences -/
def as_rc (aro : Nat → Int32) (M : Nat) (tg : Int32) : Nat → Int32 → Prop
  | 0, i => i = tg
  | m + 1, i => i = tg ∨ ∃ q, q < M ∧ i = nI q ∧ as_rc aro M tg m (aro q)
/-- the events of the t occurrences from k on -/
def as_ev (ofs aro val G w : Nat → Int32) (m : Nat) : Nat → Nat → Int32 → List as_E
  | 0, _, i => as_pp ofs aro (-1) m i
  | t + 1, k, i => if w (ofs k).toNatClampNeg = 0 then as_ev ofs aro val G w m t (k + 1) i else as_pp ofs aro (aro k) m i ++ (2 * ofs k, val k) :: as_ev ofs aro val G w m t (k + 1) (if G (ofs k).toNatClampNeg = 0 then aro k else nI k)
/-- they can be told -/
def as_ok (ofs aro G w : Nat → Int32) (M m : Nat) : Nat → Nat → Int32 → Prop
  | 0, _, i => as_rc aro M (-1) m i
  | t + 1, k, i => (∃ f, f < 48 ∧ ofs k = nI f) ∧ (w (ofs k).toNatClampNeg = 0 → as_ok ofs aro G w M m t (k + 1) i) ∧ (¬ w (ofs k).toNatClampNeg = 0 → as_rc aro M (aro k) m i ∧ as_ok ofs aro G w M m t (k + 1) (if G (ofs k).toNatClampNeg = 0 then aro k else nI k))
theorem as_va {F : Nat → Nat → Int32} {a b a' b' : Nat → Int32} : va_up (va_up (va_up (va_up F 11 a) 12 b) 11 a') 12 b' = va_up (va_up F 11 a') 12 b' := by
  funext j
  unfold va_up
  by_cases h : j = 12
  · simp [h]
  · by_cases g : j = 11
    · simp [g]
    · simp [h, g]
section MO15
variable {d o : Nat} {A : Nat → Nat → Int32} {I : Nat → Int32} {σ0 : ri_S} {Q : Option Value → ri_S → Prop}
/-- the reference's world while it tells: l so far -/
def as_W (o : Nat) (A : Nat → Nat → Int32) (I : Nat → Int32) (l : List as_E) (σ0 σ : ri_S) : Prop := ∃ a b : Nat → Int32, as_h a b l ∧ mo_W o (va_up (va_up A 11 a) 12 b) (va_up I 23 (nI l.length)) σ0 σ
theorem as_tell {e x : Int32} {l : List as_E} {σ : ri_S} (hW : as_W o A I l σ0 σ) (hl : l.length < 4096) (kk : ∀ σ' : ri_S, as_W o A I (l ++ [(e, x)]) σ0 σ' → Q none σ') : ev_W d mMo_tells (0, [some (.ref o), some (.int e), some (.int x)], []) σ Q := by
  obtain ⟨a, b, h1, h2⟩ := hW
  refine mo_tells h2 rfl hl (fun σ' h' => kk σ' ⟨upd a l.length e, upd b l.length x, h1.add e x, ?_⟩)
  rw [as_va, bx_uu] at h'
  rw [List.length_append]
  exact h'
set_option maxRecDepth 100000 in
theorem as_pop1 {rc lo hi tg : Int32} {k M : Nat} (hM : M ≤ 2048) (hk : k < M) (htg : A 6 k = tg) : ∀ (m : Nat) (i : Int32) (l : List as_E) (σ : ri_S), as_rc (A 6) M tg m i → as_W o A I l σ0 σ → (l ++ as_pp (A 4) (A 6) tg m i).length ≤ 4096 →
    (∀ σ' : ri_S, as_W o A I (l ++ as_pp (A 4) (A 6) tg m i) σ0 σ' → ev_W (d + 1) mMo_assemble (107, [some (.ref o), some (.int rc), some (.int lo), some (.int hi), some (.int tg), some (.int (nI k))], []) σ' Q) → ev_W (d + 1) mMo_assemble (67, [some (.ref o), some (.int rc), some (.int lo), some (.int hi), some (.int i), some (.int (nI k))], []) σ Q := by
  intro m
  induction m with
  | zero =>
    intro i l σ hr hW hl kd
    obtain rfl : i = tg := hr
    obtain ⟨a, b, h1, h2⟩ := id hW
    refine g_get rfl rfl rfl h2.1.1 rfl ?_
    refine mo_ald h2.1 6 rfl rfl rfl rfl (show k < 2048 by omega) (by decide) rfl ?_
    refine g_br rfl rfl rfl rfl rfl rfl (fun h => ?_) (fun h => absurd htg.symm h)
    exact kd σ (by rw [show as_pp (A 4) (A 6) i 0 i = [] from rfl, List.append_nil]; exact hW)
  | succ m ih =>
    intro i l σ hr hW hl kd
    obtain ⟨a, b, h1, h2⟩ := id hW
    refine g_get rfl rfl rfl h2.1.1 rfl ?_
    refine mo_ald h2.1 6 rfl rfl rfl rfl (show k < 2048 by omega) (by decide) rfl ?_
    have eP : as_pp (A 4) (A 6) tg (m + 1) i = if i = tg then [] else (2 * A 4 i.toNatClampNeg + 1, 0) :: as_pp (A 4) (A 6) tg m (A 6 i.toNatClampNeg) := rfl
    rw [eP] at hl kd
    refine g_br rfl rfl rfl rfl rfl rfl (fun h => ?_) (fun h => ?_)
    · have e : i = tg := h.trans htg
      rw [if_pos e, List.append_nil] at kd
      subst e
      exact kd σ hW
    · have e : ¬ i = tg := fun z => h (z.trans htg.symm)
      rw [if_neg e] at hl kd
      obtain ⟨q, hq, rfl, hr2⟩ := hr.resolve_left e
      rw [nI_clamp (by omega)] at hl kd
      rw [List.length_append, List.length_cons] at hl
      refine g_get rfl rfl rfl h2.1.1 rfl ?_
      refine mo_ald h2.1 4 rfl rfl rfl rfl (show q < 2048 by omega) (by decide) rfl ?_
      refine g_clV rfl rfl rfl rfl h2.1.1 rfl rfl rfl ?_
      refine as_tell hW (by omega) (fun σ1 hW1 => ?_)
      obtain ⟨a1, b1, h3, h4⟩ := id hW1
      refine g_get rfl rfl rfl h4.1.1 rfl ?_
      refine mo_ald h4.1 6 rfl rfl rfl rfl (show q < 2048 by omega) (by decide) rfl ?_
      refine ev_go 2 rfl ?_
      refine ih (A 6 q) _ σ1 hr2 hW1 ?_ (fun σ2 hW2 => kd σ2 ?_)
      · rw [List.length_append, List.length_append]
        show l.length + 1 + _ ≤ _
        omega
      · rw [List.append_assoc] at hW2
        exact hW2
set_option maxRecDepth 100000 in
theorem as_pop2 {rc lo hi k : Int32} {M : Nat} (hM : M ≤ 2048) : ∀ (m : Nat) (i : Int32) (l : List as_E) (σ : ri_S), as_rc (A 6) M (-1) m i → as_W o A I l σ0 σ → (l ++ as_pp (A 4) (A 6) (-1) m i).length ≤ 4096 →
    (∀ σ' : ri_S, as_W o A I (l ++ as_pp (A 4) (A 6) (-1) m i) σ0 σ' → Q (some (.int (nI (l ++ as_pp (A 4) (A 6) (-1) m i).length))) σ') → ev_W (d + 1) mMo_assemble (157, [some (.ref o), some (.int rc), some (.int lo), some (.int hi), some (.int i), some (.int k)], []) σ Q := by
  intro m
  induction m with
  | zero =>
    intro i l σ hr hW hl kd
    obtain rfl : i = -1 := hr
    rw [show as_pp (A 4) (A 6) (-1) 0 (-1) = [] from rfl, List.append_nil] at kd
    obtain ⟨a, b, h1, h2⟩ := id hW
    refine g_br rfl rfl rfl rfl rfl rfl (fun h => ?_) (fun h => absurd rfl h)
    refine g_get rfl rfl rfl h2.1.1 rfl ?_
    exact g_rt rfl rfl rfl (kd σ hW)
  | succ m ih =>
    intro i l σ hr hW hl kd
    obtain ⟨a, b, h1, h2⟩ := id hW
    have eP : as_pp (A 4) (A 6) (-1) (m + 1) i = if i = -1 then [] else (2 * A 4 i.toNatClampNeg + 1, 0) :: as_pp (A 4) (A 6) (-1) m (A 6 i.toNatClampNeg) := rfl
    rw [eP] at hl kd
    refine g_br rfl rfl rfl rfl rfl rfl (fun h => ?_) (fun h => ?_)
    · rw [if_pos h, List.append_nil] at kd
      refine g_get rfl rfl rfl h2.1.1 rfl ?_
      exact g_rt rfl rfl rfl (kd σ hW)
    · rw [if_neg h] at hl kd
      obtain ⟨q, hq, rfl, hr2⟩ := hr.resolve_left h
      rw [nI_clamp (by omega)] at hl kd
      rw [List.length_append, List.length_cons] at hl
      refine g_get rfl rfl rfl h2.1.1 rfl ?_
      refine mo_ald h2.1 4 rfl rfl rfl rfl (show q < 2048 by omega) (by decide) rfl ?_
      refine g_clV rfl rfl rfl rfl h2.1.1 rfl rfl rfl ?_
      refine as_tell hW (by omega) (fun σ1 hW1 => ?_)
      obtain ⟨a1, b1, h3, h4⟩ := id hW1
      refine g_get rfl rfl rfl h4.1.1 rfl ?_
      refine mo_ald h4.1 6 rfl rfl rfl rfl (show q < 2048 by omega) (by decide) rfl ?_
      refine ev_go 2 rfl ?_
      refine ih (A 6 q) _ σ1 hr2 hW1 ?_ (fun σ2 hW2 => ?_)
      · rw [List.length_append, List.length_append]
        show l.length + 1 + _ ≤ _
        omega
      · rw [List.append_assoc] at hW2 ⊢
        exact kd σ2 hW2
set_option maxRecDepth 100000 in
set_option maxHeartbeats 1000000 in
theorem as_loop {rc lo hi : Int32} {M m e u : Nat} (hM : M ≤ 2048) (he : A 7 u = nI e) (heM : e ≤ M) (hu : u < 129) (hrc : rc + 1 = nI u) : ∀ (t k : Nat) (i : Int32) (l : List as_E) (σ : ri_S), k + t = e → as_ok (A 4) (A 6) (A 3) (A 10) M m t k i → as_W o A I l σ0 σ → (l ++ as_ev (A 4) (A 6) (A 5) (A 3) (A 10) m t k i).length ≤ 4096 →
    (∀ σ' : ri_S, as_W o A I (l ++ as_ev (A 4) (A 6) (A 5) (A 3) (A 10) m t k i) σ0 σ' → Q (some (.int (nI (l ++ as_ev (A 4) (A 6) (A 5) (A 3) (A 10) m t k i).length))) σ') → ev_W (d + 1) mMo_assemble (36, [some (.ref o), some (.int rc), some (.int lo), some (.int hi), some (.int i), some (.int (nI k))], []) σ Q := by
  intro t
  induction t with
  | zero =>
    intro k i l σ hk hok hW hl kd
    obtain ⟨a, b, h1, h2⟩ := id hW
    refine g_get rfl rfl rfl h2.1.1 rfl ?_
    refine mo_ald h2.1 7 rfl rfl rfl hrc hu (by decide) rfl ?_
    refine g_br rfl rfl rfl rfl rfl rfl (fun h => ?_) (fun h => absurd (by show A 7 u ≤ _; rw [he]; exact nI_le (by omega) (by omega)) h)
    exact as_pop2 hM m i l σ hok hW hl kd
  | succ t ih =>
    intro k i l σ hk hok hW hl kd
    obtain ⟨⟨f, hf, ef⟩, ok0, ok1⟩ := hok
    have hf31 : f < 2 ^ 31 := by omega
    obtain ⟨a, b, h1, h2⟩ := id hW
    refine g_get rfl rfl rfl h2.1.1 rfl ?_
    refine mo_ald h2.1 7 rfl rfl rfl hrc hu (by decide) rfl ?_
    refine g_br rfl rfl rfl rfl rfl rfl (fun h => absurd h (by show ¬ A 7 u ≤ _; rw [he]; exact nI_ge (by omega) (by omega))) (fun h => ?_)
    refine g_get rfl rfl rfl h2.1.1 rfl ?_
    refine g_get rfl rfl rfl h2.1.1 rfl ?_
    refine mo_ald h2.1 4 rfl rfl rfl rfl (show k < 2048 by omega) (by decide) rfl ?_
    refine mo_zld h2.1 10 rfl rfl rfl (i := f) ef hf (by decide) rfl ?_
    have eE : as_ev (A 4) (A 6) (A 5) (A 3) (A 10) m (t + 1) k i = if A 10 (A 4 k).toNatClampNeg = 0 then as_ev (A 4) (A 6) (A 5) (A 3) (A 10) m t (k + 1) i else as_pp (A 4) (A 6) (A 6 k) m i ++ (2 * A 4 k, A 5 k) :: as_ev (A 4) (A 6) (A 5) (A 3) (A 10) m t (k + 1) (if A 3 (A 4 k).toNatClampNeg = 0 then A 6 k else nI k) := rfl
    rw [eE, ef, nI_clamp hf31] at hl kd
    rw [ef, nI_clamp hf31] at ok0 ok1
    have nxt : ∀ (i' : Int32) (l' : List as_E) (σ' : ri_S), as_ok (A 4) (A 6) (A 3) (A 10) M m t (k + 1) i' → as_W o A I l' σ0 σ' → (l' ++ as_ev (A 4) (A 6) (A 5) (A 3) (A 10) m t (k + 1) i').length ≤ 4096 → (∀ σ2 : ri_S, as_W o A I (l' ++ as_ev (A 4) (A 6) (A 5) (A 3) (A 10) m t (k + 1) i') σ0 σ2 → Q (some (.int (nI (l' ++ as_ev (A 4) (A 6) (A 5) (A 3) (A 10) m t (k + 1) i').length))) σ2) → ev_W (d + 1) mMo_assemble (151, [some (.ref o), some (.int rc), some (.int lo), some (.int hi), some (.int i'), some (.int (nI k))], []) σ' Q := by
      intro i' l' σ' q1 q2 q3 q4
      refine ev_go 2 rfl ?_
      show ev_W (d + 1) mMo_assemble (36, [some (.ref o), some (.int rc), some (.int lo), some (.int hi), some (.int i'), some (.int (nI k + 1))], []) σ' Q
      rw [nI_1]
      exact ih (k + 1) i' l' σ' (by omega) q1 q2 q3 q4
    refine g_br rfl rfl rfl rfl rfl rfl (fun h3 => ?_) (fun h3 => ?_)
    · have h3' : A 10 f = 0 := h3
      rw [if_pos h3'] at hl kd
      refine ev_go 1 rfl ?_
      exact nxt i l σ (ok0 h3') hW hl kd
    · have h3' : ¬ A 10 f = 0 := h3
      rw [if_neg h3'] at hl kd
      obtain ⟨hr, hok2⟩ := ok1 h3'
      rw [List.length_append, List.length_append, List.length_cons] at hl
      refine as_pop1 (M := M) (tg := A 6 k) hM (by omega) rfl m i l σ hr hW (by rw [List.length_append]; omega) (fun σ1 hW1 => ?_)
      obtain ⟨a1, b1, h4, h5⟩ := id hW1
      refine g_get rfl rfl rfl h5.1.1 rfl ?_
      refine mo_ald h5.1 4 rfl rfl rfl rfl (show k < 2048 by omega) (by decide) rfl ?_
      refine g_get rfl rfl rfl h5.1.1 rfl ?_
      refine mo_ald h5.1 5 rfl rfl rfl rfl (show k < 2048 by omega) (by decide) rfl ?_
      refine g_clV rfl rfl rfl rfl h5.1.1 rfl rfl rfl ?_
      refine as_tell hW1 (by rw [List.length_append]; omega) (fun σ2 hW2 => ?_)
      obtain ⟨a2, b2, h6, h7⟩ := id hW2
      refine g_get rfl rfl rfl h7.1.1 rfl ?_
      refine g_get rfl rfl rfl h7.1.1 rfl ?_
      refine mo_ald h7.1 4 rfl rfl rfl rfl (show k < 2048 by omega) (by decide) rfl ?_
      refine mo_zld h7.1 3 rfl rfl rfl (i := f) ef hf (by decide) rfl ?_
      have eapp : ∀ X : List as_E, l ++ (as_pp (A 4) (A 6) (A 6 k) m i ++ (2 * nI f, A 5 k) :: X) = (l ++ as_pp (A 4) (A 6) (A 6 k) m i ++ [(2 * nI f, A 5 k)]) ++ X := fun X => by simp [List.append_assoc]
      have hW3 : as_W o A I (l ++ as_pp (A 4) (A 6) (A 6 k) m i ++ [(2 * nI f, A 5 k)]) σ0 σ2 := by
        have := hW2
        rw [show (va_up (va_up A 11 a1) 12 b1 4 k) = A 4 k from rfl, ef] at this
        exact this
      have hlen : ∀ X : List as_E, (l ++ as_pp (A 4) (A 6) (A 6 k) m i ++ [(2 * nI f, A 5 k)] ++ X).length = l.length + ((as_pp (A 4) (A 6) (A 6 k) m i).length + (X.length + 1)) := fun X => by simp [List.length_append]
      refine g_br rfl rfl rfl rfl rfl rfl (fun h8 => ?_) (fun h8 => ?_)
      · have h8' : A 3 f = 0 := h8
        rw [if_pos h8'] at hl kd hok2
        refine ev_go 2 rfl ?_
        refine nxt (A 6 k) _ σ2 hok2 hW3 (by rw [hlen]; exact hl) (fun σ3 hW4 => ?_)
        rw [← eapp] at hW4 ⊢
        exact kd σ3 hW4
      · have h8' : ¬ A 3 f = 0 := h8
        rw [if_neg h8'] at hl kd hok2
        refine ev_go 3 rfl ?_
        refine nxt (nI k) _ σ2 hok2 hW3 (by rw [hlen]; exact hl) (fun σ3 hW4 => ?_)
        rw [← eapp] at hW4 ⊢
        exact kd σ3 hW4
set_option maxRecDepth 100000 in
set_option maxHeartbeats 1000000 in
/-- assemble(record, low, high) -/
theorem mo_assemble {rc lo hi : Int32} {n N M m : Nat} {B : Nat → Nat} {σ : ri_S} (hW : mo_W o A I σ0 σ) (hI : I 4 = nI n) (hn : n ≤ 48) (hup : mo_up (A 0) n) (hN : I 11 = nI N) (hN2 : N ≤ 128) (hB : ∀ r, r ≤ N → A 7 r = nI (B r) ∧ B r ≤ M) (hM : M ≤ 2048) (hmono : ∀ r, r < N → B r ≤ B (r + 1))
    (hok : ∀ r w, r < N → w = mo_wd (A 0) (A 3) lo hi n (mo_z (A 10) n) n → as_ok (A 4) (A 6) (A 3) w M m (B (r + 1) - B r) (B r) (-1) ∧ (as_ev (A 4) (A 6) (A 5) (A 3) w m (B (r + 1) - B r) (B r) (-1)).length ≤ 4096)
    (kno : (rc < 0 ∨ nI N ≤ rc) → ∀ σ' : ri_S, mo_W o A (va_up I 23 0) σ0 σ' → Q (some (.int (-1))) σ')
    (kyes : ∀ (r : Nat) (w a b : Nat → Int32) (L : List as_E) (σ' : ri_S), r < N → rc = nI r → w = mo_wd (A 0) (A 3) lo hi n (mo_z (A 10) n) n → L = as_ev (A 4) (A 6) (A 5) (A 3) w m (B (r + 1) - B r) (B r) (-1) → as_h a b L → L.length ≤ 4096 → mo_W o (va_up (va_up (va_up A 10 w) 11 a) 12 b) (va_up I 23 (nI L.length)) σ0 σ' → Q (some (.int (nI L.length))) σ') :
    ev_W (d + 2) mMo_assemble (0, [some (.ref o), some (.int rc), some (.int lo), some (.int hi), none, none], []) σ Q := by
  refine mo_set hW rfl rfl rfl rfl rfl rfl rfl (fun σ1 hW1 => ?_)
  refine g_br rfl rfl rfl rfl rfl rfl (fun h1 => ?_) (fun h1 => ?_)
  · exact g_rt rfl rfl rfl (kno (Or.inl h1) σ1 hW1)
  refine g_get rfl rfl rfl hW1.1.1 rfl ?_
  refine g_br rfl rfl rfl rfl rfl rfl (fun h2 => ?_) (fun h2 => ?_)
  rotate_left
  · exact g_rt rfl rfl rfl (kno (Or.inr (by rw [← hN]; exact Int32.not_lt.mp h2)) σ1 hW1)
  obtain ⟨r, hr31, er⟩ := nI_of h1
  have hrN : r < N := by
    have h3 : rc < I 11 := h2
    rw [hN, er] at h3
    exact (nI_ltI hr31 (by omega)).mp h3
  subst er
  refine g_clV rfl rfl rfl rfl hW1.1.1 rfl rfl rfl ?_
  refine mo_wants hW1 hI hn hup (fun σ2 hW2 => ?_)
  generalize hw : mo_wd (A 0) (A 3) lo hi n (mo_z (A 10) n) n = w at hW2
  obtain ⟨hok1, hok2⟩ := hok r w hrN hw.symm
  refine g_get rfl rfl rfl hW2.1.1 rfl ?_
  refine mo_ald hW2.1 7 rfl rfl rfl rfl (show r < 129 by omega) (by decide) rfl ?_
  refine ev_go 1 rfl ?_
  have eb : va_up A 10 w 7 r = nI (B r) := (hB r (by omega)).1
  show ev_W (d + 2) mMo_assemble (36, [some (.ref o), some (.int (nI r)), some (.int lo), some (.int hi), some (.int (-1)), some (.int (va_up A 10 w 7 r))], []) σ2 Q
  rw [eb]
  have hA : va_up (va_up (va_up A 10 w) 11 (A 11)) 12 (A 12) = va_up A 10 w := by
    funext j
    unfold va_up
    by_cases z : j = 12
    · simp [z]
    · by_cases z2 : j = 11
      · simp [z2]
      · simp [z, z2]
  refine as_loop (A := va_up A 10 w) (I := I) (M := M) (m := m) (e := B (r + 1)) (u := r + 1) hM (hB (r + 1) (by omega)).1 (hB (r + 1) (by omega)).2 (by omega) (nI_1 r) (B (r + 1) - B r) (B r) (-1) [] σ2 (by have := hmono r hrN; omega) hok1 ⟨A 11, A 12, fun κ en hκ => by simp at hκ, by rw [hA]; exact hW2⟩ hok2 (fun σ3 hW3 => ?_)
  obtain ⟨a, b, h5, h6⟩ := hW3
  exact kyes r w a b _ σ3 hrN rfl hw.symm rfl h5 hok2 h6
end MO15
