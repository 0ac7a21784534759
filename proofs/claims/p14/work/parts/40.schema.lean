/-! SCHEMA: its object at o, seven rows of ints and one of longs behind it. sc_P o A S I: row k holds A k (0 parents, 1 kinds, 2 depths, 3 repetitions, 4 definitions, 5 columnNumbers, 6 ends), the longs S; I 8 size, I 9 leaves, I 10 settled. (Written by gen40.py.) -/
def sc_fs (o : Nat) (I : Nat → Int32) : List Value := [.ref (o + 1), .ref (o + 2), .ref (o + 3), .ref (o + 4), .ref (o + 5), .ref (o + 6), .ref (o + 7), .ref (o + 8), .int (I 8), .int (I 9), .int (I 10)]
def sc_P (o : Nat) (A : Nat → Nat → Int32) (S : Nat → Int64) (I : Nat → Int32) (h : Nat → Option ri_E) : Prop := h o = some (.inr (3, sc_fs o I)) ∧ (∀ k, k < 7 → h (o + 1 + k) = some (.inl (.int, 48, .inl (A k)))) ∧ h (o + 8) = some (.inl (.long, 48, .inr (.inl S)))
/-- Schema's world since σ0: nothing else has changed, nothing was made -/
def sc_W (o : Nat) (A : Nat → Nat → Int32) (S : Nat → Int64) (I : Nat → Int32) (σ0 σ : ri_S) : Prop := sc_P o A S I σ.1 ∧ (∀ a, (a < o ∨ o + 9 ≤ a) → σ.1 a = σ0.1 a) ∧ σ.2 = σ0.2
theorem sc_P.a {o : Nat} {A : Nat → Nat → Int32} {S : Nat → Int64} {I : Nat → Int32} {h : Nat → Option ri_E} (hP : sc_P o A S I h) (k : Nat) (hk : k < 7) {q : Nat} (hq : q = o + 1 + k) : h q = some (.inl (.int, 48, .inl (A k))) := by
  rw [hq]; exact hP.2.1 k hk
theorem sc_W.put {o : Nat} {A : Nat → Nat → Int32} {S : Nat → Int64} {I : Nat → Int32} {σ0 σ : ri_S} (hW : sc_W o A S I σ0 σ) (j : Nat) (v : Int32) (hj : (sc_fs o I).set j (.int v) = sc_fs o (va_up I j v)) : sc_W o A S (va_up I j v) σ0 (ri_up σ.1 o (.inr (3, (sc_fs o I).set j (.int v))), σ.2) := by
  obtain ⟨⟨h1, h2, h5⟩, h3, h4⟩ := hW
  refine ⟨⟨?_, fun k hk => ?_, ?_⟩, fun a ha => ?_, h4⟩
  · exact ri_up_s.trans (by rw [hj])
  · exact (ri_up_n (by omega)).trans (h2 k hk)
  · exact (ri_up_n (by omega)).trans h5
  · exact (ri_up_n (by omega)).trans (h3 a ha)
theorem sc_W.set {o : Nat} {A : Nat → Nat → Int32} {S : Nat → Int64} {I : Nat → Int32} {σ0 σ : ri_S} (hW : sc_W o A S I σ0 σ) (k : Nat) (hk : k < 7) (f : Nat → Int32) {q : Nat} (hq : q = o + 1 + k) : sc_W o (va_up A k f) S I σ0 (ri_up σ.1 q (.inl (.int, 48, .inl f)), σ.2) := by
  obtain ⟨⟨h1, h2, h5⟩, h3, h4⟩ := hW
  subst hq
  refine ⟨⟨(ri_up_n (by omega)).trans h1, fun j hj => ?_, (ri_up_n (by omega)).trans h5⟩, fun a ha => (ri_up_n (by omega)).trans (h3 a ha), h4⟩
  show ri_up σ.1 _ _ (o + 1 + j) = _
  unfold va_up
  by_cases e : j = k
  · subst e
    rw [ri_up_s, if_pos rfl]
  · rw [ri_up_n (by omega), if_neg e]
    exact h2 j hj
theorem sc_W.setL {o : Nat} {A : Nat → Nat → Int32} {S : Nat → Int64} {I : Nat → Int32} {σ0 σ : ri_S} (hW : sc_W o A S I σ0 σ) (f : Nat → Int64) : sc_W o A f I σ0 (ri_up σ.1 (o + 8) (.inl (.long, 48, .inr (.inl f))), σ.2) := by
  obtain ⟨⟨h1, h2, h5⟩, h3, h4⟩ := hW
  exact ⟨⟨(ri_up_n (by omega)).trans h1, fun j hj => (ri_up_n (by omega)).trans (h2 j hj), ri_up_s⟩, fun a ha => (ri_up_n (by omega)).trans (h3 a ha), h4⟩
section SC0
variable {d o : Nat} {A : Nat → Nat → Int32} {S : Nat → Int64} {I : Nat → Int32} {σ0 σ : ri_S} {Q : Option Value → ri_S → Prop} {M : ri_M} {F : ri_F} {pc np tg : Nat} {kv : Int32} {L : List (Option Value)} {r : List Value}
theorem sc_ald (hP : sc_P o A S I σ.1) (k : Nat) {i a : Nat} {j : Int32} (hgo : ri_go 99 M F = (pc, L, .int j :: .ref a :: r)) (hf : ri_find pc M.2.2.2.2.2 = some (.iaload, np, tg, kv)) (ha : a = o + 1 + k) (hj : j = nI i) (hi : i < 48) (hk : k < 7) (kk : ev_W d M (np, L, .int (A k i) :: r) σ Q) : ev_W d M F σ Q := by
  subst hj
  refine g_iald hgo hf (hP.a k hk ha) rfl (nI_in hi (by decide)) ?_
  rw [nI_clamp (by omega)]
  exact kk
theorem sc_lld (hP : sc_P o A S I σ.1) {i : Nat} {j : Int32} (hgo : ri_go 99 M F = (pc, L, .int j :: .ref (o + 8) :: r)) (hf : ri_find pc M.2.2.2.2.2 = some (.laload, np, tg, kv)) (hj : j = nI i) (hi : i < 48) (kk : ev_W d M (np, L, .long (S i) :: r) σ Q) : ev_W d M F σ Q := by
  subst hj
  refine g_lald hgo hf hP.2.2 (nI_in hi (by decide)) ?_
  rw [nI_clamp (by omega)]
  exact kk
theorem sc_ast (hW : sc_W o A S I σ0 σ) (k : Nat) {i a : Nat} {j x : Int32} (hgo : ri_go 99 M F = (pc, L, .int x :: .int j :: .ref a :: r)) (hf : ri_find pc M.2.2.2.2.2 = some (.iastore, np, tg, kv)) (ha : a = o + 1 + k) (hj : j = nI i) (hi : i < 48) (hk : k < 7) (kk : ∀ σ' : ri_S, sc_W o (va_up A k (upd (A k) i x)) S I σ0 σ' → ev_W d M (np, L, r) σ' Q) : ev_W d M F σ Q := by
  subst hj
  refine g_iast hgo hf (hW.1.a k hk ha) (nI_in hi (by decide)) ?_
  rw [nI_clamp (by omega)]
  exact kk _ (hW.set k hk _ ha)
theorem sc_lst (hW : sc_W o A S I σ0 σ) {i : Nat} {j : Int32} {x : Int64} (hgo : ri_go 99 M F = (pc, L, .long x :: .int j :: .ref (o + 8) :: r)) (hf : ri_find pc M.2.2.2.2.2 = some (.lastore, np, tg, kv)) (hj : j = nI i) (hi : i < 48) (kk : ∀ σ' : ri_S, sc_W o A (vp_updL S i x) I σ0 σ' → ev_W d M (np, L, r) σ' Q) : ev_W d M F σ Q := by
  subst hj
  refine g_last hgo hf hW.1.2.2 (nI_in hi (by decide)) ?_
  rw [nI_clamp (by omega)]
  exact kk _ (hW.setL _)
theorem sc_num (hW : sc_W o A S I σ0 σ) {k j : Nat} {v : Int32} {ty : FieldType} (hgo : ri_go 99 M F = (pc, L, .int v :: .ref o :: r)) (hf : ri_find pc M.2.2.2.2.2 = some (.putfield k, np, tg, kv)) (ht : rt_f M.1 k = some (3, j, ty, 0)) (hn : narrow ty (.int v) = .int v) (hfi : fits ty (.int v) = true) (hj : Nat.blt j (sc_fs o I).length = true) (hs : (sc_fs o I).set j (.int v) = sc_fs o (va_up I j v)) (kk : ∀ σ' : ri_S, sc_W o A S (va_up I j v) σ0 σ' → ev_W d M (np, L, r) σ' Q) : ev_W d M F σ Q := by
  refine g_put hgo hf ht hW.1.1 hn hfi hj ?_
  exact kk _ (hW.put j v hs)
end SC0
section SC1
variable {d o n : Nat} {A : Nat → Nat → Int32} {S : Nat → Int64} {I : Nat → Int32} {σ0 σ : ri_S} {Q : Option Value → ri_S → Prop}
set_option maxRecDepth 100000 in
/-- has(field) -/
theorem sc_has {f : Int32} (hP : sc_P o A S I σ.1) (hI : I 8 = nI n) (hn : n ≤ 48) (k1 : ∀ w, w < n → f = nI w → Q (some (.int 1)) σ) (k0 : (∀ w, w < n → ¬ f = nI w) → Q (some (.int 0)) σ) : ev_W d mSc_has (0, [some (.ref o), some (.int f)], []) σ Q := by
  refine g_br rfl rfl rfl rfl rfl rfl (fun h => ?_) (fun h => ?_)
  · refine g_rt rfl rfl rfl (k0 (fun w hw e => ?_))
    rw [e] at h
    exact nI_pos (by omega) h
  · refine g_get rfl rfl rfl hP.1 rfl ?_
    obtain ⟨w, hw, rfl⟩ := nI_of h
    refine g_br rfl rfl rfl rfl rfl rfl (fun h2 => ?_) (fun h2 => ?_)
    · refine g_rt rfl rfl rfl (k0 (fun w' hw' e => ?_))
      rw [hI] at h2
      have := (nI_leI (by omega) hw).mp h2
      have := (nI_eq hw (by omega)).mp e
      omega
    · refine g_rt rfl rfl rfl (k1 w ?_ rfl)
      rcases Nat.lt_or_ge w n with z | z
      · exact z
      · exact absurd (by rw [hI]; exact nI_le z hw) h2
set_option maxRecDepth 100000 in
/-- parentOf(field) -/
theorem sc_parentOf {f : Int32} (hP : sc_P o A S I σ.1) (hI : I 8 = nI n) (hn : n ≤ 48) (k1 : ∀ w, w < n → f = nI w → Q (some (.int (A 0 w))) σ) (k0 : (∀ w, w < n → ¬ f = nI w) → Q (some (.int (-1))) σ) : ev_W (d + 1) mSc_parentOf (0, [some (.ref o), some (.int f)], []) σ Q := by
  refine g_clV rfl rfl rfl rfl hP.1 rfl rfl rfl ?_
  refine sc_has hP hI hn (fun w hw e => ?_) (fun h0 => ?_)
  · refine g_br rfl rfl rfl rfl rfl rfl (fun h => absurd h (by decide)) (fun h => ?_)
    refine g_get rfl rfl rfl hP.1 rfl ?_
    refine sc_ald hP 0 rfl rfl rfl e (by omega) (by decide) ?_
    exact g_rt rfl rfl rfl (k1 w hw e)
  · refine g_br rfl rfl rfl rfl rfl rfl (fun h => ?_) (fun h => absurd rfl h)
    exact g_rt rfl rfl rfl (k0 h0)
set_option maxRecDepth 100000 in
/-- kindOf(field) -/
theorem sc_kindOf {f : Int32} (hP : sc_P o A S I σ.1) (hI : I 8 = nI n) (hn : n ≤ 48) (k1 : ∀ w, w < n → f = nI w → Q (some (.int (A 1 w))) σ) (k0 : (∀ w, w < n → ¬ f = nI w) → Q (some (.int (-1))) σ) : ev_W (d + 1) mSc_kindOf (0, [some (.ref o), some (.int f)], []) σ Q := by
  refine g_clV rfl rfl rfl rfl hP.1 rfl rfl rfl ?_
  refine sc_has hP hI hn (fun w hw e => ?_) (fun h0 => ?_)
  · refine g_br rfl rfl rfl rfl rfl rfl (fun h => absurd h (by decide)) (fun h => ?_)
    refine g_get rfl rfl rfl hP.1 rfl ?_
    refine sc_ald hP 1 rfl rfl rfl e (by omega) (by decide) ?_
    exact g_rt rfl rfl rfl (k1 w hw e)
  · refine g_br rfl rfl rfl rfl rfl rfl (fun h => ?_) (fun h => absurd rfl h)
    exact g_rt rfl rfl rfl (k0 h0)
set_option maxRecDepth 100000 in
/-- depthOf(field) -/
theorem sc_depthOf {f : Int32} (hP : sc_P o A S I σ.1) (hI : I 8 = nI n) (hn : n ≤ 48) (k1 : ∀ w, w < n → f = nI w → Q (some (.int (A 2 w))) σ) (k0 : (∀ w, w < n → ¬ f = nI w) → Q (some (.int (0))) σ) : ev_W (d + 1) mSc_depthOf (0, [some (.ref o), some (.int f)], []) σ Q := by
  refine g_clV rfl rfl rfl rfl hP.1 rfl rfl rfl ?_
  refine sc_has hP hI hn (fun w hw e => ?_) (fun h0 => ?_)
  · refine g_br rfl rfl rfl rfl rfl rfl (fun h => absurd h (by decide)) (fun h => ?_)
    refine g_get rfl rfl rfl hP.1 rfl ?_
    refine sc_ald hP 2 rfl rfl rfl e (by omega) (by decide) ?_
    exact g_rt rfl rfl rfl (k1 w hw e)
  · refine g_br rfl rfl rfl rfl rfl rfl (fun h => ?_) (fun h => absurd rfl h)
    exact g_rt rfl rfl rfl (k0 h0)
set_option maxRecDepth 100000 in
/-- repetitionOf(field) -/
theorem sc_repetitionOf {f : Int32} (hP : sc_P o A S I σ.1) (hI : I 8 = nI n) (hn : n ≤ 48) (k1 : ∀ w, w < n → f = nI w → Q (some (.int (A 3 w))) σ) (k0 : (∀ w, w < n → ¬ f = nI w) → Q (some (.int (0))) σ) : ev_W (d + 1) mSc_repetitionOf (0, [some (.ref o), some (.int f)], []) σ Q := by
  refine g_clV rfl rfl rfl rfl hP.1 rfl rfl rfl ?_
  refine sc_has hP hI hn (fun w hw e => ?_) (fun h0 => ?_)
  · refine g_br rfl rfl rfl rfl rfl rfl (fun h => absurd h (by decide)) (fun h => ?_)
    refine g_get rfl rfl rfl hP.1 rfl ?_
    refine sc_ald hP 3 rfl rfl rfl e (by omega) (by decide) ?_
    exact g_rt rfl rfl rfl (k1 w hw e)
  · refine g_br rfl rfl rfl rfl rfl rfl (fun h => ?_) (fun h => absurd rfl h)
    exact g_rt rfl rfl rfl (k0 h0)
set_option maxRecDepth 100000 in
/-- definitionOf(field) -/
theorem sc_definitionOf {f : Int32} (hP : sc_P o A S I σ.1) (hI : I 8 = nI n) (hn : n ≤ 48) (k1 : ∀ w, w < n → f = nI w → Q (some (.int (A 4 w))) σ) (k0 : (∀ w, w < n → ¬ f = nI w) → Q (some (.int (0))) σ) : ev_W (d + 1) mSc_definitionOf (0, [some (.ref o), some (.int f)], []) σ Q := by
  refine g_clV rfl rfl rfl rfl hP.1 rfl rfl rfl ?_
  refine sc_has hP hI hn (fun w hw e => ?_) (fun h0 => ?_)
  · refine g_br rfl rfl rfl rfl rfl rfl (fun h => absurd h (by decide)) (fun h => ?_)
    refine g_get rfl rfl rfl hP.1 rfl ?_
    refine sc_ald hP 4 rfl rfl rfl e (by omega) (by decide) ?_
    exact g_rt rfl rfl rfl (k1 w hw e)
  · refine g_br rfl rfl rfl rfl rfl rfl (fun h => ?_) (fun h => absurd rfl h)
    exact g_rt rfl rfl rfl (k0 h0)
set_option maxRecDepth 100000 in
/-- columnOf(field) -/
theorem sc_columnOf {f : Int32} (hP : sc_P o A S I σ.1) (hI : I 8 = nI n) (hn : n ≤ 48) (k1 : ∀ w, w < n → f = nI w → Q (some (.int (A 5 w))) σ) (k0 : (∀ w, w < n → ¬ f = nI w) → Q (some (.int (-1))) σ) : ev_W (d + 1) mSc_columnOf (0, [some (.ref o), some (.int f)], []) σ Q := by
  refine g_clV rfl rfl rfl rfl hP.1 rfl rfl rfl ?_
  refine sc_has hP hI hn (fun w hw e => ?_) (fun h0 => ?_)
  · refine g_br rfl rfl rfl rfl rfl rfl (fun h => absurd h (by decide)) (fun h => ?_)
    refine g_get rfl rfl rfl hP.1 rfl ?_
    refine sc_ald hP 5 rfl rfl rfl e (by omega) (by decide) ?_
    exact g_rt rfl rfl rfl (k1 w hw e)
  · refine g_br rfl rfl rfl rfl rfl rfl (fun h => ?_) (fun h => absurd rfl h)
    exact g_rt rfl rfl rfl (k0 h0)
set_option maxRecDepth 100000 in
/-- endOf(field) -/
theorem sc_endOf {f : Int32} (hP : sc_P o A S I σ.1) (hI : I 8 = nI n) (hn : n ≤ 48) (k1 : ∀ w, w < n → f = nI w → Q (some (.int (A 6 w))) σ) (k0 : (∀ w, w < n → ¬ f = nI w) → Q (some (.int (nI n))) σ) : ev_W (d + 1) mSc_endOf (0, [some (.ref o), some (.int f)], []) σ Q := by
  refine g_clV rfl rfl rfl rfl hP.1 rfl rfl rfl ?_
  refine sc_has hP hI hn (fun w hw e => ?_) (fun h0 => ?_)
  · refine g_br rfl rfl rfl rfl rfl rfl (fun h => absurd h (by decide)) (fun h => ?_)
    refine g_get rfl rfl rfl hP.1 rfl ?_
    refine sc_ald hP 6 rfl rfl rfl e (by omega) (by decide) ?_
    exact g_rt rfl rfl rfl (k1 w hw e)
  · refine g_br rfl rfl rfl rfl rfl rfl (fun h => ?_) (fun h => absurd rfl h)
    refine g_get rfl rfl rfl hP.1 rfl ?_
    refine g_rt rfl rfl rfl ?_
    rw [hI]
    exact k0 h0
set_option maxRecDepth 100000 in
/-- columnsIn(field) -/
theorem sc_columnsIn {f : Int32} (hP : sc_P o A S I σ.1) (hI : I 8 = nI n) (hn : n ≤ 48) (k1 : ∀ w, w < n → f = nI w → Q (some (.long (S w))) σ) (k0 : (∀ w, w < n → ¬ f = nI w) → Q (some (.long 0)) σ) : ev_W (d + 1) mSc_columnsIn (0, [some (.ref o), some (.int f)], []) σ Q := by
  refine g_clV rfl rfl rfl rfl hP.1 rfl rfl rfl ?_
  refine sc_has hP hI hn (fun w hw e => ?_) (fun h0 => ?_)
  · refine g_br rfl rfl rfl rfl rfl rfl (fun h => absurd h (by decide)) (fun h => ?_)
    refine g_get rfl rfl rfl hP.1 rfl ?_
    refine sc_lld hP rfl rfl e (by omega) ?_
    exact g_rt rfl rfl rfl (k1 w hw e)
  · refine g_br rfl rfl rfl rfl rfl rfl (fun h => ?_) (fun h => absurd rfl h)
    exact g_rt rfl rfl rfl (k0 h0)
set_option maxRecDepth 100000 in
/-- isGroup(field) -/
theorem sc_isGroup {f : Int32} (hP : sc_P o A S I σ.1) (hI : I 8 = nI n) (hn : n ≤ 48) (k1 : ∀ w, w < n → f = nI w → A 5 w = -1 → Q (some (.int 1)) σ) (k0 : (∀ w, w < n → f = nI w → ¬ A 5 w = -1) → Q (some (.int 0)) σ) : ev_W (d + 1) mSc_isGroup (0, [some (.ref o), some (.int f)], []) σ Q := by
  refine g_clV rfl rfl rfl rfl hP.1 rfl rfl rfl ?_
  refine sc_has hP hI hn (fun w hw e => ?_) (fun h0 => ?_)
  · refine g_br rfl rfl rfl rfl rfl rfl (fun h => absurd h (by decide)) (fun h => ?_)
    refine g_get rfl rfl rfl hP.1 rfl ?_
    refine sc_ald hP 5 rfl rfl rfl e (by omega) (by decide) ?_
    refine g_br rfl rfl rfl rfl rfl rfl (fun h2 => ?_) (fun h2 => ?_)
    · exact g_rt rfl rfl rfl (k1 w hw e h2)
    · refine g_rt rfl rfl rfl (k0 (fun w' hw' e' => ?_))
      rw [show w' = w from (nI_eq (by omega) (by omega)).mp (e'.symm.trans e)]
      exact h2
  · refine g_br rfl rfl rfl rfl rfl rfl (fun h => ?_) (fun h => absurd rfl h)
    exact g_rt rfl rfl rfl (k0 (fun w hw e => absurd e (h0 w hw)))
set_option maxRecDepth 100000 in
/-- isLeaf(field) -/
theorem sc_isLeaf {f : Int32} (hP : sc_P o A S I σ.1) (hI : I 8 = nI n) (hn : n ≤ 48) (k1 : ∀ w, w < n → f = nI w → ¬ A 5 w = -1 → Q (some (.int 1)) σ) (k0 : (∀ w, w < n → f = nI w → A 5 w = -1) → Q (some (.int 0)) σ) : ev_W (d + 1) mSc_isLeaf (0, [some (.ref o), some (.int f)], []) σ Q := by
  refine g_clV rfl rfl rfl rfl hP.1 rfl rfl rfl ?_
  refine sc_has hP hI hn (fun w hw e => ?_) (fun h0 => ?_)
  · refine g_br rfl rfl rfl rfl rfl rfl (fun h => absurd h (by decide)) (fun h => ?_)
    refine g_get rfl rfl rfl hP.1 rfl ?_
    refine sc_ald hP 5 rfl rfl rfl e (by omega) (by decide) ?_
    refine g_br rfl rfl rfl rfl rfl rfl (fun h2 => ?_) (fun h2 => ?_)
    · refine g_rt rfl rfl rfl (k0 (fun w' hw' e' => ?_))
      rw [show w' = w from (nI_eq (by omega) (by omega)).mp (e'.symm.trans e)]
      exact h2
    · exact g_rt rfl rfl rfl (k1 w hw e h2)
  · refine g_br rfl rfl rfl rfl rfl rfl (fun h => ?_) (fun h => absurd rfl h)
    exact g_rt rfl rfl rfl (k0 (fun w hw e => absurd e (h0 w hw)))
/-- a field may lie in p -/
def sc_may (A : Nat → Nat → Int32) (n : Nat) (p : Int32) : Prop := p = -1 ∨ ∃ w, w < n ∧ p = nI w ∧ A 5 w = -1 ∧ A 6 w = nI n ∧ A 2 w < 16
set_option maxRecDepth 100000 in
/-- mayHold(parent) -/
theorem sc_mayHold {p : Int32} (hP : sc_P o A S I σ.1) (hI : I 8 = nI n) (hn : n ≤ 48) (k1 : sc_may A n p → Q (some (.int 1)) σ) (k0 : ¬ sc_may A n p → Q (some (.int 0)) σ) : ev_W (d + 2) mSc_mayHold (0, [some (.ref o), some (.int p)], []) σ Q := by
  refine g_br rfl rfl rfl rfl rfl rfl (fun h => ?_) (fun h => ?_)
  · exact g_rt rfl rfl rfl (k1 (Or.inl h))
  refine g_clV rfl rfl rfl rfl hP.1 rfl rfl rfl ?_
  refine sc_isGroup hP hI hn (fun w hw e h1 => ?_) (fun h0 => ?_)
  rotate_left
  · refine g_br rfl rfl rfl rfl rfl rfl (fun h' => ?_) (fun h' => absurd rfl h')
    refine g_rt rfl rfl rfl (k0 (fun z => ?_))
    obtain ⟨w, hw, e, z1, -⟩ := z.resolve_left h
    exact h0 w hw e z1
  have inj : ∀ w', w' < n → p = nI w' → w' = w := fun w' hw' e' => (nI_eq (by omega) (by omega)).mp (e'.symm.trans e)
  refine g_br rfl rfl rfl rfl rfl rfl (fun h => absurd h (by decide)) (fun h2 => ?_)
  refine g_get rfl rfl rfl hP.1 rfl ?_
  refine sc_ald hP 6 rfl rfl rfl e (by omega) (by decide) ?_
  refine g_get rfl rfl rfl hP.1 rfl ?_
  refine g_br rfl rfl rfl rfl rfl rfl (fun h3 => ?_) (fun h3 => ?_)
  rotate_left
  · refine g_rt rfl rfl rfl (k0 (fun z => ?_))
    obtain ⟨w', hw', e', -, z1, -⟩ := z.resolve_left h
    rw [inj w' hw' e'] at z1
    exact h3 (z1.trans hI.symm)
  refine g_get rfl rfl rfl hP.1 rfl ?_
  refine sc_ald hP 2 rfl rfl rfl e (by omega) (by decide) ?_
  refine g_br rfl rfl rfl rfl rfl rfl (fun h4 => ?_) (fun h4 => ?_)
  · refine g_rt rfl rfl rfl (k0 (fun z => ?_))
    obtain ⟨w', hw', e', -, -, z1⟩ := z.resolve_left h
    rw [inj w' hw' e'] at z1
    exact absurd z1 (Int32.not_lt.mpr h4)
  · exact g_rt rfl rfl rfl (k1 (Or.inr ⟨w, hw, e, h1, h3.trans hI, Int32.not_le.mp h4⟩))
/-- what stretch makes of the ends and the sets, along the chain of parents -/
def sc_st (par : Nat → Int32) (v : Int32) (s : Int64) : Nat → Int32 → (Nat → Int32) × (Nat → Int64) → (Nat → Int32) × (Nat → Int64)
  | 0, _, x => x
  | m + 1, f, x => if f = -1 then x else sc_st par v s m (par f.toNatClampNeg) (upd x.1 f.toNatClampNeg v, vp_updL x.2 f.toNatClampNeg (x.2 f.toNatClampNeg ||| s))
set_option maxRecDepth 100000 in
theorem sc_stretch_loop {fd : Int32} {s : Int64} (hn : n ≤ 48) (hup : mo_up (A 0) n) (hI : I 8 = nI n) : ∀ (m i : Nat) (f : Int32) (x : (Nat → Int32) × (Nat → Int64)) (σ : ri_S), i + m = 16 → (f = -1 ∨ ∃ p, p < n ∧ f = nI p) → sc_W o (va_up A 6 x.1) x.2 I σ0 σ →
    (∀ σ' : ri_S, sc_W o (va_up A 6 (sc_st (A 0) (fd + 1) s m f x).1) (sc_st (A 0) (fd + 1) s m f x).2 I σ0 σ' → Q none σ') → ev_W (d + 1) mSc_stretch (6, [some (.ref o), some (.int fd), some (.long s), none, some (.int f), some (.int (nI i))], []) σ Q := by
  intro m
  induction m with
  | zero =>
    intro i f x σ hi hf hW kk
    obtain rfl : i = 16 := by omega
    refine g_br rfl rfl rfl rfl rfl rfl (fun h => ?_) (fun h => absurd (by decide) h)
    exact g_rt rfl rfl rfl (kk σ hW)
  | succ m ih =>
    intro i f x σ hi hf hW kk
    have eS : sc_st (A 0) (fd + 1) s (m + 1) f x = if f = -1 then x else sc_st (A 0) (fd + 1) s m (A 0 f.toNatClampNeg) (upd x.1 f.toNatClampNeg (fd + 1), vp_updL x.2 f.toNatClampNeg (x.2 f.toNatClampNeg ||| s)) := rfl
    rw [eS] at kk
    refine g_br rfl rfl rfl rfl rfl rfl (fun h => absurd h (show ¬ nI 16 ≤ nI i from nI_ge (by omega) (by decide))) (fun h => ?_)
    refine g_clV rfl rfl rfl rfl hW.1.1 rfl rfl rfl ?_
    refine sc_has hW.1 hI hn (fun w hw e => ?_) (fun h0 => ?_)
    · subst e
      refine g_br rfl rfl rfl rfl rfl rfl (fun h => absurd h (by decide)) (fun h1 => ?_)
      rw [if_neg (nI_nm1 (by omega)), nI_clamp (by omega)] at kk
      refine g_get rfl rfl rfl hW.1.1 rfl ?_
      refine sc_ast hW 6 rfl rfl rfl rfl (show w < 48 by omega) (by decide) (fun σ1 hW1 => ?_)
      rw [bx_uu] at hW1
      change sc_W o (va_up A 6 (upd x.1 w (fd + 1))) x.2 I σ0 σ1 at hW1
      refine g_get rfl rfl rfl hW1.1.1 rfl ?_
      refine sc_lld hW1.1 rfl rfl rfl (show w < 48 by omega) ?_
      refine sc_lst hW1 rfl rfl rfl (show w < 48 by omega) (fun σ2 hW2 => ?_)
      refine g_get rfl rfl rfl hW2.1.1 rfl ?_
      refine sc_ald hW2.1 0 rfl rfl rfl rfl (show w < 48 by omega) (by decide) ?_
      refine ev_go 3 rfl ?_
      show ev_W (d + 1) mSc_stretch (6, [some (.ref o), some (.int fd), some (.long s), none, some (.int (A 0 w)), some (.int (nI i + 1))], []) σ2 Q
      rw [nI_1]
      refine ih (i + 1) (A 0 w) (upd x.1 w (fd + 1), vp_updL x.2 w (x.2 w ||| s)) σ2 (by omega) ?_ hW2 kk
      rcases hup w hw with q | ⟨z, hz, q⟩
      · exact Or.inl q
      · exact Or.inr ⟨z, by omega, q⟩
    · refine g_br rfl rfl rfl rfl rfl rfl (fun h1 => ?_) (fun h => absurd rfl h)
      have e : f = -1 := by
        rcases hf with z | ⟨p, hp, z⟩
        · exact z
        · exact absurd z (h0 p hp)
      rw [if_pos e] at kk
      exact g_rt rfl rfl rfl (kk σ hW)
set_option maxRecDepth 100000 in
/-- stretch(field, set) -/
theorem sc_stretch {fd : Int32} {s : Int64} {w : Nat} (hn : n ≤ 48) (hup : mo_up (A 0) n) (hI : I 8 = nI n) (hf : fd = nI w) (hw : w < n) (hW : sc_W o A S I σ0 σ) (kk : ∀ σ' : ri_S, sc_W o (va_up A 6 (sc_st (A 0) (fd + 1) s 16 fd (A 6, S)).1) (sc_st (A 0) (fd + 1) s 16 fd (A 6, S)).2 I σ0 σ' → Q none σ') : ev_W (d + 1) mSc_stretch (0, [some (.ref o), some (.int fd), some (.long s), none, none, none], []) σ Q := by
  refine ev_go 4 rfl ?_
  have hA : va_up A 6 (A 6) = A := by
    funext j
    unfold va_up
    by_cases z : j = 6
    · rw [if_pos z, z]
    · rw [if_neg z]
  exact sc_stretch_loop hn hup hI 16 0 fd (A 6, S) σ (by omega) (Or.inr ⟨w, hw, hf⟩) (by rw [hA]; exact hW) kk
/-- every group has a field -/
def sc_full (A : Nat → Nat → Int32) (n : Nat) : Prop := ∀ f, f < n → A 5 f = -1 → ¬ A 6 f = nI (f + 1)
set_option maxRecDepth 100000 in
theorem sc_settle_loop (hW : sc_W o A S I σ0 σ) (hn : n ≤ 48) (hI : I 8 = nI n) (kno : ¬ sc_full A n → Q (some (.int 0)) σ) (kyes : ∀ σ' : ri_S, sc_full A n → sc_W o A S (va_up I 10 1) σ0 σ' → Q (some (.int 1)) σ') : ∀ (t i : Nat), i + t = n → (∀ f, f < i → A 5 f = -1 → ¬ A 6 f = nI (f + 1)) → ev_W (d + 2) mSc_settle (18, [some (.ref o), some (.int (nI i))], []) σ Q := by
  have hP := hW.1
  intro t
  induction t with
  | zero =>
    intro i hi hall
    obtain rfl : i = n := by omega
    refine g_get rfl rfl rfl hP.1 rfl ?_
    refine g_br rfl rfl rfl rfl rfl rfl (fun h => ?_) (fun h => absurd (by rw [hI]; exact nI_le (Nat.le_refl _) (by omega)) h)
    refine sc_num hW rfl rfl rfl rfl rfl rfl rfl (fun σ1 hW1 => ?_)
    exact g_rt rfl rfl rfl (kyes σ1 hall hW1)
  | succ t ih =>
    intro i hi hall
    refine g_get rfl rfl rfl hP.1 rfl ?_
    refine g_br rfl rfl rfl rfl rfl rfl (fun h => absurd h (by rw [hI]; exact nI_ge (by omega) (by omega))) (fun h => ?_)
    have nxt : (A 5 i = -1 → ¬ A 6 i = nI (i + 1)) → ev_W (d + 2) mSc_settle (48, [some (.ref o), some (.int (nI i))], []) σ Q := by
      intro q
      refine ev_go 2 rfl ?_
      show ev_W (d + 2) mSc_settle (18, [some (.ref o), some (.int (nI i + 1))], []) σ Q
      rw [nI_1]
      refine ih (i + 1) (by omega) (fun f hf => ?_)
      rcases Nat.lt_succ_iff_lt_or_eq.mp hf with e | e
      · exact hall f e
      · subst e; exact q
    refine g_clV rfl rfl rfl rfl hP.1 rfl rfl rfl ?_
    refine sc_isGroup hP hI hn (fun w hw e h1 => ?_) (fun h0 => ?_)
    · obtain rfl : i = w := (nI_eq (by omega) (by omega)).mp e
      refine g_br rfl rfl rfl rfl rfl rfl (fun h => absurd h (by decide)) (fun h2 => ?_)
      refine g_get rfl rfl rfl hP.1 rfl ?_
      refine sc_ald hP 6 rfl rfl rfl rfl (show i < 48 by omega) (by decide) ?_
      refine g_br rfl rfl rfl rfl rfl rfl (fun h3 => ?_) (fun h3 => ?_)
      · exact g_rt rfl rfl rfl (kno (fun z => z i hw h1 (by rw [← nI_1]; exact h3)))
      · exact nxt (fun _ z => h3 (by rw [nI_1]; exact z))
    · refine g_br rfl rfl rfl rfl rfl rfl (fun h2 => ?_) (fun h => absurd rfl h)
      exact nxt (fun z => absurd z (h0 i (by omega) rfl))
set_option maxRecDepth 100000 in
/-- settle() -/
theorem sc_settle (hW : sc_W o A S I σ0 σ) (hn : n ≤ 48) (hI : I 8 = nI n) (kno : ¬ (I 10 = 0 ∧ 0 < n ∧ sc_full A n) → Q (some (.int 0)) σ) (kyes : ∀ σ' : ri_S, (I 10 = 0 ∧ 0 < n ∧ sc_full A n) → sc_W o A S (va_up I 10 1) σ0 σ' → Q (some (.int 1)) σ') : ev_W (d + 2) mSc_settle (0, [some (.ref o), none], []) σ Q := by
  have hP := hW.1
  refine g_get rfl rfl rfl hP.1 rfl ?_
  refine g_br rfl rfl rfl rfl rfl rfl (fun h1 => ?_) (fun h1 => ?_)
  rotate_left
  · exact g_rt rfl rfl rfl (kno (fun z => h1 z.1))
  refine g_get rfl rfl rfl hP.1 rfl ?_
  refine g_br rfl rfl rfl rfl rfl rfl (fun h2 => ?_) (fun h2 => ?_)
  · refine g_rt rfl rfl rfl (kno (fun z => ?_))
    rw [hI] at h2
    have := (mo_e0 (by omega)).mp h2
    omega
  have h3 : 0 < n := by
    rcases Nat.eq_zero_or_pos n with z | z
    · exact absurd (by rw [hI, z]; rfl) h2
    · exact z
  refine ev_go 2 rfl ?_
  exact sc_settle_loop hW hn hI (fun z => kno (fun q => z q.2.2)) (fun σ' q h' => kyes σ' ⟨h1, h3, q⟩ h') n 0 (by omega) (fun f hf => absurd hf (Nat.not_lt_zero _))
/-- a field of group g from .. to - 1 is required -/
def sc_req (A : Nat → Nat → Int32) (n : Nat) (g : Int32) (fr : Nat) (to : Int32) : Prop := ∃ w, w < n ∧ fr ≤ w ∧ nI w < to ∧ A 0 w = g ∧ A 1 w = 0
set_option maxRecDepth 100000 in
theorem sc_requires_loop {g fr0 to : Int32} {fr : Nat} (hP : sc_P o A S I σ.1) (hn : n ≤ 48) (hI : I 8 = nI n) (k1 : sc_req A n g fr to → Q (some (.int 1)) σ) (k0 : ¬ sc_req A n g fr to → Q (some (.int 0)) σ) : ∀ (t i : Nat), i < 2 ^ 31 → fr ≤ i → n ≤ i + t → (∀ w, w < i → w < n → fr ≤ w → nI w < to → ¬ (A 0 w = g ∧ A 1 w = 0)) → ev_W (d + 1) mSc_requires (7, [some (.ref o), some (.int g), some (.int fr0), some (.int to), some (.int (nI i))], []) σ Q := by
  intro t
  induction t with
  | zero =>
    intro i hi31 hfr hi hall
    have no : ¬ sc_req A n g fr to := fun ⟨w, hw, z1, z2, z3⟩ => hall w (by omega) hw z1 z2 z3
    refine g_br rfl rfl rfl rfl rfl rfl (fun h => ?_) (fun h => ?_)
    · exact g_rt rfl rfl rfl (k0 no)
    refine g_get rfl rfl rfl hP.1 rfl ?_
    refine g_br rfl rfl rfl rfl rfl rfl (fun h => ?_) (fun h => absurd (by rw [hI]; exact nI_le (by omega) hi31) h)
    exact g_rt rfl rfl rfl (k0 no)
  | succ t ih =>
    intro i hi31 hfr hi hall
    refine g_br rfl rfl rfl rfl rfl rfl (fun h => ?_) (fun h => ?_)
    · refine g_rt rfl rfl rfl (k0 (fun ⟨w, hw, z1, z2, z3⟩ => ?_))
      rcases Nat.lt_or_ge w i with z | z
      · exact hall w z hw z1 z2 z3
      · have h5 : nI i ≤ nI w := nI_le z (by omega)
        exact Int32.lt_irrefl (Int32.lt_of_le_of_lt (Int32.le_trans h h5) z2)
    refine g_get rfl rfl rfl hP.1 rfl ?_
    refine g_br rfl rfl rfl rfl rfl rfl (fun h2 => ?_) (fun h2 => ?_)
    · refine g_rt rfl rfl rfl (k0 (fun ⟨w, hw, z1, z2, z3⟩ => hall w ?_ hw z1 z2 z3))
      rw [hI] at h2
      have := (nI_leI (by omega) hi31).mp h2
      omega
    have hin : i < n := by
      rcases Nat.lt_or_ge i n with z | z
      · exact z
      · exact absurd (by rw [hI]; exact nI_le z hi31) h2
    have nxt : ¬ (A 0 i = g ∧ A 1 i = 0) → ev_W (d + 1) mSc_requires (45, [some (.ref o), some (.int g), some (.int fr0), some (.int to), some (.int (nI i))], []) σ Q := by
      intro q
      refine ev_go 2 rfl ?_
      show ev_W (d + 1) mSc_requires (7, [some (.ref o), some (.int g), some (.int fr0), some (.int to), some (.int (nI i + 1))], []) σ Q
      rw [nI_1]
      refine ih (i + 1) (by omega) (by omega) (by omega) (fun w hw => ?_)
      rcases Nat.lt_succ_iff_lt_or_eq.mp hw with e | e
      · exact hall w e
      · subst e; exact fun _ _ _ => q
    refine g_get rfl rfl rfl hP.1 rfl ?_
    refine sc_ald hP 0 rfl rfl rfl rfl (show i < 48 by omega) (by decide) ?_
    refine g_br rfl rfl rfl rfl rfl rfl (fun h3 => ?_) (fun h3 => ?_)
    rotate_left
    · exact nxt (fun z => h3 z.1)
    refine g_get rfl rfl rfl hP.1 rfl ?_
    refine sc_ald hP 1 rfl rfl rfl rfl (show i < 48 by omega) (by decide) ?_
    refine g_br rfl rfl rfl rfl rfl rfl (fun h4 => ?_) (fun h4 => ?_)
    · exact g_rt rfl rfl rfl (k1 ⟨i, hin, hfr, Int32.not_le.mp h, h3, h4⟩)
    · exact nxt (fun z => h4 z.2)
set_option maxRecDepth 100000 in
/-- requires(group, from, to) -/
theorem sc_requires {g fr to : Int32} {q : Nat} (hP : sc_P o A S I σ.1) (hn : n ≤ 48) (hI : I 8 = nI n) (hq : (if fr < 0 then 0 else fr) = nI q) (hq2 : q < 2 ^ 31) (k1 : sc_req A n g q to → Q (some (.int 1)) σ) (k0 : ¬ sc_req A n g q to → Q (some (.int 0)) σ) : ev_W (d + 1) mSc_requires (0, [some (.ref o), some (.int g), some (.int fr), some (.int to), none], []) σ Q := by
  refine g_max rfl rfl rfl rfl rfl ?_
  rw [hq]
  refine ev_go 1 rfl ?_
  exact sc_requires_loop hP hn hI k1 k0 n q hq2 (Nat.le_refl _) (by omega) (fun w hw _ h => absurd h (by omega))
end SC1
