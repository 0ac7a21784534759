/-! STRIPING: a record is put together (putFields and what it calls), as a function of the cursors and the events. -/
abbrev pu_S : Type := (Nat → Int32) × List (Int32 × Int32)
def el_P (a : Nat → Nat) (D : Nat → Option ri_E) (ev : List (Int32 × Int32)) (le : Nat) : Prop := ∃ E, es_P a D E le ev.length ∧ ∀ q e, ev[q]? = some e → E (2 * q) = e.1 ∧ E (2 * q + 1) = e.2
def es_ad (ev : List (Int32 × Int32)) (e : Int32 × Int32) : List (Int32 × Int32) := if ev.length < 4096 then ev ++ [e] else ev
def pu_peek (N : Nat) (col : Nat → List co_E) (C : Nat → Int32) (x w : Int32) : Int32 := if x < 0 ∨ nI 48 ≤ x then -1 else co_rd N col x (C x.toNatClampNeg) w
def pu_pass (C : Nat → Int32) (x : Int32) : Nat → Int32 := if x < 0 ∨ nI 48 ≤ x then C else upd C x.toNatClampNeg (C x.toNatClampNeg + 1)
def pu_pall (e : Int64) : Nat → Nat → (Nat → Int32) → Nat → Int32
  | 0, _, C => C
  | m + 1, c, C => pu_pall e m (c + 1) (if st_hv e (nI c) = 0 then C else pu_pass C (nI c))
def st_lo (e : Int64) : Nat → Nat → Int32
  | 0, _ => -1
  | m + 1, c => if st_hv e (nI c) = 0 then st_lo e m (c + 1) else nI c
def pu_occ (A : Nat → Nat → Int32) (N : Nat) (col : Nat → List co_E) (rec : Nat → pu_S → pu_S) (w : Nat) (s : pu_S) : pu_S := if A 5 w = -1 then ((rec w (s.1, es_ad s.2 (2 * nI w, 0))).1, es_ad (rec w (s.1, es_ad s.2 (2 * nI w, 0))).2 (2 * nI w + 1, 0)) else (pu_pass s.1 (A 5 w), es_ad s.2 (2 * nI w, pu_peek N col s.1 (A 5 w) 2))
def pu_rep (A : Nat → Nat → Int32) (N : Nat) (col : Nat → List co_E) (occ : pu_S → pu_S) (w : Nat) (gd : Int32) : Nat → pu_S → pu_S
  | 0, s => s
  | m + 1, s => if A 1 w = 2 ∧ pu_peek N col s.1 gd 0 = A 3 w then pu_rep A N col occ w gd m (occ s) else s
def pu_field (A : Nat → Nat → Int32) (S : Nat → Int64) (ch : Int64) (N : Nat) (col : Nat → List co_E) (rec : Nat → pu_S → pu_S) (w : Nat) (s : pu_S) : pu_S := if st_lo (S w &&& ch) 48 0 = -1 then s else if pu_peek N col s.1 (st_lo (S w &&& ch) 48 0) 1 < A 4 w then (pu_pall (S w &&& ch) 48 0 s.1, s.2) else pu_rep A N col (pu_occ A N col rec w) w (st_lo (S w &&& ch) 48 0) 2047 (pu_occ A N col rec w s)
def pu_loop (A : Nat → Nat → Int32) (S : Nat → Int64) (ch : Int64) (N : Nat) (col : Nat → List co_E) (rec : Nat → pu_S → pu_S) (g : Int32) : Nat → Nat → pu_S → pu_S
  | 0, _, s => s
  | m + 1, f, s => pu_loop A S ch N col rec g m (f + 1) (if A 0 f = g then pu_field A S ch N col rec f s else s)
def pu_fields (A : Nat → Nat → Int32) (S : Nat → Int64) (ch : Int64) (N : Nat) (col : Nat → List co_E) : Nat → Nat → pu_S → pu_S
  | 0, _, s => s
  | m + 1, w, s => pu_loop A S ch N col (pu_fields A S ch N col m) (nI w) ((A 6 w).toNatClampNeg - (w + 1)) (w + 1) s
/-- the roles that stay while a record is put together -/
def pu_F (a0 : Nat → Nat) (D0 : Nat → Option ri_E) (a : Nat → Nat) (D : Nat → Option ri_E) : Prop := (∀ i, (i < 6 ∨ 9 ≤ i) → D i = D0 i) ∧ ∀ i, i ≠ 7 → a i = a0 i
def pw_P (a0 : Nat → Nat) (D0 : Nat → Option ri_E) (σ0 : ri_S) (T0 : Nat) (s : pu_S) (a : Nat → Nat) (D : Nat → Option ri_E) (σ : ri_S) : Prop := gw_P a D σ ∧ pu_F a0 D0 a D ∧ D 8 = some (.inl (.int, 48, .inl s.1)) ∧ ∃ le, el_P a D s.2 le ∧ gw_ro T0 le σ0 σ
section PW
variable {a0 a : Nat → Nat} {D0 D : Nat → Option ri_E} {σ0 σ : ri_S} {T0 : Nat} {cr co tk : Int32} {ch : Int64} {N n : Nat} {A : Nat → Nat → Int32} {S : Nat → Int64} {I : Nat → Int32} {col : Nat → List co_E} {ln : Nat → Nat} {d : Nat} {Q : Option Value → ri_S → Prop} {s : pu_S}
theorem el_P.fr {a' : Nat → Nat} {D' : Nat → Option ri_E} {ev : List (Int32 × Int32)} {le : Nat} (h : el_P a D ev le) (hF : ∀ i, 6 ≤ i → i < 8 → D' i = D i ∧ a' i = a i) : el_P a' D' ev le := by
  obtain ⟨E, h1, h2⟩ := h
  exact ⟨E, h1.fr hF, h2⟩
theorem pw_P.o (h : pw_P a0 D0 σ0 T0 s a D σ) (ho : D0 0 = some (.inr (4, so_fs a0 cr co tk ch))) : σ.1 (a0 0) = some (.inr (4, so_fs a0 cr co tk ch)) := by
  rw [← h.2.1.2 0 (by decide)]
  exact h.1.at ((h.2.1.1 0 (by decide)).trans ho)
theorem pw_P.sc (h : pw_P a0 D0 σ0 T0 s a D σ) (hs : sh_P a0 D0 A S I) : sc_P (a0 60) A S I σ.1 := by
  rw [← h.2.1.2 60 (by decide)]
  exact (hs.fr (fun i h1 h2 => ⟨h.2.1.1 i (by omega), h.2.1.2 i (by omega)⟩)).sc h.1
theorem pw_P.cq (h : pw_P a0 D0 σ0 T0 s a D σ) (hc : co_P a0 D0 N col ln) : co_P a D N col ln := hc.fr (fun i h1 h2 => ⟨h.2.1.1 i (by omega), h.2.1.2 i (by omega)⟩)
theorem pw_P.c (h : pw_P a0 D0 σ0 T0 s a D σ) (hc : co_P a0 D0 N col ln) : σ.1 (a0 9) = some (.inr (0, [.ref (a 10), .ref (a 11)])) := by
  rw [← h.2.1.2 9 (by decide)]
  exact h.1.at (h.cq hc).1
theorem pw_P.e (h : pw_P a0 D0 σ0 T0 s a D σ) : σ.1 (a0 6) = some (.inr (2, [.ref (a 7), .int (nI s.2.length)])) := by
  obtain ⟨le, ⟨E, hE, -⟩, -⟩ := h.2.2.2
  rw [← h.2.1.2 6 (by decide)]
  exact h.1.at hE.1
theorem pw_P.u (h : pw_P a0 D0 σ0 T0 s a D σ) : σ.1 (a0 8) = some (.inl (.int, 48, .inl s.1)) := by
  rw [← h.2.1.2 8 (by decide)]
  exact h.1.at h.2.2.1
set_option maxRecDepth 100000 in
/-- events.add(event, value) -/
theorem pw_eadd (hw : pw_P a0 D0 σ0 T0 s a D σ) {e v : Int32} (kk : ∀ (a' : Nat → Nat) (D' : Nat → Option ri_E) (σ' : ri_S), pw_P a0 D0 σ0 T0 (s.1, es_ad s.2 (e, v)) a' D' σ' → Q none σ') : ev_W (d + 3) mEv_add (0, [some (.ref (a0 6)), some (.int e), some (.int v), none], []) σ Q := by
  obtain ⟨h1, h2, h3, le, ⟨E, h4, h5⟩, h6⟩ := hw
  rw [← h2.2 6 (by decide)]
  unfold es_ad at kk
  refine es_add h1 h4 (fun hk => ?_) (fun a' D' σ' E' le' hk hG' he' g1 g2 g3 hF' ha' ho' => ?_)
  · rw [if_neg (by omega)] at kk
    exact kk a D σ ⟨h1, h2, h3, le, ⟨E, h4, h5⟩, h6⟩
  · rw [if_pos hk] at kk
    refine kk a' D' σ' ⟨hG', ⟨fun i hi => ?_, fun i hi => ?_⟩, ?_, le', ⟨E', ?_, fun q x hx => ?_⟩, h6.tr ho'⟩
    · exact (hF' i (by omega)).1.trans (h2.1 i hi)
    · by_cases z : i = 6
      · rw [z]; exact ha'.trans (h2.2 6 (by decide))
      · exact (hF' i (by omega)).2.trans (h2.2 i hi)
    · exact (hF' 8 (by decide)).1.trans h3
    · rw [List.length_append]; exact he'
    · rcases Nat.lt_trichotomy q s.2.length with y | y | y
      · rw [List.getElem?_append_left y] at hx
        obtain ⟨w1, w2⟩ := h5 q x hx
        exact ⟨(g1 _ (by omega)).trans w1, (g1 _ (by omega)).trans w2⟩
      · rw [y, List.getElem?_append_right (Nat.le_refl _), Nat.sub_self] at hx
        cases hx
        rw [y]
        exact ⟨g2, g3⟩
      · rw [List.getElem?_eq_none (by rw [List.length_append]; show s.2.length + 1 ≤ q; omega)] at hx
        cases hx
set_option maxRecDepth 100000 in
/-- isCursor(column) -/
theorem st_isCursor (hw : pw_P a0 D0 σ0 T0 s a D σ) (ho : D0 0 = some (.inr (4, so_fs a0 cr co tk ch))) {x : Int32} (k1 : ∀ c, c < 48 → x = nI c → Q (some (.int 1)) σ) (k0 : (x < 0 ∨ nI 48 ≤ x) → Q (some (.int 0)) σ) : ev_W d mSt_isCursor (0, [some (.ref (a0 0)), some (.int x)], []) σ Q := by
  refine g_br rfl rfl rfl rfl rfl rfl (fun h => ?_) (fun h => ?_)
  · exact g_rt rfl rfl rfl (k0 (Or.inl h))
  refine g_get rfl rfl rfl (hw.o ho) rfl ?_
  refine g_alen rfl rfl hw.u rfl ?_
  refine g_br rfl rfl rfl rfl rfl rfl (fun h2 => ?_) (fun h2 => ?_)
  · exact g_rt rfl rfl rfl (k0 (Or.inr h2))
  · obtain ⟨w, hw', rfl⟩ := nI_of h
    refine g_rt rfl rfl rfl (k1 w ?_ rfl)
    rcases Nat.lt_or_ge w 48 with z | z
    · exact z
    · exact absurd (nI_le z hw') h2
theorem pu_cur {c : Nat} (hc : c < 48) : ¬ (nI c < 0 ∨ nI 48 ≤ nI c) := fun z => z.elim (nI_pos (by omega)) (nI_ge hc (by decide))
set_option maxRecDepth 100000 in
/-- peek(column, what) -/
theorem st_peek (hw : pw_P a0 D0 σ0 T0 s a D σ) (ho : D0 0 = some (.inr (4, so_fs a0 cr co tk ch))) (hc : co_P a0 D0 N col ln) {x wh : Int32} (kk : Q (some (.int (pu_peek N col s.1 x wh))) σ) : ev_W (d + 2) mSt_peek (0, [some (.ref (a0 0)), some (.int x), some (.int wh)], []) σ Q := by
  unfold pu_peek at kk
  refine g_clV rfl rfl rfl rfl (hw.o ho) rfl rfl rfl ?_
  refine st_isCursor hw ho (fun c hc48 e => ?_) (fun h0 => ?_)
  · subst e
    rw [if_neg (pu_cur hc48), nI_clamp (by omega)] at kk
    refine g_br rfl rfl rfl rfl rfl rfl (fun h => absurd h (by decide)) (fun _ => ?_)
    refine g_get rfl rfl rfl (hw.o ho) rfl ?_
    refine g_get rfl rfl rfl (hw.o ho) rfl ?_
    refine gw_ald' hw.1 hw.2.2.1 (hw.2.1.2 8 (by decide)) rfl rfl rfl hc48 (by decide) ?_
    refine g_clV rfl rfl rfl rfl (hw.c hc) rfl rfl rfl ?_
    show ev_W (d + 1) mCo_read (0, [some (.ref (a0 9)), some (.int (nI c)), some (.int (s.1 c)), some (.int wh)], []) σ _
    rw [← hw.2.1.2 9 (by decide)]
    refine co_read hw.1 (hw.cq hc) ?_
    exact g_rt rfl rfl rfl kk
  · rw [if_pos h0] at kk
    refine g_br rfl rfl rfl rfl rfl rfl (fun _ => ?_) (fun h => absurd rfl h)
    exact g_rt rfl rfl rfl kk
set_option maxRecDepth 100000 in
/-- pass(column) -/
theorem st_pass (hw : pw_P a0 D0 σ0 T0 s a D σ) (ho : D0 0 = some (.inr (4, so_fs a0 cr co tk ch))) {x : Int32} (kk : ∀ (D' : Nat → Option ri_E) (σ' : ri_S), pw_P a0 D0 σ0 T0 (pu_pass s.1 x, s.2) a D' σ' → Q none σ') : ev_W (d + 1) mSt_pass (0, [some (.ref (a0 0)), some (.int x)], []) σ Q := by
  unfold pu_pass at kk
  refine g_clV rfl rfl rfl rfl (hw.o ho) rfl rfl rfl ?_
  refine st_isCursor hw ho (fun c hc48 e => ?_) (fun h0 => ?_)
  · subst e
    rw [if_neg (pu_cur hc48), nI_clamp (by omega)] at kk
    have ho' := hw.o ho
    obtain ⟨h1, h2, h3, le, h4, h6⟩ := hw
    refine g_br rfl rfl rfl rfl rfl rfl (fun h => absurd h (by decide)) (fun _ => ?_)
    refine g_get rfl rfl rfl ho' rfl ?_
    refine gw_ald' h1 h3 (h2.2 8 (by decide)) rfl rfl rfl hc48 (by decide) ?_
    refine gw_ast' h1 h3 (h2.2 8 (by decide)) rfl rfl rfl hc48 (by decide) (fun σ1 hG1 e1 => ?_)
    refine g_rt rfl rfl rfl (kk _ σ1 ⟨hG1, ⟨fun i hi => (va_up_n (by omega)).trans (h2.1 i hi), h2.2⟩, rfl, le, h4.fr (fun i g1 g2 => ⟨va_up_n (by omega), rfl⟩), ?_⟩)
    unfold gw_ro at *
    rw [e1]
    exact h6
  · rw [if_pos h0] at kk
    refine g_br rfl rfl rfl rfl rfl rfl (fun _ => ?_) (fun h => absurd rfl h)
    exact g_rt rfl rfl rfl (kk D σ hw)
set_option maxRecDepth 100000 in
theorem pu_pall_loop (ho : D0 0 = some (.inr (4, so_fs a0 cr co tk ch))) {e : Int64} : ∀ (m c : Nat) (s : pu_S) (D : Nat → Option ri_E) (σ : ri_S), c + m = 48 → pw_P a0 D0 σ0 T0 s a D σ → (∀ (D' : Nat → Option ri_E) (σ' : ri_S), pw_P a0 D0 σ0 T0 (pu_pall e m c s.1, s.2) a D' σ' → Q none σ') → ev_W (d + 2) mSt_passEmptyEntries (2, [some (.ref (a0 0)), some (.long e), none, some (.int (nI c))], []) σ Q := by
  intro m
  induction m with
  | zero =>
    intro c s D σ hc hw kk
    obtain rfl : c = 48 := by omega
    refine g_br rfl rfl rfl rfl rfl rfl (fun h => ?_) (fun h => absurd (by decide) h)
    exact g_rt rfl rfl rfl (kk D σ hw)
  | succ m ih =>
    intro c s D σ hc hw kk
    refine g_br rfl rfl rfl rfl rfl rfl (fun h => absurd h (show ¬ nI 48 ≤ nI c from nI_ge (by omega) (by decide))) (fun h => ?_)
    have eS : pu_pall e (m + 1) c s.1 = pu_pall e m (c + 1) (if st_hv e (nI c) = 0 then s.1 else pu_pass s.1 (nI c)) := rfl
    rw [eS] at kk
    have nxt : ∀ (s' : pu_S) (D' : Nat → Option ri_E) (σ' : ri_S), s' = (if st_hv e (nI c) = 0 then s.1 else pu_pass s.1 (nI c), s.2) → pw_P a0 D0 σ0 T0 s' a D' σ' → ev_W (d + 2) mSt_passEmptyEntries (21, [some (.ref (a0 0)), some (.long e), none, some (.int (nI c))], []) σ' Q := by
      intro s' D' σ' hs' hw'
      refine ev_go 2 rfl ?_
      show ev_W (d + 2) mSt_passEmptyEntries (2, [some (.ref (a0 0)), some (.long e), none, some (.int (nI c + 1))], []) σ' Q
      rw [nI_1]
      subst hs'
      exact ih (c + 1) _ D' σ' (by omega) hw' kk
    refine g_clS rfl rfl rfl rfl rfl rfl ?_
    refine st_holds (fun g1 => ?_) (fun g1 => ?_)
    · refine g_br rfl rfl rfl rfl rfl rfl (fun h => absurd h (by decide)) (fun _ => ?_)
      refine g_clV rfl rfl rfl rfl (hw.o ho) rfl rfl rfl ?_
      refine st_pass hw ho (fun D' σ' hw' => ?_)
      exact nxt _ D' σ' (by rw [if_neg g1]) hw'
    · refine g_br rfl rfl rfl rfl rfl rfl (fun _ => ?_) (fun h => absurd rfl h)
      exact nxt _ D σ (by rw [if_pos g1]) hw
set_option maxRecDepth 100000 in
theorem st_lowestOf_loop {e : Int64} (kk : Q (some (.int (st_lo e 48 0))) σ) : ∀ (m c : Nat), c + m = 48 → st_lo e m c = st_lo e 48 0 → ev_W (d + 1) mSt_lowestOf (2, [some (.long e), none, some (.int (nI c))], []) σ Q := by
  intro m
  induction m with
  | zero =>
    intro c hc he
    obtain rfl : c = 48 := by omega
    refine g_br rfl rfl rfl rfl rfl rfl (fun h => ?_) (fun h => absurd (by decide) h)
    rw [← he] at kk
    exact g_rt rfl rfl rfl kk
  | succ m ih =>
    intro c hc he
    refine g_br rfl rfl rfl rfl rfl rfl (fun h => absurd h (show ¬ nI 48 ≤ nI c from nI_ge (by omega) (by decide))) (fun h => ?_)
    have eS : st_lo e (m + 1) c = if st_hv e (nI c) = 0 then st_lo e m (c + 1) else nI c := rfl
    rw [eS] at he
    refine g_clS rfl rfl rfl rfl rfl rfl ?_
    refine st_holds (fun g1 => ?_) (fun g1 => ?_)
    · refine g_br rfl rfl rfl rfl rfl rfl (fun h => absurd h (by decide)) (fun _ => ?_)
      rw [if_neg g1] at he
      rw [← he] at kk
      exact g_rt rfl rfl rfl kk
    · refine g_br rfl rfl rfl rfl rfl rfl (fun _ => ?_) (fun h => absurd rfl h)
      rw [if_pos g1] at he
      refine ev_go 2 rfl ?_
      show ev_W (d + 1) mSt_lowestOf (2, [some (.long e), none, some (.int (nI c + 1))], []) σ Q
      rw [nI_1]
      exact ih (c + 1) (by omega) he
set_option maxRecDepth 100000 in
/-- lowestOf(set) -/
theorem st_lowestOf {e : Int64} (kk : Q (some (.int (st_lo e 48 0))) σ) : ev_W (d + 1) mSt_lowestOf (0, [some (.long e), none, none], []) σ Q := by
  refine ev_go 2 rfl ?_
  exact st_lowestOf_loop kk 48 0 (by omega) rfl
/-- the contract of putFields on group w, m levels being left -/
def pu_C (a0 : Nat → Nat) (D0 : Nat → Option ri_E) (σ0 : ri_S) (T0 : Nat) (ch : Int64) (N n : Nat) (A : Nat → Nat → Int32) (S : Nat → Int64) (col : Nat → List co_E) (dd m : Nat) : Prop := ∀ (w : Nat) (s : pu_S) (a : Nat → Nat) (D : Nat → Option ri_E) (σ : ri_S) (Q : Option Value → ri_S → Prop), w < n → pw_P a0 D0 σ0 T0 s a D σ → (∀ (a' : Nat → Nat) (D' : Nat → Option ri_E) (σ' : ri_S), pw_P a0 D0 σ0 T0 (pu_fields A S ch N col m w s) a' D' σ' → Q none σ') → ev_W dd mSt_putFields (0, [some (.ref (a0 0)), some (.int (nI w)), some (.int (nI (16 - m))), none, none], []) σ Q
set_option maxRecDepth 100000 in
/-- putOccurrence(field, depth) -/
theorem pu_putOccurrence {w m : Nat} (hs : sh_P a0 D0 A S I) (ho : D0 0 = some (.inr (4, so_fs a0 cr co tk ch))) (hc : co_P a0 D0 N col ln) (hI : I 8 = nI n) (hn : n ≤ 48) (hwn : w < n) (hm : m < 16) (hrec : pu_C a0 D0 σ0 T0 ch N n A S col (d + 6) m) (hw : pw_P a0 D0 σ0 T0 s a D σ) (kk : ∀ (a' : Nat → Nat) (D' : Nat → Option ri_E) (σ' : ri_S), pw_P a0 D0 σ0 T0 (pu_occ A N col (pu_fields A S ch N col m) w s) a' D' σ' → Q none σ') : ev_W (d + 7) mSt_putOccurrence (0, [some (.ref (a0 0)), some (.int (nI w)), some (.int (nI (15 - m))), none], []) σ Q := by
  have one : ∀ w', w' < n → nI w = nI w' → w' = w := fun w' h1 h2 => ((nI_eq (by omega) (by omega)).mp h2).symm
  unfold pu_occ at kk
  have hP := hw.sc hs
  refine g_get rfl rfl rfl (hw.o ho) rfl ?_
  refine g_clV rfl rfl rfl rfl hP.1 rfl rfl rfl ?_
  refine sc_isGroup hP hI hn (fun w' h1 h2 h3 => ?_) (fun h0 => ?_)
  · rw [one w' h1 h2] at h3
    rw [if_pos h3] at kk
    refine g_br rfl rfl rfl rfl rfl rfl (fun h => absurd h (by decide)) (fun _ => ?_)
    refine g_get rfl rfl rfl (hw.o ho) rfl ?_
    refine g_clV rfl rfl rfl rfl hw.e rfl rfl rfl ?_
    refine pw_eadd hw (fun a1 D1 σ1 hw1 => ?_)
    refine g_clV rfl rfl rfl rfl (hw1.o ho) rfl rfl rfl ?_
    show ev_W (d + 6) mSt_putFields (0, [some (.ref (a0 0)), some (.int (nI w)), some (.int (nI (15 - m) + 1)), none, none], []) σ1 _
    rw [nI_1, show 15 - m + 1 = 16 - m by omega]
    refine hrec w _ a1 D1 σ1 _ hwn hw1 (fun a2 D2 σ2 hw2 => ?_)
    refine g_get rfl rfl rfl (hw2.o ho) rfl ?_
    refine g_clV rfl rfl rfl rfl hw2.e rfl rfl rfl ?_
    refine pw_eadd hw2 (fun a3 D3 σ3 hw3 => ?_)
    exact g_rt rfl rfl rfl (kk a3 D3 σ3 hw3)
  · have h3 := h0 w hwn rfl
    rw [if_neg h3] at kk
    refine g_br rfl rfl rfl rfl rfl rfl (fun _ => ?_) (fun h => absurd rfl h)
    refine g_get rfl rfl rfl (hw.o ho) rfl ?_
    refine g_clV rfl rfl rfl rfl hP.1 rfl rfl rfl ?_
    refine sc_columnOf hP hI hn (fun w' h1 h2 => ?_) (fun h0 => absurd rfl (h0 w hwn))
    rw [one w' h1 h2]
    refine g_get rfl rfl rfl (hw.o ho) rfl ?_
    refine g_clV rfl rfl rfl rfl (hw.o ho) rfl rfl rfl ?_
    refine st_peek hw ho hc ?_
    refine g_clV rfl rfl rfl rfl hw.e rfl rfl rfl ?_
    refine pw_eadd hw (fun a1 D1 σ1 hw1 => ?_)
    refine g_clV rfl rfl rfl rfl (hw1.o ho) rfl rfl rfl ?_
    refine st_pass hw1 ho (fun D2 σ2 hw2 => ?_)
    exact g_rt rfl rfl rfl (kk a1 D2 σ2 hw2)
set_option maxRecDepth 100000 in
/-- comesAgain(field, guide) -/
theorem pu_comesAgain {w : Nat} {gd : Int32} (hs : sh_P a0 D0 A S I) (ho : D0 0 = some (.inr (4, so_fs a0 cr co tk ch))) (hc : co_P a0 D0 N col ln) (hI : I 8 = nI n) (hn : n ≤ 48) (hwn : w < n) (hw : pw_P a0 D0 σ0 T0 s a D σ) (k1 : A 1 w = 2 ∧ pu_peek N col s.1 gd 0 = A 3 w → Q (some (.int 1)) σ) (k0 : ¬ (A 1 w = 2 ∧ pu_peek N col s.1 gd 0 = A 3 w) → Q (some (.int 0)) σ) : ev_W (d + 3) mSt_comesAgain (0, [some (.ref (a0 0)), some (.int (nI w)), some (.int gd)], []) σ Q := by
  have one : ∀ w', w' < n → nI w = nI w' → w' = w := fun w' h1 h2 => ((nI_eq (by omega) (by omega)).mp h2).symm
  have hP := hw.sc hs
  refine g_get rfl rfl rfl (hw.o ho) rfl ?_
  refine g_clV rfl rfl rfl rfl hP.1 rfl rfl rfl ?_
  refine sc_kindOf hP hI hn (fun w' h1 h2 => ?_) (fun h0 => absurd rfl (h0 w hwn))
  rw [one w' h1 h2]
  refine g_br rfl rfl rfl rfl rfl rfl (fun g1 => ?_) (fun g1 => ?_)
  rotate_left
  · exact g_rt rfl rfl rfl (k0 (fun z => g1 z.1))
  refine g_clV rfl rfl rfl rfl (hw.o ho) rfl rfl rfl ?_
  refine st_peek hw ho hc ?_
  refine g_get rfl rfl rfl (hw.o ho) rfl ?_
  refine g_clV rfl rfl rfl rfl hP.1 rfl rfl rfl ?_
  refine sc_repetitionOf hP hI hn (fun w' h1 h2 => ?_) (fun h0 => absurd rfl (h0 w hwn))
  rw [one w' h1 h2]
  refine g_br rfl rfl rfl rfl rfl rfl (fun g2 => ?_) (fun g2 => ?_)
  · exact g_rt rfl rfl rfl (k1 ⟨g1, g2⟩)
  · exact g_rt rfl rfl rfl (k0 (fun z => g2 z.2))
set_option maxRecDepth 100000 in
theorem pu_rep_loop {w m : Nat} {gd : Int32} {e : Int64} (hs : sh_P a0 D0 A S I) (ho : D0 0 = some (.inr (4, so_fs a0 cr co tk ch))) (hc : co_P a0 D0 N col ln) (hI : I 8 = nI n) (hn : n ≤ 48) (hwn : w < n) (hm : m < 16) (hrec : pu_C a0 D0 σ0 T0 ch N n A S col (d + 6) m) : ∀ (t i : Nat) (s : pu_S) (a : Nat → Nat) (D : Nat → Option ri_E) (σ : ri_S), i + t = 2048 → pw_P a0 D0 σ0 T0 s a D σ → (∀ (a' : Nat → Nat) (D' : Nat → Option ri_E) (σ' : ri_S), pw_P a0 D0 σ0 T0 (pu_rep A N col (pu_occ A N col (pu_fields A S ch N col m) w) w gd t s) a' D' σ' → Q none σ') → ev_W (d + 8) mSt_putField (60, [some (.ref (a0 0)), some (.int (nI w)), some (.int (nI (15 - m))), some (.long e), none, some (.int gd), some (.int (nI i))], []) σ Q := by
  intro t
  induction t with
  | zero =>
    intro i s a D σ hi hw kk
    obtain rfl : i = 2048 := by omega
    refine g_br rfl rfl rfl rfl rfl rfl (fun h => ?_) (fun h => absurd (by decide) h)
    exact g_rt rfl rfl rfl (kk a D σ hw)
  | succ t ih =>
    intro i s a D σ hi hw kk
    have eS : pu_rep A N col (pu_occ A N col (pu_fields A S ch N col m) w) w gd (t + 1) s = if A 1 w = 2 ∧ pu_peek N col s.1 gd 0 = A 3 w then pu_rep A N col (pu_occ A N col (pu_fields A S ch N col m) w) w gd t (pu_occ A N col (pu_fields A S ch N col m) w s) else s := rfl
    rw [eS] at kk
    refine g_br rfl rfl rfl rfl rfl rfl (fun h => absurd h (show ¬ nI 2048 ≤ nI i from nI_ge (by omega) (by decide))) (fun h => ?_)
    refine g_clV rfl rfl rfl rfl (hw.o ho) rfl rfl rfl ?_
    refine pu_comesAgain hs ho hc hI hn hwn hw (fun g1 => ?_) (fun g1 => ?_)
    · rw [if_pos g1] at kk
      refine g_br rfl rfl rfl rfl rfl rfl (fun h => absurd h (by decide)) (fun _ => ?_)
      refine g_clV rfl rfl rfl rfl (hw.o ho) rfl rfl rfl ?_
      refine pu_putOccurrence hs ho hc hI hn hwn hm hrec hw (fun a1 D1 σ1 hw1 => ?_)
      refine ev_go 2 rfl ?_
      show ev_W (d + 8) mSt_putField (60, [some (.ref (a0 0)), some (.int (nI w)), some (.int (nI (15 - m))), some (.long e), none, some (.int gd), some (.int (nI i + 1))], []) σ1 Q
      rw [nI_1]
      exact ih (i + 1) _ a1 D1 σ1 (by omega) hw1 kk
    · rw [if_neg g1] at kk
      refine g_br rfl rfl rfl rfl rfl rfl (fun _ => ?_) (fun h => absurd rfl h)
      exact g_rt rfl rfl rfl (kk a D σ hw)
set_option maxRecDepth 100000 in
/-- putField(field, depth) -/
theorem pu_putField {w m : Nat} (hs : sh_P a0 D0 A S I) (ho : D0 0 = some (.inr (4, so_fs a0 cr co tk ch))) (hc : co_P a0 D0 N col ln) (hI : I 8 = nI n) (hn : n ≤ 48) (hwn : w < n) (hm : m < 16) (hrec : pu_C a0 D0 σ0 T0 ch N n A S col (d + 6) m) (hw : pw_P a0 D0 σ0 T0 s a D σ) (kk : ∀ (a' : Nat → Nat) (D' : Nat → Option ri_E) (σ' : ri_S), pw_P a0 D0 σ0 T0 (pu_field A S ch N col (pu_fields A S ch N col m) w s) a' D' σ' → Q none σ') : ev_W (d + 8) mSt_putField (0, [some (.ref (a0 0)), some (.int (nI w)), some (.int (nI (15 - m))), none, none, none, none], []) σ Q := by
  have one : ∀ w', w' < n → nI w = nI w' → w' = w := fun w' h1 h2 => ((nI_eq (by omega) (by omega)).mp h2).symm
  unfold pu_field at kk
  have hP := hw.sc hs
  refine g_get rfl rfl rfl (hw.o ho) rfl ?_
  refine g_clV rfl rfl rfl rfl hP.1 rfl rfl rfl ?_
  refine sc_columnsIn hP hI hn (fun w' h1 h2 => ?_) (fun h0 => absurd rfl (h0 w hwn))
  rw [one w' h1 h2]
  refine g_get rfl rfl rfl (hw.o ho) rfl ?_
  refine g_clS rfl rfl rfl rfl rfl rfl ?_
  refine st_lowestOf ?_
  refine g_br rfl rfl rfl rfl rfl rfl (fun g1 => ?_) (fun g1 => ?_)
  · rw [if_pos g1] at kk
    exact g_rt rfl rfl rfl (kk a D σ hw)
  rw [if_neg g1] at kk
  refine g_clV rfl rfl rfl rfl (hw.o ho) rfl rfl rfl ?_
  refine st_peek hw ho hc ?_
  refine g_get rfl rfl rfl (hw.o ho) rfl ?_
  refine g_clV rfl rfl rfl rfl hP.1 rfl rfl rfl ?_
  refine sc_definitionOf hP hI hn (fun w' h1 h2 => ?_) (fun h0 => absurd rfl (h0 w hwn))
  rw [one w' h1 h2]
  refine g_br rfl rfl rfl rfl rfl rfl (fun g2 => ?_) (fun g2 => ?_)
  rotate_left
  · rw [if_pos (Int32.not_le.mp g2)] at kk
    refine g_clV rfl rfl rfl rfl (hw.o ho) rfl rfl rfl ?_
    refine ev_go 2 rfl ?_
    refine pu_pall_loop ho 48 0 s D σ (by omega) hw (fun D' σ' hw' => ?_)
    exact g_rt rfl rfl rfl (kk a D' σ' hw')
  rw [if_neg (Int32.not_lt.mpr g2)] at kk
  refine g_clV rfl rfl rfl rfl (hw.o ho) rfl rfl rfl ?_
  refine pu_putOccurrence hs ho hc hI hn hwn hm hrec hw (fun a1 D1 σ1 hw1 => ?_)
  refine ev_go 2 rfl ?_
  exact pu_rep_loop hs ho hc hI hn hwn hm hrec 2047 1 _ a1 D1 σ1 (by omega) hw1 kk
set_option maxRecDepth 100000 in
theorem pu_loop_ok {m hi : Nat} {g : Int32} (hs : sh_P a0 D0 A S I) (ho : D0 0 = some (.inr (4, so_fs a0 cr co tk ch))) (hc : co_P a0 D0 N col ln) (hI : I 8 = nI n) (hn : n ≤ 48) (hm : m < 16) (hhi : hi ≤ n) (hrec : pu_C a0 D0 σ0 T0 ch N n A S col (d + 6) m) : ∀ (t f : Nat) (s : pu_S) (a : Nat → Nat) (D : Nat → Option ri_E) (σ : ri_S), t = hi - f → f ≤ 48 → pw_P a0 D0 σ0 T0 s a D σ → (∀ (a' : Nat → Nat) (D' : Nat → Option ri_E) (σ' : ri_S), pw_P a0 D0 σ0 T0 (pu_loop A S ch N col (pu_fields A S ch N col m) g t f s) a' D' σ' → Q none σ') → ev_W (d + 9) mSt_putFields (21, [some (.ref (a0 0)), some (.int g), some (.int (nI (15 - m))), some (.int (nI hi)), some (.int (nI f))], []) σ Q := by
  intro t
  induction t with
  | zero =>
    intro f s a D σ hf hf2 hw kk
    refine g_br rfl rfl rfl rfl rfl rfl (fun h => ?_) (fun h => absurd (nI_le (by omega) (by omega)) h)
    exact g_rt rfl rfl rfl (kk a D σ hw)
  | succ t ih =>
    intro f s a D σ hf hf2 hw kk
    have eS : pu_loop A S ch N col (pu_fields A S ch N col m) g (t + 1) f s = pu_loop A S ch N col (pu_fields A S ch N col m) g t (f + 1) (if A 0 f = g then pu_field A S ch N col (pu_fields A S ch N col m) f s else s) := rfl
    rw [eS] at kk
    have hP := hw.sc hs
    refine g_br rfl rfl rfl rfl rfl rfl (fun h => absurd h (nI_ge (by omega) (by omega))) (fun h => ?_)
    have nxt : ∀ (s' : pu_S) (a' : Nat → Nat) (D' : Nat → Option ri_E) (σ' : ri_S), s' = (if A 0 f = g then pu_field A S ch N col (pu_fields A S ch N col m) f s else s) → pw_P a0 D0 σ0 T0 s' a' D' σ' → ev_W (d + 9) mSt_putFields (47, [some (.ref (a0 0)), some (.int g), some (.int (nI (15 - m))), some (.int (nI hi)), some (.int (nI f))], []) σ' Q := by
      intro s' a' D' σ' hs' hw'
      refine ev_go 2 rfl ?_
      show ev_W (d + 9) mSt_putFields (21, [some (.ref (a0 0)), some (.int g), some (.int (nI (15 - m))), some (.int (nI hi)), some (.int (nI f + 1))], []) σ' Q
      rw [nI_1]
      subst hs'
      exact ih (f + 1) _ a' D' σ' (by omega) (by omega) hw' kk
    refine g_get rfl rfl rfl (hw.o ho) rfl ?_
    refine g_clV rfl rfl rfl rfl hP.1 rfl rfl rfl ?_
    refine sc_parentOf hP hI hn (fun w' h1 h2 => ?_) (fun h0 => absurd rfl (h0 f (by omega)))
    rw [show w' = f from ((nI_eq (by omega) (by omega)).mp h2).symm]
    refine g_br rfl rfl rfl rfl rfl rfl (fun g1 => ?_) (fun g1 => ?_)
    · refine g_clV rfl rfl rfl rfl (hw.o ho) rfl rfl rfl ?_
      refine pu_putField hs ho hc hI hn (show f < n by omega) hm hrec hw (fun a' D' σ' hw' => ?_)
      exact nxt _ a' D' σ' (by rw [if_pos g1]) hw'
    · exact nxt _ a D σ (by rw [if_neg g1]) hw
set_option maxRecDepth 100000 in
/-- putFields on a group -/
theorem pu_putFields (hs : sh_P a0 D0 A S I) (ho : D0 0 = some (.inr (4, so_fs a0 cr co tk ch))) (hc : co_P a0 D0 N col ln) (hI : I 8 = nI n) (hn : n ≤ 48) (hend : ∀ w, w < n → ∃ e, e ≤ n ∧ A 6 w = nI e) : ∀ (m : Nat), m ≤ 16 → ∀ d, pu_C a0 D0 σ0 T0 ch N n A S col (d + 3 * m + 6) m := by
  intro m
  induction m with
  | zero =>
    intro _ d w s a D σ Q hwn hw kk
    refine g_br rfl rfl rfl rfl rfl rfl (fun h => absurd h (by decide)) (fun h => ?_)
    exact g_rt rfl rfl rfl (kk a D σ hw)
  | succ m ih =>
    intro hm d w s a D σ Q hwn hw kk
    rw [show d + 3 * (m + 1) + 6 = (d + 3 * m) + 9 by omega, show 16 - (m + 1) = 15 - m by omega]
    refine g_br rfl rfl rfl rfl rfl rfl (fun h => ?_) (fun h => absurd (show nI (15 - m) < nI 16 from nI_lt (by omega) (by decide)) h)
    have hP := hw.sc hs
    refine g_get rfl rfl rfl (hw.o ho) rfl ?_
    refine g_clV rfl rfl rfl rfl hP.1 rfl rfl rfl ?_
    refine sc_endOf hP hI hn (fun w' h1 h2 => ?_) (fun h0 => absurd rfl (h0 w hwn))
    rw [show w' = w from ((nI_eq (by omega) (by omega)).mp h2).symm]
    obtain ⟨e, he, ee⟩ := hend w hwn
    rw [ee]
    refine ev_go 5 rfl ?_
    show ev_W (d + 3 * m + 9) mSt_putFields (21, [some (.ref (a0 0)), some (.int (nI w)), some (.int (nI (15 - m))), some (.int (nI e)), some (.int (nI w + 1))], []) σ Q
    rw [nI_1]
    have eS : pu_fields A S ch N col (m + 1) w s = pu_loop A S ch N col (pu_fields A S ch N col m) (nI w) ((A 6 w).toNatClampNeg - (w + 1)) (w + 1) s := rfl
    rw [eS, ee, nI_clamp (by omega)] at kk
    exact pu_loop_ok hs ho hc hI hn (by omega) he (ih (by omega) d) _ (w + 1) s a D σ rfl (by omega) hw kk
def pu_all (A : Nat → Nat → Int32) (S : Nat → Int64) (ch : Int64) (N n : Nat) (col : Nat → List co_E) (s : pu_S) : pu_S := pu_loop A S ch N col (pu_fields A S ch N col 15) (-1) n 0 s
set_option maxRecDepth 100000 in
/-- putFields(NONE, 0) -/
theorem pu_putAll (hs : sh_P a0 D0 A S I) (ho : D0 0 = some (.inr (4, so_fs a0 cr co tk ch))) (hc : co_P a0 D0 N col ln) (hI : I 8 = nI n) (hn : n ≤ 48) (hend : ∀ w, w < n → ∃ e, e ≤ n ∧ A 6 w = nI e) (hw : pw_P a0 D0 σ0 T0 s a D σ) (kk : ∀ (a' : Nat → Nat) (D' : Nat → Option ri_E) (σ' : ri_S), pw_P a0 D0 σ0 T0 (pu_all A S ch N n col s) a' D' σ' → Q none σ') : ev_W (d + 60) mSt_putFields (0, [some (.ref (a0 0)), some (.int (-1)), some (.int 0), none, none], []) σ Q := by
  refine g_br rfl rfl rfl rfl rfl rfl (fun h => ?_) (fun h => absurd (by decide) h)
  have hP := hw.sc hs
  refine g_get rfl rfl rfl (hw.o ho) rfl ?_
  refine g_clV rfl rfl rfl rfl hP.1 rfl rfl rfl ?_
  refine sc_endOf hP hI hn (fun w' h1 h2 => absurd h2.symm (nI_nm1 (by omega))) (fun h0 => ?_)
  refine ev_go 5 rfl ?_
  show ev_W (d + 6 + 3 * 15 + 9) mSt_putFields (21, [some (.ref (a0 0)), some (.int (-1)), some (.int (nI (15 - 15))), some (.int (nI n)), some (.int (nI 0))], []) σ Q
  exact pu_loop_ok (m := 15) hs ho hc hI hn (by decide) (Nat.le_refl _) (pu_putFields hs ho hc hI hn hend 15 (by decide) (d + 6)) n 0 s a D σ (by omega) (by decide) hw kk
/-- the cursors at a record's beginning -/
def pu_seek (N : Nat) (col : Nat → List co_E) (ch : Int64) (r : Int32) : Nat → Nat → (Nat → Int32) → Nat → Int32
  | 0, _, C => C
  | m + 1, c, C => pu_seek N col ch r m (c + 1) (if st_hv ch (nI c) = 0 then C else upd C c (co_from N col (nI c) r))
set_option maxRecDepth 100000 in
theorem pu_seek_loop (ho : D0 0 = some (.inr (4, so_fs a0 cr co tk ch))) (hc : co_P a0 D0 N col ln) {r : Int32} : ∀ (m c : Nat) (s : pu_S) (D : Nat → Option ri_E) (σ : ri_S), c + m = 48 → pw_P a0 D0 σ0 T0 s a D σ → (∀ (D' : Nat → Option ri_E) (σ' : ri_S), pw_P a0 D0 σ0 T0 (pu_seek N col ch r m c s.1, s.2) a D' σ' → Q none σ') → ev_W (d + 3) mSt_seek (2, [some (.ref (a0 0)), some (.int r), some (.int (nI c))], []) σ Q := by
  intro m
  induction m with
  | zero =>
    intro c s D σ hc' hw kk
    obtain rfl : c = 48 := by omega
    refine g_br rfl rfl rfl rfl rfl rfl (fun h => ?_) (fun h => absurd (by decide) h)
    exact g_rt rfl rfl rfl (kk D σ hw)
  | succ m ih =>
    intro c s D σ hc' hw kk
    refine g_br rfl rfl rfl rfl rfl rfl (fun h => absurd h (show ¬ nI 48 ≤ nI c from nI_ge (by omega) (by decide))) (fun h => ?_)
    have eS : pu_seek N col ch r (m + 1) c s.1 = pu_seek N col ch r m (c + 1) (if st_hv ch (nI c) = 0 then s.1 else upd s.1 c (co_from N col (nI c) r)) := rfl
    rw [eS] at kk
    have nxt : ∀ (s' : pu_S) (D' : Nat → Option ri_E) (σ' : ri_S), s' = (if st_hv ch (nI c) = 0 then s.1 else upd s.1 c (co_from N col (nI c) r), s.2) → pw_P a0 D0 σ0 T0 s' a D' σ' → ev_W (d + 3) mSt_seek (34, [some (.ref (a0 0)), some (.int r), some (.int (nI c))], []) σ' Q := by
      intro s' D' σ' hs' hw'
      refine ev_go 2 rfl ?_
      show ev_W (d + 3) mSt_seek (2, [some (.ref (a0 0)), some (.int r), some (.int (nI c + 1))], []) σ' Q
      rw [nI_1]
      subst hs'
      exact ih (c + 1) _ D' σ' (by omega) hw' kk
    refine g_get rfl rfl rfl (hw.o ho) rfl ?_
    refine g_clS rfl rfl rfl rfl rfl rfl ?_
    refine st_holds (fun g1 => ?_) (fun g1 => ?_)
    · refine g_br rfl rfl rfl rfl rfl rfl (fun h => absurd h (by decide)) (fun _ => ?_)
      refine g_get rfl rfl rfl (hw.o ho) rfl ?_
      refine g_get rfl rfl rfl (hw.o ho) rfl ?_
      refine g_clV rfl rfl rfl rfl (hw.c hc) rfl rfl rfl ?_
      show ev_W (d + 2) mCo_startOf (0, [some (.ref (a0 9)), some (.int (nI c)), some (.int r), none, none, none], []) σ _
      rw [← hw.2.1.2 9 (by decide)]
      refine co_startOf hw.1 (hw.cq hc) ?_
      obtain ⟨h1, h2, h3, le, h4, h6⟩ := hw
      refine gw_ast' h1 h3 (h2.2 8 (by decide)) rfl rfl rfl (show c < 48 by omega) (by decide) (fun σ1 hG1 e1 => ?_)
      refine nxt (upd s.1 c (co_from N col (nI c) r), s.2) _ σ1 (by rw [if_neg g1]) ⟨hG1, ⟨fun i hi => (va_up_n (by omega)).trans (h2.1 i hi), h2.2⟩, rfl, le, h4.fr (fun i g1 g2 => ⟨va_up_n (by omega), rfl⟩), ?_⟩
      unfold gw_ro at *
      rw [e1]
      exact h6
    · refine g_br rfl rfl rfl rfl rfl rfl (fun _ => ?_) (fun h => absurd rfl h)
      exact nxt _ D σ (by rw [if_pos g1]) hw
end PW
