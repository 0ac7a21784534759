/-! STRIPING, role 0: a record that ends is taken apart (keepRecord and what it calls), as a function of the draft and the columns. -/
def so_fs (a : Nat → Nat) (cr co tk : Int32) (ch : Int64) : List Value := [.ref (a 60), .ref (a 1), .ref (a 6), .ref (a 8), .ref (a 9), .int cr, .int co, .int tk, .long ch]
abbrev tk_S : Type := Int32 × (Nat → List co_E)
/-- is bit x in the set: not 0 if so -/
def st_hv (s : Int64) (x : Int32) : Int32 := lg_cmp ((s.toUInt64 >>> (x.toInt64.toUInt64 &&& Int64.toUInt64 63)).toInt64 &&& lN 1) (lN 0)
/-- an empty entry for each column of the set -/
def tk_emp (N : Nat) (s : Int64) (re de : Int32) : Nat → Nat → (Nat → List co_E) → Nat → List co_E
  | 0, _, col => col
  | m + 1, c, col => tk_emp N s re de m (c + 1) (if st_hv s (nI c) = 0 then col else co_ad N col (nI c) (re, de, 0))
def tk_occ (A : Nat → Nat → Int32) (V : Nat → Int32) (k N : Nat) (rec : Nat → Int32 → tk_S → tk_S) (w : Nat) (re : Int32) (s : tk_S) : tk_S := if A 5 w = -1 then rec w re (s.1 + 1, s.2) else (s.1 + 1, co_ad N s.2 (A 5 w) (re, A 4 w, dr_at V k 0 s.1))
def tk_rep (A : Nat → Nat → Int32) (F : Nat → Int32) (k : Nat) (occ : Int32 → tk_S → tk_S) (w : Nat) : Nat → Int32 → tk_S → tk_S
  | 0, _, s => s
  | m + 1, re, s => if dr_at F k (-1) s.1 = nI w then tk_rep A F k occ w m (A 3 w) (occ re s) else s
def tk_field (A : Nat → Nat → Int32) (S : Nat → Int64) (F V : Nat → Int32) (k N : Nat) (rec : Nat → Int32 → tk_S → tk_S) (w : Nat) (re : Int32) (s : tk_S) : tk_S := if dr_at F k (-1) s.1 = nI w then tk_rep A F k (tk_occ A V k N rec w) w 2048 re s else (s.1, tk_emp N (S w) re (sc_of A 4 (A 0 w)) 48 0 s.2)
def tk_loop (A : Nat → Nat → Int32) (S : Nat → Int64) (F V : Nat → Int32) (k N : Nat) (rec : Nat → Int32 → tk_S → tk_S) (g re : Int32) : Nat → Nat → tk_S → tk_S
  | 0, _, s => s
  | m + 1, f, s => tk_loop A S F V k N rec g re m (f + 1) (if A 0 f = g then tk_field A S F V k N rec f re s else s)
def tk_fields (A : Nat → Nat → Int32) (S : Nat → Int64) (F V : Nat → Int32) (k N : Nat) : Nat → Nat → Int32 → tk_S → tk_S
  | 0, _, _, s => s
  | m + 1, w, re, s => tk_loop A S F V k N (tk_fields A S F V k N m) (nI w) re ((A 6 w).toNatClampNeg - (w + 1)) (w + 1) s
/-- the roles that stay while a record is taken apart -/
def tk_F (a0 : Nat → Nat) (D0 : Nat → Option ri_E) (a : Nat → Nat) (D : Nat → Option ri_E) : Prop := (∀ i, (1 ≤ i ∧ i < 9 ∨ 60 ≤ i) → D i = D0 i) ∧ ∀ i, (i < 12 ∨ 60 ≤ i) → a i = a0 i
def tw_P (a0 : Nat → Nat) (D0 : Nat → Option ri_E) (σ0 : ri_S) (T0 : Nat) (cr co : Int32) (ch : Int64) (N : Nat) (s : tk_S) (a : Nat → Nat) (D : Nat → Option ri_E) (σ : ri_S) : Prop := gw_P a D σ ∧ D 0 = some (.inr (4, so_fs a cr co s.1 ch)) ∧ tk_F a0 D0 a D ∧ ∃ ln, co_P a D N s.2 ln ∧ gw_ro T0 (co_su N ln) σ0 σ
section TW
variable {a0 a : Nat → Nat} {D0 D : Nat → Option ri_E} {σ0 σ : ri_S} {T0 : Nat} {cr co : Int32} {ch : Int64} {N n : Nat} {A : Nat → Nat → Int32} {S : Nat → Int64} {I : Nat → Int32} {F V G W : Nat → Int32} {lf lv k dp : Nat} {bg : Int32} {d : Nat} {Q : Option Value → ri_S → Prop} {s : tk_S}
theorem tk_F.so (h : tk_F a0 D0 a D) (cr co tk : Int32) (ch : Int64) : so_fs a cr co tk ch = so_fs a0 cr co tk ch := by
  unfold so_fs
  rw [h.2 60 (by decide), h.2 1 (by decide), h.2 6 (by decide), h.2 8 (by decide), h.2 9 (by decide)]
theorem tw_P.o (h : tw_P a0 D0 σ0 T0 cr co ch N s a D σ) : σ.1 (a0 0) = some (.inr (4, so_fs a0 cr co s.1 ch)) := by
  rw [← h.2.2.1.2 0 (by decide), ← h.2.2.1.so]
  exact h.1.at h.2.1
theorem tw_P.sc (h : tw_P a0 D0 σ0 T0 cr co ch N s a D σ) (hs : sh_P a0 D0 A S I) : sc_P (a0 60) A S I σ.1 := by
  rw [← h.2.2.1.2 60 (by decide)]
  exact (hs.fr (fun i h1 h2 => ⟨h.2.2.1.1 i (by omega), h.2.2.1.2 i (by omega)⟩)).sc h.1
theorem tw_P.dr (h : tw_P a0 D0 σ0 T0 cr co ch N s a D σ) (hd : dr_P a0 D0 F V G W lf lv k dp bg) : dr_P a D F V G W lf lv k dp bg := hd.fr (fun i h1 h2 => ⟨h.2.2.1.1 i (by omega), h.2.2.1.2 i (by omega)⟩)
theorem tw_P.dd (h : tw_P a0 D0 σ0 T0 cr co ch N s a D σ) (hd : dr_P a0 D0 F V G W lf lv k dp bg) : σ.1 (a0 1) = some (.inr (1, [.ref (a 2), .ref (a 3), .ref (a 4), .ref (a 5), .int (nI k), .int (nI dp), .int bg])) := by
  rw [← h.2.2.1.2 1 (by decide)]
  exact h.1.at (h.dr hd).1
theorem tw_P.c (h : tw_P a0 D0 σ0 T0 cr co ch N s a D σ) : σ.1 (a0 9) = some (.inr (0, [.ref (a 10), .ref (a 11)])) := by
  obtain ⟨ln, hc, -⟩ := h.2.2.2
  rw [← h.2.2.1.2 9 (by decide)]
  exact h.1.at hc.1
theorem tw_put {M : ri_M} {F : ri_F} {pc np tg kf : Nat} {kv v : Int32} {L : List (Option Value)} {r : List Value} (hw : tw_P a0 D0 σ0 T0 cr co ch N s a D σ) (hgo : ri_go 99 M F = (pc, L, .int v :: .ref (a0 0) :: r)) (hf : ri_find pc M.2.2.2.2.2 = some (.putfield kf, np, tg, kv)) (ht : rt_f M.1 kf = some (4, 7, .int, 0)) (kk : ∀ (D' : Nat → Option ri_E) (σ' : ri_S), tw_P a0 D0 σ0 T0 cr co ch N (v, s.2) a D' σ' → ev_W d M (np, L, r) σ' Q) : ev_W d M F σ Q := by
  obtain ⟨h1, h2, h3, ln, h4, h5⟩ := hw
  rw [← h3.2 0 (by decide)] at hgo
  refine gw_put h1 h2 hgo hf ht rfl rfl rfl (fun σ' hG' e => ?_)
  refine kk _ σ' ⟨hG', rfl, ⟨fun i hi => (va_up_n (by omega)).trans (h3.1 i hi), h3.2⟩, ln, h4.fr (fun i g1 g2 => ⟨va_up_n (by omega), rfl⟩), ?_⟩
  unfold gw_ro at *
  rw [e]
  exact h5
theorem tw_cadd (hw : tw_P a0 D0 σ0 T0 cr co ch N s a D σ) {x re de v : Int32} (kk : ∀ (a' : Nat → Nat) (D' : Nat → Option ri_E) (σ' : ri_S), tw_P a0 D0 σ0 T0 cr co ch N (s.1, co_ad N s.2 x (re, de, v)) a' D' σ' → Q none σ') : ev_W (d + 3) mCo_add (0, [some (.ref (a0 9)), some (.int x), some (.int re), some (.int de), some (.int v), none, none], []) σ Q := by
  obtain ⟨h1, h2, h3, ln, h4, h5⟩ := hw
  rw [← h3.2 9 (by decide)]
  refine co_add h1 h4 (fun a' D' σ' ln' hG' hc' hF' ha' ho' => ?_)
  have hF2 : tk_F a0 D0 a' D' := ⟨fun i hi => (hF' i (by omega)).1.trans (h3.1 i hi), fun i hi => by
    rcases Nat.lt_or_ge i 12 with z | z
    · exact (ha' i z).trans (h3.2 i hi)
    · exact (hF' i (by omega)).2.trans (h3.2 i hi)⟩
  refine kk a' D' σ' ⟨hG', ?_, hF2, ln', hc', h5.tr ho'⟩
  rw [hF2.so, ← h3.so]
  exact (hF' 0 (by decide)).1.trans h2
set_option maxRecDepth 100000 in
/-- holds(set, column) -/
theorem st_holds {s : Int64} {x : Int32} (k1 : ¬ st_hv s x = 0 → Q (some (.int 1)) σ) (k0 : st_hv s x = 0 → Q (some (.int 0)) σ) : ev_W d mSt_holds (0, [some (.long s), none, some (.int x)], []) σ Q := by
  refine g_br rfl rfl rfl rfl rfl rfl (fun h => ?_) (fun h => ?_)
  · exact g_rt rfl rfl rfl (k0 h)
  · exact g_rt rfl rfl rfl (k1 h)
set_option maxRecDepth 100000 in
theorem tk_emp_loop {f re de : Int32} {e : Int64} : ∀ (m c : Nat) (s : tk_S) (a : Nat → Nat) (D : Nat → Option ri_E) (σ : ri_S), c + m = 48 → tw_P a0 D0 σ0 T0 cr co ch N s a D σ → (∀ (a' : Nat → Nat) (D' : Nat → Option ri_E) (σ' : ri_S), tw_P a0 D0 σ0 T0 cr co ch N (s.1, tk_emp N e re de m c s.2) a' D' σ' → Q none σ') → ev_W (d + 4) mSt_addEmptyEntries (29, [some (.ref (a0 0)), some (.int f), some (.int re), some (.int de), some (.long e), none, some (.int (nI c))], []) σ Q := by
  intro m
  induction m with
  | zero =>
    intro c s a D σ hc hw kk
    obtain rfl : c = 48 := by omega
    refine g_br rfl rfl rfl rfl rfl rfl (fun h => ?_) (fun h => absurd (by decide) h)
    exact g_rt rfl rfl rfl (kk a D σ hw)
  | succ m ih =>
    intro c s a D σ hc hw kk
    refine g_br rfl rfl rfl rfl rfl rfl (fun h => absurd h (show ¬ nI 48 ≤ nI c from nI_ge (by omega) (by decide))) (fun h => ?_)
    have eS : tk_emp N e re de (m + 1) c s.2 = tk_emp N e re de m (c + 1) (if st_hv e (nI c) = 0 then s.2 else co_ad N s.2 (nI c) (re, de, 0)) := rfl
    rw [eS] at kk
    have nxt : ∀ (s' : tk_S) (a' : Nat → Nat) (D' : Nat → Option ri_E) (σ' : ri_S), s' = (s.1, if st_hv e (nI c) = 0 then s.2 else co_ad N s.2 (nI c) (re, de, 0)) → tw_P a0 D0 σ0 T0 cr co ch N s' a' D' σ' → ev_W (d + 4) mSt_addEmptyEntries (58, [some (.ref (a0 0)), some (.int f), some (.int re), some (.int de), some (.long e), none, some (.int (nI c))], []) σ' Q := by
      intro s' a' D' σ' hs' hw'
      refine ev_go 2 rfl ?_
      show ev_W (d + 4) mSt_addEmptyEntries (29, [some (.ref (a0 0)), some (.int f), some (.int re), some (.int de), some (.long e), none, some (.int (nI c + 1))], []) σ' Q
      rw [nI_1]
      subst hs'
      exact ih (c + 1) _ a' D' σ' (by omega) hw' kk
    refine g_clS rfl rfl rfl rfl rfl rfl ?_
    refine st_holds (fun g1 => ?_) (fun g1 => ?_)
    · refine g_br rfl rfl rfl rfl rfl rfl (fun h => absurd h (by decide)) (fun _ => ?_)
      refine g_get rfl rfl rfl hw.o rfl ?_
      refine g_clV rfl rfl rfl rfl hw.c rfl rfl rfl ?_
      refine tw_cadd hw (fun a' D' σ' hw' => ?_)
      exact nxt _ a' D' σ' (by rw [if_neg g1]) hw'
    · refine g_br rfl rfl rfl rfl rfl rfl (fun _ => ?_) (fun h => absurd rfl h)
      exact nxt _ a D σ (by rw [if_pos g1]) hw
set_option maxRecDepth 100000 in
/-- addEmptyEntries(field, repetition) -/
theorem tk_addEmpty {w : Nat} {re : Int32} (hs : sh_P a0 D0 A S I) (hI : I 8 = nI n) (hn : n ≤ 48) (hup : mo_up (A 0) n) (hwn : w < n) (hw : tw_P a0 D0 σ0 T0 cr co ch N s a D σ) (kk : ∀ (a' : Nat → Nat) (D' : Nat → Option ri_E) (σ' : ri_S), tw_P a0 D0 σ0 T0 cr co ch N (s.1, tk_emp N (S w) re (sc_of A 4 (A 0 w)) 48 0 s.2) a' D' σ' → Q none σ') : ev_W (d + 4) mSt_addEmptyEntries (0, [some (.ref (a0 0)), some (.int (nI w)), some (.int re), none, none, none, none], []) σ Q := by
  have hP := hw.sc hs
  have one : ∀ w', w' < n → nI w = nI w' → w' = w := fun w' h1 h2 => ((nI_eq (by omega) (by omega)).mp h2).symm
  refine g_get rfl rfl rfl hw.o rfl ?_
  refine g_get rfl rfl rfl hw.o rfl ?_
  refine g_clV rfl rfl rfl rfl hP.1 rfl rfl rfl ?_
  refine sc_parentOf hP hI hn (fun w' h1 h2 => ?_) (fun h0 => absurd rfl (h0 w hwn))
  rw [one w' h1 h2]
  refine g_clV rfl rfl rfl rfl hP.1 rfl rfl rfl ?_
  have rest : ∀ x : Int32, x = sc_of A 4 (A 0 w) → ev_W (d + 4) mSt_addEmptyEntries (15, [some (.ref (a0 0)), some (.int (nI w)), some (.int re), none, none, none, none], [.int x]) σ Q := by
    intro x hx
    subst hx
    refine g_get rfl rfl rfl hw.o rfl ?_
    refine g_clV rfl rfl rfl rfl hP.1 rfl rfl rfl ?_
    refine sc_columnsIn hP hI hn (fun w' h1 h2 => ?_) (fun h0 => absurd rfl (h0 w hwn))
    rw [one w' h1 h2]
    refine ev_go 3 rfl ?_
    exact tk_emp_loop 48 0 s a D σ (by omega) hw kk
  refine sc_definitionOf hP hI hn (fun w' h1 h2 => ?_) (fun h0 => ?_)
  · refine rest _ ?_
    unfold sc_of
    rw [h2, if_neg (nI_nm1 (by omega)), nI_clamp (by omega)]
  · refine rest _ ?_
    unfold sc_of
    rcases hup w hwn with z | ⟨p, hp, z⟩
    · rw [if_pos z]
    · exact absurd z (h0 p (by omega))
/-- the contract of takeFields on group w, m levels being left -/
def tk_C (a0 : Nat → Nat) (D0 : Nat → Option ri_E) (σ0 : ri_S) (T0 : Nat) (cr co : Int32) (ch : Int64) (N n : Nat) (A : Nat → Nat → Int32) (S : Nat → Int64) (F V : Nat → Int32) (k : Nat) (dd m : Nat) : Prop := ∀ (w : Nat) (re : Int32) (s : tk_S) (a : Nat → Nat) (D : Nat → Option ri_E) (σ : ri_S) (Q : Option Value → ri_S → Prop), w < n → tw_P a0 D0 σ0 T0 cr co ch N s a D σ → (∀ (a' : Nat → Nat) (D' : Nat → Option ri_E) (σ' : ri_S), tw_P a0 D0 σ0 T0 cr co ch N (tk_fields A S F V k N m w re s) a' D' σ' → Q none σ') → ev_W dd mSt_takeFields (0, [some (.ref (a0 0)), some (.int (nI w)), some (.int re), some (.int (nI (16 - m))), none, none], []) σ Q
set_option maxRecDepth 100000 in
/-- takeOccurrence(field, repetition, depth) -/
theorem tk_takeOccurrence {w m : Nat} {re : Int32} (hs : sh_P a0 D0 A S I) (hd : dr_P a0 D0 F V G W lf lv k dp bg) (hI : I 8 = nI n) (hn : n ≤ 48) (hwn : w < n) (hm : m < 16) (hrec : tk_C a0 D0 σ0 T0 cr co ch N n A S F V k (d + 6) m) (hw : tw_P a0 D0 σ0 T0 cr co ch N s a D σ) (kk : ∀ (a' : Nat → Nat) (D' : Nat → Option ri_E) (σ' : ri_S), tw_P a0 D0 σ0 T0 cr co ch N (tk_occ A V k N (tk_fields A S F V k N m) w re s) a' D' σ' → Q none σ') : ev_W (d + 7) mSt_takeOccurrence (0, [some (.ref (a0 0)), some (.int (nI w)), some (.int re), some (.int (nI (15 - m))), none], []) σ Q := by
  have one : ∀ w', w' < n → nI w = nI w' → w' = w := fun w' h1 h2 => ((nI_eq (by omega) (by omega)).mp h2).symm
  unfold tk_occ at kk
  refine g_get rfl rfl rfl hw.o rfl ?_
  refine g_get rfl rfl rfl hw.o rfl ?_
  refine g_clV rfl rfl rfl rfl (hw.dd hd) rfl rfl rfl ?_
  have e1 := hw.2.2.1.2 1 (by decide)
  show ev_W (d + 6) mDr_valueAt (0, [some (.ref (a0 1)), some (.int s.1)], []) σ _
  rw [← e1]
  refine dr_valueAt hw.1 (hw.dr hd) ?_
  refine g_get rfl rfl rfl hw.o rfl ?_
  refine tw_put hw rfl rfl rfl (fun D1 σ1 hw1 => ?_)
  have hP := hw1.sc hs
  refine g_get rfl rfl rfl hw1.o rfl ?_
  refine g_clV rfl rfl rfl rfl hP.1 rfl rfl rfl ?_
  refine sc_isGroup hP hI hn (fun w' h1 h2 h3 => ?_) (fun h0 => ?_)
  · rw [one w' h1 h2] at h3
    rw [if_pos h3] at kk
    refine g_br rfl rfl rfl rfl rfl rfl (fun h => absurd h (by decide)) (fun _ => ?_)
    refine g_clV rfl rfl rfl rfl hw1.o rfl rfl rfl ?_
    show ev_W (d + 6) mSt_takeFields (0, [some (.ref (a0 0)), some (.int (nI w)), some (.int re), some (.int (nI (15 - m) + 1)), none, none], []) σ1 _
    rw [nI_1, show 15 - m + 1 = 16 - m by omega]
    refine hrec w re _ a D1 σ1 _ hwn hw1 (fun a' D' σ' hw' => ?_)
    exact g_rt rfl rfl rfl (kk a' D' σ' hw')
  · have h3 := h0 w hwn rfl
    rw [if_neg h3] at kk
    refine g_br rfl rfl rfl rfl rfl rfl (fun _ => ?_) (fun h => absurd rfl h)
    refine g_get rfl rfl rfl hw1.o rfl ?_
    refine g_get rfl rfl rfl hw1.o rfl ?_
    refine g_clV rfl rfl rfl rfl hP.1 rfl rfl rfl ?_
    refine sc_columnOf hP hI hn (fun w' h1 h2 => ?_) (fun h0 => absurd rfl (h0 w hwn))
    rw [one w' h1 h2]
    refine g_get rfl rfl rfl hw1.o rfl ?_
    refine g_clV rfl rfl rfl rfl hP.1 rfl rfl rfl ?_
    refine sc_definitionOf hP hI hn (fun w' h1 h2 => ?_) (fun h0 => absurd rfl (h0 w hwn))
    rw [one w' h1 h2]
    refine g_clV rfl rfl rfl rfl hw1.c rfl rfl rfl ?_
    refine tw_cadd hw1 (fun a' D' σ' hw' => ?_)
    exact g_rt rfl rfl rfl (kk a' D' σ' hw')
set_option maxRecDepth 100000 in
theorem tk_rep_loop {w m : Nat} {re0 : Int32} (hs : sh_P a0 D0 A S I) (hd : dr_P a0 D0 F V G W lf lv k dp bg) (hI : I 8 = nI n) (hn : n ≤ 48) (hwn : w < n) (hm : m < 16) (hrec : tk_C a0 D0 σ0 T0 cr co ch N n A S F V k (d + 6) m) : ∀ (t i : Nat) (re : Int32) (s : tk_S) (a : Nat → Nat) (D : Nat → Option ri_E) (σ : ri_S), i + t = 2048 → tw_P a0 D0 σ0 T0 cr co ch N s a D σ → (∀ (a' : Nat → Nat) (D' : Nat → Option ri_E) (σ' : ri_S), tw_P a0 D0 σ0 T0 cr co ch N (tk_rep A F k (tk_occ A V k N (tk_fields A S F V k N m) w) w t re s) a' D' σ' → Q none σ') → ev_W (d + 8) mSt_takeField (28, [some (.ref (a0 0)), some (.int (nI w)), some (.int re0), some (.int (nI (15 - m))), some (.int re), some (.int (nI i))], []) σ Q := by
  intro t
  induction t with
  | zero =>
    intro i re s a D σ hi hw kk
    obtain rfl : i = 2048 := by omega
    refine g_br rfl rfl rfl rfl rfl rfl (fun h => ?_) (fun h => absurd (by decide) h)
    exact g_rt rfl rfl rfl (kk a D σ hw)
  | succ t ih =>
    intro i re s a D σ hi hw kk
    have eS : tk_rep A F k (tk_occ A V k N (tk_fields A S F V k N m) w) w (t + 1) re s = if dr_at F k (-1) s.1 = nI w then tk_rep A F k (tk_occ A V k N (tk_fields A S F V k N m) w) w t (A 3 w) (tk_occ A V k N (tk_fields A S F V k N m) w re s) else s := rfl
    rw [eS] at kk
    refine g_br rfl rfl rfl rfl rfl rfl (fun h => absurd h (show ¬ nI 2048 ≤ nI i from nI_ge (by omega) (by decide))) (fun h => ?_)
    refine g_get rfl rfl rfl hw.o rfl ?_
    refine g_get rfl rfl rfl hw.o rfl ?_
    refine g_clV rfl rfl rfl rfl (hw.dd hd) rfl rfl rfl ?_
    show ev_W (d + 7) mDr_fieldAt (0, [some (.ref (a0 1)), some (.int s.1)], []) σ _
    rw [← hw.2.2.1.2 1 (by decide)]
    refine dr_fieldAt hw.1 (hw.dr hd) ?_
    refine g_br rfl rfl rfl rfl rfl rfl (fun g1 => ?_) (fun g1 => ?_)
    rotate_left
    · rw [if_neg g1] at kk
      exact g_rt rfl rfl rfl (kk a D σ hw)
    rw [if_pos g1] at kk
    refine g_clV rfl rfl rfl rfl hw.o rfl rfl rfl ?_
    refine tk_takeOccurrence hs hd hI hn hwn hm hrec hw (fun a1 D1 σ1 hw1 => ?_)
    have hP := hw1.sc hs
    refine g_get rfl rfl rfl hw1.o rfl ?_
    refine g_clV rfl rfl rfl rfl hP.1 rfl rfl rfl ?_
    refine sc_repetitionOf hP hI hn (fun w' h1 h2 => ?_) (fun h0 => absurd rfl (h0 w hwn))
    rw [show w' = w from ((nI_eq (by omega) (by omega)).mp h2).symm]
    refine ev_go 3 rfl ?_
    show ev_W (d + 8) mSt_takeField (28, [some (.ref (a0 0)), some (.int (nI w)), some (.int re0), some (.int (nI (15 - m))), some (.int (A 3 w)), some (.int (nI i + 1))], []) σ1 Q
    rw [nI_1]
    exact ih (i + 1) (A 3 w) _ a1 D1 σ1 (by omega) hw1 kk
set_option maxRecDepth 100000 in
/-- takeField(field, repetition, depth) -/
theorem tk_takeField {w m : Nat} {re : Int32} (hs : sh_P a0 D0 A S I) (hd : dr_P a0 D0 F V G W lf lv k dp bg) (hI : I 8 = nI n) (hn : n ≤ 48) (hup : mo_up (A 0) n) (hwn : w < n) (hm : m < 16) (hrec : tk_C a0 D0 σ0 T0 cr co ch N n A S F V k (d + 6) m) (hw : tw_P a0 D0 σ0 T0 cr co ch N s a D σ) (kk : ∀ (a' : Nat → Nat) (D' : Nat → Option ri_E) (σ' : ri_S), tw_P a0 D0 σ0 T0 cr co ch N (tk_field A S F V k N (tk_fields A S F V k N m) w re s) a' D' σ' → Q none σ') : ev_W (d + 8) mSt_takeField (0, [some (.ref (a0 0)), some (.int (nI w)), some (.int re), some (.int (nI (15 - m))), none, none], []) σ Q := by
  unfold tk_field at kk
  refine g_get rfl rfl rfl hw.o rfl ?_
  refine g_get rfl rfl rfl hw.o rfl ?_
  refine g_clV rfl rfl rfl rfl (hw.dd hd) rfl rfl rfl ?_
  show ev_W (d + 7) mDr_fieldAt (0, [some (.ref (a0 1)), some (.int s.1)], []) σ _
  rw [← hw.2.2.1.2 1 (by decide)]
  refine dr_fieldAt hw.1 (hw.dr hd) ?_
  refine g_br rfl rfl rfl rfl rfl rfl (fun g1 => ?_) (fun g1 => ?_)
  · rw [if_pos g1] at kk
    refine ev_go 4 rfl ?_
    exact tk_rep_loop hs hd hI hn hwn hm hrec 2048 0 re s a D σ (by omega) hw kk
  · rw [if_neg g1] at kk
    refine g_clV rfl rfl rfl rfl hw.o rfl rfl rfl ?_
    refine tk_addEmpty hs hI hn hup hwn hw (fun a' D' σ' hw' => ?_)
    exact g_rt rfl rfl rfl (kk a' D' σ' hw')
set_option maxRecDepth 100000 in
theorem tk_loop_ok {m hi : Nat} {g re : Int32} (hs : sh_P a0 D0 A S I) (hd : dr_P a0 D0 F V G W lf lv k dp bg) (hI : I 8 = nI n) (hn : n ≤ 48) (hup : mo_up (A 0) n) (hm : m < 16) (hhi : hi ≤ n) (hrec : tk_C a0 D0 σ0 T0 cr co ch N n A S F V k (d + 6) m) : ∀ (t f : Nat) (s : tk_S) (a : Nat → Nat) (D : Nat → Option ri_E) (σ : ri_S), t = hi - f → f ≤ 48 → tw_P a0 D0 σ0 T0 cr co ch N s a D σ → (∀ (a' : Nat → Nat) (D' : Nat → Option ri_E) (σ' : ri_S), tw_P a0 D0 σ0 T0 cr co ch N (tk_loop A S F V k N (tk_fields A S F V k N m) g re t f s) a' D' σ' → Q none σ') → ev_W (d + 9) mSt_takeFields (22, [some (.ref (a0 0)), some (.int g), some (.int re), some (.int (nI (15 - m))), some (.int (nI hi)), some (.int (nI f))], []) σ Q := by
  intro t
  induction t with
  | zero =>
    intro f s a D σ hf hf2 hw kk
    refine g_br rfl rfl rfl rfl rfl rfl (fun h => ?_) (fun h => absurd (nI_le (by omega) (by omega)) h)
    exact g_rt rfl rfl rfl (kk a D σ hw)
  | succ t ih =>
    intro f s a D σ hf hf2 hw kk
    have eS : tk_loop A S F V k N (tk_fields A S F V k N m) g re (t + 1) f s = tk_loop A S F V k N (tk_fields A S F V k N m) g re t (f + 1) (if A 0 f = g then tk_field A S F V k N (tk_fields A S F V k N m) f re s else s) := rfl
    rw [eS] at kk
    have hP := hw.sc hs
    refine g_br rfl rfl rfl rfl rfl rfl (fun h => absurd h (nI_ge (by omega) (by omega))) (fun h => ?_)
    have nxt : ∀ (s' : tk_S) (a' : Nat → Nat) (D' : Nat → Option ri_E) (σ' : ri_S), s' = (if A 0 f = g then tk_field A S F V k N (tk_fields A S F V k N m) f re s else s) → tw_P a0 D0 σ0 T0 cr co ch N s' a' D' σ' → ev_W (d + 9) mSt_takeFields (50, [some (.ref (a0 0)), some (.int g), some (.int re), some (.int (nI (15 - m))), some (.int (nI hi)), some (.int (nI f))], []) σ' Q := by
      intro s' a' D' σ' hs' hw'
      refine ev_go 2 rfl ?_
      show ev_W (d + 9) mSt_takeFields (22, [some (.ref (a0 0)), some (.int g), some (.int re), some (.int (nI (15 - m))), some (.int (nI hi)), some (.int (nI f + 1))], []) σ' Q
      rw [nI_1]
      subst hs'
      exact ih (f + 1) _ a' D' σ' (by omega) (by omega) hw' kk
    refine g_get rfl rfl rfl hw.o rfl ?_
    refine g_clV rfl rfl rfl rfl hP.1 rfl rfl rfl ?_
    refine sc_parentOf hP hI hn (fun w' h1 h2 => ?_) (fun h0 => absurd rfl (h0 f (by omega)))
    rw [show w' = f from ((nI_eq (by omega) (by omega)).mp h2).symm]
    refine g_br rfl rfl rfl rfl rfl rfl (fun g1 => ?_) (fun g1 => ?_)
    · refine g_clV rfl rfl rfl rfl hw.o rfl rfl rfl ?_
      refine tk_takeField hs hd hI hn hup (show f < n by omega) hm hrec hw (fun a' D' σ' hw' => ?_)
      exact nxt _ a' D' σ' (by rw [if_pos g1]) hw'
    · exact nxt _ a D σ (by rw [if_neg g1]) hw
set_option maxRecDepth 100000 in
/-- takeFields on a group -/
theorem tk_takeFields (hs : sh_P a0 D0 A S I) (hd : dr_P a0 D0 F V G W lf lv k dp bg) (hI : I 8 = nI n) (hn : n ≤ 48) (hup : mo_up (A 0) n) (hend : ∀ w, w < n → ∃ e, e ≤ n ∧ A 6 w = nI e) : ∀ (m : Nat), m ≤ 16 → ∀ d, tk_C a0 D0 σ0 T0 cr co ch N n A S F V k (d + 3 * m + 6) m := by
  intro m
  induction m with
  | zero =>
    intro _ d w re s a D σ Q hwn hw kk
    refine g_br rfl rfl rfl rfl rfl rfl (fun h => absurd h (by decide)) (fun h => ?_)
    exact g_rt rfl rfl rfl (kk a D σ hw)
  | succ m ih =>
    intro hm d w re s a D σ Q hwn hw kk
    rw [show d + 3 * (m + 1) + 6 = (d + 3 * m) + 9 by omega, show 16 - (m + 1) = 15 - m by omega]
    refine g_br rfl rfl rfl rfl rfl rfl (fun h => ?_) (fun h => absurd (show nI (15 - m) < nI 16 from nI_lt (by omega) (by decide)) h)
    have hP := hw.sc hs
    refine g_get rfl rfl rfl hw.o rfl ?_
    refine g_clV rfl rfl rfl rfl hP.1 rfl rfl rfl ?_
    refine sc_endOf hP hI hn (fun w' h1 h2 => ?_) (fun h0 => absurd rfl (h0 w hwn))
    rw [show w' = w from ((nI_eq (by omega) (by omega)).mp h2).symm]
    obtain ⟨e, he, ee⟩ := hend w hwn
    rw [ee]
    refine ev_go 5 rfl ?_
    show ev_W (d + 3 * m + 9) mSt_takeFields (22, [some (.ref (a0 0)), some (.int (nI w)), some (.int re), some (.int (nI (15 - m))), some (.int (nI e)), some (.int (nI w + 1))], []) σ Q
    rw [nI_1]
    have eS : tk_fields A S F V k N (m + 1) w re s = tk_loop A S F V k N (tk_fields A S F V k N m) (nI w) re ((A 6 w).toNatClampNeg - (w + 1)) (w + 1) s := rfl
    rw [eS, ee, nI_clamp (by omega)] at kk
    exact tk_loop_ok hs hd hI hn hup (by omega) he (ih (by omega) d) _ (w + 1) s a D σ rfl (by omega) hw kk
/-- the whole record taken apart -/
def tk_all (A : Nat → Nat → Int32) (S : Nat → Int64) (F V : Nat → Int32) (k N n : Nat) (col : Nat → List co_E) : tk_S := tk_loop A S F V k N (tk_fields A S F V k N 15) (-1) 0 n 0 (0, col)
set_option maxRecDepth 100000 in
/-- takeFields(NONE, 0, 0) -/
theorem tk_takeAll (hs : sh_P a0 D0 A S I) (hd : dr_P a0 D0 F V G W lf lv k dp bg) (hI : I 8 = nI n) (hn : n ≤ 48) (hup : mo_up (A 0) n) (hend : ∀ w, w < n → ∃ e, e ≤ n ∧ A 6 w = nI e) {col : Nat → List co_E} (hw : tw_P a0 D0 σ0 T0 cr co ch N (0, col) a D σ) (kk : ∀ (a' : Nat → Nat) (D' : Nat → Option ri_E) (σ' : ri_S), tw_P a0 D0 σ0 T0 cr co ch N (tk_all A S F V k N n col) a' D' σ' → Q none σ') : ev_W (d + 60) mSt_takeFields (0, [some (.ref (a0 0)), some (.int (-1)), some (.int 0), some (.int 0), none, none], []) σ Q := by
  refine g_br rfl rfl rfl rfl rfl rfl (fun h => ?_) (fun h => absurd (by decide) h)
  have hP := hw.sc hs
  refine g_get rfl rfl rfl hw.o rfl ?_
  refine g_clV rfl rfl rfl rfl hP.1 rfl rfl rfl ?_
  refine sc_endOf hP hI hn (fun w' h1 h2 => absurd h2.symm (nI_nm1 (by omega))) (fun h0 => ?_)
  refine ev_go 5 rfl ?_
  show ev_W (d + 6 + 3 * 15 + 9) mSt_takeFields (22, [some (.ref (a0 0)), some (.int (-1)), some (.int 0), some (.int (nI (15 - 15))), some (.int (nI n)), some (.int (nI 0))], []) σ Q
  exact tk_loop_ok (m := 15) hs hd hI hn hup (by decide) (Nat.le_refl _) (tk_takeFields hs hd hI hn hup hend 15 (by decide) (d + 6)) n 0 (0, col) a D σ (by omega) (by decide) hw kk
end TW
