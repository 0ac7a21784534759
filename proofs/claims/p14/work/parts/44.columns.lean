/-! COLUMNS, roles 9 .. 59: n columns; column c has the entries col c (repetition level, definition level, value) in a row of length ln c. -/
abbrev co_E : Type := Int32 × Int32 × Int32
def co_row (l : List co_E) (Y : Nat → Int32) : Prop := ∀ q e, l[q]? = some e → Y (3 * q) = e.1 ∧ Y (3 * q + 1) = e.2.1 ∧ Y (3 * q + 2) = e.2.2
def co_P (a : Nat → Nat) (D : Nat → Option ri_E) (n : Nat) (col : Nat → List co_E) (ln : Nat → Nat) : Prop :=
  D 9 = some (.inr (0, [.ref (a 10), .ref (a 11)])) ∧ (∃ Z : Nat → Int32, D 10 = some (.inl (.int, n, .inl Z)) ∧ ∀ c, c < n → Z c = nI (col c).length) ∧ (∃ R : Nat → Option Nat, D 11 = some (.inl (.array .int, n, .inr (.inr (.inr (.inr R))))) ∧ ∀ c, c < n → R c = some (a (12 + c))) ∧ (∀ c, c < n → ∃ Y : Nat → Int32, D (12 + c) = some (.inl (.int, ln c, .inl Y)) ∧ co_row (col c) Y ∧ (3 * (col c).length ≤ ln c ∧ 24 ≤ ln c ∧ ln c ≤ 13056 ∧ (col c).length ≤ 2176)) ∧ n ≤ 48
/-- the sum of the first n -/
def co_su : Nat → (Nat → Nat) → Nat
  | 0, _ => 0
  | n + 1, f => co_su n f + f n
theorem co_su_cg {f g : Nat → Nat} : ∀ n, (∀ c, c < n → f c = g c) → co_su n f = co_su n g
  | 0, _ => rfl
  | n + 1, h => by
    show co_su n f + f n = co_su n g + g n
    rw [co_su_cg n (fun c hc => h c (by omega)), h n (by omega)]
theorem co_su_up {f : Nat → Nat} {c x : Nat} : ∀ n, c < n → co_su n (va_up f c x) + f c = co_su n f + x
  | 0, h => absurd h (Nat.not_lt_zero _)
  | n + 1, h => by
    show co_su n (va_up f c x) + va_up f c x n + f c = co_su n f + f n + x
    by_cases z : c = n
    · rw [z, va_up_s, co_su_cg (f := va_up f n x) (g := f) n (fun j hj => va_up_n (by omega))]
      omega
    · rw [va_up_n (fun q => z q.symm)]
      have := co_su_up (f := f) (c := c) (x := x) n (by omega)
      omega
theorem co_su_le {f : Nat → Nat} {B : Nat} : ∀ n, (∀ c, c < n → f c ≤ B) → co_su n f ≤ n * B
  | 0, _ => Nat.zero_le _
  | n + 1, h => by
    show co_su n f + f n ≤ _
    have h1 := co_su_le n (fun c hc => h c (by omega))
    have h2 := h n (by omega)
    rw [Nat.succ_mul]
    omega
section CO
variable {a : Nat → Nat} {D : Nat → Option ri_E} {n : Nat} {col : Nat → List co_E} {ln : Nat → Nat} {d : Nat} {σ : ri_S} {Q : Option Value → ri_S → Prop}
theorem co_P.fr {a' : Nat → Nat} {D' : Nat → Option ri_E} (h : co_P a D n col ln) (hF : ∀ i, 9 ≤ i → i < 60 → D' i = D i ∧ a' i = a i) : co_P a' D' n col ln := by
  obtain ⟨h1, ⟨Z, h2, h2'⟩, ⟨R, h3, h3'⟩, h4, h5⟩ := h
  refine ⟨?_, ⟨Z, ?_, h2'⟩, ⟨R, ?_, fun c hc => ?_⟩, fun c hc => ?_, h5⟩
  · rw [(hF 9 (by decide) (by decide)).1, (hF 10 (by decide) (by decide)).2, (hF 11 (by decide) (by decide)).2]; exact h1
  · rw [(hF 10 (by decide) (by decide)).1]; exact h2
  · rw [(hF 11 (by decide) (by decide)).1]; exact h3
  · rw [(hF (12 + c) (by omega) (by omega)).2]; exact h3' c hc
  · obtain ⟨Y, y1, y2, y3⟩ := h4 c hc
    exact ⟨Y, (hF (12 + c) (by omega) (by omega)).1.trans y1, y2, y3⟩
set_option maxRecDepth 100000 in
/-- has(column) -/
theorem co_has (hG : gw_P a D σ) (hd : co_P a D n col ln) {x : Int32} (k1 : ∀ c, c < n → x = nI c → Q (some (.int 1)) σ) (k0 : (∀ c, c < n → ¬ x = nI c) → Q (some (.int 0)) σ) : ev_W d mCo_has (0, [some (.ref (a 9)), some (.int x)], []) σ Q := by
  obtain ⟨h1, ⟨Z, h2, h2'⟩, -, -, h5⟩ := hd
  refine g_br rfl rfl rfl rfl rfl rfl (fun h => ?_) (fun h => ?_)
  · refine g_rt rfl rfl rfl (k0 (fun w hw e => ?_))
    rw [e] at h
    exact nI_pos (by omega) h
  refine g_get rfl rfl rfl (hG.at h1) rfl ?_
  refine g_alen rfl rfl (hG.at h2) rfl ?_
  obtain ⟨w, hw, rfl⟩ := nI_of h
  refine g_br rfl rfl rfl rfl rfl rfl (fun h2 => ?_) (fun h2 => ?_)
  · refine g_rt rfl rfl rfl (k0 (fun w' hw' e => ?_))
    have := (nI_leI (by omega) hw).mp h2
    have := (nI_eq hw (by omega)).mp e
    omega
  · refine g_rt rfl rfl rfl (k1 w ?_ rfl)
    rcases Nat.lt_or_ge w n with z | z
    · exact z
    · exact absurd (nI_le z hw) h2
/-- how many entries -/
def co_sz (n : Nat) (col : Nat → List co_E) (x : Int32) : Int32 := if 0 ≤ x ∧ x < nI n then nI (col x.toNatClampNeg).length else -1
theorem co_in {n c : Nat} (hn : n ≤ 48) (hc : c < n) : 0 ≤ nI c ∧ nI c < nI n := ⟨nI_pos' (by omega), nI_lt hc (by omega)⟩
theorem co_out {n : Nat} {x : Int32} (hn : n ≤ 48) (h : ∀ c, c < n → ¬ x = nI c) : ¬ (0 ≤ x ∧ x < nI n) := fun z => by
  obtain ⟨w, hw, rfl⟩ := nI_of (Int32.not_lt.mpr z.1)
  exact h w ((nI_ltI hw (by omega)).mp z.2) rfl
set_option maxRecDepth 100000 in
/-- sizeOf(column) -/
theorem co_sizeOf (hG : gw_P a D σ) (hd : co_P a D n col ln) {x : Int32} (kk : Q (some (.int (co_sz n col x))) σ) : ev_W (d + 1) mCo_sizeOf (0, [some (.ref (a 9)), some (.int x)], []) σ Q := by
  unfold co_sz at kk
  refine g_clV rfl rfl rfl rfl (hG.at hd.1) rfl rfl rfl ?_
  refine co_has hG hd (fun c hc e => ?_) (fun h0 => ?_)
  · subst e
    rw [if_pos (co_in hd.2.2.2.2 hc), nI_clamp (by have := hd.2.2.2.2; omega)] at kk
    obtain ⟨h1, ⟨Z, h2, h2'⟩, -, -, h5⟩ := hd
    refine g_br rfl rfl rfl rfl rfl rfl (fun h => absurd h (by decide)) (fun h => ?_)
    refine g_get rfl rfl rfl (hG.at h1) rfl ?_
    refine gw_ald hG h2 rfl rfl rfl hc (by omega) ?_
    rw [h2' c hc]
    exact g_rt rfl rfl rfl kk
  · rw [if_neg (co_out hd.2.2.2.2 h0)] at kk
    refine g_br rfl rfl rfl rfl rfl rfl (fun h => ?_) (fun h => absurd rfl h)
    exact g_rt rfl rfl rfl kk
/-- part w of entry e -/
def co_pt (e : co_E) (w : Int32) : Int32 := if w = 0 then e.1 else if w = 1 then e.2.1 else e.2.2
/-- what entry(column, k, what) answers -/
def co_rd (n : Nat) (col : Nat → List co_E) (x k w : Int32) : Int32 := if 0 ≤ x ∧ x < nI n then (if k < 0 ∨ w < 0 ∨ 3 ≤ w then -1 else match (col x.toNatClampNeg)[k.toNatClampNeg]? with
  | some e => co_pt e w
  | none => -1) else -1
theorem gw_aald {M : ri_M} {F : ri_F} {pc np tg : Nat} {kv : Int32} {L : List (Option Value)} {r : List Value} (hG : gw_P a D σ) {i n q p : Nat} {j : Int32} {f : Nat → Option Nat} (hd : D i = some (.inl (.array .int, n, .inr (.inr (.inr (.inr f)))))) (hgo : ri_go 99 M F = (pc, L, .int j :: .ref (a i) :: r)) (hf : ri_find pc M.2.2.2.2.2 = some (.aaload, np, tg, kv)) (hj : j = nI q) (hq : q < n) (hn : n < 2 ^ 31) (hp : f q = some p) (kk : ev_W d M (np, L, .ref p :: r) σ Q) : ev_W d M F σ Q := by
  subst hj
  refine g_aald hgo hf (hG.at hd) (nI_in hq hn) ?_
  rw [nI_clamp (by omega), hp]
  exact kk
set_option maxRecDepth 100000 in
/-- read(column, k, what) -/
theorem co_read (hG : gw_P a D σ) (hd : co_P a D n col ln) {x k w : Int32} (kk : Q (some (.int (co_rd n col x k w))) σ) : ev_W (d + 1) mCo_read (0, [some (.ref (a 9)), some (.int x), some (.int k), some (.int w)], []) σ Q := by
  unfold co_rd at kk
  refine g_clV rfl rfl rfl rfl (hG.at hd.1) rfl rfl rfl ?_
  refine co_has hG hd (fun c hc e => ?_) (fun h0 => ?_)
  rotate_left
  · rw [if_neg (co_out hd.2.2.2.2 h0)] at kk
    refine g_br rfl rfl rfl rfl rfl rfl (fun h => ?_) (fun h => absurd rfl h)
    exact g_rt rfl rfl rfl kk
  subst e
  rw [if_pos (co_in hd.2.2.2.2 hc), nI_clamp (by have := hd.2.2.2.2; omega)] at kk
  obtain ⟨h1, ⟨Z, h2, h2'⟩, ⟨R, h3, h3'⟩, h4, h5⟩ := hd
  obtain ⟨Y, y1, y2, y3⟩ := h4 c hc
  refine g_br rfl rfl rfl rfl rfl rfl (fun h => absurd h (by decide)) (fun h => ?_)
  refine g_br rfl rfl rfl rfl rfl rfl (fun g1 => ?_) (fun g1 => ?_)
  · rw [if_pos (Or.inl g1)] at kk
    exact g_rt rfl rfl rfl kk
  refine g_get rfl rfl rfl (hG.at h1) rfl ?_
  refine gw_ald hG h2 rfl rfl rfl hc (by omega) ?_
  rw [h2' c hc]
  obtain ⟨q, hq, rfl⟩ := nI_of g1
  rw [nI_clamp hq] at kk
  refine g_br rfl rfl rfl rfl rfl rfl (fun g2 => ?_) (fun g2 => ?_)
  · have : (col c).length ≤ q := (nI_leI (by omega) hq).mp g2
    rw [List.getElem?_eq_none this] at kk
    rw [show (if nI q < 0 ∨ w < 0 ∨ 3 ≤ w then (-1 : Int32) else -1) = -1 by split <;> rfl] at kk
    exact g_rt rfl rfl rfl kk
  have hql : q < (col c).length := by
    rcases Nat.lt_or_ge q (col c).length with z | z
    · exact z
    · exact absurd (nI_le z hq) g2
  refine g_br rfl rfl rfl rfl rfl rfl (fun g3 => ?_) (fun g3 => ?_)
  · rw [if_pos (Or.inr (Or.inl g3))] at kk
    exact g_rt rfl rfl rfl kk
  refine g_br rfl rfl rfl rfl rfl rfl (fun g4 => ?_) (fun g4 => ?_)
  rotate_left
  · rw [if_pos (Or.inr (Or.inr (Int32.not_lt.mp g4)))] at kk
    exact g_rt rfl rfl rfl kk
  rw [if_neg (fun z => z.elim g1 (fun z => z.elim g3 (fun z => absurd g4 (Int32.not_lt.mpr z)))), List.getElem?_eq_getElem hql] at kk
  obtain ⟨v, hv, rfl⟩ := nI_of g3
  have hv3 : v < 3 := (nI_ltI (b := 3) hv (by decide)).mp g4
  have hy := y2 q _ (List.getElem?_eq_getElem hql)
  have hyv : Y (3 * q + v) = co_pt (col c)[q] (nI v) := by
    match v, hv3 with
    | 0, _ => exact hy.1
    | 1, _ => exact hy.2.1
    | 2, _ => exact hy.2.2
  refine g_get rfl rfl rfl (hG.at h1) rfl ?_
  refine gw_aald hG h3 rfl rfl rfl hc (by omega) (h3' c hc) ?_
  refine gw_ald hG y1 rfl rfl (by show (3 : Int32) * nI q + nI v = _; rw [show (3 : Int32) * nI q = nI (3 * q) from nI_mul 3 q]; exact nI_add _ _) (show 3 * q + v < ln c by omega) (by omega) ?_
  rw [hyv]
  exact g_rt rfl rfl rfl kk
/-- the columns with an entry more -/
def co_ad (n : Nat) (col : Nat → List co_E) (x : Int32) (e : co_E) : Nat → List co_E := if 0 ≤ x ∧ x < nI n ∧ (col x.toNatClampNeg).length < 2176 then va_up col x.toNatClampNeg (col x.toNatClampNeg ++ [e]) else col
theorem gw_ald' {M : ri_M} {F : ri_F} {pc np tg : Nat} {kv : Int32} {L : List (Option Value)} {r : List Value} (hG : gw_P a D σ) {i n q p : Nat} {j : Int32} {f : Nat → Int32} (hd : D i = some (.inl (.int, n, .inl f))) (hp : a i = p) (hgo : ri_go 99 M F = (pc, L, .int j :: .ref p :: r)) (hf : ri_find pc M.2.2.2.2.2 = some (.iaload, np, tg, kv)) (hj : j = nI q) (hq : q < n) (hn : n < 2 ^ 31) (kk : ev_W d M (np, L, .int (f q) :: r) σ Q) : ev_W d M F σ Q := by
  subst hp
  exact gw_ald hG hd hgo hf hj hq hn kk
theorem gw_aldv {M : ri_M} {F : ri_F} {pc np tg : Nat} {kv : Int32} {L : List (Option Value)} {r : List Value} (hG : gw_P a D σ) {i n q p : Nat} {j y : Int32} {f : Nat → Int32} (hd : D i = some (.inl (.int, n, .inl f))) (hp : a i = p) (hgo : ri_go 99 M F = (pc, L, .int j :: .ref p :: r)) (hf : ri_find pc M.2.2.2.2.2 = some (.iaload, np, tg, kv)) (hj : j = nI q) (hq : q < n) (hn : n < 2 ^ 31) (hy : f q = y) (kk : ev_W d M (np, L, .int y :: r) σ Q) : ev_W d M F σ Q := by
  subst hp
  subst hy
  exact gw_ald hG hd hgo hf hj hq hn kk
theorem gw_ast' {M : ri_M} {F : ri_F} {pc np tg : Nat} {kv : Int32} {L : List (Option Value)} {r : List Value} (hG : gw_P a D σ) {i n q p : Nat} {j x : Int32} {f : Nat → Int32} (hd : D i = some (.inl (.int, n, .inl f))) (hp : a i = p) (hgo : ri_go 99 M F = (pc, L, .int x :: .int j :: .ref p :: r)) (hf : ri_find pc M.2.2.2.2.2 = some (.iastore, np, tg, kv)) (hj : j = nI q) (hq : q < n) (hn : n < 2 ^ 31) (kk : ∀ σ' : ri_S, gw_P a (va_up D i (some (.inl (.int, n, .inl (upd f q x))))) σ' → σ'.2 = σ.2 → ev_W d M (np, L, r) σ' Q) : ev_W d M F σ Q := by
  subst hp
  exact gw_ast hG hd hgo hf hj hq hn kk
theorem gw_aast' {M : ri_M} {F : ri_F} {pc np tg : Nat} {kv : Int32} {L : List (Option Value)} {r : List Value} (hG : gw_P a D σ) {i i2 n n2 q p p2 : Nat} {j : Int32} {f : Nat → Option Nat} {f2 : Nat → Int32} (hd : D i = some (.inl (.array .int, n, .inr (.inr (.inr (.inr f)))))) (hp : a i = p) (hd2 : D i2 = some (.inl (.int, n2, .inl f2))) (hp2 : a i2 = p2) (hgo : ri_go 99 M F = (pc, L, .ref p2 :: .int j :: .ref p :: r)) (hf : ri_find pc M.2.2.2.2.2 = some (.aastore, np, tg, kv)) (hj : j = nI q) (hq : q < n) (hn : n < 2 ^ 31) (kk : ∀ σ' : ri_S, gw_P a (va_up D i (some (.inl (.array .int, n, .inr (.inr (.inr (.inr (va_up f q (some p2))))))))) σ' → σ'.2 = σ.2 → ev_W d M (np, L, r) σ' Q) : ev_W d M F σ Q := by
  subst hp
  subst hp2
  subst hj
  refine g_aast hgo hf (hG.at hd) (hG.at hd2) (nI_in hq hn) ?_
  rw [nI_clamp (by omega)]
  exact kk _ (hG.set hd _) rfl
set_option maxRecDepth 100000 in

/-- add(column, repetition, definition, value) -/
theorem co_add (hG : gw_P a D σ) (hd : co_P a D n col ln) {x re de v : Int32} (kk : ∀ (a' : Nat → Nat) (D' : Nat → Option ri_E) (σ' : ri_S) (ln' : Nat → Nat), gw_P a' D' σ' → co_P a' D' n (co_ad n col x (re, de, v)) ln' → gw_F 9 60 a D a' D' → (∀ i, i < 12 → a' i = a i) → gw_ro (co_su n ln) (co_su n ln') σ σ' → Q none σ') : ev_W (d + 3) mCo_add (0, [some (.ref (a 9)), some (.int x), some (.int re), some (.int de), some (.int v), none, none], []) σ Q := by
  refine g_clV rfl rfl rfl rfl (hG.at hd.1) rfl rfl rfl ?_
  refine co_has hG hd (fun c hc e => ?_) (fun h0 => ?_)
  rotate_left
  · refine g_br rfl rfl rfl rfl rfl rfl (fun h => ?_) (fun h => absurd rfl h)
    refine g_rt rfl rfl rfl (kk a D σ ln hG ?_ gw_F.rf (fun _ _ => rfl) (gw_ro.rf rfl))
    unfold co_ad
    rw [if_neg (fun z => co_out hd.2.2.2.2 h0 ⟨z.1, z.2.1⟩)]
    exact hd
  subst e
  have hd0 := hd
  obtain ⟨h1, ⟨Z, h2, h2'⟩, ⟨R, h3, h3'⟩, h4, h5⟩ := hd
  obtain ⟨Y, y1, y2, y3⟩ := h4 c hc
  refine g_br rfl rfl rfl rfl rfl rfl (fun h => absurd h (by decide)) (fun h => ?_)
  refine g_get rfl rfl rfl (hG.at h1) rfl ?_
  refine gw_ald hG h2 rfl rfl rfl hc (by omega) ?_
  rw [h2' c hc]
  refine g_br rfl rfl rfl rfl rfl rfl (fun g1 => ?_) (fun g1 => ?_)
  rotate_left
  · refine g_rt rfl rfl rfl (kk a D σ ln hG ?_ gw_F.rf (fun _ _ => rfl) (gw_ro.rf rfl))
    unfold co_ad
    rw [if_neg (fun z => g1 ?_)]
    · exact hd0
    · have z2 := z.2.2
      rw [nI_clamp (by omega)] at z2
      exact nI_lt z2 (by decide)
  have hl : (col c).length < 2176 := (nI_ltI (b := 2176) (by omega) (by decide)).mp g1
  have eco : co_ad n col (nI c) (re, de, v) = va_up col c (col c ++ [(re, de, v)]) := by
    unfold co_ad
    rw [nI_clamp (by omega), if_pos ⟨(co_in h5 hc).1, (co_in h5 hc).2, hl⟩]
  rw [eco] at kk
  refine g_get rfl rfl rfl (hG.at h1) rfl ?_
  refine gw_ald hG h2 rfl rfl rfl hc (by omega) ?_
  rw [h2' c hc]
  refine g_get rfl rfl rfl (hG.at h1) rfl ?_
  refine gw_aald hG h3 rfl rfl rfl hc (by omega) (h3' c hc) ?_
  have e3 : (3 : Int32) * nI (col c).length = nI (3 * (col c).length) := nI_mul 3 _
  refine g_clN rfl rfl rfl rfl rfl rfl ?_
  refine st_withRoom hG y1 (by omega) (by omega) (show 3 * (col c).length + 3 ≤ 50000 by omega) (by show (3 : Int32) * nI (col c).length + 3 = _; rw [e3]; exact nI_add _ 3) (fun q n1 f1 σ1 hG1 hf1 hk1 hn1 hl1 ho1 => ?_)
  generalize hs : 3 * (col c).length = s at *
  have a9 : va_up a (12 + c) q 9 = a 9 := va_up_n (by omega)
  have a10 : va_up a (12 + c) q 10 = a 10 := va_up_n (by omega)
  have a11 : va_up a (12 + c) q 11 = a 11 := va_up_n (by omega)
  have aq : va_up a (12 + c) q (12 + c) = q := va_up_s
  refine gw_ast' hG1 (i := 12 + c) va_up_s aq rfl rfl (by show (3 : Int32) * nI (col c).length + 0 = _; rw [e3]; exact nI_add s 0) (show s + 0 < n1 by omega) (by omega) (fun σ2 hG2 e2 => ?_)
  refine gw_ast' hG2 (i := 12 + c) va_up_s aq rfl rfl (by show (3 : Int32) * nI (col c).length + 1 = _; rw [e3]; exact nI_add s 1) (show s + 1 < n1 by omega) (by omega) (fun σ3 hG3 e4 => ?_)
  refine gw_ast' hG3 (i := 12 + c) va_up_s aq rfl rfl (by show (3 : Int32) * nI (col c).length + 2 = _; rw [e3]; exact nI_add s 2) (show s + 2 < n1 by omega) (by omega) (fun σ4 hG4 e5 => ?_)
  rw [bx_uu, bx_uu, bx_uu] at hG4
  have d9 : σ4.1 (a 9) = some (.inr (0, [.ref (a 10), .ref (a 11)])) := by
    rw [← a9]; exact hG4.at ((va_up_n (by omega)).trans h1)
  refine g_get rfl rfl rfl d9 rfl ?_
  refine gw_aast' hG4 (i := 11) (i2 := 12 + c) ((va_up_n (by omega)).trans h3) a11 va_up_s aq rfl rfl rfl hc (by omega) (fun σ5 hG5 e7 => ?_)
  show ev_W (d + 3) mCo_add (79, [some (.ref (a 9)), some (.int (nI c)), some (.int re), some (.int de), some (.int v), some (.int (3 * nI (col c).length)), some (.ref q)], []) σ5 Q
  have d9' := hG5.at (i := 9) ((va_up_n (by decide)).trans ((va_up_n (by omega)).trans h1))
  rw [a9] at d9'
  refine g_get rfl rfl rfl d9' rfl ?_
  refine gw_aldv hG5 (i := 10) ((va_up_n (by decide)).trans ((va_up_n (by omega)).trans h2)) a10 rfl rfl rfl hc (by omega) (h2' c hc) ?_
  refine gw_ast' hG5 (i := 10) ((va_up_n (by decide)).trans ((va_up_n (by omega)).trans h2)) a10 rfl rfl rfl hc (by omega) (fun σ6 hG6 e6 => ?_)
  rw [nI_1] at hG6
  refine g_rt rfl rfl rfl (kk _ _ σ6 (va_up ln c n1) hG6 ⟨?_, ⟨_, va_up_s, fun c' hc' => ?_⟩, ⟨_, (va_up_n (by decide)).trans va_up_s, fun c' hc' => ?_⟩, fun c' hc' => ?_, h5⟩ (fun j hj => ⟨?_, ?_⟩) (fun j hj => va_up_n (by omega)) ?_)
  · rw [a10, a11]
    exact (va_up_n (by decide)).trans ((va_up_n (by decide)).trans ((va_up_n (by omega)).trans h1))
  · by_cases z : c' = c
    · rw [z, va_up_s]
      exact (if_pos rfl).trans (by rw [List.length_append]; rfl)
    · rw [va_up_n z]
      exact (if_neg z).trans (h2' c' hc')
  · by_cases z : c' = c
    · rw [z, va_up_s, va_up_s]
    · rw [va_up_n z, va_up_n (by omega)]
      exact h3' c' hc'
  · by_cases z : c' = c
    · rw [z, va_up_s, va_up_s]
      refine ⟨_, (va_up_n (by omega)).trans ((va_up_n (by omega)).trans va_up_s), fun j e he => ?_, ?_⟩
      · rcases Nat.lt_trichotomy j (col c).length with y | y | y
        · rw [List.getElem?_append_left y] at he
          obtain ⟨w1, w2, w3⟩ := y2 j e he
          refine ⟨?_, ?_, ?_⟩
          · exact (if_neg (by omega)).trans ((if_neg (by omega)).trans ((if_neg (by omega)).trans ((hf1 _ (by omega)).trans w1)))
          · exact (if_neg (by omega)).trans ((if_neg (by omega)).trans ((if_neg (by omega)).trans ((hf1 _ (by omega)).trans w2)))
          · exact (if_neg (by omega)).trans ((if_neg (by omega)).trans ((if_neg (by omega)).trans ((hf1 _ (by omega)).trans w3)))
        · rw [y, List.getElem?_append_right (Nat.le_refl _), Nat.sub_self] at he
          cases he
          rw [y, hs]
          refine ⟨?_, ?_, ?_⟩
          · exact (if_neg (by omega)).trans ((if_neg (by omega)).trans (if_pos rfl))
          · exact (if_neg (by omega)).trans (if_pos rfl)
          · exact if_pos rfl
        · rw [List.getElem?_eq_none (by rw [List.length_append]; show (col c).length + 1 ≤ j; omega)] at he
          cases he
      · rw [List.length_append]
        show 3 * ((col c).length + 1) ≤ n1 ∧ 24 ≤ n1 ∧ n1 ≤ 13056 ∧ (col c).length + 1 ≤ 2176
        omega
    · rw [va_up_n z, va_up_n z]
      obtain ⟨Y', w1, w2⟩ := h4 c' hc'
      exact ⟨Y', (va_up_n (by omega)).trans ((va_up_n (by omega)).trans ((va_up_n (by omega)).trans w1)), w2⟩
  · exact (va_up_n (by omega)).trans ((va_up_n (by omega)).trans (va_up_n (by omega)))
  · exact va_up_n (by omega)
  · have e : σ6.2 = σ1.2 := e6.trans (e7.trans (e5.trans (e4.trans e2)))
    have hsu := co_su_up (f := ln) (c := c) (x := n1) n hc
    unfold gw_ro at *
    rw [e]
    omega
/-- where record r begins among the entries from index k on, b records before -/
def co_st (r : Int32) : List co_E → Nat → Int32 → Nat
  | [], k, _ => k
  | e :: t, k, b => if e.1 = 0 then (if b = r then k else co_st r t (k + 1) (b + 1)) else co_st r t (k + 1) b
def co_from (n : Nat) (col : Nat → List co_E) (x r : Int32) : Int32 := if 0 ≤ x ∧ x < nI n then nI (co_st r (col x.toNatClampNeg) 0 0) else -1
set_option maxRecDepth 100000 in
theorem co_startOf_loop (hG : gw_P a D σ) (hd : co_P a D n col ln) {c : Nat} {r : Int32} (hc : c < n) (kk : Q (some (.int (nI (co_st r (col c) 0 0)))) σ) : ∀ (t k : Nat) (b : Int32), k + t = (col c).length → co_st r ((col c).drop k) k b = co_st r (col c) 0 0 → ev_W (d + 2) mCo_startOf (12, [some (.ref (a 9)), some (.int (nI c)), some (.int r), some (.int (nI (col c).length)), some (.int b), some (.int (nI k))], []) σ Q := by
  have hb : (col c).length ≤ 2176 := by
    obtain ⟨_, _, _, z⟩ := hd.2.2.2.1 c hc
    exact z.2.2.2
  intro t
  induction t with
  | zero =>
    intro k b hk he
    obtain rfl : k = (col c).length := by omega
    refine g_br rfl rfl rfl rfl rfl rfl (fun h => ?_) (fun h => absurd (nI_le (Nat.le_refl _) (by omega)) h)
    rw [List.drop_length] at he
    refine g_rt rfl rfl rfl ?_
    rw [← he] at kk
    exact kk
  | succ t ih =>
    intro k b hk he
    have hkl : k < (col c).length := by omega
    rw [List.drop_eq_getElem_cons hkl] at he
    refine g_br rfl rfl rfl rfl rfl rfl (fun h => absurd h (nI_ge hkl (by omega))) (fun h => ?_)
    refine g_clV rfl rfl rfl rfl (hG.at hd.1) rfl rfl rfl ?_
    refine co_read hG hd ?_
    have e0 : co_rd n col (nI c) (nI k) 0 = ((col c)[k]).1 := by
      unfold co_rd
      rw [if_pos (co_in hd.2.2.2.2 hc), nI_clamp (by have := hd.2.2.2.2; omega), nI_clamp (by omega), if_neg (fun z => z.elim (nI_pos (by omega)) (fun z => absurd z (by decide))), List.getElem?_eq_getElem hkl]
      exact if_pos rfl
    rw [e0]
    have eS : co_st r ((col c)[k] :: (col c).drop (k + 1)) k b = if ((col c)[k]).1 = 0 then (if b = r then k else co_st r ((col c).drop (k + 1)) (k + 1) (b + 1)) else co_st r ((col c).drop (k + 1)) (k + 1) b := rfl
    rw [eS] at he
    refine g_br rfl rfl rfl rfl rfl rfl (fun g1 => ?_) (fun g1 => ?_)
    · rw [if_pos g1] at he
      refine g_br rfl rfl rfl rfl rfl rfl (fun g2 => ?_) (fun g2 => ?_)
      · rw [if_pos g2] at he
        refine g_rt rfl rfl rfl ?_
        rw [← he] at kk
        exact kk
      · rw [if_neg g2] at he
        refine ev_go 3 rfl ?_
        show ev_W (d + 2) mCo_startOf (12, [some (.ref (a 9)), some (.int (nI c)), some (.int r), some (.int (nI (col c).length)), some (.int (b + 1)), some (.int (nI k + 1))], []) σ Q
        rw [nI_1]
        exact ih (k + 1) (b + 1) (by omega) he
    · rw [if_neg g1] at he
      refine ev_go 2 rfl ?_
      show ev_W (d + 2) mCo_startOf (12, [some (.ref (a 9)), some (.int (nI c)), some (.int r), some (.int (nI (col c).length)), some (.int b), some (.int (nI k + 1))], []) σ Q
      rw [nI_1]
      exact ih (k + 1) b (by omega) he
set_option maxRecDepth 100000 in
/-- startOf(column, record) -/
theorem co_startOf (hG : gw_P a D σ) (hd : co_P a D n col ln) {x r : Int32} (kk : Q (some (.int (co_from n col x r))) σ) : ev_W (d + 2) mCo_startOf (0, [some (.ref (a 9)), some (.int x), some (.int r), none, none, none], []) σ Q := by
  refine g_clV rfl rfl rfl rfl (hG.at hd.1) rfl rfl rfl ?_
  refine co_sizeOf hG hd ?_
  unfold co_sz
  unfold co_from at kk
  by_cases z : 0 ≤ x ∧ x < nI n
  · rw [if_pos z] at kk
    rw [if_pos z]
    obtain ⟨c, hc, rfl⟩ := nI_of (Int32.not_lt.mpr z.1)
    have hcn : c < n := (nI_ltI hc (by have := hd.2.2.2.2; omega)).mp z.2
    rw [nI_clamp hc] at kk ⊢
    refine ev_go 5 rfl ?_
    exact co_startOf_loop hG hd hcn kk (col c).length 0 0 (by omega) rfl
  · rw [if_neg z] at kk
    rw [if_neg z]
    refine ev_go 5 rfl ?_
    refine g_br rfl rfl rfl rfl rfl rfl (fun h => ?_) (fun h => absurd (by decide) h)
    exact g_rt rfl rfl rfl kk
end CO
