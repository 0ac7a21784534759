/-! ROLES. Every cell that is held has a number, its role: 0 the object Striping, 1 Draft, 2 openGroups, 3 newestFields, 4 fields, 5 values, 6 Events, 7 its row, 8 cursors, 9 Columns, 10 sizes, 11 rows, 12 + c the row of column c, 60 .. 68 Schema, 70 .. 83 the reference, 98 the script. gw_P a D σ: role i lies at a i and holds D i; no two lie at one place. -/
def gw_P (a : Nat → Nat) (D : Nat → Option ri_E) (σ : ri_S) : Prop := (∀ i j, D i ≠ none → D j ≠ none → a i = a j → i = j) ∧ ∀ i e, D i = some e → a i < σ.2.1 ∧ σ.1 (a i) = some e
/-- what a growing row took: T its length before, T' after -/
def gw_ro (T T' : Nat) (σ σ' : ri_S) : Prop := 24 * σ'.2.1 + T ≤ 24 * σ.2.1 + T' ∧ σ'.2.2 + 2 * T ≤ σ.2.2 + 2 * T'
/-- nothing but the roles lo .. hi - 1 has changed -/
def gw_F (lo hi : Nat) (a : Nat → Nat) (D : Nat → Option ri_E) (a' : Nat → Nat) (D' : Nat → Option ri_E) : Prop := ∀ i, (i < lo ∨ hi ≤ i) → D' i = D i ∧ a' i = a i
theorem va_up_s {α : Type} {f : Nat → α} {i : Nat} {x : α} : va_up f i x i = x := if_pos rfl
theorem va_up_n {α : Type} {f : Nat → α} {i j : Nat} {x : α} (h : j ≠ i) : va_up f i x j = f j := if_neg h
theorem va_up_id {α : Type} {f : Nat → α} {i : Nat} {x : α} (h : f i = x) : va_up f i x = f := by
  funext j
  by_cases z : j = i
  · rw [z, va_up_s, h]
  · rw [va_up_n z]
theorem gw_sn {e : ri_E} : (some e : Option ri_E) ≠ none := fun z => by cases z
section GW
variable {a a1 a2 : Nat → Nat} {D D1 D2 : Nat → Option ri_E} {σ σ1 σ2 : ri_S} {lo hi lo' hi' T T1 T2 : Nat}
theorem gw_P.at (h : gw_P a D σ) {i : Nat} {e : ri_E} (hd : D i = some e) : σ.1 (a i) = some e := (h.2 i e hd).2
theorem gw_P.lt (h : gw_P a D σ) {i : Nat} {e : ri_E} (hd : D i = some e) : a i < σ.2.1 := (h.2 i e hd).1
theorem gw_P.ne (h : gw_P a D σ) {i j : Nat} {e x : ri_E} (hi : D i = some e) (hj : D j = some x) (hij : i ≠ j) : a i ≠ a j := fun z => hij (h.1 i j (by rw [hi]; exact gw_sn) (by rw [hj]; exact gw_sn) z)
theorem gw_P.set (h : gw_P a D σ) {i : Nat} {e0 : ri_E} (hd : D i = some e0) (e : ri_E) : gw_P a (va_up D i (some e)) (ri_up σ.1 (a i) e, σ.2) := by
  have us : ∀ j, va_up D i (some e) j ≠ none → D j ≠ none := fun j hj => by
    by_cases q : j = i
    · rw [q, hd]; exact gw_sn
    · rw [va_up_n q] at hj; exact hj
  refine ⟨fun p q hp hq => h.1 p q (us p hp) (us q hq), fun j x hx => ?_⟩
  by_cases q : j = i
  · rw [q] at hx ⊢
    rw [va_up_s] at hx
    cases hx
    exact ⟨(h.2 i e0 hd).1, ri_up_s⟩
  · rw [va_up_n q] at hx
    exact ⟨(h.2 j x hx).1, (ri_up_n (h.ne hx hd q)).trans (h.2 j x hx).2⟩
theorem gw_P.new (h : gw_P a D σ) (i : Nat) (e : ri_E) (n s : Nat) (hn : σ.2.1 < n) : gw_P (va_up a i σ.2.1) (va_up D i (some e)) (ri_up σ.1 σ.2.1 e, n, s) := by
  have lt : ∀ j, j ≠ i → va_up D i (some e) j ≠ none → a j < σ.2.1 := fun j hj hx => by
    rw [va_up_n hj] at hx
    cases hc : D j with
    | none => exact absurd hc hx
    | some x => exact (h.2 j x hc).1
  refine ⟨fun p q hp hq hpq => ?_, fun j x hx => ?_⟩
  · by_cases z1 : p = i
    · by_cases z2 : q = i
      · rw [z1, z2]
      · rw [z1, va_up_s, va_up_n z2] at hpq
        have := lt q z2 hq
        omega
    · by_cases z2 : q = i
      · rw [z2, va_up_s, va_up_n z1] at hpq
        have := lt p z1 hp
        omega
      · rw [va_up_n z1] at hp
        rw [va_up_n z2] at hq
        rw [va_up_n z1, va_up_n z2] at hpq
        exact h.1 p q hp hq hpq
  · by_cases z : j = i
    · rw [z] at hx ⊢
      rw [va_up_s] at hx
      cases hx
      rw [va_up_s]
      exact ⟨hn, ri_up_s⟩
    · rw [va_up_n z] at hx
      rw [va_up_n z]
      have := h.2 j x hx
      exact ⟨Nat.lt_trans this.1 hn, (ri_up_n (Nat.ne_of_lt this.1)).trans this.2⟩
/-- the same roles in other cells that agree there -/
theorem gw_P.sub (h : gw_P a D σ) (h1 : ∀ i e, D1 i = some e → a i < σ1.2.1 ∧ σ1.1 (a i) = some e) (h2 : ∀ i, D1 i ≠ none → D i ≠ none) : gw_P a D1 σ1 := ⟨fun p q hp hq => h.1 p q (h2 p hp) (h2 q hq), h1⟩
theorem gw_F.rf : gw_F lo hi a D a D := fun _ _ => ⟨rfl, rfl⟩
theorem gw_F.tr (h1 : gw_F lo hi a D a1 D1) (h2 : gw_F lo hi a1 D1 a2 D2) : gw_F lo hi a D a2 D2 := fun i hi => ⟨(h2 i hi).1.trans (h1 i hi).1, (h2 i hi).2.trans (h1 i hi).2⟩
theorem gw_F.wk (h : gw_F lo hi a D a1 D1) (h1 : lo' ≤ lo) (h2 : hi ≤ hi') : gw_F lo' hi' a D a1 D1 := fun i hi => h i (by omega)
theorem gw_F.up (h : gw_F lo hi a D a1 D1) {i : Nat} {e : Option ri_E} (h1 : lo ≤ i) (h2 : i < hi) : gw_F lo hi a D a1 (va_up D1 i e) := fun j hj => ⟨(va_up_n (by omega)).trans (h j hj).1, (h j hj).2⟩
theorem gw_F.upA (h : gw_F lo hi a D a1 D1) {i q : Nat} (h1 : lo ≤ i) (h2 : i < hi) : gw_F lo hi a D (va_up a1 i q) D1 := fun j hj => ⟨(h j hj).1, (va_up_n (by omega)).trans (h j hj).2⟩
theorem gw_ro.rf (h : σ1.2 = σ.2) : gw_ro T T σ σ1 := by unfold gw_ro; rw [h]; omega
theorem gw_ro.tr (h1 : gw_ro T T1 σ σ1) (h2 : gw_ro T1 T2 σ1 σ2) : gw_ro T T2 σ σ2 := by unfold gw_ro at *; omega
theorem gw_ro.ad (h1 : gw_ro T T1 σ σ1) (k : Nat) : gw_ro (T + k) (T1 + k) σ σ1 := by unfold gw_ro at *; omega
end GW
section GWS
variable {a : Nat → Nat} {D : Nat → Option ri_E} {d : Nat} {M : ri_M} {F : ri_F} {pc np tg : Nat} {kv : Int32} {L : List (Option Value)} {st r : List Value} {σ : ri_S} {Q : Option Value → ri_S → Prop}
/-- steps on a role's cell -/
theorem gw_put (hG : gw_P a D σ) {i k cj j : Nat} {ty : FieldType} {fs : List Value} {v : Value} (hd : D i = some (.inr (cj, fs))) (hgo : ri_go 99 M F = (pc, L, v :: .ref (a i) :: r)) (hf : ri_find pc M.2.2.2.2.2 = some (.putfield k, np, tg, kv)) (ht : rt_f M.1 k = some (cj, j, ty, 0)) (hn : narrow ty v = v) (hfi : fits ty v = true) (hj : Nat.blt j fs.length = true) (kk : ∀ σ' : ri_S, gw_P a (va_up D i (some (.inr (cj, fs.set j v)))) σ' → σ'.2 = σ.2 → ev_W d M (np, L, r) σ' Q) : ev_W d M F σ Q := g_put hgo hf ht (hG.at hd) hn hfi hj (kk _ (hG.set hd _) rfl)
theorem gw_ald (hG : gw_P a D σ) {i n q : Nat} {j : Int32} {f : Nat → Int32} (hd : D i = some (.inl (.int, n, .inl f))) (hgo : ri_go 99 M F = (pc, L, .int j :: .ref (a i) :: r)) (hf : ri_find pc M.2.2.2.2.2 = some (.iaload, np, tg, kv)) (hj : j = nI q) (hq : q < n) (hn : n < 2 ^ 31) (kk : ev_W d M (np, L, .int (f q) :: r) σ Q) : ev_W d M F σ Q := by
  subst hj
  refine g_iald hgo hf (hG.at hd) rfl (nI_in hq hn) ?_
  rw [nI_clamp (by omega)]
  exact kk
theorem gw_ast (hG : gw_P a D σ) {i n q : Nat} {j x : Int32} {f : Nat → Int32} (hd : D i = some (.inl (.int, n, .inl f))) (hgo : ri_go 99 M F = (pc, L, .int x :: .int j :: .ref (a i) :: r)) (hf : ri_find pc M.2.2.2.2.2 = some (.iastore, np, tg, kv)) (hj : j = nI q) (hq : q < n) (hn : n < 2 ^ 31) (kk : ∀ σ' : ri_S, gw_P a (va_up D i (some (.inl (.int, n, .inl (upd f q x))))) σ' → σ'.2 = σ.2 → ev_W d M (np, L, r) σ' Q) : ev_W d M F σ Q := by
  subst hj
  refine g_iast hgo hf (hG.at hd) (nI_in hq hn) ?_
  rw [nI_clamp (by omega)]
  exact kk _ (hG.set hd _) rfl
/-- a static call, and one of a nest mate's -/
theorem ev_clS {M' : ri_M} {k n : Nat} (hf : ri_find pc M.2.2.2.2.2 = some (.invokestatic k, np, tg, kv)) (ht : rt_c M.1 k = some (1, M', n)) (h1 : Nat.beq (st.take n).length n = true) (h2 : Nat.ble ((st.drop n).map fun v => v.category).sum 8 = true) (h3 : Nat.ble (ri_ent (st.take n).reverse).length M'.2.2.2.1 = true)
    (kk : ev_W d M' (0, ri_loc M'.2.2.2.1 (st.take n).reverse, []) σ (fun v σ' => ev_W (d + 1) M (np, L, v.toList ++ st.drop n) σ' Q)) : ev_W (d + 1) M (pc, L, st) σ Q := by
  refine ev_cl hf rfl ?_ h3 kk
  show ri_cl M (.invokestatic k) _ _ = _
  simp only [ri_cl, ht]
  rw [if_pos ⟨Nat.eq_of_beq_eq_true h1, Nat.le_of_ble_eq_true h2⟩]
theorem ev_clN {M' : ri_M} {k n : Nat} (hf : ri_find pc M.2.2.2.2.2 = some (.invokestatic k, np, tg, kv)) (ht : rt_c M.1 k = some (4, M', n)) (h1 : Nat.beq (st.take n).length n = true) (h2 : Nat.ble ((st.drop n).map fun v => v.category).sum 8 = true) (h3 : Nat.ble (ri_ent (st.take n).reverse).length M'.2.2.2.1 = true)
    (kk : ev_W d M' (0, ri_loc M'.2.2.2.1 (st.take n).reverse, []) σ (fun v σ' => ev_W (d + 1) M (np, L, v.toList ++ st.drop n) σ' Q)) : ev_W (d + 1) M (pc, L, st) σ Q := by
  refine ev_cl hf rfl ?_ h3 kk
  show ri_cl M (.invokestatic k) _ _ = _
  simp only [ri_cl, ht]
  rw [if_pos ⟨Nat.eq_of_beq_eq_true h1, Nat.le_of_ble_eq_true h2⟩]
theorem g_clS {M' : ri_M} {k n : Nat} (hgo : ri_go 99 M F = (pc, L, st)) (hf : ri_find pc M.2.2.2.2.2 = some (.invokestatic k, np, tg, kv)) (ht : rt_c M.1 k = some (1, M', n)) (h1 : Nat.beq (st.take n).length n = true) (h2 : Nat.ble ((st.drop n).map fun v => v.category).sum 8 = true) (h3 : Nat.ble (ri_ent (st.take n).reverse).length M'.2.2.2.1 = true)
    (kk : ev_W d M' (0, ri_loc M'.2.2.2.1 (st.take n).reverse, []) σ (fun v σ' => ev_W (d + 1) M (np, L, v.toList ++ st.drop n) σ' Q)) : ev_W (d + 1) M F σ Q := ev_go 99 hgo (ev_clS hf ht h1 h2 h3 kk)
theorem g_clN {M' : ri_M} {k n : Nat} (hgo : ri_go 99 M F = (pc, L, st)) (hf : ri_find pc M.2.2.2.2.2 = some (.invokestatic k, np, tg, kv)) (ht : rt_c M.1 k = some (4, M', n)) (h1 : Nat.beq (st.take n).length n = true) (h2 : Nat.ble ((st.drop n).map fun v => v.category).sum 8 = true) (h3 : Nat.ble (ri_ent (st.take n).reverse).length M'.2.2.2.1 = true)
    (kk : ev_W d M' (0, ri_loc M'.2.2.2.1 (st.take n).reverse, []) σ (fun v σ' => ev_W (d + 1) M (np, L, v.toList ++ st.drop n) σ' Q)) : ev_W (d + 1) M F σ Q := ev_go 99 hgo (ev_clN hf ht h1 h2 h3 kk)
/-- a constructor, and a nest mate's private one -/
theorem ev_clC {M' : ri_M} {k n b kd : Nat} (hf : ri_find pc M.2.2.2.2.2 = some (.invokespecial k, np, tg, kv)) (ht : rt_c M.1 k = some (kd, M', n)) (hk : kd = 2 ∨ kd = 5) (hd : st.drop n = .ref b :: r) (h1 : Nat.beq (st.take n).length n = true) (h2 : Nat.ble (r.map fun v => v.category).sum 8 = true) (h3 : Nat.ble (ri_ent (.ref b :: (st.take n).reverse)).length M'.2.2.2.1 = true)
    (kk : ev_W d M' (0, ri_loc M'.2.2.2.1 (.ref b :: (st.take n).reverse), []) σ (fun v σ' => ev_W (d + 1) M (np, L, v.toList ++ r) σ' Q)) : ev_W (d + 1) M (pc, L, st) σ Q := by
  refine ev_cl hf rfl ?_ h3 kk
  show ri_cl M (.invokespecial k) _ _ = _
  rcases hk with rfl | rfl
  · simp only [ri_cl, ht, hd]
    rw [if_pos ⟨Nat.eq_of_beq_eq_true h1, Nat.le_of_ble_eq_true h2⟩]
  · simp only [ri_cl, ht, hd]
    rw [if_pos ⟨Nat.eq_of_beq_eq_true h1, Nat.le_of_ble_eq_true h2⟩]
theorem g_clC {M' : ri_M} {k n b kd : Nat} (hgo : ri_go 99 M F = (pc, L, st)) (hf : ri_find pc M.2.2.2.2.2 = some (.invokespecial k, np, tg, kv)) (ht : rt_c M.1 k = some (kd, M', n)) (hk : kd = 2 ∨ kd = 5) (hd : st.drop n = .ref b :: r) (h1 : Nat.beq (st.take n).length n = true) (h2 : Nat.ble (r.map fun v => v.category).sum 8 = true) (h3 : Nat.ble (ri_ent (.ref b :: (st.take n).reverse)).length M'.2.2.2.1 = true)
    (kk : ev_W d M' (0, ri_loc M'.2.2.2.1 (.ref b :: (st.take n).reverse), []) σ (fun v σ' => ev_W (d + 1) M (np, L, v.toList ++ r) σ' Q)) : ev_W (d + 1) M F σ Q := ev_go 99 hgo (ev_clC hf ht hk hd h1 h2 h3 kk)
theorem nI_mul (m n : Nat) : nI m * nI n = nI (m * n) := (Int32.ofNat_mul m n).symm
theorem nI_c0 : (0 : Int32).toNatClampNeg = 0 := by decide +kernel
set_option maxRecDepth 100000 in
/-- Arrays.copyOf(row, N), N beyond the row's length: the row's role has moved -/
theorem ar_copyOf (hG : gw_P a D σ) {i n N : Nat} {f : Nat → Int32} {nd : Int32} (hr : D i = some (.inl (.int, n, .inl f))) (hN : n < N) (hN2 : N ≤ 200000) (hnd : nd = nI N)
    (kk : ∀ (f' : Nat → Int32) (σ' : ri_S), (∀ j, j < n → f' j = f j) → gw_P (va_up a i σ.2.1) (va_up D i (some (.inl (.int, N, .inl f')))) σ' → σ'.2 = (σ.2.1 + 1, σ.2.2 + N) → Q (some (.ref σ.2.1)) σ') : ev_W (d + 1) mAr_copyOf (0, [some (.ref (a i)), some (.int nd), none], []) σ Q := by
  subst hnd
  refine g_alen rfl rfl (hG.at hr) rfl ?_
  refine g_br rfl rfl rfl rfl rfl rfl (fun h => absurd ((nI_eq (by omega) (by omega)).mp h) (by omega)) (fun h => ?_)
  refine g_newi rfl rfl (nI_pos (by omega)) (nI_clamp (by omega)) (by omega) ?_
  have hc : ri_up σ.1 σ.2.1 (.inl (.int, N, .inl fun _ => 0)) (a i) = some (.inl (.int, n, .inl f)) := (ri_up_n (Nat.ne_of_lt (hG.lt hr))).trans (hG.at hr)
  refine g_alen rfl rfl hc rfl ?_
  refine g_min rfl rfl rfl rfl rfl ?_
  rw [if_neg (nI_nlt (by omega) (by omega))]
  refine g_cpy rfl rfl rfl rfl hc ri_up_s ⟨by decide, by decide, nI_pos (by omega)⟩ (by rw [nI_c0, nI_clamp (by omega)]; omega) (by rw [nI_c0, nI_clamp (by omega)]; omega) rfl ?_
  refine g_rt rfl rfl rfl (kk (va_cpy f (fun _ => 0) (0 : Int32).toNatClampNeg (0 : Int32).toNatClampNeg (nI n).toNatClampNeg) _ (fun j hj => ?_) ?_ rfl)
  · unfold va_cpy
    rw [nI_c0, nI_clamp (by omega), if_pos ⟨Nat.zero_le _, by omega⟩]
    congr 1
    omega
  · have h1 := hG.new i (.inl (.int, N, .inl fun _ => 0)) (σ.2.1 + 1) (σ.2.2 + N) (by omega)
    have h2 := h1.set (i := i) va_up_s (.inl (.int, N, .inl (va_cpy f (fun _ => 0) (0 : Int32).toNatClampNeg (0 : Int32).toNatClampNeg (nI n).toNatClampNeg)))
    rw [bx_uu, show va_up a i σ.2.1 i = σ.2.1 from va_up_s] at h2
    exact h2
set_option maxRecDepth 100000 in
/-- withRoom(row, needed) -/
theorem st_withRoom (hG : gw_P a D σ) {i n k : Nat} {f : Nat → Int32} {nd : Int32} (hr : D i = some (.inl (.int, n, .inl f))) (h24 : 24 ≤ n) (hn : n ≤ 50000) (hk : k ≤ 50000) (hnd : nd = nI k)
    (kk : ∀ (q n' : Nat) (f' : Nat → Int32) (σ' : ri_S), gw_P (va_up a i q) (va_up D i (some (.inl (.int, n', .inl f')))) σ' → (∀ j, j < n → f' j = f j) → k ≤ n' → n ≤ n' → (n' = n ∨ n' ≤ 2 * k) → gw_ro n n' σ σ' → Q (some (.ref q)) σ') : ev_W (d + 2) mSt_withRoom (0, [some (.ref (a i)), some (.int nd)], []) σ Q := by
  subst hnd
  refine g_alen rfl rfl (hG.at hr) rfl ?_
  refine g_br rfl rfl rfl rfl rfl rfl (fun h => ?_) (fun h => ?_)
  rotate_left
  · have hle : k ≤ n := by
      rcases Nat.lt_or_ge n k with z | z
      · exact absurd (nI_lt z (by omega)) h
      · exact z
    refine g_rt rfl rfl rfl (kk (a i) n f σ ?_ (fun _ _ => rfl) hle (Nat.le_refl _) (Or.inl rfl) (gw_ro.rf rfl))
    rw [va_up_id rfl, va_up_id hr]
    exact hG
  have hlt : n < k := (nI_ltI (by omega) (by omega)).mp h
  refine g_alen rfl rfl (hG.at hr) rfl ?_
  refine g_max rfl rfl rfl rfl rfl ?_
  obtain ⟨N, e, h1, h2, h3⟩ : ∃ N : Nat, (if nI k < (2 : Int32) * nI n then (2 : Int32) * nI n else nI k) = nI N ∧ k ≤ N ∧ 2 * n ≤ N ∧ N ≤ 2 * k := by
    rw [show (2 : Int32) * nI n = nI (2 * n) from nI_mul 2 n]
    by_cases z : k < 2 * n
    · exact ⟨2 * n, if_pos (nI_lt z (by omega)), by omega, by omega, by omega⟩
    · exact ⟨k, if_neg (nI_nlt (by omega) (by omega)), by omega, by omega, by omega⟩
  rw [e]
  refine g_clS rfl rfl rfl rfl rfl rfl ?_
  refine ar_copyOf hG hr (show n < N by omega) (by omega) rfl (fun f' σ' hf' hG' hs => ?_)
  refine g_rt rfl rfl rfl (kk σ.2.1 N f' σ' hG' hf' h1 (by omega) (Or.inr h3) ?_)
  unfold gw_ro
  rw [hs]
  omega
end GWS
