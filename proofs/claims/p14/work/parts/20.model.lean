/-! THE REFERENCE'S CELLS: its object at o, its thirteen arrays behind it, for ever. mo_P o A I: array k holds A k; the number in slot j is I j. -/
def mo_ty (k : Nat) : FieldType := match k with
  | 3 => .boolean
  | 10 => .boolean
  | _ => .int
def mo_len (k : Nat) : Nat := match k with
  | 0 => 48
  | 1 => 48
  | 2 => 48
  | 3 => 48
  | 4 => 2048
  | 5 => 2048
  | 6 => 2048
  | 7 => 129
  | 8 => 17
  | 9 => 17
  | 10 => 48
  | _ => 4096
def mo_fs (o : Nat) (I : Nat → Int32) : List Value := [.ref (o + 1), .ref (o + 2), .ref (o + 3), .ref (o + 4), .int (I 4), .int (I 5), .ref (o + 5), .ref (o + 6), .ref (o + 7), .int (I 9), .ref (o + 8), .int (I 11), .int (I 12), .int (I 13), .ref (o + 9), .ref (o + 10), .int (I 16), .int (I 17), .int (I 18), .int (I 19), .ref (o + 11), .ref (o + 12), .ref (o + 13), .int (I 23), .int (I 24)]
def mo_P (o : Nat) (A : Nat → Nat → Int32) (I : Nat → Int32) (h : Nat → Option ri_E) : Prop := h o = some (.inr (5, mo_fs o I)) ∧ ∀ k, k < 13 → h (o + 1 + k) = some (.inl (mo_ty k, mo_len k, .inl (A k)))
/-- the reference's world since σ0: nothing else has changed, nothing was made -/
def mo_W (o : Nat) (A : Nat → Nat → Int32) (I : Nat → Int32) (σ0 σ : ri_S) : Prop := mo_P o A I σ.1 ∧ (∀ a, (a < o ∨ o + 14 ≤ a) → σ.1 a = σ0.1 a) ∧ σ.2 = σ0.2
theorem mo_P.a {o : Nat} {A : Nat → Nat → Int32} {I : Nat → Int32} {h : Nat → Option ri_E} (hP : mo_P o A I h) (k : Nat) (hk : k < 13) {q : Nat} (hq : q = o + 1 + k) : h q = some (.inl (mo_ty k, mo_len k, .inl (A k))) := by
  rw [hq]; exact hP.2 k hk
/-- a number is put -/
theorem mo_W.put {o : Nat} {A : Nat → Nat → Int32} {I : Nat → Int32} {σ0 σ : ri_S} (hW : mo_W o A I σ0 σ) (j : Nat) (v : Int32) (hj : (mo_fs o I).set j (.int v) = mo_fs o (va_up I j v)) : mo_W o A (va_up I j v) σ0 (ri_up σ.1 o (.inr (5, (mo_fs o I).set j (.int v))), σ.2) := by
  obtain ⟨⟨h1, h2⟩, h3, h4⟩ := hW
  refine ⟨⟨?_, fun k hk => ?_⟩, fun a ha => ?_, h4⟩
  · show ri_up σ.1 o _ o = _
    unfold ri_up
    rw [if_pos rfl, hj]
  · show ri_up σ.1 o _ (o + 1 + k) = _
    unfold ri_up
    rw [if_neg (by omega)]
    exact h2 k hk
  · show ri_up σ.1 o _ a = _
    unfold ri_up
    rw [if_neg (by omega)]
    exact h3 a ha
/-- a place of an array is put -/
theorem mo_W.set {o : Nat} {A : Nat → Nat → Int32} {I : Nat → Int32} {σ0 σ : ri_S} (hW : mo_W o A I σ0 σ) (k : Nat) (hk : k < 13) (f : Nat → Int32) {q : Nat} (hq : q = o + 1 + k) {t : FieldType} {n : Nat} (ht : t = mo_ty k) (hn : n = mo_len k) : mo_W o (va_up A k f) I σ0 (ri_up σ.1 q (.inl (t, n, .inl f)), σ.2) := by
  obtain ⟨⟨h1, h2⟩, h3, h4⟩ := hW
  subst hq
  subst ht
  subst hn
  refine ⟨⟨?_, fun j hj => ?_⟩, fun a ha => ?_, h4⟩
  · show ri_up σ.1 _ _ o = _
    unfold ri_up
    rw [if_neg (by omega)]
    exact h1
  · show ri_up σ.1 _ _ (o + 1 + j) = _
    unfold ri_up
    by_cases e : j = k
    · subst e
      rw [if_pos rfl]
      unfold va_up
      rw [if_pos rfl]
    · rw [if_neg (by omega)]
      unfold va_up
      rw [if_neg e]
      exact h2 j hj
  · show ri_up σ.1 _ _ a = _
    unfold ri_up
    rw [if_neg (by omega)]
    exact h3 a ha
theorem mo_len_lt (k : Nat) : mo_len k < 2 ^ 31 := by
  unfold mo_len
  split <;> decide
section MO0
variable {d o : Nat} {A : Nat → Nat → Int32} {I : Nat → Int32} {σ0 σ : ri_S} {Q : Option Value → ri_S → Prop} {M : ri_M} {F : ri_F} {pc np tg : Nat} {kv : Int32} {L : List (Option Value)} {r : List Value}
/-- reads and writes of the reference's arrays, and of its numbers -/
theorem mo_ald (hP : mo_P o A I σ.1) (k : Nat) {i a : Nat} {j : Int32} (hgo : ri_go 99 M F = (pc, L, .int j :: .ref a :: r)) (hf : ri_find pc M.2.2.2.2.2 = some (.iaload, np, tg, kv)) (ha : a = o + 1 + k) (hj : j = nI i) (hi : i < mo_len k) (hk : k < 13) (ht : mo_ty k = .int) (kk : ev_W d M (np, L, .int (A k i) :: r) σ Q) : ev_W d M F σ Q := by
  subst hj
  have h := hP.a k hk ha
  rw [ht] at h
  have hl : i < 2 ^ 31 := Nat.lt_trans hi (mo_len_lt k)
  refine g_iald hgo hf h rfl (nI_in hi (mo_len_lt k)) ?_
  rw [nI_clamp hl]
  exact kk
theorem mo_zld (hP : mo_P o A I σ.1) (k : Nat) {i a : Nat} {j : Int32} (hgo : ri_go 99 M F = (pc, L, .int j :: .ref a :: r)) (hf : ri_find pc M.2.2.2.2.2 = some (.baload, np, tg, kv)) (ha : a = o + 1 + k) (hj : j = nI i) (hi : i < mo_len k) (hk : k < 13) (ht : mo_ty k = .boolean) (kk : ev_W d M (np, L, .int (A k i) :: r) σ Q) : ev_W d M F σ Q := by
  subst hj
  have h := hP.a k hk ha
  rw [ht] at h
  have hl : i < 2 ^ 31 := Nat.lt_trans hi (mo_len_lt k)
  refine g_bald hgo hf h (nI_in hi (mo_len_lt k)) ?_
  rw [nI_clamp hl]
  exact kk
theorem mo_ast (hW : mo_W o A I σ0 σ) (k : Nat) {i a : Nat} {j x : Int32} (hgo : ri_go 99 M F = (pc, L, .int x :: .int j :: .ref a :: r)) (hf : ri_find pc M.2.2.2.2.2 = some (.iastore, np, tg, kv)) (ha : a = o + 1 + k) (hj : j = nI i) (hi : i < mo_len k) (hk : k < 13) (ht : mo_ty k = .int) (kk : ∀ σ' : ri_S, mo_W o (va_up A k (upd (A k) i x)) I σ0 σ' → ev_W d M (np, L, r) σ' Q) : ev_W d M F σ Q := by
  subst hj
  have h := hW.1.a k hk ha
  rw [ht] at h
  have hl : i < 2 ^ 31 := Nat.lt_trans hi (mo_len_lt k)
  refine g_iast hgo hf h (nI_in hi (mo_len_lt k)) ?_
  rw [nI_clamp hl]
  exact kk _ (hW.set k hk _ ha ht.symm rfl)
theorem mo_zst (hW : mo_W o A I σ0 σ) (k : Nat) {i a : Nat} {j x : Int32} (hgo : ri_go 99 M F = (pc, L, .int x :: .int j :: .ref a :: r)) (hf : ri_find pc M.2.2.2.2.2 = some (.bastore, np, tg, kv)) (ha : a = o + 1 + k) (hj : j = nI i) (hi : i < mo_len k) (hk : k < 13) (ht : mo_ty k = .boolean) (hx : x = 0 ∨ x = 1) (kk : ∀ σ' : ri_S, mo_W o (va_up A k (upd (A k) i x)) I σ0 σ' → ev_W d M (np, L, r) σ' Q) : ev_W d M F σ Q := by
  subst hj
  have h := hW.1.a k hk ha
  rw [ht] at h
  have hl : i < 2 ^ 31 := Nat.lt_trans hi (mo_len_lt k)
  refine g_bast hgo hf h (nI_in hi (mo_len_lt k)) ?_
  rw [nI_clamp hl, show vp_nar .boolean x = x by rcases hx with rfl | rfl <;> rfl]
  exact kk _ (hW.set k hk _ ha ht.symm rfl)
theorem mo_set (hW : mo_W o A I σ0 σ) {k j : Nat} {v : Int32} {ty : FieldType} (hgo : ri_go 99 M F = (pc, L, .int v :: .ref o :: r)) (hf : ri_find pc M.2.2.2.2.2 = some (.putfield k, np, tg, kv)) (ht : rt_f M.1 k = some (5, j, ty, 0)) (hn : narrow ty (.int v) = .int v) (hfi : fits ty (.int v) = true) (hj : Nat.blt j (mo_fs o I).length = true) (hs : (mo_fs o I).set j (.int v) = mo_fs o (va_up I j v)) (kk : ∀ σ' : ri_S, mo_W o A (va_up I j v) σ0 σ' → ev_W d M (np, L, r) σ' Q) : ev_W d M F σ Q := by
  refine g_put hgo hf ht hW.1.1 hn hfi hj ?_
  exact kk _ (hW.put j v hs)
end MO0
section MO1
variable {d o : Nat} {A : Nat → Nat → Int32} {I : Nat → Int32} {σ0 σ : ri_S} {Q : Option Value → ri_S → Prop}
set_option maxRecDepth 100000 in
/-- isField(f) -/
theorem mo_isField {f : Int32} (hP : mo_P o A I σ.1) (k1 : 0 ≤ f → f < I 4 → Q (some (.int 1)) σ) (k0 : ¬ (0 ≤ f ∧ f < I 4) → Q (some (.int 0)) σ) : ev_W d mMo_isField (0, [some (.ref o), some (.int f)], []) σ Q := by
  refine g_br rfl rfl rfl rfl rfl rfl (fun h => ?_) (fun h => ?_)
  · exact g_rt rfl rfl rfl (k0 (fun q => absurd h (Int32.not_lt.mpr q.1)))
  · refine g_get rfl rfl rfl hP.1 rfl ?_
    refine g_br rfl rfl rfl rfl rfl rfl (fun h2 => ?_) (fun h2 => ?_)
    · exact g_rt rfl rfl rfl (k0 (fun q => absurd q.2 (Int32.not_lt.mpr h2)))
    · exact g_rt rfl rfl rfl (k1 (Int32.not_lt.mp h) (Int32.not_le.mp h2))
/-- the chain of parents from f on, up to g or to none -/
def mo_ch (par : Nat → Int32) (g : Int32) : Nat → Int32 → Int32
  | 0, f => f
  | n + 1, f => if f = -1 ∨ f = g then f else mo_ch par g n (par f.toNatClampNeg)
/-- parents lie ahead -/
def mo_up (par : Nat → Int32) (n : Nat) : Prop := ∀ f, f < n → par f = -1 ∨ ∃ p, p < f ∧ par f = nI p
set_option maxRecDepth 100000 in
theorem mo_isAround_loop {g : Int32} {n : Nat} (hP : mo_P o A I σ.1) (hn : n ≤ 48) (hup : mo_up (A 0) n) : ∀ (m : Nat) (f : Int32), (f = -1 ∨ ∃ p, p < m ∧ f = nI p) → m ≤ n → (∀ r, r = mo_ch (A 0) g m f → (r = g → Q (some (.int 1)) σ) ∧ (¬ r = g → Q (some (.int 0)) σ)) → ev_W d mMo_isAround (7, [some (.ref o), some (.int g), some (.int f)], []) σ Q := by
  intro m
  induction m with
  | zero =>
    intro f hf hm hk
    obtain rfl : f = -1 := by
      rcases hf with h | ⟨p, hp, -⟩
      · exact h
      · exact absurd hp (Nat.not_lt_zero _)
    refine g_br rfl rfl rfl rfl rfl rfl (fun h => ?_) (fun h => absurd rfl h)
    refine g_br rfl rfl rfl rfl rfl rfl (fun h2 => ?_) (fun h2 => ?_)
    · exact g_rt rfl rfl rfl ((hk _ rfl).1 h2)
    · exact g_rt rfl rfl rfl ((hk _ rfl).2 h2)
  | succ m ih =>
    intro f hf hm hk
    refine g_br rfl rfl rfl rfl rfl rfl (fun h => ?_) (fun h => ?_)
    · have e : mo_ch (A 0) g (m + 1) f = f := by unfold mo_ch; rw [if_pos (Or.inl h)]
      refine g_br rfl rfl rfl rfl rfl rfl (fun h2 => ?_) (fun h2 => ?_)
      · exact g_rt rfl rfl rfl ((hk f e.symm).1 h2)
      · exact g_rt rfl rfl rfl ((hk f e.symm).2 h2)
    · refine g_br rfl rfl rfl rfl rfl rfl (fun h1 => ?_) (fun h1 => ?_)
      · have e : mo_ch (A 0) g (m + 1) f = f := by unfold mo_ch; rw [if_pos (Or.inr h1)]
        refine g_br rfl rfl rfl rfl rfl rfl (fun h2 => ?_) (fun h2 => ?_)
        · exact g_rt rfl rfl rfl ((hk f e.symm).1 h2)
        · exact g_rt rfl rfl rfl ((hk f e.symm).2 h2)
      · obtain ⟨p, hp, rfl⟩ : ∃ p, p < m + 1 ∧ f = nI p := by
          rcases hf with h9 | h9
          · exact absurd h9 h
          · exact h9
        have hp2 : p < 2 ^ 31 := by omega
        have e : mo_ch (A 0) g (m + 1) (nI p) = mo_ch (A 0) g m (A 0 p) := by
          show (if _ then _ else _) = _
          rw [if_neg (by rintro (q | q); exact h q; exact h1 q), nI_clamp hp2]
        refine g_get rfl rfl rfl hP.1 rfl ?_
        refine g_iald rfl rfl (hP.a 0 (by decide) rfl) rfl (nI_in (show p < 48 by omega) (by decide)) ?_
        rw [nI_clamp hp2]
        refine ev_go 2 rfl ?_
        refine ih (A 0 p) ?_ (by omega) (fun r hr => hk r (by rw [e]; exact hr))
        rcases hup p (by omega) with q | ⟨w, hw, q⟩
        · exact Or.inl q
        · exact Or.inr ⟨w, by omega, q⟩
set_option maxRecDepth 100000 in
/-- isAround(g) -/
theorem mo_isAround {g : Int32} {n : Nat} (hP : mo_P o A I σ.1) (hI : I 4 = nI n) (hn : n ≤ 48) (hup : mo_up (A 0) n) (k1 : mo_ch (A 0) g n (nI n - 1) = g → Q (some (.int 1)) σ) (k0 : ¬ mo_ch (A 0) g n (nI n - 1) = g → Q (some (.int 0)) σ) : ev_W d mMo_isAround (0, [some (.ref o), some (.int g), none], []) σ Q := by
  refine g_get rfl rfl rfl hP.1 rfl ?_
  refine ev_go 3 rfl ?_
  rw [hI]
  refine mo_isAround_loop hP hn hup n _ ?_ (Nat.le_refl _) (fun r hr => ⟨fun q => k1 (by rw [← hr]; exact q), fun q => k0 (by rw [← hr]; exact q)⟩)
  cases n with
  | zero => exact Or.inl rfl
  | succ n => exact Or.inr ⟨n, Nat.lt_succ_self n, nI_pred n⟩
set_option maxRecDepth 100000 in
set_option maxHeartbeats 1000000 in
/-- field(parent, kind, group): refused, or a field more -/
theorem mo_field {p kd : Int32} {gb : Int32} {n : Nat} (hW : mo_W o A I σ0 σ) (hI : I 4 = nI n) (hn : n ≤ 48) (hup : mo_up (A 0) n) (hgb : gb = 0 ∨ gb = 1)
    (kno : (¬ I 5 = 0 ∨ n = 48 ∨ kd < 0 ∨ 2 < kd ∨ p < -1 ∨ nI n ≤ p ∨ (¬ p = -1 ∧ (A 3 p.toNatClampNeg = 0 ∨ ¬ mo_ch (A 0) p n (nI n - 1) = p ∨ A 2 p.toNatClampNeg = 16))) → Q (some (.int (-1))) σ)
    (kyes : ∀ σ' : ri_S, I 5 = 0 → n < 48 → ¬ kd < 0 → ¬ 2 < kd → (p = -1 ∨ ∃ w, w < n ∧ p = nI w ∧ ¬ A 3 w = 0 ∧ mo_ch (A 0) p n (nI n - 1) = p ∧ ¬ A 2 w = 16) →
      mo_W o (va_up (va_up (va_up (va_up A 0 (upd (A 0) n p)) 1 (upd (A 1) n kd)) 3 (upd (A 3) n gb)) 2 (upd (A 2) n (if p = -1 then 1 else A 2 p.toNatClampNeg + 1))) (va_up I 4 (nI (n + 1))) σ0 σ' → Q (some (.int (nI n))) σ') :
    ev_W (d + 1) mMo_field (0, [some (.ref o), some (.int p), some (.int kd), some (.int gb)], []) σ Q := by
  have hP := hW.1
  have hn31 : n < 2 ^ 31 := by omega
  refine g_get rfl rfl rfl hP.1 rfl ?_
  refine g_br rfl rfl rfl rfl rfl rfl (fun h0 => ?_) (fun h0 => ?_)
  rotate_left
  · exact g_rt rfl rfl rfl (kno (Or.inl h0))
  refine g_get rfl rfl rfl hP.1 rfl ?_
  refine g_br rfl rfl rfl rfl rfl rfl (fun h1 => ?_) (fun h1 => ?_)
  · rw [hI] at h1
    exact g_rt rfl rfl rfl (kno (Or.inr (Or.inl ((nI_eq hn31 (by decide)).mp h1))))
  have hn48 : n < 48 := by
    rcases Nat.lt_or_ge n 48 with q | q
    · exact q
    · exact absurd (by rw [hI, show n = 48 by omega]; rfl) h1
  refine g_br rfl rfl rfl rfl rfl rfl (fun h2 => ?_) (fun h2 => ?_)
  · exact g_rt rfl rfl rfl (kno (Or.inr (Or.inr (Or.inl h2))))
  refine g_br rfl rfl rfl rfl rfl rfl (fun h3 => ?_) (fun h3 => ?_)
  · exact g_rt rfl rfl rfl (kno (Or.inr (Or.inr (Or.inr (Or.inl h3)))))
  refine g_br rfl rfl rfl rfl rfl rfl (fun h4 => ?_) (fun h4 => ?_)
  · exact g_rt rfl rfl rfl (kno (Or.inr (Or.inr (Or.inr (Or.inr (Or.inl h4))))))
  refine g_get rfl rfl rfl hP.1 rfl ?_
  refine g_br rfl rfl rfl rfl rfl rfl (fun h5 => ?_) (fun h5 => ?_)
  rotate_left
  · exact g_rt rfl rfl rfl (kno (Or.inr (Or.inr (Or.inr (Or.inr (Or.inr (Or.inl (by rw [← hI]; exact Int32.not_lt.mp h5))))))))
  rw [hI] at h5
  -- behind the tests: the four puts
  have fin : (p = -1 ∨ ∃ w, w < n ∧ p = nI w ∧ ¬ A 3 w = 0 ∧ mo_ch (A 0) p n (nI n - 1) = p ∧ ¬ A 2 w = 16) → ev_W (d + 1) mMo_field (75, [some (.ref o), some (.int p), some (.int kd), some (.int gb)], []) σ Q := by
    intro hp
    refine g_get rfl rfl rfl hP.1 rfl ?_
    refine g_get rfl rfl rfl hP.1 rfl ?_
    refine mo_ast hW 0 rfl rfl rfl hI hn48 (by decide) rfl (fun σ1 hW1 => ?_)
    refine g_get rfl rfl rfl hW1.1.1 rfl ?_
    refine g_get rfl rfl rfl hW1.1.1 rfl ?_
    refine mo_ast hW1 1 rfl rfl rfl hI hn48 (by decide) rfl (fun σ2 hW2 => ?_)
    refine g_get rfl rfl rfl hW2.1.1 rfl ?_
    refine g_get rfl rfl rfl hW2.1.1 rfl ?_
    refine mo_zst hW2 3 rfl rfl rfl hI hn48 (by decide) rfl hgb (fun σ3 hW3 => ?_)
    refine g_get rfl rfl rfl hW3.1.1 rfl ?_
    refine g_get rfl rfl rfl hW3.1.1 rfl ?_
    have last : ∀ x : Int32, x = (if p = -1 then 1 else A 2 p.toNatClampNeg + 1) → ev_W (d + 1) mMo_field (130, [some (.ref o), some (.int p), some (.int kd), some (.int gb)], [.int x, .int (I 4), .ref (o + 3)]) σ3 Q := by
      intro x ex
      refine mo_ast hW3 2 rfl rfl rfl hI hn48 (by decide) rfl (fun σ4 hW4 => ?_)
      refine g_get rfl rfl rfl hW4.1.1 rfl ?_
      refine mo_set hW4 rfl rfl rfl rfl rfl rfl rfl (fun σ5 hW5 => ?_)
      refine g_get rfl rfl rfl hW5.1.1 rfl ?_
      refine g_rt rfl rfl rfl ?_
      have e1 : I 4 + 1 = nI (n + 1) := by rw [hI]; exact nI_1 n
      have e2 : (I 4 + 1) - 1 = nI n := by rw [e1]; exact nI_pred n
      show Q (some (.int ((I 4 + 1) - 1))) σ5
      rw [e2]
      refine kyes σ5 h0 hn48 h2 h3 hp ?_
      rw [← e1, ← ex]
      exact hW5
    refine g_br rfl rfl rfl rfl rfl rfl (fun h7 => ?_) (fun h7 => ?_)
    · refine ev_go 2 rfl ?_
      exact last 1 (by rw [if_pos h7])
    · obtain ⟨w, hw, e, -⟩ : ∃ w, w < n ∧ p = nI w ∧ True := by
        rcases hp with q | ⟨w, hw, q, -⟩
        · exact absurd q h7
        · exact ⟨w, hw, q, trivial⟩
      refine g_get rfl rfl rfl hW3.1.1 rfl ?_
      refine mo_ald hW3.1 2 rfl rfl rfl e (show w < 48 by omega) (by decide) rfl ?_
      refine ev_go 2 rfl ?_
      exact last (A 2 w + 1) (by rw [if_neg h7, e, nI_clamp (by omega)])
  refine g_br rfl rfl rfl rfl rfl rfl (fun h6 => ?_) (fun h6 => ?_)
  · exact fin (Or.inl h6)
  obtain ⟨w, hw, e⟩ : ∃ w, w < n ∧ p = nI w := by
    have h9 : ¬ p < 0 := by
      intro q
      apply h6
      apply Int32.toInt_inj.mp
      have q1 := Int32.lt_iff_toInt_lt.mp q
      have q2 : ¬ p.toInt < (-1 : Int32).toInt := fun z => h4 (Int32.lt_iff_toInt_lt.mpr z)
      have e1 : (0 : Int32).toInt = 0 := rfl
      have e2 : (-1 : Int32).toInt = -1 := rfl
      rw [e1] at q1
      rw [e2] at q2 ⊢
      omega
    obtain ⟨w, hw, e⟩ := nI_of h9
    rw [e] at h5
    exact ⟨w, (nI_ltI hw hn31).mp h5, e⟩
  have hw31 : w < 2 ^ 31 := by omega
  have ep : p.toNatClampNeg = w := by rw [e]; exact nI_clamp hw31
  refine g_get rfl rfl rfl hP.1 rfl ?_
  refine mo_zld hP 3 rfl rfl rfl e (show w < 48 by omega) (by decide) rfl ?_
  refine g_br rfl rfl rfl rfl rfl rfl (fun h7 => ?_) (fun h7 => ?_)
  · exact g_rt rfl rfl rfl (kno (Or.inr (Or.inr (Or.inr (Or.inr (Or.inr (Or.inr ⟨h6, Or.inl (by rw [ep]; exact h7)⟩)))))))
  refine g_clV rfl rfl rfl rfl hP.1 rfl rfl rfl ?_
  refine mo_isAround hP hI hn hup (fun q => ?_) (fun q => ?_)
  rotate_left
  · refine g_br rfl rfl rfl rfl rfl rfl (fun h8 => ?_) (fun h8 => absurd rfl h8)
    exact g_rt rfl rfl rfl (kno (Or.inr (Or.inr (Or.inr (Or.inr (Or.inr (Or.inr ⟨h6, Or.inr (Or.inl q)⟩)))))))
  refine g_br rfl rfl rfl rfl rfl rfl (fun h8 => absurd h8 (by decide)) (fun h8 => ?_)
  refine g_get rfl rfl rfl hP.1 rfl ?_
  refine mo_ald hP 2 rfl rfl rfl e (show w < 48 by omega) (by decide) rfl ?_
  refine g_br rfl rfl rfl rfl rfl rfl (fun h9 => ?_) (fun h9 => ?_)
  · exact g_rt rfl rfl rfl (kno (Or.inr (Or.inr (Or.inr (Or.inr (Or.inr (Or.inr ⟨h6, Or.inr (Or.inr (by rw [ep]; exact h9))⟩)))))))
  · exact fin (Or.inr ⟨w, hw, e, h7, q, h9⟩)
end MO1
