/-! THE REFERENCE: entries, entry. -/
theorem mo_wy_in {par dep : Nat → Int32} {n : Nat} (hde : mo_de par dep n) : ∀ (t : Nat) (f : Int32) (w : Nat → Int32), t ≤ 16 → (t = 0 ∨ ∃ q, q < n ∧ f = nI q ∧ dep q = nI t) → n ≤ 48 → (∀ j, t ≤ j → mo_wy par t f w j = w j) ∧ ∀ j, j < t → ∃ q, q < n ∧ mo_wy par t f w j = nI q := by
  intro t
  induction t with
  | zero => intro f w _ _ _; exact ⟨fun _ _ => rfl, fun j hj => absurd hj (Nat.not_lt_zero _)⟩
  | succ t ih =>
    intro f w ht hf hn
    obtain ⟨q, hq, rfl, eq⟩ := hf.resolve_left (Nat.succ_ne_zero t)
    have ew : mo_wy par (t + 1) (nI q) w = mo_wy par t (par q) (upd w t (nI q)) := by
      show mo_wy par t (par (nI q).toNatClampNeg) _ = _
      rw [nI_clamp (by omega)]
    rw [ew]
    have hnext : t = 0 ∨ ∃ p, p < n ∧ par q = nI p ∧ dep p = nI t := by
      obtain ⟨k, k1, k2, k3⟩ := hde q hq
      have ek : k = t := by
        have := (nI_eq (by omega) (by omega)).mp (k2.symm.trans eq)
        omega
      subst ek
      rcases k3 with ⟨-, z⟩ | ⟨p, z1, z2, z3, z4⟩
      · exact Or.inl z
      · exact Or.inr ⟨p, by omega, z2, z4⟩
    obtain ⟨h1, h2⟩ := ih (par q) (upd w t (nI q)) (by omega) hnext hn
    refine ⟨fun j hj => (h1 j (by omega)).trans (pk_un (by omega)), fun j hj => ?_⟩
    rcases Nat.lt_or_ge j t with z | z
    · exact h2 j z
    · have ej : j = t := by omega
      subst ej
      exact ⟨q, hq, (h1 j (Nat.le_refl _)).trans pk_us⟩
section MO13
variable {d o : Nat} {A : Nat → Nat → Int32} {I : Nat → Int32} {σ0 σ : ri_S} {Q : Option Value → ri_S → Prop}
/-- the entries of the column whose leaf is f, k deep -/
def mo_ents (A : Nat → Nat → Int32) (n N : Nat) (B : Nat → Nat) (f k : Nat) : List fi_E := fi_from (va_up A 8 (mo_wy (A 0) k (nI f) (A 8))) n k B N 0
set_option maxRecDepth 100000 in
set_option maxHeartbeats 1000000 in
/-- entries(column) -/
theorem mo_entries {c : Int32} {n N : Nat} {B : Nat → Nat} (hW : mo_W o A I σ0 σ) (hI : I 4 = nI n) (hn : n ≤ 48) (hup : mo_up (A 0) n) (hde : mo_de (A 0) (A 2) n) (hN : I 11 = nI N) (hN2 : N ≤ 128) (hB : ∀ r, r ≤ N → A 7 r = nI (B r) ∧ B r ≤ 2048) (hlen : ∀ f k, k ≤ 16 → (mo_ents A n N B f k).length < 2 ^ 31)
    (kno : (I 5 = 0 ∨ mo_lf (A 3) c n = -1) → Q (some (.int (-1))) σ)
    (kyes : ∀ (σ' : ri_S) (f k : Nat) (w at' : Nat → Int32) (J : Nat → Int32), ¬ I 5 = 0 → f < n → mo_lf (A 3) c n = nI f → (A 2 f = nI k ∧ k ≤ 16) → (∀ j, j < 16 → J j = I j) → J 23 = I 23 → mo_W o (va_up (va_up A 8 w) 9 at') J σ0 σ' → Q (some (.int (nI (mo_ents A n N B f k).length))) σ') :
    ev_W (d + 3) mMo_entries (0, [some (.ref o), some (.int c)], []) σ Q := by
  refine g_clV rfl rfl rfl rfl hW.1.1 rfl rfl rfl ?_
  refine mo_goesTo hW hI hn hde (fun z => ?_) (fun σ1 f k z1 z2 z3 z4 z5 z6 hW1 => ?_)
  · refine g_br rfl rfl rfl rfl rfl rfl (fun h => ?_) (fun h => absurd rfl h)
    exact g_rt rfl rfl rfl (kno z)
  · refine g_br rfl rfl rfl rfl rfl rfl (fun h => absurd h (by decide)) (fun h => ?_)
    refine g_clV rfl rfl rfl rfl hW1.1.1 rfl rfl rfl ?_
    have hw := mo_wy_in hde k (nI f) (A 8) z6 (Or.inr ⟨f, z2, rfl, z4⟩) hn
    refine mo_finds (B := B) hW1 hn hup rfl z5 z6 hw.2 hN hN2 hB (fun κ en e1 e2 => ?_) (fun _ at' σ2 hW2 => ?_)
    · exfalso
      have hl : κ < (mo_ents A n N B f k).length := (List.getElem?_eq_some_iff.mp e1).1
      exact nI_nm1 (Nat.lt_trans hl (hlen f k z6)) e2.symm
    · refine g_get rfl rfl rfl hW2.1.1 rfl ?_
      exact g_rt rfl rfl rfl (kyes σ2 f k _ at' (va_up (va_up I 16 (nI k)) 24 (nI (mo_ents A n N B f k).length)) z1 z2 z3 ⟨z4, z6⟩ (fun j hj => by unfold va_up; rw [if_neg (by omega), if_neg (by omega)]) rfl hW2)
/-- what entry answers of an entry -/
def mo_what (en : fi_E) (wh : Int32) : Int32 := if wh = 0 then en.1 else if wh = 1 then en.2.1 else if wh = 2 then en.2.2 else -1
set_option maxRecDepth 100000 in
set_option maxHeartbeats 1000000 in
/-- entry(column, k, what) -/
theorem mo_entry {c kk wh : Int32} {n N : Nat} {B : Nat → Nat} (hW : mo_W o A I σ0 σ) (hI : I 4 = nI n) (hn : n ≤ 48) (hup : mo_up (A 0) n) (hde : mo_de (A 0) (A 2) n) (hN : I 11 = nI N) (hN2 : N ≤ 128) (hB : ∀ r, r ≤ N → A 7 r = nI (B r) ∧ B r ≤ 2048) (hlen : ∀ f k, k ≤ 16 → (mo_ents A n N B f k).length < 2 ^ 31)
    (kno : (I 5 = 0 ∨ mo_lf (A 3) c n = -1) → Q (some (.int (-1))) σ)
    (kyes : ∀ (σ' : ri_S) (f k : Nat) (w at' : Nat → Int32) (J : Nat → Int32) (v : Int32), ¬ I 5 = 0 → f < n → mo_lf (A 3) c n = nI f → (A 2 f = nI k ∧ k ≤ 16) → (∀ j, j < 16 → J j = I j) → J 23 = I 23 → mo_W o (va_up (va_up A 8 w) 9 at') J σ0 σ' →
      ((v = -1 ∧ ∀ κ, κ < (mo_ents A n N B f k).length → ¬ kk = nI κ) ∨ ∃ κ en, kk = nI κ ∧ (mo_ents A n N B f k)[κ]? = some en ∧ v = mo_what en wh) → Q (some (.int v)) σ') :
    ev_W (d + 3) mMo_entry (0, [some (.ref o), some (.int c), some (.int kk), some (.int wh)], []) σ Q := by
  refine g_clV rfl rfl rfl rfl hW.1.1 rfl rfl rfl ?_
  refine mo_goesTo hW hI hn hde (fun z => ?_) (fun σ1 f k z1 z2 z3 z4 z5 z6 hW1 => ?_)
  · refine g_br rfl rfl rfl rfl rfl rfl (fun h => ?_) (fun h => absurd rfl h)
    exact g_rt rfl rfl rfl (kno z)
  · refine g_br rfl rfl rfl rfl rfl rfl (fun h => absurd h (by decide)) (fun h => ?_)
    have hA : va_up (va_up A 8 (mo_wy (A 0) k (nI f) (A 8))) 9 (A 9) = va_up A 8 (mo_wy (A 0) k (nI f) (A 8)) := by
      funext j
      unfold va_up
      by_cases z : j = 9
      · rw [if_pos z, z, if_neg (by decide)]
      · rw [if_neg z]
    have hJ : ∀ j, j < 16 → va_up I 16 (nI k) j = I j := fun j hj => by unfold va_up; rw [if_neg (by omega)]
    refine g_br rfl rfl rfl rfl rfl rfl (fun h1 => ?_) (fun h1 => ?_)
    · refine g_rt rfl rfl rfl (kyes σ1 f k _ (A 9) (va_up I 16 (nI k)) _ z1 z2 z3 ⟨z4, z6⟩ hJ rfl (by rw [hA]; exact hW1) (Or.inl ⟨rfl, fun κ hκ e => ?_⟩))
      rw [e] at h1
      exact nI_pos (Nat.lt_trans hκ (hlen f k z6)) h1
    refine g_clV rfl rfl rfl rfl hW1.1.1 rfl rfl rfl ?_
    have hw := mo_wy_in hde k (nI f) (A 8) z6 (Or.inr ⟨f, z2, rfl, z4⟩) hn
    refine mo_finds (B := B) hW1 hn hup rfl z5 z6 hw.2 hN hN2 hB (fun κ en e1 e2 at' σ2 hW2 => ?_) (fun hall at' σ2 hW2 => ?_)
    · have ret : ∀ v : Int32, v = mo_what en wh → Q (some (.int v)) σ2 := fun v hv => kyes σ2 f k _ at' (va_up (va_up (va_up (va_up (va_up I 16 (nI k)) 24 (nI κ)) 17 en.1) 18 en.2.1) 19 en.2.2) v z1 z2 z3 ⟨z4, z6⟩ (fun j hj => by
        unfold va_up
        rw [if_neg (by omega), if_neg (by omega), if_neg (by omega), if_neg (by omega), if_neg (by omega)]) rfl hW2 (Or.inr ⟨κ, en, e2, e1, hv⟩)
      refine g_br rfl rfl rfl rfl rfl rfl (fun h2 => absurd h2 (by decide)) (fun h2 => ?_)
      refine g_br rfl rfl rfl rfl rfl rfl (fun h3 => ?_) (fun h3 => ?_)
      · refine g_get rfl rfl rfl hW2.1.1 rfl ?_
        exact g_rt rfl rfl rfl (ret _ (by unfold mo_what; rw [if_pos h3]; rfl))
      refine g_br rfl rfl rfl rfl rfl rfl (fun h4 => ?_) (fun h4 => ?_)
      · refine g_get rfl rfl rfl hW2.1.1 rfl ?_
        exact g_rt rfl rfl rfl (ret _ (by unfold mo_what; rw [if_neg h3, if_pos h4]; rfl))
      refine g_br rfl rfl rfl rfl rfl rfl (fun h5 => ?_) (fun h5 => ?_)
      · refine g_get rfl rfl rfl hW2.1.1 rfl ?_
        exact g_rt rfl rfl rfl (ret _ (by unfold mo_what; rw [if_neg h3, if_neg h4, if_pos h5]; rfl))
      · exact g_rt rfl rfl rfl (ret _ (by unfold mo_what; rw [if_neg h3, if_neg h4, if_neg h5]))
    · refine g_br rfl rfl rfl rfl rfl rfl (fun h2 => ?_) (fun h2 => absurd rfl h2)
      exact g_rt rfl rfl rfl (kyes σ2 f k _ at' (va_up (va_up I 16 (nI k)) 24 (nI (mo_ents A n N B f k).length)) _ z1 z2 z3 ⟨z4, z6⟩ (fun j hj => by unfold va_up; rw [if_neg (by omega), if_neg (by omega)]) rfl hW2 (Or.inl ⟨rfl, hall⟩))
end MO13
