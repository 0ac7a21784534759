/-! SCHEMA: add, its making, its roles (60 .. 68); the reference's roles (70 .. 83). -/
def sc_of (A : Nat → Nat → Int32) (k : Nat) (p : Int32) : Int32 := if p = -1 then 0 else A k p.toNatClampNeg
def sc_bit (lv : Nat) : Int64 := lN 1 <<< ((nI lv).toInt64 &&& 63)
/-- the rows with field n more, ends and sets aside -/
def sc_A1 (A : Nat → Nat → Int32) (n lv : Nat) (p kd gb : Int32) : Nat → Nat → Int32 := va_up (va_up (va_up (va_up (va_up (va_up A 0 (upd (A 0) n p)) 1 (upd (A 1) n kd)) 2 (upd (A 2) n (sc_of A 2 p + 1))) 3 (upd (A 3) n (sc_of A 3 p + if kd = 2 then 1 else 0))) 4 (upd (A 4) n (sc_of A 4 p + if kd = 0 then 0 else 1))) 5 (upd (A 5) n (if gb = 0 then nI lv else -1))
def sc_st1 (A : Nat → Nat → Int32) (S : Nat → Int64) (n lv : Nat) (p gb : Int32) : (Nat → Int32) × (Nat → Int64) := sc_st (upd (A 0) n p) (nI n + 1) (if gb = 0 then sc_bit lv else 0) 16 (nI n) (A 6, S)
section SC2
variable {d o n lv : Nat} {A : Nat → Nat → Int32} {S : Nat → Int64} {I : Nat → Int32} {σ0 σ : ri_S} {Q : Option Value → ri_S → Prop} {p kd gb : Int32}
set_option maxRecDepth 100000 in
theorem sc_add_e (hW : sc_W o A S I σ0 σ) (hl : I 9 = nI lv) (kk : ∀ σ' : ri_S, sc_W o A S (if gb = 0 then va_up I 9 (nI (lv + 1)) else I) σ0 σ' → Q (some (.int (nI n))) σ') : ev_W d mSc_add (167, [some (.ref o), some (.int p), some (.int kd), some (.int gb), some (.int (nI n))], []) σ Q := by
  refine g_br rfl rfl rfl rfl rfl rfl (fun h => ?_) (fun h => ?_)
  · rw [if_pos h] at kk
    refine g_get rfl rfl rfl hW.1.1 rfl ?_
    refine sc_num hW rfl rfl rfl rfl rfl rfl rfl (fun σ1 hW1 => ?_)
    rw [hl, nI_1] at hW1
    exact g_rt rfl rfl rfl (kk σ1 hW1)
  · rw [if_neg h] at kk
    exact g_rt rfl rfl rfl (kk σ hW)
theorem sc_up_ext {par : Nat → Int32} (hup : mo_up par n) (hp : p = -1 ∨ ∃ w, w < n ∧ p = nI w) : mo_up (upd par n p) (n + 1) := by
  intro f hf
  unfold upd
  by_cases z : f = n
  · rw [if_pos z]
    rcases hp with q | ⟨w, hw, q⟩
    · exact Or.inl q
    · exact Or.inr ⟨w, by omega, q⟩
  · rw [if_neg z]
    exact hup f (by omega)
set_option maxRecDepth 100000 in
theorem sc_add_d (hW : sc_W o A S I σ0 σ) (hI : I 8 = nI n) (hn : n < 48) (hl : I 9 = nI lv) (hup : mo_up (A 0) (n + 1)) (kk : ∀ σ' : ri_S, sc_W o (va_up A 6 (sc_st (A 0) (nI n + 1) (if gb = 0 then sc_bit lv else 0) 16 (nI n) (A 6, S)).1) (sc_st (A 0) (nI n + 1) (if gb = 0 then sc_bit lv else 0) 16 (nI n) (A 6, S)).2 (if gb = 0 then va_up (va_up I 8 (nI (n + 1))) 9 (nI (lv + 1)) else va_up I 8 (nI (n + 1))) σ0 σ' → Q (some (.int (nI n))) σ') : ev_W (d + 2) mSc_add (137, [some (.ref o), some (.int p), some (.int kd), some (.int gb), some (.int (nI n))], []) σ Q := by
  refine g_get rfl rfl rfl hW.1.1 rfl ?_
  refine sc_num hW rfl rfl rfl rfl rfl rfl rfl (fun σ1 hW1 => ?_)
  rw [hI, nI_1] at hW1
  have hl1 : va_up I 8 (nI (n + 1)) 9 = nI lv := hl
  have rest : ∀ x : Int64, x = (if gb = 0 then sc_bit lv else 0) → ev_W (d + 2) mSc_add (164, [some (.ref o), some (.int p), some (.int kd), some (.int gb), some (.int (nI n))], [.long x, .int (nI n), .ref o]) σ1 Q := by
    intro x hx
    subst hx
    refine g_clV rfl rfl rfl rfl hW1.1.1 rfl rfl rfl ?_
    refine sc_stretch (n := n + 1) (w := n) (by omega) hup rfl rfl (by omega) hW1 (fun σ2 hW2 => ?_)
    exact sc_add_e hW2 hl1 kk
  refine g_br rfl rfl rfl rfl rfl rfl (fun h => ?_) (fun h => ?_)
  · refine g_get rfl rfl rfl hW1.1.1 rfl ?_
    refine ev_go 1 rfl ?_
    refine rest _ ?_
    rw [if_pos h]
    show lN 1 <<< ((I 9).toInt64 &&& 63) = _
    rw [hl]
    rfl
  · refine ev_go 2 rfl ?_
    refine rest _ ?_
    rw [if_neg h]
    rfl
set_option maxRecDepth 100000 in
theorem sc_add_c (hW : sc_W o A S I σ0 σ) (hI : I 8 = nI n) (hn : n < 48) (hl : I 9 = nI lv) (hup : mo_up (A 0) (n + 1)) (kk : ∀ σ' : ri_S, sc_W o (va_up (va_up A 5 (upd (A 5) n (if gb = 0 then nI lv else -1))) 6 (sc_st (A 0) (nI n + 1) (if gb = 0 then sc_bit lv else 0) 16 (nI n) (A 6, S)).1) (sc_st (A 0) (nI n + 1) (if gb = 0 then sc_bit lv else 0) 16 (nI n) (A 6, S)).2 (if gb = 0 then va_up (va_up I 8 (nI (n + 1))) 9 (nI (lv + 1)) else va_up I 8 (nI (n + 1))) σ0 σ' → Q (some (.int (nI n))) σ') : ev_W (d + 2) mSc_add (118, [some (.ref o), some (.int p), some (.int kd), some (.int gb), some (.int (nI n))], []) σ Q := by
  refine g_get rfl rfl rfl hW.1.1 rfl ?_
  have rest : ∀ x : Int32, x = (if gb = 0 then nI lv else -1) → ev_W (d + 2) mSc_add (136, [some (.ref o), some (.int p), some (.int kd), some (.int gb), some (.int (nI n))], [.int x, .int (nI n), .ref (o + 6)]) σ Q := by
    intro x hx
    subst hx
    refine sc_ast hW 5 rfl rfl rfl rfl hn (by decide) (fun σ1 hW1 => ?_)
    exact sc_add_d hW1 hI hn hl hup kk
  refine g_br rfl rfl rfl rfl rfl rfl (fun h => ?_) (fun h => ?_)
  · refine g_get rfl rfl rfl hW.1.1 rfl ?_
    refine rest _ ?_
    rw [if_pos h]
    exact hl
  · refine ev_go 2 rfl ?_
    refine rest _ ?_
    rw [if_neg h]
set_option maxRecDepth 100000 in
theorem sc_add_b (hW : sc_W o A S I σ0 σ) (hI : I 8 = nI n) (hn : n < 48) (hl : I 9 = nI lv) (hup : mo_up (A 0) (n + 1)) (hp : p = -1 ∨ ∃ w, w < n ∧ p = nI w) (kk : ∀ σ' : ri_S, sc_W o (va_up (va_up (va_up A 4 (upd (A 4) n (sc_of A 4 p + if kd = 0 then 0 else 1))) 5 (upd (A 5) n (if gb = 0 then nI lv else -1))) 6 (sc_st (A 0) (nI n + 1) (if gb = 0 then sc_bit lv else 0) 16 (nI n) (A 6, S)).1) (sc_st (A 0) (nI n + 1) (if gb = 0 then sc_bit lv else 0) 16 (nI n) (A 6, S)).2 (if gb = 0 then va_up (va_up I 8 (nI (n + 1))) 9 (nI (lv + 1)) else va_up I 8 (nI (n + 1))) σ0 σ' → Q (some (.int (nI n))) σ') : ev_W (d + 3) mSc_add (96, [some (.ref o), some (.int p), some (.int kd), some (.int gb), some (.int (nI n))], []) σ Q := by
  refine g_get rfl rfl rfl hW.1.1 rfl ?_
  refine g_clV rfl rfl rfl rfl hW.1.1 rfl rfl rfl ?_
  have rest : ∀ v : Int32, v = sc_of A 4 p → ev_W (d + 3) mSc_add (107, [some (.ref o), some (.int p), some (.int kd), some (.int gb), some (.int (nI n))], [.int v, .int (nI n), .ref (o + 5)]) σ Q := by
    intro v hv
    subst hv
    have r2 : ∀ x : Int32, x = (if kd = 0 then 0 else 1) → ev_W (d + 3) mSc_add (116, [some (.ref o), some (.int p), some (.int kd), some (.int gb), some (.int (nI n))], [.int x, .int (sc_of A 4 p), .int (nI n), .ref (o + 5)]) σ Q := by
      intro x hx
      subst hx
      refine sc_ast hW 4 rfl rfl rfl rfl hn (by decide) (fun σ1 hW1 => ?_)
      exact sc_add_c hW1 hI hn hl hup kk
    refine g_br rfl rfl rfl rfl rfl rfl (fun h => ?_) (fun h => ?_)
    · refine ev_go 2 rfl ?_
      exact r2 _ (by rw [if_pos h])
    · refine ev_go 1 rfl ?_
      exact r2 _ (by rw [if_neg h])
  refine sc_definitionOf hW.1 hI (by omega) (fun w hw e => ?_) (fun h0 => ?_)
  · refine rest _ ?_
    unfold sc_of
    rw [e, if_neg (nI_nm1 (by omega)), nI_clamp (by omega)]
  · refine rest _ ?_
    unfold sc_of
    rw [if_pos (hp.resolve_right (fun ⟨w, hw, e⟩ => h0 w hw e))]
set_option maxRecDepth 100000 in
theorem sc_add_a (hW : sc_W o A S I σ0 σ) (hI : I 8 = nI n) (hn : n < 48) (hl : I 9 = nI lv) (hup : mo_up (A 0) (n + 1)) (hp : p = -1 ∨ ∃ w, w < n ∧ p = nI w) (kk : ∀ σ' : ri_S, sc_W o (va_up (va_up (va_up (va_up A 3 (upd (A 3) n (sc_of A 3 p + if kd = 2 then 1 else 0))) 4 (upd (A 4) n (sc_of A 4 p + if kd = 0 then 0 else 1))) 5 (upd (A 5) n (if gb = 0 then nI lv else -1))) 6 (sc_st (A 0) (nI n + 1) (if gb = 0 then sc_bit lv else 0) 16 (nI n) (A 6, S)).1) (sc_st (A 0) (nI n + 1) (if gb = 0 then sc_bit lv else 0) 16 (nI n) (A 6, S)).2 (if gb = 0 then va_up (va_up I 8 (nI (n + 1))) 9 (nI (lv + 1)) else va_up I 8 (nI (n + 1))) σ0 σ' → Q (some (.int (nI n))) σ') : ev_W (d + 3) mSc_add (73, [some (.ref o), some (.int p), some (.int kd), some (.int gb), some (.int (nI n))], []) σ Q := by
  refine g_get rfl rfl rfl hW.1.1 rfl ?_
  refine g_clV rfl rfl rfl rfl hW.1.1 rfl rfl rfl ?_
  have rest : ∀ v : Int32, v = sc_of A 3 p → ev_W (d + 3) mSc_add (84, [some (.ref o), some (.int p), some (.int kd), some (.int gb), some (.int (nI n))], [.int v, .int (nI n), .ref (o + 4)]) σ Q := by
    intro v hv
    subst hv
    have r2 : ∀ x : Int32, x = (if kd = 2 then 1 else 0) → ev_W (d + 3) mSc_add (94, [some (.ref o), some (.int p), some (.int kd), some (.int gb), some (.int (nI n))], [.int x, .int (sc_of A 3 p), .int (nI n), .ref (o + 4)]) σ Q := by
      intro x hx
      subst hx
      refine sc_ast hW 3 rfl rfl rfl rfl hn (by decide) (fun σ1 hW1 => ?_)
      exact sc_add_b hW1 hI hn hl hup hp kk
    refine g_br rfl rfl rfl rfl rfl rfl (fun h => ?_) (fun h => ?_)
    · refine ev_go 2 rfl ?_
      exact r2 _ (by rw [if_pos h])
    · refine ev_go 1 rfl ?_
      exact r2 _ (by rw [if_neg h])
  refine sc_repetitionOf hW.1 hI (by omega) (fun w hw e => ?_) (fun h0 => ?_)
  · refine rest _ ?_
    unfold sc_of
    rw [e, if_neg (nI_nm1 (by omega)), nI_clamp (by omega)]
  · refine rest _ ?_
    unfold sc_of
    rw [if_pos (hp.resolve_right (fun ⟨w, hw, e⟩ => h0 w hw e))]
/-- a field is taken -/
def sc_yes (A : Nat → Nat → Int32) (I : Nat → Int32) (n : Nat) (p kd : Int32) : Prop := I 10 = 0 ∧ n < 48 ∧ ¬ kd < 0 ∧ kd ≤ 2 ∧ sc_may A n p
set_option maxRecDepth 100000 in
/-- add(parent, kind, group) -/
theorem sc_add (hW : sc_W o A S I σ0 σ) (hI : I 8 = nI n) (hn : n ≤ 48) (hl : I 9 = nI lv) (hup : mo_up (A 0) n) (kno : ¬ sc_yes A I n p kd → Q (some (.int (-1))) σ) (kyes : sc_yes A I n p kd → ∀ σ' : ri_S, sc_W o (va_up (sc_A1 A n lv p kd gb) 6 (sc_st1 A S n lv p gb).1) (sc_st1 A S n lv p gb).2 (if gb = 0 then va_up (va_up I 8 (nI (n + 1))) 9 (nI (lv + 1)) else va_up I 8 (nI (n + 1))) σ0 σ' → Q (some (.int (nI n))) σ') : ev_W (d + 3) mSc_add (0, [some (.ref o), some (.int p), some (.int kd), some (.int gb), none], []) σ Q := by
  refine g_get rfl rfl rfl hW.1.1 rfl ?_
  refine g_br rfl rfl rfl rfl rfl rfl (fun g1 => ?_) (fun g1 => ?_)
  rotate_left
  · exact g_rt rfl rfl rfl (kno (fun z => g1 z.1))
  refine g_get rfl rfl rfl hW.1.1 rfl ?_
  refine g_br rfl rfl rfl rfl rfl rfl (fun g2 => ?_) (fun g2 => ?_)
  · refine g_rt rfl rfl rfl (kno (fun z => ?_))
    rw [hI] at g2
    have := (nI_leI (a := 48) (by decide) (by omega)).mp g2
    have := z.2.1
    omega
  have hn48 : n < 48 := by
    rcases Nat.lt_or_ge n 48 with z | z
    · exact z
    · exact absurd (by rw [hI]; exact nI_le (a := 48) z (by omega)) g2
  refine g_br rfl rfl rfl rfl rfl rfl (fun g3 => ?_) (fun g3 => ?_)
  · exact g_rt rfl rfl rfl (kno (fun z => z.2.2.1 g3))
  refine g_br rfl rfl rfl rfl rfl rfl (fun g4 => ?_) (fun g4 => ?_)
  rotate_left
  · exact g_rt rfl rfl rfl (kno (fun z => g4 z.2.2.2.1))
  refine g_clV rfl rfl rfl rfl hW.1.1 rfl rfl rfl ?_
  refine sc_mayHold hW.1 hI hn (fun g5 => ?_) (fun g5 => ?_)
  rotate_left
  · refine g_br rfl rfl rfl rfl rfl rfl (fun _ => ?_) (fun h => absurd rfl h)
    exact g_rt rfl rfl rfl (kno (fun z => g5 z.2.2.2.2))
  refine g_br rfl rfl rfl rfl rfl rfl (fun h => absurd h (by decide)) (fun _ => ?_)
  have kk := kyes ⟨g1, hn48, g3, g4, g5⟩
  have hp : p = -1 ∨ ∃ w, w < n ∧ p = nI w := by
    rcases g5 with z | ⟨w, hw, e, -⟩
    · exact Or.inl z
    · exact Or.inr ⟨w, hw, e⟩
  refine g_get rfl rfl rfl hW.1.1 rfl ?_
  rw [hI]
  refine g_get rfl rfl rfl hW.1.1 rfl ?_
  refine sc_ast hW 0 rfl rfl rfl rfl hn48 (by decide) (fun σ1 hW1 => ?_)
  refine g_get rfl rfl rfl hW1.1.1 rfl ?_
  refine sc_ast hW1 1 rfl rfl rfl rfl hn48 (by decide) (fun σ2 hW2 => ?_)
  refine g_get rfl rfl rfl hW2.1.1 rfl ?_
  refine g_clV rfl rfl rfl rfl hW2.1.1 rfl rfl rfl ?_
  have rest : ∀ v : Int32, v = sc_of A 2 p → ev_W (d + 3) mSc_add (70, [some (.ref o), some (.int p), some (.int kd), some (.int gb), some (.int (nI n))], [.int v, .int (nI n), .ref (o + 3)]) σ2 Q := by
    intro v hv
    subst hv
    refine sc_ast hW2 2 rfl rfl rfl rfl hn48 (by decide) (fun σ3 hW3 => ?_)
    exact sc_add_a hW3 hI hn48 hl (sc_up_ext hup hp) hp kk
  refine sc_depthOf hW2.1 hI hn (fun w hw e => ?_) (fun h0 => ?_)
  · refine rest _ ?_
    unfold sc_of
    rw [e, if_neg (nI_nm1 (by omega)), nI_clamp (by omega)]
    rfl
  · refine rest _ ?_
    unfold sc_of
    rw [if_pos (hp.resolve_right (fun ⟨w, hw, e⟩ => h0 w hw e))]
end SC2
/-! The roles of Schema and of the reference. -/
def sh_P (a : Nat → Nat) (D : Nat → Option ri_E) (A : Nat → Nat → Int32) (S : Nat → Int64) (I : Nat → Int32) : Prop := (∀ k, k < 9 → a (60 + k) = a 60 + k) ∧ D 60 = some (.inr (3, sc_fs (a 60) I)) ∧ (∀ k, k < 7 → D (61 + k) = some (.inl (.int, 48, .inl (A k)))) ∧ D 68 = some (.inl (.long, 48, .inr (.inl S)))
def mh_P (a : Nat → Nat) (D : Nat → Option ri_E) (A : Nat → Nat → Int32) (I : Nat → Int32) : Prop := (∀ k, k < 14 → a (70 + k) = a 70 + k) ∧ D 70 = some (.inr (5, mo_fs (a 70) I)) ∧ ∀ k, k < 13 → D (71 + k) = some (.inl (mo_ty k, mo_len k, .inl (A k)))
section SH
variable {a a' : Nat → Nat} {D D' : Nat → Option ri_E} {A A' : Nat → Nat → Int32} {S S' : Nat → Int64} {I I' : Nat → Int32} {σ σ' : ri_S}
theorem sh_P.a1 (h : sh_P a D A S I) {k : Nat} (hk : k < 8) : a (61 + k) = a 60 + 1 + k := by
  have := h.1 (k + 1) (by omega)
  rw [show 60 + (k + 1) = 61 + k by omega] at this
  omega
theorem mh_P.a1 (h : mh_P a D A I) {k : Nat} (hk : k < 13) : a (71 + k) = a 70 + 1 + k := by
  have := h.1 (k + 1) (by omega)
  rw [show 70 + (k + 1) = 71 + k by omega] at this
  omega
theorem sh_P.sc (hG : gw_P a D σ) (h : sh_P a D A S I) : sc_P (a 60) A S I σ.1 := by
  refine ⟨hG.at h.2.1, fun k hk => ?_, ?_⟩
  · rw [← h.a1 (show k < 8 by omega)]
    exact hG.at (h.2.2.1 k hk)
  · rw [← h.1 8 (by decide)]
    exact hG.at h.2.2.2
theorem mh_P.mo (hG : gw_P a D σ) (h : mh_P a D A I) : mo_P (a 70) A I σ.1 := by
  refine ⟨hG.at h.2.1, fun k hk => ?_⟩
  rw [← h.a1 hk]
  exact hG.at (h.2.2 k hk)
theorem sh_P.us (h : sh_P a D A S I) {i : Nat} (h1 : 60 ≤ i) (h2 : i < 69) : D i ≠ none := by
  by_cases z : i = 60
  · rw [z, h.2.1]; exact gw_sn
  by_cases z2 : i = 68
  · rw [z2, h.2.2.2]; exact gw_sn
  rw [show i = 61 + (i - 61) by omega, h.2.2.1 (i - 61) (by omega)]
  exact gw_sn
theorem mh_P.us (h : mh_P a D A I) {i : Nat} (h1 : 70 ≤ i) (h2 : i < 84) : D i ≠ none := by
  by_cases z : i = 70
  · rw [z, h.2.1]; exact gw_sn
  rw [show i = 71 + (i - 71) by omega, h.2.2 (i - 71) (by omega)]
  exact gw_sn
theorem sh_P.fr (h : sh_P a D A S I) (hF : ∀ i, 60 ≤ i → i < 69 → D' i = D i ∧ a' i = a i) : sh_P a' D' A S I := by
  obtain ⟨h1, h2, h3, h4⟩ := h
  have e := (hF 60 (by decide) (by decide)).2
  refine ⟨fun k hk => ?_, ?_, fun k hk => ?_, ?_⟩
  · rw [(hF (60 + k) (by omega) (by omega)).2, e]; exact h1 k hk
  · rw [(hF 60 (by decide) (by decide)).1, e]; exact h2
  · rw [(hF (61 + k) (by omega) (by omega)).1]; exact h3 k hk
  · rw [(hF 68 (by decide) (by decide)).1]; exact h4
theorem mh_P.fr (h : mh_P a D A I) (hF : ∀ i, 70 ≤ i → i < 84 → D' i = D i ∧ a' i = a i) : mh_P a' D' A I := by
  obtain ⟨h1, h2, h3⟩ := h
  have e := (hF 70 (by decide) (by decide)).2
  refine ⟨fun k hk => ?_, ?_, fun k hk => ?_⟩
  · rw [(hF (70 + k) (by omega) (by omega)).2, e]; exact h1 k hk
  · rw [(hF 70 (by decide) (by decide)).1, e]; exact h2
  · rw [(hF (71 + k) (by omega) (by omega)).1]; exact h3 k hk
/-- a change of Schema's cells -/
theorem sh_P.up (hG : gw_P a D σ) (h : sh_P a D A S I) (hW : sc_W (a 60) A' S' I' σ σ') : ∃ D', gw_P a D' σ' ∧ sh_P a D' A' S' I' ∧ gw_F 60 69 a D a D' ∧ σ'.2 = σ.2 := by
  obtain ⟨w1, w2, w3⟩ := hW
  refine ⟨fun i => if i = 60 then some (.inr (3, sc_fs (a 60) I')) else if i = 68 then some (.inl (.long, 48, .inr (.inl S'))) else if 61 ≤ i ∧ i < 68 then some (.inl (.int, 48, .inl (A' (i - 61)))) else D i, ?_, ?_, ?_, w3⟩
  · refine hG.sub (fun i e he => ?_) (fun i hi => ?_)
    · by_cases z : i = 60
      · rw [if_pos z] at he
        cases he
        rw [z, w3]
        exact ⟨hG.lt h.2.1, w1.1⟩
      rw [if_neg z] at he
      by_cases z2 : i = 68
      · rw [if_pos z2] at he
        cases he
        rw [z2, w3]
        refine ⟨hG.lt h.2.2.2, ?_⟩
        rw [h.1 8 (by decide)]
        exact w1.2.2
      rw [if_neg z2] at he
      by_cases z3 : 61 ≤ i ∧ i < 68
      · rw [if_pos z3] at he
        cases he
        have hk := h.2.2.1 (i - 61) (by omega)
        have ha := h.a1 (k := i - 61) (by omega)
        rw [show 61 + (i - 61) = i by omega] at hk ha
        refine ⟨by rw [w3]; exact hG.lt hk, ?_⟩
        rw [ha]
        exact w1.2.1 (i - 61) (by omega)
      · rw [if_neg z3] at he
        refine ⟨by rw [w3]; exact hG.lt he, ?_⟩
        rw [w2 (a i) ?_]
        · exact hG.at he
        · rcases Nat.lt_or_ge (a i) (a 60) with y | y
          · exact Or.inl y
          rcases Nat.lt_or_ge (a i) (a 60 + 9) with y2 | y2
          · exfalso
            have hk := h.1 (a i - a 60) (by omega)
            have := hG.1 i (60 + (a i - a 60)) (by rw [he]; exact gw_sn) (h.us (by omega) (by omega)) (by omega)
            omega
          · exact Or.inr y2
    · by_cases z : 60 ≤ i ∧ i < 69
      · exact h.us z.1 z.2
      · rw [if_neg (by omega), if_neg (by omega), if_neg (by omega)] at hi
        exact hi
  · refine ⟨h.1, if_pos rfl, fun k hk => ?_, ?_⟩
    · show (if 61 + k = 60 then _ else if 61 + k = 68 then _ else if 61 ≤ 61 + k ∧ 61 + k < 68 then _ else _) = _
      rw [if_neg (by omega), if_neg (by omega), if_pos ⟨by omega, by omega⟩, Nat.add_sub_cancel_left]
    · exact (if_neg (by decide)).trans (if_pos rfl)
  · intro i hi
    exact ⟨(if_neg (by omega)).trans ((if_neg (by omega)).trans (if_neg (by omega))), rfl⟩
/-- a change of the reference's cells -/
theorem mh_P.up (hG : gw_P a D σ) (h : mh_P a D A I) (hW : mo_W (a 70) A' I' σ σ') : ∃ D', gw_P a D' σ' ∧ mh_P a D' A' I' ∧ gw_F 70 84 a D a D' ∧ σ'.2 = σ.2 := by
  obtain ⟨w1, w2, w3⟩ := hW
  refine ⟨fun i => if i = 70 then some (.inr (5, mo_fs (a 70) I')) else if 71 ≤ i ∧ i < 84 then some (.inl (mo_ty (i - 71), mo_len (i - 71), .inl (A' (i - 71)))) else D i, ?_, ?_, ?_, w3⟩
  · refine hG.sub (fun i e he => ?_) (fun i hi => ?_)
    · by_cases z : i = 70
      · rw [if_pos z] at he
        cases he
        rw [z, w3]
        exact ⟨hG.lt h.2.1, w1.1⟩
      rw [if_neg z] at he
      by_cases z3 : 71 ≤ i ∧ i < 84
      · rw [if_pos z3] at he
        cases he
        have hk := h.2.2 (i - 71) (by omega)
        have ha := h.a1 (k := i - 71) (by omega)
        rw [show 71 + (i - 71) = i by omega] at hk ha
        refine ⟨by rw [w3]; exact hG.lt hk, ?_⟩
        rw [ha]
        exact w1.2 (i - 71) (by omega)
      · rw [if_neg z3] at he
        refine ⟨by rw [w3]; exact hG.lt he, ?_⟩
        rw [w2 (a i) ?_]
        · exact hG.at he
        · rcases Nat.lt_or_ge (a i) (a 70) with y | y
          · exact Or.inl y
          rcases Nat.lt_or_ge (a i) (a 70 + 14) with y2 | y2
          · exfalso
            have hk := h.1 (a i - a 70) (by omega)
            have := hG.1 i (70 + (a i - a 70)) (by rw [he]; exact gw_sn) (h.us (by omega) (by omega)) (by omega)
            omega
          · exact Or.inr y2
    · by_cases z : 70 ≤ i ∧ i < 84
      · exact h.us z.1 z.2
      · rw [if_neg (by omega), if_neg (by omega)] at hi
        exact hi
  · refine ⟨h.1, if_pos rfl, fun k hk => ?_⟩
    show (if 71 + k = 70 then _ else if 71 ≤ 71 + k ∧ 71 + k < 84 then _ else _) = _
    rw [if_neg (by omega), if_pos ⟨by omega, by omega⟩, Nat.add_sub_cancel_left]
  · intro i hi
    exact ⟨(if_neg (by omega)).trans (if_neg (by omega)), rfl⟩
end SH
