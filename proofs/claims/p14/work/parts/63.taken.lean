/-! WHAT IS TAKEN APART IS WHAT THE REFERENCE FINDS: one column c at a time. -/
theorem nx_none {ofs aro : Nat → Int32} {w ins : Int32} : ∀ (t k : Nat), (∀ q, k ≤ q → q < k + t → ¬ (ofs q = w ∧ aro q = ins)) → mo_nx ofs aro w ins t k = -1
  | 0, _, _ => rfl
  | t + 1, k, h => by
    show (if ofs k = w ∧ aro k = ins then nI k else mo_nx ofs aro w ins t (k + 1)) = -1
    rw [if_neg (h k (Nat.le_refl _) (by omega))]
    exact nx_none t (k + 1) (fun q q1 q2 => h q (by omega) (by omega))
theorem nx_hit {ofs aro : Nat → Int32} {w ins : Int32} {x : Nat} (h1 : ofs x = w) (h2 : aro x = ins) : ∀ (t k : Nat), k ≤ x → x < k + t → (∀ q, k ≤ q → q < x → ¬ (ofs q = w ∧ aro q = ins)) → mo_nx ofs aro w ins t k = nI x
  | 0, _, a1, a2, _ => by omega
  | t + 1, k, a1, a2, h => by
    show (if ofs k = w ∧ aro k = ins then nI k else mo_nx ofs aro w ins t (k + 1)) = nI x
    by_cases z : k = x
    · rw [z, if_pos ⟨h1, h2⟩]
    · rw [if_neg (h k (Nat.le_refl _) (by omega))]
      exact nx_hit h1 h2 t (k + 1) (by omega) (by omega) (fun q q1 q2 => h q (by omega) q2)
/-- a column: its leaf f0, sd deep; wy its way, DD and RR the levels along it; a2: f0 and the groups around it -/
def ta_P (A B : Nat → Nat → Int32) (n c f0 sd : Nat) (wy DD RR : Nat → Int32) : Prop := (f0 < n ∧ B 3 f0 = 0 ∧ wk_dn A f0 = sd ∧ c < 48) ∧ (∀ f, f < n → B 3 f = 0 → (A 5 f = nI c ↔ f = f0) ∧ ∃ c', c' < 48 ∧ A 5 f = nI c') ∧ (∀ f, f < n → (A 5 f = -1 ↔ ¬ B 3 f = 0)) ∧ (∀ w, li_an (A 0) 48 (nI f0) w → wy (wk_dn A w - 1) = nI w ∧ DD (wk_dn A w - 1) = A 4 w ∧ RR (wk_dn A w - 1) = A 3 w ∧ w < n ∧ wk_dn A w ≤ sd) ∧ (∀ g f, g < n → A 0 g = nI f → f < n → ¬ B 3 f = 0)
section TAK
variable {A B : Nat → Nat → Int32} {S : Nat → Int64} {F V : Nat → Int32} {k N n b e c f0 sd : Nat} {wy DD RR : Nat → Int32} {g : Int32}
/-- one on the way has its next on the way -/
theorem ta_kid {par : Nat → Int32} {n : Nat} (hup : mo_up par n) (hn : n ≤ 48) : ∀ (m q w : Nat), q < n → li_en par m (nI q) → li_an par m (nI q) w → q = w ∨ ∃ f, li_an par m (nI q) f ∧ par f = nI w
  | 0, _, _, _, _, h => h.elim
  | m + 1, q, w, hq, hen, h => by
    obtain ⟨h1, h2⟩ := h
    rw [nI_clamp (by omega)] at h2
    rcases h2 with z | z
    · exact Or.inl z
    · have hen2 : li_en par m (par q) := by
        have := Or.resolve_left hen h1
        rw [nI_clamp (by omega)] at this
        exact this
      rcases hup q hq with y | ⟨p, hp, y⟩
      · rw [y] at z
        match m, z with
        | m + 1, z => exact absurd rfl z.1
      · rw [y] at z hen2
        rcases ta_kid hup hn m p w (by omega) hen2 z with r | ⟨f, f1, f2⟩
        · exact Or.inr ⟨q, ⟨h1, Or.inl (nI_clamp (by omega))⟩, by rw [y, r]⟩
        · exact Or.inr ⟨f, ⟨h1, Or.inr (by rw [nI_clamp (by omega), y]; exact f1)⟩, f2⟩
/-- the next occurrence is of f -/
def ta_hit (B : Nat → Nat → Int32) (e f pos : Nat) : Prop := pos < e ∧ wk_f B pos = f
theorem ta_at (hF : ∀ j, j < k → F j = B 4 (b + j)) (he : e = b + k) (hk : e ≤ 2048) (h : wk_P A n B b e) {pos f : Nat} (h1 : b ≤ pos) (h2 : pos ≤ e) (hf : f < 48) : dr_at F k (-1) (nI (pos - b)) = nI f ↔ ta_hit B e f pos := by
  unfold dr_at ta_hit
  by_cases z : pos < e
  · rw [if_neg (fun y => y.elim (nI_pos (by omega)) (nI_ge (by omega) (by omega))), nI_clamp (by omega), hF _ (by omega), show b + (pos - b) = pos by omega, (h.f h1 z).2.1, nI_eq (by have := (h.f h1 z).1; have := h.1.1; omega) (by omega)]
    exact ⟨fun y => ⟨z, y⟩, fun y => y.2⟩
  · rw [if_pos (Or.inr (nI_le (by omega) (by omega)))]
    exact ⟨fun y => absurd y.symm (nI_nm1 (by omega)), fun y => absurd y.1 z⟩
theorem ta_g (h : wk_P A n B b e) {lo pos f : Nat} (hl : wk_lo b e g lo) (hO : wk_O B e g lo pos) (hh : ta_hit B e f pos) (hf : A 0 f = wk_g B g) : B 6 pos = g := by
  have hb : b ≤ pos := by
    have := hO.1
    rcases hl with ⟨-, z⟩ | ⟨p, p1, p2, -, z⟩ <;> omega
  refine wk_one h hl.v (hO.2.2.1 hh.1) ?_
  rw [← (h.f hb hh.1).2.2.1, hh.2, hf]
/-- where the next is not of f, no further one is -/
theorem ta_no (h : wk_P A n B b e) {lo pos f : Nat} (hl : wk_lo b e g lo) (hO : wk_O B e g lo pos) (hh : ¬ ta_hit B e f pos) (hi : ∀ q, pos ≤ q → q < e → B 6 q = g → f ≤ wk_f B q) : ∀ q, pos ≤ q → q < e → B 6 q = g → f + 1 ≤ wk_f B q := by
  intro q q1 q2 q3
  have hb : b ≤ pos := by
    have := hO.1
    rcases hl with ⟨-, z⟩ | ⟨p, p1, p2, -, z⟩ <;> omega
  have h1 := hi q q1 q2 q3
  rcases Nat.lt_or_ge f (wk_f B q) with z | z
  · exact z
  · exfalso
    have hpe : pos < e := by omega
    by_cases y : B 6 pos = g
    · have h2 := hi pos (Nat.le_refl _) hpe y
      refine hh ⟨hpe, ?_⟩
      by_cases x : pos = q
      · rw [x]; omega
      · have := h.2.2 pos q hb (by omega) q2 (y.trans q3.symm)
        omega
    · refine wk_shut h ?_ hb hpe (hO.2.2.1 hpe) y q1 q2 q3
      rcases hl with ⟨x, -⟩ | ⟨p, p1, p2, x, x2⟩
      · exact Or.inl x
      · exact Or.inr ⟨p, p1, by have := hO.1; omega, x⟩
/-- the entries of an occurrence pos of f -/
def ta_en (A B : Nat → Nat → Int32) (e sd : Nat) (wy DD RR : Nat → Int32) (f pos : Nat) (re : Int32) : List co_E := fi_ent (B 4) (B 6) (B 5) wy DD RR e (sd - wk_dn A f) (wk_dn A f - 1) pos re
/-- the entries of field f in g -/
def ta_fe (A B : Nat → Nat → Int32) (e sd : Nat) (wy DD RR : Nat → Int32) (g : Int32) (lo f : Nat) (re : Int32) : List co_E := if fi_nx (B 4) (B 6) (nI f) g e lo = -1 then [(re, sc_of A 4 (A 0 f), 0)] else fi_sib (fi_nx (B 4) (B 6) (nI f) g e) (fi_ent (B 4) (B 6) (B 5) wy DD RR e (sd - wk_dn A f) (wk_dn A f - 1)) (A 3 f) e (fi_nx (B 4) (B 6) (nI f) g e lo).toNatClampNeg re
end TAK
