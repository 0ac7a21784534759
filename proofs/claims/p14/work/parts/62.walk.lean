/-! A RECORD'S OCCURRENCES b .. e - 1 IN ORDER. wk_P: a record of the reference, its siblings in the order of their fields. -/
def wk_f (B : Nat → Nat → Int32) (t : Nat) : Nat := (B 4 t).toNatClampNeg
/-- the field of the group occurrence g; -1: the record -/
def wk_g (B : Nat → Nat → Int32) (g : Int32) : Int32 := if g = -1 then -1 else B 4 g.toNatClampNeg
def wk_dn (A : Nat → Nat → Int32) (f : Nat) : Nat := (A 2 f).toNatClampNeg
/-- how deep what stands at g lies -/
def wk_dg (A B : Nat → Nat → Int32) (g : Int32) : Nat := if g = -1 then 0 else wk_dn A (wk_f B g.toNatClampNeg)
def wk_P (A : Nat → Nat → Int32) (n : Nat) (B : Nat → Nat → Int32) (b e : Nat) : Prop := (n ≤ 48 ∧ e ≤ 2048 ∧ mo_up (A 0) n ∧ mo_de (A 0) (A 2) n) ∧ tr_R A n B b e ∧ ∀ q1 q2, b ≤ q1 → q1 < q2 → q2 < e → B 6 q1 = B 6 q2 → wk_f B q1 ≤ wk_f B q2
section WK
variable {A B : Nat → Nat → Int32} {n b e : Nat} {g tg : Int32}
theorem wk_P.f (h : wk_P A n B b e) {t : Nat} (h1 : b ≤ t) (h2 : t < e) : wk_f B t < n ∧ B 4 t = nI (wk_f B t) ∧ A 0 (wk_f B t) = wk_g B (B 6 t) ∧ wk_dn A (wk_f B t) = wk_dg A B (B 6 t) + 1 := by
  obtain ⟨⟨hn, he, hup, hde⟩, ⟨hf, -⟩, -⟩ := h
  obtain ⟨w, hw, e4, z⟩ := hf t h1 h2
  have ew : wk_f B t = w := by unfold wk_f; rw [e4, nI_clamp (by omega)]
  rw [ew]
  obtain ⟨k, hk, ek, y⟩ := hde w hw
  have edn : wk_dn A w = k + 1 := by unfold wk_dn; rw [ek, nI_clamp (by omega)]
  refine ⟨hw, e4, ?_, ?_⟩
  · unfold wk_g
    rcases z with ⟨z1, z2⟩ | ⟨q, u, q1, q2, q3, q4, q5, q6⟩
    · rw [if_pos z1, z2]
    · rw [q3, if_neg (nI_nm1 (by omega)), nI_clamp (by omega), q4, q6]
  · rw [edn]
    unfold wk_dg
    rcases z with ⟨z1, z2⟩ | ⟨q, u, q1, q2, q3, q4, q5, q6⟩
    · rw [if_pos z1]
      rcases y with ⟨-, y⟩ | ⟨p, hp, y, -⟩
      · omega
      · exact absurd (y.symm.trans z2) (nI_nm1 (by omega))
    · rw [q3, if_neg (nI_nm1 (by omega)), nI_clamp (by omega)]
      have eu : wk_f B q = u := by unfold wk_f; rw [q4, nI_clamp (by omega)]
      rw [eu]
      rcases y with ⟨y, -⟩ | ⟨p, hp, y, y2, y3⟩
      · exact absurd (q6.symm.trans y) (nI_nm1 (by omega))
      · have : p = u := (nI_eq (by omega) (by omega)).mp (y.symm.trans q6)
        subst this
        unfold wk_dn
        rw [y3, nI_clamp (by omega)]
theorem wk_P.d (h : wk_P A n B b e) : tr_d (B 6) b e := h.2.1.1.d
theorem wk_P.le (h : wk_P A n B b e) : e ≤ 2048 := h.1.2.1
/-- the way up grows no deeper -/
theorem wk_deep (h : wk_P A n B b e) : ∀ (m : Nat) (g : Int32), tr_v b e e g → as_rc (B 6) 2048 tg m g → tg = g ∨ wk_dg A B tg < wk_dg A B g
  | 0, g, _, hr => Or.inl hr.symm
  | m + 1, g, hv, hr => by
    rcases hr with z | ⟨q, q1, q2, q3⟩
    · exact Or.inl z.symm
    · rcases hv with y | ⟨p, p1, p2, p3, p4⟩
      · exact absurd (q2.symm.trans y) (nI_nm1 (by omega))
      · have he := h.le
        have : p = q := (nI_eq (by omega) (by omega)).mp (p4.symm.trans q2)
        subst this
        have hd := (h.f p1 p3).2.2.2
        have edg : wk_dg A B g = wk_dn A (wk_f B p) := by
          unfold wk_dg
          rw [p4, if_neg (nI_nm1 (by omega)), nI_clamp (by omega)]
        refine Or.inr ?_
        rw [edg, hd]
        rcases wk_deep h m (B 6 p) ((h.d.v p1 p3).up (by omega)) q3 with x | x
        · rw [x]; omega
        · omega
/-- two on one way with one field are one -/
theorem wk_one (h : wk_P A n B b e) {m : Nat} (hv : tr_v b e e g) (hr : as_rc (B 6) 2048 tg m g) (hg : wk_g B tg = wk_g B g) : tg = g := by
  rcases wk_deep h m g hv hr with z | z
  · exact z
  · exfalso
    have he := h.le
    have htv := rc_v h.d he m e g hv hr
    have same : wk_dg A B tg = wk_dg A B g := by
      unfold wk_g at hg
      unfold wk_dg
      rcases htv with x | ⟨p, p1, p2, p3, p4⟩
      · rw [if_pos x] at hg
        rcases hv with y | ⟨q, q1, q2, q3, q4⟩
        · rw [if_pos x, if_pos y]
        · rw [q4, if_neg (nI_nm1 (by omega)), nI_clamp (by omega), (h.f q1 q3).2.1] at hg
          exact absurd hg.symm (nI_nm1 (by have := (h.f q1 q3).1; have := h.1.1; omega))
      · rw [p4, if_neg (nI_nm1 (by omega)), nI_clamp (by omega)] at hg ⊢
        rcases hv with y | ⟨q, q1, q2, q3, q4⟩
        · rw [if_pos y, (h.f p1 p3).2.1] at hg
          exact absurd hg (nI_nm1 (by have := (h.f p1 p3).1; have := h.1.1; omega))
        · rw [q4, if_neg (nI_nm1 (by omega)), nI_clamp (by omega)] at hg ⊢
          unfold wk_f
          rw [hg]
    omega
/-- all between an occurrence and one in it lie in it -/
theorem wk_all (h : wk_P A n B b e) {p q : Nat} (hp : b ≤ p) (hq : q < e) (hr : as_rc (B 6) 2048 (nI p) 2048 (nI q)) : ∀ (j x : Nat), x + j = q → p ≤ x → as_rc (B 6) 2048 (nI p) 2048 (nI x)
  | 0, x, hx, _ => by rw [show x = q by omega]; exact hr
  | j + 1, x, hx, hpx => by
    have he := h.le
    have ih := wk_all h hp hq hr j (x + 1) (by omega) (by omega)
    have h1 : as_rc (B 6) 2048 (nI p) 2047 (B 6 (x + 1)) := by
      rcases ih with z | ⟨u, u1, u2, u3⟩
      · have := (nI_eq (by omega) (by omega)).mp z
        omega
      · have := (nI_eq (by omega) (by omega)).mp u2
        subst this
        exact u3
    have h2 := h.2.1.2.2 (x + 1) (by omega) (by omega)
    rw [Nat.add_sub_cancel] at h2
    have hst := tr_st_v (ofs := B 4) (G := B 3) h.d (show b ≤ x by omega) (show x < e by omega)
    have h3 := rc_tr h1 2048 _ h2
    have h4 : as_rc (B 6) 2048 (nI p) 4096 (nI x) := by
      unfold tr_st at h3
      split at h3
      · have h5 : as_rc (B 6) 2048 (nI p) (2048 + 2047 + 1) (nI x) := Or.inr ⟨x, by omega, rfl, h3⟩
        exact h5
      · exact rc_up h3 (by omega)
    exact rc_cut48 h.d he (Or.inr ⟨x, by omega, by omega, by omega, rfl⟩) h4
/-- where something outside g comes, nothing comes into g any more -/
theorem wk_shut (h : wk_P A n B b e) {pos q : Nat} (hg : g = -1 ∨ ∃ p, b ≤ p ∧ p < pos ∧ g = nI p) (hb : b ≤ pos) (hp : pos < e) (hr : as_rc (B 6) 2048 (B 6 pos) 2048 g) (hne : ¬ B 6 pos = g) (h1 : pos ≤ q) (h2 : q < e) : ¬ B 6 q = g := by
  intro hq
  have he := h.le
  rcases hg with z | ⟨p, p1, p2, z⟩
  · rcases hr with y | ⟨u, u1, u2, -⟩
    · exact hne y.symm
    · exact nI_nm1 (by omega) (u2.symm.trans z)
  · subst z
    have hs : as_rc (B 6) 2048 (nI p) 2048 (nI q) := Or.inr ⟨q, by omega, rfl, by rw [hq]; exact rc_rf _⟩
    have hx := wk_all h p1 h2 hs (q - pos) pos (by omega) (by omega)
    rcases hx with y | ⟨u, u1, u2, u3⟩
    · have := (nI_eq (by omega) (by omega)).mp y
      omega
    · have := (nI_eq (by omega) (by omega)).mp u2
      subst this
      rcases h.d pos hb hp with y | ⟨v, v1, v2, v3⟩
      · rw [y] at u3
        rcases u3 with x | ⟨_, x1, x2, _⟩
        · exact nI_nm1 (by omega) x.symm
        · exact nI_nm1 (by omega) x2.symm
      · rw [v3] at u3 hr hne
        have l1 := rc_v h.d he _ (v + 1) (nI v) (Or.inr ⟨v, v1, by omega, by omega, rfl⟩) u3
        have l2 := rc_v h.d he _ (p + 1) (nI p) (Or.inr ⟨p, p1, by omega, by omega, rfl⟩) hr
        rcases l1 with x | ⟨x, x1, x2, x3, x4⟩
        · exact nI_nm1 (by omega) x
        · rcases l2 with y | ⟨y, y1, y2, y3, y4⟩
          · exact nI_nm1 (by omega) y
          · have e1 := (nI_eq (by omega) (by omega)).mp x4
            have e2 := (nI_eq (by omega) (by omega)).mp y4
            exact hne (by rw [show v = p by omega])
/-- at pos, in g, whose first place is lo: all before lies in g; what comes lies in g or around it -/
def wk_O (B : Nat → Nat → Int32) (e : Nat) (g : Int32) (lo pos : Nat) : Prop := lo ≤ pos ∧ pos ≤ e ∧ (pos < e → as_rc (B 6) 2048 (B 6 pos) 2048 g) ∧ ∀ q, lo ≤ q → q < pos → B 6 q = g ∨ ∃ u, lo ≤ u ∧ u < q ∧ B 6 q = nI u
/-- g is the record, or an occurrence just before lo -/
def wk_lo (b e : Nat) (g : Int32) (lo : Nat) : Prop := g = -1 ∧ lo = b ∨ ∃ p, b ≤ p ∧ p < e ∧ g = nI p ∧ lo = p + 1
theorem wk_lo.v {lo : Nat} (h : wk_lo b e g lo) : tr_v b e e g := by
  rcases h with ⟨z, -⟩ | ⟨p, p1, p2, p3, -⟩
  · exact Or.inl z
  · exact Or.inr ⟨p, p1, p2, p2, p3⟩
/-- an occurrence of a leaf is passed -/
theorem wk_leaf (h : wk_P A n B b e) {lo pos : Nat} (hl : wk_lo b e g lo) (hO : wk_O B e g lo pos) (hp : pos < e) (hg : B 6 pos = g) (h3 : B 3 (wk_f B pos) = 0) : wk_O B e g lo (pos + 1) := by
  obtain ⟨o1, o2, o3, o4⟩ := hO
  have hb : b ≤ pos := by
    rcases hl with ⟨-, z⟩ | ⟨p, p1, p2, -, z⟩ <;> omega
  refine ⟨by omega, by omega, fun hp1 => ?_, fun q q1 q2 => ?_⟩
  · have h2 := h.2.1.2.2 (pos + 1) (by omega) hp1
    rw [Nat.add_sub_cancel] at h2
    have est : tr_st (B 4) (B 6) (B 3) pos = g := by
      unfold tr_st
      exact (if_pos h3).trans hg
    rw [est] at h2
    exact h2
  · rcases Nat.lt_or_ge q pos with z | z
    · exact o4 q q1 z
    · rw [show q = pos by omega]
      exact Or.inl hg
/-- a group's occurrence is gone into -/
theorem wk_in (h : wk_P A n B b e) {pos : Nat} (hb : b ≤ pos) (hp : pos < e) (h3 : ¬ B 3 (wk_f B pos) = 0) : wk_O B e (nI pos) (pos + 1) (pos + 1) := by
  refine ⟨Nat.le_refl _, by omega, fun hp1 => ?_, fun q q1 q2 => by omega⟩
  have h2 := h.2.1.2.2 (pos + 1) (by omega) hp1
  rw [Nat.add_sub_cancel] at h2
  have est : tr_st (B 4) (B 6) (B 3) pos = nI pos := by
    unfold tr_st
    exact if_neg h3
  rw [est] at h2
  exact h2
/-- and left -/
theorem wk_out (h : wk_P A n B b e) {lo pos pos' : Nat} (hl : wk_lo b e g lo) (hO : wk_O B e g lo pos) (hp : pos < e) (hg : B 6 pos = g) (hI : wk_O B e (nI pos) (pos + 1) pos') (hx : pos' < e → ¬ B 6 pos' = nI pos) : wk_O B e g lo pos' := by
  obtain ⟨o1, o2, o3, o4⟩ := hO
  obtain ⟨i1, i2, i3, i4⟩ := hI
  have he := h.le
  have hb : b ≤ pos := by
    rcases hl with ⟨-, z⟩ | ⟨p, p1, p2, -, z⟩ <;> omega
  refine ⟨by omega, i2, fun hp1 => ?_, fun q q1 q2 => ?_⟩
  · rcases i3 hp1 with z | ⟨u, u1, u2, u3⟩
    · exact absurd z.symm (hx hp1)
    · have := (nI_eq (by omega) (by omega)).mp u2
      subst this
      rw [hg] at u3
      exact rc_s _ _ u3
  · rcases Nat.lt_or_ge q pos with z | z
    · exact o4 q q1 z
    · by_cases y : q = pos
      · rw [y]; exact Or.inl hg
      · rcases i4 q (by omega) q2 with x | ⟨u, x1, x2, x3⟩
        · exact Or.inr ⟨pos, o1, by omega, x⟩
        · exact Or.inr ⟨u, by omega, x2, x3⟩
end WK
