/-! WHAT IS TAKEN APART, 3: a field, a group's fields, a record. -/
section TAK3
variable {A B : Nat → Nat → Int32} {S : Nat → Int64} {F V : Nat → Int32} {k N n b e c f0 sd : Nat} {wy DD RR : Nat → Int32} {g : Int32}
/-- a field of the group g -/
theorem ta_field {m lo pos f : Nat} {re : Int32} {s : tk_S} (H : ta_H A B S F V k N n b e c f0 sd wy DD RR) (hrec : ta_R A B S F V k N n b e c f0 sd wy DD RR m) (hl : wk_lo b e g lo) (hO : wk_O B e g lo pos) (hfg : A 0 f = wk_g B g) (hfn : f < n) (hm : wk_dn A f + m = 16) (hlo : ∀ q, lo ≤ q → q < pos → B 6 q = g → wk_f B q < f) (hi : ∀ q, pos ≤ q → q < e → B 6 q = g → f ≤ wk_f B q) (hs : s.1 = nI (pos - b)) :
    ∃ pos', pos ≤ pos' ∧ (tk_field A S F V k N (tk_fields A S F V k N m) f re s).1 = nI (pos' - b) ∧ wk_O B e g lo pos' ∧ (∀ q, lo ≤ q → q < pos' → B 6 q = g → wk_f B q < f + 1) ∧ (∀ q, pos' ≤ q → q < e → B 6 q = g → f + 1 ≤ wk_f B q) ∧ ta_col A c f0 f (1 + (pos' - pos)) (ta_fe A B e sd wy DD RR g lo f re) s (tk_field A S F V k N (tk_fields A S F V k N m) f re s) := by
  have H0 := H
  obtain ⟨h, hFV, he, hT, ⟨hcN, hN⟩, hbit, hE⟩ := H
  have he2 := h.le
  have hn := h.1.1
  have hb := ta_lo hl hO
  have hblo : b ≤ lo := by rcases hl with ⟨-, z⟩ | ⟨p, p1, p2, -, z⟩ <;> omega
  have hpe := hO.2.1
  have hpl := hO.1
  have hat := ta_at (fun j hj => (hFV j hj).1) he he2 h (f := f) hb hpe (by omega)
  have before : ∀ q, lo ≤ q → q < pos → ¬ (B 4 q = nI f ∧ B 6 q = g) := fun q q1 q2 x => by
    have := hlo q q1 q2 x.2
    have e4 := (h.f (show b ≤ q by omega) (show q < e by omega)).2.1
    have := (nI_eq (by have := (h.f (show b ≤ q by omega) (show q < e by omega)).1; omega) (by omega)).mp (e4.symm.trans x.1)
    omega
  unfold tk_field ta_fe
  rw [hs]
  by_cases z : ta_hit B e f pos
  · rw [if_pos (hat.mpr z)]
    obtain ⟨p2, l2, e2, O2, no2, m2, hi2, -, c2⟩ := ta_rep H0 hrec hl hfg hfn hm 2048 pos re s (by omega) hO hi hs
    have hf1 := (h.f hb z.1).2.1
    rw [z.2] at hf1
    have enx : fi_nx (B 4) (B 6) (nI f) g e lo = nI pos := nx_hit hf1 (ta_g h hl hO z hfg) _ _ hpl (by have := z.1; omega) before
    rw [enx, if_neg (nI_nm1 (by omega)), nI_clamp (by omega)]
    refine ⟨p2, l2, e2, O2, fun q q1 q2 q3 => ?_, ta_no h hl O2 no2 hi2, ?_⟩
    · rcases Nat.lt_or_ge q pos with y | y
      · have := hlo q q1 y q3
        omega
      · have := m2 q y q2 q3
        omega
    · have c3 := c2 z e (by omega)
      exact ⟨fun x => ⟨by have := (c3.1 x).1; omega, (c3.1 x).2⟩, c3.2⟩
  · rw [if_neg (fun y => z (hat.mp y))]
    have after := ta_no h hl hO z hi
    have enx : fi_nx (B 4) (B 6) (nI f) g e lo = -1 := nx_none _ _ (fun q q1 q2 x => by
      rcases Nat.lt_or_ge q pos with y | y
      · exact before q q1 y x
      · have hq : q < e := by omega
        have := after q y hq x.2
        have e4 := (h.f (show b ≤ q by omega) hq).2.1
        have := (nI_eq (by have := (h.f (show b ≤ q by omega) hq).1; omega) (by omega)).mp (e4.symm.trans x.1)
        omega)
    rw [enx, if_pos rfl]
    refine ⟨pos, Nat.le_refl _, rfl, hO, fun q q1 q2 q3 => by have := hlo q q1 q2 q3; omega, after, fun x => ⟨by show 1 ≤ _; omega, fun y => ?_⟩, fun x => ?_⟩
    · refine (ta_emp hcN hN 48 0 s.2 (by omega)).2 (Nat.zero_le _) (by omega) ((hbit f hfn).mpr x) ?_
      have : ([(re, sc_of A 4 (A 0 f), 0)] : List co_E).length = 1 := rfl
      omega
    · exact (ta_emp hcN hN 48 0 s.2 (by omega)).1 (fun y => x ((hbit f hfn).mp y.2.2))
/-- two on the way as deep as each other are one -/
theorem ta_uniq (hT : ta_P A B n c f0 sd wy DD RR) (hn : n ≤ 48) {w1 w2 : Nat} (h1 : ta_an A f0 w1) (h2 : ta_an A f0 w2) (hd : wk_dn A w1 = wk_dn A w2) : w1 = w2 := by
  obtain ⟨-, -, -, t7, -⟩ := hT
  have a1 := (t7 w1 h1).1
  have a2 := (t7 w2 h2).1
  rw [hd] at a1
  exact (nI_eq (by have := (t7 w1 h1).2.2.2.1; omega) (by have := (t7 w2 h2).2.2.2.1; omega)).mp (a1.symm.trans a2)
/-- the fields of the group g, from f on -/
theorem ta_loop {m lo hi : Nat} {gq re : Int32} (H : ta_H A B S F V k N n b e c f0 sd wy DD RR) (hrec : ta_R A B S F V k N n b e c f0 sd wy DD RR m) (hl : wk_lo b e g lo) (hgq : gq = wk_g B g) (hhi : hi ≤ n) (hdep : ∀ f, f < n → A 0 f = gq → wk_dn A f + m = 16) : ∀ (t f pos : Nat) (s : tk_S), f + t = hi → wk_O B e g lo pos → (∀ q, lo ≤ q → q < pos → B 6 q = g → wk_f B q < f) → (∀ q, pos ≤ q → q < e → B 6 q = g → f ≤ wk_f B q) → s.1 = nI (pos - b) →
    ∃ pos', pos ≤ pos' ∧ (tk_loop A S F V k N (tk_fields A S F V k N m) gq re t f s).1 = nI (pos' - b) ∧ wk_O B e g lo pos' ∧ (∀ q, pos' ≤ q → q < e → B 6 q = g → hi ≤ wk_f B q) ∧ (∀ f1, f ≤ f1 → f1 < hi → A 0 f1 = gq → ta_an A f0 f1 → (ta_fe A B e sd wy DD RR g lo f1 re).length ≤ 1 + (pos' - pos) ∧ ((s.2 c).length + (ta_fe A B e sd wy DD RR g lo f1 re).length ≤ 2176 → (tk_loop A S F V k N (tk_fields A S F V k N m) gq re t f s).2 c = s.2 c ++ ta_fe A B e sd wy DD RR g lo f1 re)) ∧ ((∀ f1, f ≤ f1 → f1 < hi → A 0 f1 = gq → ¬ ta_an A f0 f1) → (tk_loop A S F V k N (tk_fields A S F V k N m) gq re t f s).2 c = s.2 c) := by
  have H0 := H
  obtain ⟨h, hFV, he, hT, ⟨hcN, hN⟩, hbit, hE⟩ := H
  intro t
  induction t with
  | zero =>
    intro f pos s hf hO hlo hi' hs
    exact ⟨pos, Nat.le_refl _, hs, hO, fun q q1 q2 q3 => by have := hi' q q1 q2 q3; omega, fun f1 a1 a2 => by omega, fun _ => rfl⟩
  | succ t ih =>
    intro f pos s hf hO hlo hi' hs
    have hfn : f < n := by omega
    have eS : tk_loop A S F V k N (tk_fields A S F V k N m) gq re (t + 1) f s = tk_loop A S F V k N (tk_fields A S F V k N m) gq re t (f + 1) (if A 0 f = gq then tk_field A S F V k N (tk_fields A S F V k N m) f re s else s) := rfl
    rw [eS]
    by_cases z : A 0 f = gq
    · rw [if_pos z]
      obtain ⟨p1, l1, e1, O1, lo1, hi1, c1⟩ := ta_field (re := re) H0 hrec hl hO (z.trans hgq) hfn (hdep f hfn z) hlo hi' hs
      obtain ⟨p2, l2, e2, O2, hi2, c2, d2⟩ := ih (f + 1) p1 _ (by omega) O1 lo1 hi1 e1
      refine ⟨p2, by omega, e2, O2, hi2, fun f1 a1 a2 a3 a4 => ?_, fun x => ?_⟩
      · by_cases y : f1 = f
        · subst y
          have none : ∀ f2, f1 + 1 ≤ f2 → f2 < hi → A 0 f2 = gq → ¬ ta_an A f0 f2 := fun f2 b1 b2 b3 b4 => by
            have := ta_uniq hT h.1.1 a4 b4 (by have := hdep f1 hfn z; have := hdep f2 (by omega) b3; omega)
            omega
          obtain ⟨q1, q2⟩ := c1.1 a4
          refine ⟨by omega, fun w => ?_⟩
          rw [d2 none]
          exact q2 w
        · have hfa : ¬ ta_an A f0 f := fun b4 => y (ta_uniq hT h.1.1 a4 b4 (by have := hdep f1 (by omega) a3; have := hdep f hfn z; omega))
          obtain ⟨q1, q2⟩ := c2 f1 (by omega) a2 a3 a4
          rw [c1.2 hfa] at q2
          exact ⟨by omega, q2⟩
      · rw [d2 (fun f1 a1 a2 a3 => x f1 (by omega) a2 a3)]
        exact c1.2 (x f (Nat.le_refl _) (by omega) z)
    · rw [if_neg z]
      have hi1 : ∀ q, pos ≤ q → q < e → B 6 q = g → f + 1 ≤ wk_f B q := fun q q1 q2 q3 => by
        have h1 := hi' q q1 q2 q3
        rcases Nat.lt_or_ge f (wk_f B q) with y | y
        · exact y
        · exfalso
          have h2 := (h.f (by have := ta_lo hl hO; omega) q2).2.2.1
          rw [show wk_f B q = f by omega, q3] at h2
          exact z (h2.trans hgq.symm)
      obtain ⟨p2, l2, e2, O2, hi2, c2, d2⟩ := ih (f + 1) pos s (by omega) hO (fun q q1 q2 q3 => by have := hlo q q1 q2 q3; omega) hi1 hs
      refine ⟨p2, l2, e2, O2, hi2, fun f1 a1 a2 a3 a4 => ?_, fun x => d2 (fun f1 a1 a2 a3 => x f1 (by omega) a2 a3)⟩
      refine c2 f1 ?_ a2 a3 a4
      rcases Nat.lt_or_ge f f1 with y | y
      · exact y
      · exact absurd (by rw [show f = f1 by omega]; exact a3) z
theorem ta_dn {w f : Nat} (hn : n ≤ 48) (hde : mo_de (A 0) (A 2) n) (hf : f < n) (hp : A 0 f = nI w) (hw : w < n) : wk_dn A f = wk_dn A w + 1 ∧ w < f ∧ wk_dn A f ≤ 16 := by
  obtain ⟨q, hq, e, z⟩ := hde f hf
  rcases z with ⟨z, -⟩ | ⟨p, hp2, z, z2, z3⟩
  · exact absurd (hp.symm.trans z) (nI_nm1 (by omega))
  · have : p = w := (nI_eq (by omega) (by omega)).mp (z.symm.trans hp)
    subst this
    unfold wk_dn
    rw [e, z3, nI_clamp (by omega), nI_clamp (by omega)]
    omega
theorem ta_dn0 {f : Nat} (hn : n ≤ 48) (hde : mo_de (A 0) (A 2) n) (hf : f < n) (hp : A 0 f = -1) : wk_dn A f = 1 := by
  obtain ⟨q, hq, e, z⟩ := hde f hf
  rcases z with ⟨-, z⟩ | ⟨p, hp2, z, z2, z3⟩
  · unfold wk_dn
    rw [e, z]
    decide
  · exact absurd (z.symm.trans hp) (nI_nm1 (by omega))
/-- the list of an occurrence is that of the next field of the way in it -/
theorem ta_next {w f1 p : Nat} {re : Int32} (hT : ta_P A B n c f0 sd wy DD RR) (hn : n ≤ 48) (hde : mo_de (A 0) (A 2) n) (h1 : ta_an A f0 f1) (hw : ta_an A f0 w) (hp : A 0 f1 = nI w) : ta_fe A B e sd wy DD RR (nI p) (p + 1) f1 re = ta_en A B e sd wy DD RR w p re := by
  obtain ⟨-, -, -, t7, -⟩ := hT
  obtain ⟨a1, a2, a3, a4, a5⟩ := t7 f1 h1
  obtain ⟨b1, b2, b3, b4, b5⟩ := t7 w hw
  obtain ⟨d1, d2, d3⟩ := ta_dn hn hde a4 hp b4
  have hd0 : 1 ≤ wk_dn A w := by
    obtain ⟨q, hq, e, -⟩ := hde w b4
    unfold wk_dn
    rw [e, nI_clamp (by omega)]
    omega
  unfold ta_fe ta_en
  rw [show sd - wk_dn A w = (sd - wk_dn A f1) + 1 by omega]
  show _ = (if fi_nx (B 4) (B 6) (wy (wk_dn A w - 1 + 1)) (nI p) e (p + 1) = -1 then [(re, DD (wk_dn A w - 1), 0)] else fi_sib (fi_nx (B 4) (B 6) (wy (wk_dn A w - 1 + 1)) (nI p) e) (fi_ent (B 4) (B 6) (B 5) wy DD RR e (sd - wk_dn A f1) (wk_dn A w - 1 + 1)) (RR (wk_dn A w - 1 + 1)) e (fi_nx (B 4) (B 6) (wy (wk_dn A w - 1 + 1)) (nI p) e (p + 1)).toNatClampNeg re)
  rw [show wk_dn A w - 1 + 1 = wk_dn A f1 - 1 by omega, a1, a3, b2, hp]
  unfold sc_of
  rw [if_neg (nI_nm1 (by omega)), nI_clamp (by omega)]
/-- takeFields on a group's occurrence -/
theorem ta_fields (H : ta_H A B S F V k N n b e c f0 sd wy DD RR) : ∀ m, ta_R A B S F V k N n b e c f0 sd wy DD RR m := by
  have H0 := H
  obtain ⟨h, hFV, he, hT, ⟨hcN, hN⟩, hbit, hE⟩ := H
  have hn := h.1.1
  have he2 := h.le
  have hde := h.1.2.2.2
  have hup := h.1.2.2.1
  obtain ⟨⟨t1, t2, t3, t4⟩, t5, t6, t7, t8⟩ := id hT
  have hen0 := li_en_48 hup hn t1
  have kid : ∀ w, ¬ B 3 w = 0 → ta_an A f0 w → ∃ f1, ta_an A f0 f1 ∧ A 0 f1 = nI w := fun w z y => by
    rcases ta_kid hup hn 48 f0 w t1 hen0 y with x | x
    · rw [← x] at z; exact absurd t2 z
    · exact x
  intro m
  induction m with
  | zero =>
    intro p w re s p1 p2 p3 hw h3 hm hs
    refine ⟨p + 1, hs, wk_in h p1 p2 (by rw [p3]; exact h3), fun q1 q2 => ?_, fun y => ?_, fun _ => rfl⟩
    · obtain ⟨f1, f2, f3, f4⟩ := h.f (show b ≤ p + 1 by omega) q1
      rw [q2] at f3
      unfold wk_g at f3
      rw [if_neg (nI_nm1 (by omega)), nI_clamp (by omega), (h.f p1 p2).2.1, p3] at f3
      have := ta_dn hn hde f1 f3 hw
      omega
    · obtain ⟨f1, a1, a2⟩ := kid w h3 y
      have := ta_dn hn hde (t7 f1 a1).2.2.2.1 a2 hw
      omega
  | succ m ih =>
    intro p w re s p1 p2 p3 hw h3 hm hs
    obtain ⟨ew, e1, e2, e3, -, -, e6⟩ := hE w hw
    have eS : tk_fields A S F V k N (m + 1) w re s = tk_loop A S F V k N (tk_fields A S F V k N m) (nI w) re ((A 6 w).toNatClampNeg - (w + 1)) (w + 1) s := rfl
    rw [eS, e1, nI_clamp (by omega)]
    have hgp : nI w = wk_g B (nI p) := by
      unfold wk_g
      rw [if_neg (nI_nm1 (by omega)), nI_clamp (by omega), (h.f p1 p2).2.1, p3]
    obtain ⟨pos', l1, r1, r2, r3, r4, r5⟩ := ta_loop (lo := p + 1) (hi := ew) (re := re) H0 ih (Or.inr ⟨p, p1, p2, rfl, rfl⟩) hgp e3 (fun f hf hp => by have := ta_dn hn hde hf hp hw; omega) (ew - (w + 1)) (w + 1) (p + 1) s (by omega) (wk_in h p1 p2 (by rw [p3]; exact h3)) (fun q q1 q2 => by omega) (fun q q1 q2 q3 => by
      obtain ⟨f1, f2, f3, f4⟩ := h.f (show b ≤ q by omega) q2
      rw [q3, ← hgp] at f3
      have := ta_dn hn hde f1 f3 hw
      omega) hs
    refine ⟨pos', r1, r2, fun q1 q2 => ?_, fun y => ?_, fun y => ?_⟩
    · obtain ⟨f1, f2, f3, f4⟩ := h.f (show b ≤ pos' by omega) q1
      have h1 := r3 pos' (Nat.le_refl _) q1 q2
      rw [q2, ← hgp] at f3
      have := e6 (wk_f B pos') f1 f3
      omega
    · obtain ⟨f1, a1, a2⟩ := kid w h3 y
      have hf1 := (t7 f1 a1).2.2.2.1
      have hd := ta_dn hn hde hf1 a2 hw
      obtain ⟨b1, b2⟩ := r4 f1 (by omega) (e6 f1 hf1 a2) a2 a1
      rw [ta_next hT hn hde a1 y a2] at b1 b2
      exact ⟨by omega, b2⟩
    · refine r5 (fun f1 a1 a2 a3 a4 => y ?_)
      exact li_an_par (by omega) a3 48 (nI f0) hen0 a4
theorem ta_top {par : Nat → Int32} {n : Nat} (hup : mo_up par n) (hn : n ≤ 48) : ∀ (m q : Nat), q < n → li_en par m (nI q) → ∃ f, li_an par m (nI q) f ∧ par f = -1
  | 0, q, hq, h => absurd h (nI_nm1 (by omega))
  | m + 1, q, hq, h => by
    have h2 := Or.resolve_left h (nI_nm1 (by omega))
    rw [nI_clamp (by omega)] at h2
    rcases hup q hq with y | ⟨p, hp, y⟩
    · exact ⟨q, ⟨nI_nm1 (by omega), Or.inl (nI_clamp (by omega))⟩, y⟩
    · rw [y] at h2
      obtain ⟨f, f1, f2⟩ := ta_top hup hn m p (by omega) h2
      exact ⟨f, ⟨nI_nm1 (by omega), Or.inr (by rw [nI_clamp (by omega), y]; exact f1)⟩, f2⟩
/-- a record taken apart is what the reference finds of it -/
theorem ta_all (H : ta_H A B S F V k N n b e c f0 sd wy DD RR) {col : Nat → List co_E} : (fi_rec (B 4) (B 6) (B 5) wy DD RR sd b e).length ≤ 1 + k ∧ ((col c).length + 1 + k ≤ 2176 → (tk_all A S F V k N n col).2 c = col c ++ fi_rec (B 4) (B 6) (B 5) wy DD RR sd b e) := by
  have H0 := H
  obtain ⟨h, hFV, he, hT, ⟨hcN, hN⟩, hbit, hE⟩ := H
  have hn := h.1.1
  have he2 := h.le
  have hde := h.1.2.2.2
  have hup := h.1.2.2.1
  obtain ⟨⟨t1, t2, t3, t4⟩, t5, t6, t7, t8⟩ := id hT
  have hO : wk_O B e (-1) b b := ⟨Nat.le_refl _, by omega, fun z => by rw [h.2.1.2.1 z]; exact rc_rf _, fun q q1 q2 => by omega⟩
  obtain ⟨pos', l1, r1, r2, r3, r4, r5⟩ := ta_loop (g := -1) (gq := -1) (lo := b) (hi := n) (re := 0) (m := 15) H0 (ta_fields H0 15) (Or.inl ⟨rfl, rfl⟩) rfl (Nat.le_refl _) (fun f hf hp => by rw [ta_dn0 hn hde hf hp]) n 0 b (0, col) (by omega) hO (fun q q1 q2 => by omega) (fun q q1 q2 q3 => Nat.zero_le _) (by rw [Nat.sub_self]; rfl)
  obtain ⟨f1, a1, a2⟩ := ta_top hup hn 48 f0 t1 (li_en_48 hup hn t1)
  obtain ⟨b1, b2⟩ := r4 f1 (Nat.zero_le _) (t7 f1 a1).2.2.2.1 a2 a1
  have hd1 := ta_dn0 hn hde (t7 f1 a1).2.2.2.1 a2
  obtain ⟨c1, c2, c3, c4, c5⟩ := t7 f1 a1
  have eL : ta_fe A B e sd wy DD RR (-1) b f1 0 = fi_rec (B 4) (B 6) (B 5) wy DD RR sd b e := by
    unfold ta_fe fi_rec
    rw [hd1] at c1 c3
    rw [hd1, a2, ← c1, ← c3]
    rfl
  rw [eL] at b1 b2
  have hp := r2.2.1
  exact ⟨by omega, fun z => b2 (by show (col c).length + _ ≤ 2176; omega)⟩
end TAK3
