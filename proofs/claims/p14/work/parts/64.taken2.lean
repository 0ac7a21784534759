/-! WHAT IS TAKEN APART, 2. ta_H: all that is given; one column c. -/
/-- is f the column's leaf, or a group around it -/
def ta_an (A : Nat → Nat → Int32) (f0 f : Nat) : Prop := li_an (A 0) 48 (nI f0) f
def ta_H (A B : Nat → Nat → Int32) (S : Nat → Int64) (F V : Nat → Int32) (k N n b e c f0 sd : Nat) (wy DD RR : Nat → Int32) : Prop := wk_P A n B b e ∧ (∀ j, j < k → F j = B 4 (b + j) ∧ V j = B 5 (b + j)) ∧ e = b + k ∧ ta_P A B n c f0 sd wy DD RR ∧ (c < N ∧ N ≤ 48) ∧ (∀ f, f < n → (¬ st_hv (S f) (nI c) = 0 ↔ ta_an A f0 f)) ∧ ∀ f, f < n → li_E (A 0) n f (A 6 f)
section TAK2
variable {A B : Nat → Nat → Int32} {S : Nat → Int64} {F V : Nat → Int32} {k N n b e c f0 sd : Nat} {wy DD RR : Nat → Int32} {g : Int32}
theorem ta_ad1 {col : Nat → List co_E} {en : co_E} (hc : c < N) (hN : N ≤ 48) (hl : (col c).length < 2176) : co_ad N col (nI c) en c = col c ++ [en] := by
  unfold co_ad
  rw [nI_clamp (by omega), if_pos ⟨(co_in hN hc).1, (co_in hN hc).2, hl⟩, va_up_s]
theorem ta_ad0 {col : Nat → List co_E} {en : co_E} {c' : Nat} (hc : c' < 48) (hne : c' ≠ c) : co_ad N col (nI c') en c = col c := by
  unfold co_ad
  split
  · rw [nI_clamp (by omega), va_up_n (fun z => hne z.symm)]
  · rfl
theorem ta_emp {s : Int64} {re de : Int32} (hc : c < N) (hN : N ≤ 48) : ∀ (m c0 : Nat) (col : Nat → List co_E), c0 + m ≤ 48 → (¬ (c0 ≤ c ∧ c < c0 + m ∧ ¬ st_hv s (nI c) = 0) → tk_emp N s re de m c0 col c = col c) ∧ (c0 ≤ c → c < c0 + m → ¬ st_hv s (nI c) = 0 → (col c).length < 2176 → tk_emp N s re de m c0 col c = col c ++ [(re, de, 0)])
  | 0, _, _, _ => ⟨fun _ => rfl, fun h1 h2 => by omega⟩
  | m + 1, c0, col, hm => by
    have eS : tk_emp N s re de (m + 1) c0 col = tk_emp N s re de m (c0 + 1) (if st_hv s (nI c0) = 0 then col else co_ad N col (nI c0) (re, de, 0)) := rfl
    rw [eS]
    obtain ⟨h1, h2⟩ := ta_emp (s := s) (re := re) (de := de) hc hN m (c0 + 1) (if st_hv s (nI c0) = 0 then col else co_ad N col (nI c0) (re, de, 0)) (by omega)
    by_cases z : c0 = c
    · subst z
      rw [h1 (fun y => by omega)]
      refine ⟨fun y => ?_, fun _ _ y yl => ?_⟩
      · rw [if_pos (Decidable.of_not_not (fun x => y ⟨Nat.le_refl _, by omega, x⟩))]
      · rw [if_neg y]
        exact ta_ad1 hc hN yl
    · have ec : (if st_hv s (nI c0) = 0 then col else co_ad N col (nI c0) (re, de, 0)) c = col c := by
        split
        · rfl
        · exact ta_ad0 (by omega) z
      rw [ec] at h1 h2
      exact ⟨fun y => h1 (fun x => y ⟨by omega, by omega, x.2.2⟩), fun y1 y2 y3 y4 => h2 (by omega) (by omega) y3 y4⟩
/-- a column that has nothing to do with field f: nothing; else the list L, if there is room -/
def ta_col (A : Nat → Nat → Int32) (c f0 f d : Nat) (L : List co_E) (s s' : tk_S) : Prop := (ta_an A f0 f → L.length ≤ d ∧ ((s.2 c).length + L.length ≤ 2176 → s'.2 c = s.2 c ++ L)) ∧ (¬ ta_an A f0 f → s'.2 c = s.2 c)
/-- takeFields on an occurrence p of group w -/
def ta_R (A B : Nat → Nat → Int32) (S : Nat → Int64) (F V : Nat → Int32) (k N n b e c f0 sd : Nat) (wy DD RR : Nat → Int32) (m : Nat) : Prop := ∀ (p w : Nat) (re : Int32) (s : tk_S), b ≤ p → p < e → wk_f B p = w → w < n → ¬ B 3 w = 0 → wk_dn A w + m = 16 → s.1 = nI (p + 1 - b) → ∃ pos', (tk_fields A S F V k N m w re s).1 = nI (pos' - b) ∧ wk_O B e (nI p) (p + 1) pos' ∧ (pos' < e → ¬ B 6 pos' = nI p) ∧ ta_col A c f0 w (pos' - p) (ta_en A B e sd wy DD RR w p re) s (tk_fields A S F V k N m w re s)
theorem ta_lo {lo pos : Nat} (hl : wk_lo b e g lo) (hO : wk_O B e g lo pos) : b ≤ pos := by
  have := hO.1
  rcases hl with ⟨-, z⟩ | ⟨p, p1, p2, -, z⟩ <;> omega
/-- one occurrence -/
theorem ta_occ {m lo pos f : Nat} {re : Int32} {s : tk_S} (H : ta_H A B S F V k N n b e c f0 sd wy DD RR) (hrec : ta_R A B S F V k N n b e c f0 sd wy DD RR m) (hl : wk_lo b e g lo) (hO : wk_O B e g lo pos) (hh : ta_hit B e f pos) (hfg : A 0 f = wk_g B g) (hfn : f < n) (hm : wk_dn A f + m = 16) (hs : s.1 = nI (pos - b)) :
    ∃ pos', pos < pos' ∧ (tk_occ A V k N (tk_fields A S F V k N m) f re s).1 = nI (pos' - b) ∧ wk_O B e g lo pos' ∧ (∀ q, pos < q → q < pos' → ¬ B 6 q = g) ∧ ta_col A c f0 f (pos' - pos) (ta_en A B e sd wy DD RR f pos re) s (tk_occ A V k N (tk_fields A S F V k N m) f re s) := by
  obtain ⟨h, hFV, he, hT, ⟨hcN, hN⟩, hbit, hE⟩ := H
  have hb := ta_lo hl hO
  have hg := ta_g h hl hO hh hfg
  have he2 := h.le
  have hn := h.1.1
  have hpe := hh.1
  obtain ⟨⟨t1, t2, t3, t4⟩, t5, t6, t7, t8⟩ := hT
  have hs1 : s.1 + 1 = nI (pos + 1 - b) := by rw [hs, nI_1]; congr 1; omega
  unfold tk_occ
  by_cases z : B 3 f = 0
  · rw [if_neg (fun y => (t6 f hfn).mp y z)]
    refine ⟨pos + 1, by omega, hs1, wk_leaf h hl hO hh.1 hg (by rw [hh.2]; exact z), fun q q1 q2 => by omega, fun y => ?_, fun y => ?_⟩
    · have ef : f = f0 := by
        rcases ta_kid h.1.2.2.1 h.1.1 48 f0 f t1 (li_en_48 h.1.2.2.1 h.1.1 t1) y with x | ⟨u, u1, u2⟩
        · exact x.symm
        · exact absurd z (t8 u f (t7 u u1).2.2.2.1 u2 hfn)
      have hD := (t7 f y).2.1
      have e5 : dr_at V k 0 s.1 = B 5 pos := by
        unfold dr_at
        rw [hs, if_neg (fun x => x.elim (nI_pos (by omega)) (nI_ge (by have := hh.1; omega) (by omega))), nI_clamp (by omega), (hFV _ (by have := hh.1; omega)).2]
        congr 1; omega
      have eL : ta_en A B e sd wy DD RR f pos re = [(re, A 4 f, B 5 pos)] := by
        unfold ta_en
        rw [show sd - wk_dn A f = 0 by rw [ef, t3]; omega]
        show [(re, DD (wk_dn A f - 1), B 5 pos)] = _
        rw [hD]
      rw [eL, e5]
      refine ⟨by show 1 ≤ _; omega, fun x => ?_⟩
      have a5 : A 5 f = nI c := (t5 f hfn z).1.mpr ef
      rw [a5]
      refine ta_ad1 hcN hN ?_
      have : ([(re, A 4 f, B 5 pos)] : List co_E).length = 1 := rfl
      omega
    · obtain ⟨i1, c', hc', e'⟩ := t5 f hfn z
      show co_ad N s.2 (A 5 f) _ c = s.2 c
      rw [e']
      refine ta_ad0 hc' (fun x => y ?_)
      rw [x] at e'
      rw [i1.mp e']
      exact ⟨nI_nm1 (by omega), Or.inl (nI_clamp (by omega))⟩
  · rw [if_pos ((t6 f hfn).mpr z)]
    obtain ⟨pos', r1, r2, r3, r4⟩ := hrec pos f re (s.1 + 1, s.2) hb hh.1 hh.2 hfn z hm hs1
    refine ⟨pos', by have := r2.1; omega, r1, wk_out h hl hO hh.1 hg r2 r3, fun q q1 q2 y => ?_, r4⟩
    have hgv : g = -1 ∨ ∃ p, p < lo ∧ p < e ∧ g = nI p := by
      rcases hl with ⟨x, -⟩ | ⟨p, p1, p2, x, x2⟩
      · exact Or.inl x
      · exact Or.inr ⟨p, by omega, p2, x⟩
    have hlo := hO.1
    have hpe2 := r2.2.1
    rcases r2.2.2.2 q (by omega) q2 with x | ⟨u, u1, u2, x⟩
    · rcases hgv with w | ⟨p, p1, p2, w⟩
      · exact nI_nm1 (by omega) (x.symm.trans (y.trans w))
      · have := (nI_eq (by omega) (by omega)).mp (x.symm.trans (y.trans w))
        omega
    · rcases hgv with w | ⟨p, p1, p2, w⟩
      · exact nI_nm1 (by omega) (x.symm.trans (y.trans w))
      · have := (nI_eq (by omega) (by omega)).mp (x.symm.trans (y.trans w))
        omega
/-- an occurrence and its further ones -/
theorem ta_rep {m lo f : Nat} (H : ta_H A B S F V k N n b e c f0 sd wy DD RR) (hrec : ta_R A B S F V k N n b e c f0 sd wy DD RR m) (hl : wk_lo b e g lo) (hfg : A 0 f = wk_g B g) (hfn : f < n) (hm : wk_dn A f + m = 16) : ∀ (t pos : Nat) (re : Int32) (s : tk_S), e ≤ pos + t → wk_O B e g lo pos → (∀ q, pos ≤ q → q < e → B 6 q = g → f ≤ wk_f B q) → s.1 = nI (pos - b) →
    ∃ pos', pos ≤ pos' ∧ (tk_rep A F k (tk_occ A V k N (tk_fields A S F V k N m) f) f t re s).1 = nI (pos' - b) ∧ wk_O B e g lo pos' ∧ ¬ ta_hit B e f pos' ∧ (∀ q, pos ≤ q → q < pos' → B 6 q = g → wk_f B q = f) ∧ (∀ q, pos' ≤ q → q < e → B 6 q = g → f ≤ wk_f B q) ∧ (¬ ta_hit B e f pos → pos' = pos ∧ tk_rep A F k (tk_occ A V k N (tk_fields A S F V k N m) f) f t re s = s) ∧ (ta_hit B e f pos → ∀ u, e ≤ pos + u → ta_col A c f0 f (pos' - pos) (fi_sib (fi_nx (B 4) (B 6) (nI f) g e) (fi_ent (B 4) (B 6) (B 5) wy DD RR e (sd - wk_dn A f) (wk_dn A f - 1)) (A 3 f) u pos re) s (tk_rep A F k (tk_occ A V k N (tk_fields A S F V k N m) f) f t re s)) := by
  have H0 := H
  obtain ⟨h, hFV, he, hT, ⟨hcN, hN⟩, hbit, hE⟩ := H
  have he2 := h.le
  have hn := h.1.1
  intro t
  induction t with
  | zero =>
    intro pos re s ht hO hi hs
    have no : ¬ ta_hit B e f pos := fun z => by have := z.1; omega
    exact ⟨pos, Nat.le_refl _, hs, hO, no, fun q q1 q2 => by omega, hi, fun _ => ⟨rfl, rfl⟩, fun z => absurd z no⟩
  | succ t ih =>
    intro pos re s ht hO hi hs
    have hb := ta_lo hl hO
    have eS : tk_rep A F k (tk_occ A V k N (tk_fields A S F V k N m) f) f (t + 1) re s = if dr_at F k (-1) s.1 = nI f then tk_rep A F k (tk_occ A V k N (tk_fields A S F V k N m) f) f t (A 3 f) (tk_occ A V k N (tk_fields A S F V k N m) f re s) else s := rfl
    have hat := ta_at (fun j hj => (hFV j hj).1) he he2 h (f := f) hb hO.2.1 (by omega)
    rw [eS, hs]
    by_cases z : ta_hit B e f pos
    · rw [if_pos (hat.mpr z)]
      obtain ⟨p1, l1, e1, O1, n1, c1⟩ := ta_occ (re := re) H0 hrec hl hO z hfg hfn hm hs
      have hg := ta_g h hl hO z hfg
      have hi1 : ∀ q, p1 ≤ q → q < e → B 6 q = g → f ≤ wk_f B q := fun q q1 q2 q3 => hi q (by omega) q2 q3
      obtain ⟨p2, l2, e2, O2, no2, m2, hi2, st2, c2⟩ := ih p1 (A 3 f) (tk_occ A V k N (tk_fields A S F V k N m) f re s) (by omega) O1 hi1 e1
      refine ⟨p2, by omega, e2, O2, no2, fun q q1 q2 q3 => ?_, hi2, fun y => absurd z y, fun _ u hu => ?_⟩
      · rcases Nat.lt_or_ge q p1 with y | y
        · by_cases x : q = pos
          · rw [x]; exact z.2
          · exact absurd q3 (n1 q (by omega) y)
        · exact m2 q y q2 q3
      · obtain ⟨u, rfl⟩ : ∃ v, u = v + 1 := ⟨u - 1, by have := z.1; omega⟩
        have eF : fi_sib (fi_nx (B 4) (B 6) (nI f) g e) (fi_ent (B 4) (B 6) (B 5) wy DD RR e (sd - wk_dn A f) (wk_dn A f - 1)) (A 3 f) (u + 1) pos re = ta_en A B e sd wy DD RR f pos re ++ (if fi_nx (B 4) (B 6) (nI f) g e (pos + 1) = -1 then [] else fi_sib (fi_nx (B 4) (B 6) (nI f) g e) (fi_ent (B 4) (B 6) (B 5) wy DD RR e (sd - wk_dn A f) (wk_dn A f - 1)) (A 3 f) u (fi_nx (B 4) (B 6) (nI f) g e (pos + 1)).toNatClampNeg (A 3 f)) := rfl
        rw [eF]
        have hp1e := O1.2.1
        by_cases y : ta_hit B e f p1
        · have hg1 := ta_g h hl O1 y hfg
          have hf1 := (h.f (by omega) y.1).2.1
          rw [y.2] at hf1
          have enx : fi_nx (B 4) (B 6) (nI f) g e (pos + 1) = nI p1 := nx_hit hf1 hg1 _ _ (by omega) (by have := y.1; omega) (fun q q1 q2 x => n1 q (by omega) q2 x.2)
          rw [enx, if_neg (nI_nm1 (by omega)), nI_clamp (by omega)]
          have c3 := c2 y u (by omega)
          refine ⟨fun x => ?_, fun x => (c3.2 x).trans (c1.2 x)⟩
          obtain ⟨a1, a2⟩ := c1.1 x
          obtain ⟨b1, b2⟩ := c3.1 x
          rw [List.length_append]
          refine ⟨by omega, fun w => ?_⟩
          have w1 := a2 (by omega)
          rw [b2 (by rw [w1, List.length_append]; omega), w1, List.append_assoc]
        · obtain ⟨s1, s2⟩ := st2 y
          have enx : fi_nx (B 4) (B 6) (nI f) g e (pos + 1) = -1 := nx_none _ _ (fun q q1 q2 x => by
            rcases Nat.lt_or_ge q p1 with w | w
            · exact n1 q (by omega) w x.2
            · have hq : q < e := by omega
              have := ta_no h hl O1 y hi1 q w hq x.2
              have e4 := (h.f (by omega) hq).2.1
              have := (nI_eq (by have := (h.f (by omega) hq).1; omega) (by omega)).mp (e4.symm.trans x.1)
              omega)
          rw [enx, if_pos rfl, List.append_nil, s2, s1]
          exact c1
    · rw [if_neg (fun y => z (hat.mp y))]
      exact ⟨pos, Nat.le_refl _, hs, hO, z, fun q q1 q2 => by omega, hi, fun _ => ⟨rfl, rfl⟩, fun y => absurd y z⟩
end TAK2
