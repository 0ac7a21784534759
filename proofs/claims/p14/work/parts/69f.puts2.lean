/-! A RECORD PUT TOGETHER, 5: a field, a group's fields, the record. -/
section PS
variable {A : Nat → Nat → Int32} {S : Nat → Int64} {I : Nat → Int32} {B : Nat → Nat → Int32} {J : Nat → Int32} {n lw b e N : Nat} {col : Nat → List co_E} {ch : Int64} {wn : Nat → Int32} {T : List as_E} {g : Int32} {lo pos f m : Nat} {s : pu_S} {re : Nat → Int32} {rest : Nat → List co_E}
/-- the columns that are chosen of a field's -/
theorem pr_bit (hS : li_S A I B J n lw) (hx : gx_S A S B n) (hfn : f < n) {c : Nat} (hc : c < 48) : ¬ st_hv (S f &&& ch) (nI c) = 0 ↔ ∃ f0, pr_in A B n ch f f0 ∧ mo_lv (B 3) f0 = c := by
  rw [hv_and hc, hv_bit hc, hx.1.2.1 f c hfn hc]
  constructor
  · rintro ⟨⟨f0, h1, h2, h3, h4⟩, h5⟩
    exact ⟨f0, ⟨h1, h2, by rw [h3]; exact h5, h4⟩, h3⟩
  · rintro ⟨f0, ⟨h1, h2, h3, h4⟩, h5⟩
    exact ⟨⟨f0, h1, h2, h5, h4⟩, by rw [← h5]; exact h3⟩
theorem pr_field (H : pr_H A S I B J n lw b e N ch wn) (hrec : pr_R A S B n b e N col ch wn T m) (hl : wk_lo b e g lo) (hO : wk_O B e g lo pos) (hfg : A 0 f = wk_g B g) (hfn : f < n) (hm : wk_dn A f + m = 16) (hT : T.length ≤ 4096) (hlo : ∀ q, lo ≤ q → q < pos → B 6 q = g → wk_f B q < f) (hi : ∀ q, pos ≤ q → q < e → B 6 q = g → f ≤ wk_f B q) (hev : T = s.2 ++ ev_L B wn e pos g) (hreq : rk_q A n B b e g (wk_g B g)) (hcu : ∀ f0, pr_in A B n ch f f0 → pc_at col s.1 (mo_lv (B 3) f0) (pf_L A B e f0 g lo f (re f0) ++ rest f0) ∧ rs_ok (rl_n A (A 0 f)) (rest f0)) :
    ∃ pos', pos ≤ pos' ∧ wk_O B e g lo pos' ∧ (∀ q, lo ≤ q → q < pos' → B 6 q = g → wk_f B q < f + 1) ∧ (∀ q, pos' ≤ q → q < e → B 6 q = g → f + 1 ≤ wk_f B q) ∧ T = (pu_field A S ch N col (pu_fields A S ch N col m) f s).2 ++ ev_L B wn e pos' g ∧ pr_st A B n ch col f rest s (pu_field A S ch N col (pu_fields A S ch N col m) f s) := by
  have H0 := H
  have hup := pr_up H
  obtain ⟨hS, hx, h, hk, hz, hN, hw⟩ := H
  have hn := hS.1
  have he := h.le
  have hb := ta_lo hl hO
  have hlw := hS.2.2.2.2.2.1
  have hlwn := mo_lv_le (B 3) n
  have hpe := hO.2.1
  have hpl := hO.1
  have hblo : b ≤ lo := by rcases hl with ⟨-, z⟩ | ⟨p, p1, p2, -, z⟩ <;> omega
  obtain ⟨d1, d2, d3, d4, d5⟩ := dl_up hS hx hfn
  obtain ⟨r1, r2, r3, r4⟩ := rl_up hS hx hfn
  have below : ∀ pos', pos ≤ pos' → (∀ q, pos ≤ q → q < pos' → B 6 q = g → wk_f B q = f) → ∀ q, lo ≤ q → q < pos' → B 6 q = g → wk_f B q < f + 1 := fun pos' l1 m1 q q1 q2 q3 => by
    rcases Nat.lt_or_ge q pos with y | y
    · have := hlo q q1 y q3; omega
    · have := m1 q y q2 q3; omega
  have above : ∀ pos', pos ≤ pos' → wk_O B e g lo pos' → ¬ ta_hit B e f pos' → ∀ q, pos' ≤ q → q < e → B 6 q = g → f + 1 ≤ wk_f B q := fun pos' l1 O1 n1 => ta_no h hl O1 n1 (fun q q1 q2 q3 => hi q (by omega) q2 q3)
  have before : ∀ q, lo ≤ q → q < pos → ¬ (B 4 q = nI f ∧ B 6 q = g) := fun q q1 q2 x => by
    have := hlo q q1 q2 x.2
    have e4 := (h.f (show b ≤ q by omega) (show q < e by omega)).2.1
    have := (nI_eq (by have := (h.f (show b ≤ q by omega) (show q < e by omega)).1; omega) (by omega)).mp (e4.symm.trans x.1)
    omega
  unfold pu_field
  by_cases z : st_lo (S f &&& ch) 48 0 = -1
  · rw [if_pos z]
    have none : ∀ f0, ¬ pr_in A B n ch f f0 := fun f0 h0 => by
      have hlv := mo_lv_le (B 3) f0
      have h1 := h0.1
      exact (pr_bit hS hx hfn (show mo_lv (B 3) f0 < 48 by omega)).mpr ⟨f0, h0, rfl⟩ (lo_no 48 0 (by omega) z _ (Nat.zero_le _) (by omega))
    have hw0 : wn f = 0 := Decidable.of_not_not (fun y => by
      obtain ⟨f0, h0⟩ := (hw f hfn).mp y
      exact none f0 h0)
    obtain ⟨p1, l1, O1, n1, m1, e1⟩ := wk_pass h hup hl hfg hw0 e pos (by omega) hO hi
    refine ⟨p1, l1, O1, below p1 l1 m1, above p1 l1 O1 n1, ?_, fun f0 h0 => absurd h0 (none f0), fun _ _ _ _ => rfl⟩
    rw [hev, e1]
  · rw [if_neg z]
    obtain ⟨cg, hcg, ecg, bcg⟩ := lo_yes 48 0 (by omega) z
    obtain ⟨fg, hgd, elv⟩ := (pr_bit hS hx hfn hcg).mp bcg
    have hlvg := mlv_lt hgd.1 hgd.2.1
    rw [ecg, ← elv]
    by_cases y : ta_hit B e f pos
    · have hpe2 := y.1
      have hg := ta_g h hl hO y hfg
      have hf1 := (h.f hb y.1).2.1
      rw [y.2] at hf1
      have enx : fi_nx (B 4) (B 6) (nI f) g e lo = nI pos := nx_hit hf1 hg _ _ hpl (by omega) before
      obtain ⟨u, eu⟩ : ∃ u, e = u + 1 := ⟨e - 1, by omega⟩
      have hcu1 : ∀ f0, pr_in A B n ch f f0 → pc_at col s.1 (mo_lv (B 3) f0) (pe_L A B e f0 f pos (re f0) ++ ((if fi_nx (B 4) (B 6) (nI f) g e (pos + 1) = -1 then [] else ps_L A B e f0 g f u (fi_nx (B 4) (B 6) (nI f) g e (pos + 1)).toNatClampNeg (A 3 f)) ++ rest f0)) := fun f0 h0 => by
        have h1 := (hcu f0 h0).1
        rw [pf_eq, enx, if_neg (nI_nm1 (by omega)), nI_clamp (by omega)] at h1
        have e2 : ps_L A B e f0 g f e pos (re f0) = ps_L A B e f0 g f (u + 1) pos (re f0) := by rw [← eu]
        rw [e2, ps_eq, List.append_assoc] at h1
        exact h1
      have hpk : ¬ pu_peek N col s.1 (nI (mo_lv (B 3) fg)) 1 < A 4 f := by
        obtain ⟨k, v, tl, e1, e2, e3, -⟩ := pe_hd hS hx h hk.1 hgd.1 hgd.2.1 (by omega) _ f hgd.2.2.2 rfl pos (re fg) hb hpe2
        have h1 := hcu1 fg hgd
        rw [e1] at h1
        rw [pc_rd (by omega) (by omega) h1 (Or.inr (Or.inl rfl)), d1]
        exact nI_nlt e2 (by omega)
      rw [if_neg hpk]
      obtain ⟨p1, l1, O1, n1, ev1, st1⟩ := pr_occ (re := re) (rest := fun f0 => (if fi_nx (B 4) (B 6) (nI f) g e (pos + 1) = -1 then [] else ps_L A B e f0 g f u (fi_nx (B 4) (B 6) (nI f) g e (pos + 1)).toNatClampNeg (A 3 f)) ++ rest f0) H0 hrec hl hO y hfg hfn hm hT hev ⟨fg, hgd⟩ (fun f0 h0 => ⟨hcu1 f0 h0, by
        show rs_ok _ ((if fi_nx (B 4) (B 6) (nI f) g e (pos + 1) = -1 then [] else ps_L A B e f0 g f u (fi_nx (B 4) (B 6) (nI f) g e (pos + 1)).toNatClampNeg (A 3 f)) ++ rest f0)
        rcases nx_spec (ofs := B 4) (aro := B 6) (w := nI f) (ins := g) (e := e) (k := pos + 1) with x | ⟨q', q1, q2, x, x4, x6⟩
        · rw [x, if_pos rfl]
          exact (hcu f0 h0).2.le r3
        · rw [x, if_neg (nI_nm1 (by omega)), nI_clamp (by omega)]
          obtain ⟨k', v', t', x1, -⟩ := ps_hd hS hx h hk.1 hfn (f0 := f0) (d := dl_n A (nI f)) (fun p re hb' hp' => pe_hd hS hx h hk.1 h0.1 h0.2.1 (by omega) _ f h0.2.2.2 rfl p re hb' hp') u q' (A 3 f) (by omega) q2 (by omega) x4 x6
          rw [x1]
          intro en tt ett
          cases ett
          exact ⟨_, r1, Nat.le_refl _⟩⟩)
      have hp1e := O1.2.1
      have hi1 : ∀ q, p1 ≤ q → q < e → B 6 q = g → f ≤ wk_f B q := fun q q1 q2 q3 => hi q (by omega) q2 q3
      have hc1 : ∀ f0, pr_in A B n ch f f0 → (ta_hit B e f p1 → pc_at col (pu_occ A N col (pu_fields A S ch N col m) f s).1 (mo_lv (B 3) f0) (ps_L A B e f0 g f u p1 (A 3 f) ++ rest f0)) ∧ (¬ ta_hit B e f p1 → pc_at col (pu_occ A N col (pu_fields A S ch N col m) f s).1 (mo_lv (B 3) f0) (rest f0)) := by
        intro f0 h0
        have hst : pc_at col (pu_occ A N col (pu_fields A S ch N col m) f s).1 (mo_lv (B 3) f0) ((if fi_nx (B 4) (B 6) (nI f) g e (pos + 1) = -1 then [] else ps_L A B e f0 g f u (fi_nx (B 4) (B 6) (nI f) g e (pos + 1)).toNatClampNeg (A 3 f)) ++ rest f0) := st1.1 f0 h0
        refine ⟨fun x => ?_, fun x => ?_⟩
        · have hg1 := ta_g h hl O1 x hfg
          have hf1 := (h.f (by omega) x.1).2.1
          rw [x.2] at hf1
          have enx : fi_nx (B 4) (B 6) (nI f) g e (pos + 1) = nI p1 := nx_hit hf1 hg1 _ _ (by omega) (by have := x.1; omega) (fun q q1 q2 w => n1 q (by omega) q2 w.2)
          rw [enx, if_neg (nI_nm1 (by omega)), nI_clamp (by omega)] at hst
          exact hst
        · have enx : fi_nx (B 4) (B 6) (nI f) g e (pos + 1) = -1 := nx_none _ _ (fun q q1 q2 v => by
            rcases Nat.lt_or_ge q p1 with w | w
            · exact n1 q (by omega) w v.2
            · have hq : q < e := by omega
              have := ta_no h hl O1 x hi1 q w hq v.2
              have e4 := (h.f (by omega) hq).2.1
              have := (nI_eq (by have := (h.f (by omega) hq).1; omega) (by omega)).mp (e4.symm.trans v.1)
              omega)
          rw [enx, if_pos rfl] at hst
          exact hst
      have h2 : ta_hit B e f p1 → A 1 f = 2 := fun x => by
        have hg1 := ta_g h hl O1 x hfg
        have := (hk.1 pos p1 hb l1 x.1 (hg.trans hg1.symm)).2 (y.2.trans x.2.symm)
        rw [y.2] at this
        exact this
      obtain ⟨p2, l2, O2, n2, m2, ev2, st2⟩ := pr_rep (rest := rest) H0 hrec hl hfg hfn hm hT hgd (fun f0 h0 => (hcu f0 h0).2) 2047 p1 u _ (by omega) (by omega) O1 hi1 h2 ev1 hc1
      refine ⟨p2, by omega, O2, below p2 (by omega) (fun q q1 q2 q3 => ?_), above p2 (by omega) O2 n2, ev2, st2.1, fun f0 x1 x2 x3 => (st2.2 f0 x1 x2 x3).trans (st1.2 f0 x1 x2 x3)⟩
      rcases Nat.lt_or_ge q p1 with w | w
      · by_cases x : q = pos
        · rw [x]; exact y.2
        · exact absurd q3 (n1 q (by omega) w)
      · exact m2 q w q2 q3
    · have after := above pos (Nat.le_refl _) hO y
      have enx : fi_nx (B 4) (B 6) (nI f) g e lo = -1 := nx_none _ _ (fun q q1 q2 x => by
        rcases Nat.lt_or_ge q pos with w | w
        · exact before q q1 w x
        · have hq : q < e := by omega
          have := after q w hq x.2
          have e4 := (h.f (show b ≤ q by omega) hq).2.1
          have := (nI_eq (by have := (h.f (show b ≤ q by omega) hq).1; omega) (by omega)).mp (e4.symm.trans x.1)
          omega)
      have hopt : ¬ A 1 f = 0 := fun x => by
        obtain ⟨t, t1, t2, t3, t4⟩ := hreq f hfn hfg x
        have ht : lo ≤ t := by
          rcases hl with ⟨w, w2⟩ | ⟨p, p1, p2, p3, p4⟩
          · omega
          · rcases h.d t t1 t2 with v | ⟨v, v1, v2, v3⟩
            · exact absurd (p3.symm.trans (t4.symm.trans v)) (nI_nm1 (by omega))
            · have := (nI_eq (by omega) (by omega)).mp (p3.symm.trans (t4.symm.trans v3))
              omega
        rcases Nat.lt_or_ge t pos with w | w
        · exact before t ht w ⟨t3, t4⟩
        · have h1 := after t w t2 t4
          have ef : wk_f B t = f := by unfold wk_f; rw [t3, nI_clamp (by omega)]
          omega
      have hcu1 : ∀ f0, pr_in A B n ch f f0 → pc_at col s.1 (mo_lv (B 3) f0) ((re f0, nI (dl_n A (A 0 f)), 0) :: rest f0) := fun f0 h0 => by
        have h1 := (hcu f0 h0).1
        rw [pf_eq, enx, if_pos rfl, d5] at h1
        exact h1
      have hpk : pu_peek N col s.1 (nI (mo_lv (B 3) fg)) 1 < A 4 f := by
        rw [pc_rd (by omega) (by omega) (hcu1 fg hgd) (Or.inr (Or.inl rfl)), d1]
        have := d4 hopt
        exact nI_lt (show dl_n A (A 0 f) < dl_n A (nI f) by omega) (by omega)
      rw [if_pos hpk]
      refine ⟨pos, Nat.le_refl _, hO, below pos (Nat.le_refl _) (fun q q1 q2 => by omega), after, hev, fun f0 h0 => ?_, fun f0 x1 x2 x3 => ?_⟩
      · have hlv := mo_lv_le (B 3) f0
        have h1 := h0.1
        refine pc_next (hcu1 f0 h0) ?_
        show pu_pall (S f &&& ch) 48 0 s.1 (mo_lv (B 3) f0) = _
        rw [pall_at 48 0 s.1 (by omega), if_pos ⟨Nat.zero_le _, by omega, (pr_bit hS hx hfn (by omega)).mpr ⟨f0, h0, rfl⟩⟩]
      · have hlv := mo_lv_le (B 3) f0
        show pu_pall (S f &&& ch) 48 0 s.1 (mo_lv (B 3) f0) = _
        rw [pall_at 48 0 s.1 (by omega), if_neg (fun w => ?_)]
        obtain ⟨f2, w1, w2⟩ := (pr_bit hS hx hfn (by omega)).mp w.2.2
        have := lv_inj w1.2.1 x2 w2
        subst this
        exact x3 w1.2.2.2
/-- the fields of the group g, from f on -/
theorem pr_loop {hi : Nat} {gq : Int32} (H : pr_H A S I B J n lw b e N ch wn) (hrec : pr_R A S B n b e N col ch wn T m) (hl : wk_lo b e g lo) (hgq : gq = wk_g B g) (hhi : hi ≤ n) (hdep : ∀ f, f < n → A 0 f = gq → wk_dn A f + m = 16) (hT : T.length ≤ 4096) (hreq : rk_q A n B b e g (wk_g B g)) : ∀ (t f pos : Nat) (s : pu_S), f + t = hi → wk_O B e g lo pos → (∀ q, lo ≤ q → q < pos → B 6 q = g → wk_f B q < f) → (∀ q, pos ≤ q → q < e → B 6 q = g → f ≤ wk_f B q) → T = s.2 ++ ev_L B wn e pos g → (∀ f1, f ≤ f1 → f1 < hi → A 0 f1 = gq → ∀ f0, pr_in A B n ch f1 f0 → pc_at col s.1 (mo_lv (B 3) f0) (pf_L A B e f0 g lo f1 (re f0) ++ rest f0) ∧ rs_ok (rl_n A gq) (rest f0)) →
    ∃ pos', pos ≤ pos' ∧ wk_O B e g lo pos' ∧ (∀ q, pos' ≤ q → q < e → B 6 q = g → hi ≤ wk_f B q) ∧ T = (pu_loop A S ch N col (pu_fields A S ch N col m) gq t f s).2 ++ ev_L B wn e pos' g ∧ (∀ f1, f ≤ f1 → f1 < hi → A 0 f1 = gq → ∀ f0, pr_in A B n ch f1 f0 → pc_at col (pu_loop A S ch N col (pu_fields A S ch N col m) gq t f s).1 (mo_lv (B 3) f0) (rest f0)) ∧ (∀ f0, f0 < n → B 3 f0 = 0 → (∀ f1, f ≤ f1 → f1 < hi → A 0 f1 = gq → ¬ ta_an A f0 f1) → (pu_loop A S ch N col (pu_fields A S ch N col m) gq t f s).1 (mo_lv (B 3) f0) = s.1 (mo_lv (B 3) f0)) := by
  have H0 := H
  obtain ⟨hS, hx, h, hk, hz, hN, hw⟩ := H
  have hn := hS.1
  have uniq : ∀ f0, f0 < n → B 3 f0 = 0 → ∀ f1 f2, f1 < n → f2 < n → A 0 f1 = gq → A 0 f2 = gq → ta_an A f0 f1 → ta_an A f0 f2 → f1 = f2 := fun f0 x1 x2 f1 f2 y1 y2 y3 y4 y5 y6 => ta_uniq (ta_mkP hS hx x1 x2) hn y5 y6 (by have := hdep f1 y1 y3; have := hdep f2 y2 y4; omega)
  intro t
  induction t with
  | zero =>
    intro f pos s hf hO hlo hi' hev hcu
    exact ⟨pos, Nat.le_refl _, hO, fun q q1 q2 q3 => by have := hi' q q1 q2 q3; omega, hev, fun f1 a1 a2 => by omega, fun _ _ _ _ => rfl⟩
  | succ t ih =>
    intro f pos s hf hO hlo hi' hev hcu
    have hfn : f < n := by omega
    have eS : pu_loop A S ch N col (pu_fields A S ch N col m) gq (t + 1) f s = pu_loop A S ch N col (pu_fields A S ch N col m) gq t (f + 1) (if A 0 f = gq then pu_field A S ch N col (pu_fields A S ch N col m) f s else s) := rfl
    rw [eS]
    by_cases z : A 0 f = gq
    · rw [if_pos z]
      obtain ⟨p1, l1, O1, lo1, hi1, ev1, st1⟩ := pr_field (re := re) (rest := rest) H0 hrec hl hO (z.trans hgq) hfn (hdep f hfn z) hT hlo hi' hev hreq (fun f0 h0 => by
        rw [z]; exact hcu f (Nat.le_refl _) (by omega) z f0 h0)
      have hcu1 : ∀ f1, f + 1 ≤ f1 → f1 < hi → A 0 f1 = gq → ∀ f0, pr_in A B n ch f1 f0 → pc_at col (pu_field A S ch N col (pu_fields A S ch N col m) f s).1 (mo_lv (B 3) f0) (pf_L A B e f0 g lo f1 (re f0) ++ rest f0) ∧ rs_ok (rl_n A gq) (rest f0) := fun f1 a1 a2 a3 f0 h0 => by
        obtain ⟨c1, c2⟩ := hcu f1 (by omega) a2 a3 f0 h0
        refine ⟨pc_cg c1 (st1.2 f0 h0.1 h0.2.1 (fun y => ?_)), c2⟩
        have := uniq f0 h0.1 h0.2.1 f f1 hfn (by omega) z a3 y h0.2.2.2
        omega
      obtain ⟨p2, l2, O2, hi2, ev2, c2, d2⟩ := ih (f + 1) p1 _ (by omega) O1 lo1 hi1 ev1 hcu1
      refine ⟨p2, by omega, O2, hi2, ev2, fun f1 a1 a2 a3 f0 h0 => ?_, fun f0 x1 x2 x3 => ?_⟩
      · by_cases y : f1 = f
        · subst y
          refine pc_cg (st1.1 f0 h0) (d2 f0 h0.1 h0.2.1 (fun f2 b1 b2 b3 b4 => ?_))
          have := uniq f0 h0.1 h0.2.1 f1 f2 hfn (by omega) z b3 h0.2.2.2 b4
          omega
        · exact c2 f1 (by omega) a2 a3 f0 h0
      · rw [d2 f0 x1 x2 (fun f1 a1 a2 a3 => x3 f1 (by omega) a2 a3)]
        exact st1.2 f0 x1 x2 (x3 f (Nat.le_refl _) (by omega) z)
    · rw [if_neg z]
      have hi1 : ∀ q, pos ≤ q → q < e → B 6 q = g → f + 1 ≤ wk_f B q := fun q q1 q2 q3 => by
        have h1 := hi' q q1 q2 q3
        rcases Nat.lt_or_ge f (wk_f B q) with y | y
        · exact y
        · exfalso
          have h2 := (h.f (by have := ta_lo hl hO; omega) q2).2.2.1
          rw [show wk_f B q = f by omega, q3] at h2
          exact z (h2.trans hgq.symm)
      obtain ⟨p2, l2, O2, hi2, ev2, c2, d2⟩ := ih (f + 1) pos s (by omega) hO (fun q q1 q2 q3 => by have := hlo q q1 q2 q3; omega) hi1 hev (fun f1 a1 a2 a3 => hcu f1 (by omega) a2 a3)
      refine ⟨p2, l2, O2, hi2, ev2, fun f1 a1 a2 a3 f0 h0 => ?_, fun f0 x1 x2 x3 => d2 f0 x1 x2 (fun f1 a1 a2 a3 => x3 f1 (by omega) a2 a3)⟩
      refine c2 f1 ?_ a2 a3 f0 h0
      rcases Nat.lt_or_ge f f1 with y | y
      · exact y
      · exact absurd (by rw [show f = f1 by omega]; exact a3) z
/-- putFields on a group's occurrence -/
theorem pr_fields (H : pr_H A S I B J n lw b e N ch wn) (hT : T.length ≤ 4096) : ∀ m, pr_R A S B n b e N col ch wn T m := by
  have H0 := H
  obtain ⟨hS, hx, h, hk, hz, hN, hw⟩ := H
  have hn := hS.1
  have hup := hS.2.2.2.2.2.2.1
  have hde := hS.2.2.2.2.2.2.2.1
  have hE := hS.2.2.2.2.2.2.2.2.2.2
  have he := h.le
  have kid : ∀ w f0, ¬ B 3 w = 0 → pr_in A B n ch w f0 → ∃ f1, ta_an A f0 f1 ∧ A 0 f1 = nI w ∧ f1 < n := fun w f0 z y => by
    rcases ta_kid hup hn 48 f0 w y.1 (li_en_48 hup hn y.1) y.2.2.2 with x | ⟨f1, x1, x2⟩
    · rw [← x] at z; exact absurd y.2.1 z
    · have := li_an_of_le hup hn 48 f0 f1 y.1 x1
      have := y.1
      exact ⟨f1, x1, x2, by omega⟩
  intro m
  induction m with
  | zero =>
    intro p w s re rest p1 p2 p3 hwn h3 hm hev hcu
    refine ⟨p + 1, wk_in h p1 p2 (by rw [p3]; exact h3), fun q1 q2 => ?_, hev, fun f0 h0 => ?_, fun _ _ _ _ => rfl⟩
    · obtain ⟨f1, f2, f3, f4⟩ := h.f (show b ≤ p + 1 by omega) q1
      rw [q2] at f3
      unfold wk_g at f3
      rw [if_neg (nI_nm1 (by omega)), nI_clamp (by omega), (h.f p1 p2).2.1, p3] at f3
      have := ta_dn hn hde f1 f3 hwn
      omega
    · obtain ⟨f1, a1, a2, a3⟩ := kid w f0 h3 h0
      have := ta_dn hn hde a3 a2 hwn
      omega
  | succ m ih =>
    intro p w s re rest p1 p2 p3 hwn h3 hm hev hcu
    obtain ⟨ew, e1, e2, e3, -, -, e6⟩ := hE w hwn
    have eS : pu_fields A S ch N col (m + 1) w s = pu_loop A S ch N col (pu_fields A S ch N col m) (nI w) ((A 6 w).toNatClampNeg - (w + 1)) (w + 1) s := rfl
    rw [eS, e1, nI_clamp (by omega)]
    have hf4 := (h.f p1 p2).2.1
    rw [p3] at hf4
    have hgp : nI w = wk_g B (nI p) := by
      unfold wk_g
      rw [if_neg (nI_nm1 (by omega)), nI_clamp (by omega), hf4]
    have hreq : rk_q A n B b e (nI p) (wk_g B (nI p)) := by
      have := hk.2.2 p p1 p2 (by rw [p3]; exact h3)
      rw [hf4, hgp] at this
      exact this
    have hcu1 : ∀ f1, w + 1 ≤ f1 → f1 < ew → A 0 f1 = nI w → ∀ f0, pr_in A B n ch f1 f0 → pc_at col s.1 (mo_lv (B 3) f0) (pf_L A B e f0 (nI p) (p + 1) f1 (re f0) ++ rest f0) ∧ rs_ok (rl_n A (nI w)) (rest f0) := fun f1 a1 a2 a3 f0 h0 => by
      have hpa : ta_an A f0 w := li_an_par (by omega) a3 48 (nI f0) (li_en_48 hup hn h0.1) h0.2.2.2
      have ex : pf_L A B e f0 (nI p) (p + 1) f1 (re f0) = pe_L A B e f0 w p (re f0) := ta_next (ta_mkP hS hx h0.1 h0.2.1) hn hde h0.2.2.2 hpa a3
      rw [ex]
      exact hcu f0 ⟨h0.1, h0.2.1, h0.2.2.1, hpa⟩
    obtain ⟨pos', l1, r2, r3, r4, r5, r6⟩ := pr_loop (lo := p + 1) (hi := ew) (re := re) (rest := rest) H0 ih (Or.inr ⟨p, p1, p2, rfl, rfl⟩) hgp e3 (fun f hf hp => by have := ta_dn hn hde hf hp hwn; omega) hT hreq (ew - (w + 1)) (w + 1) (p + 1) s (by omega) (wk_in h p1 p2 (by rw [p3]; exact h3)) (fun q q1 q2 => by omega) (fun q q1 q2 q3 => by
      obtain ⟨f1, f2, f3, f4⟩ := h.f (show b ≤ q by omega) q2
      rw [q3, ← hgp] at f3
      have := ta_dn hn hde f1 f3 hwn
      omega) hev hcu1
    refine ⟨pos', r2, fun q1 q2 => ?_, r4, fun f0 h0 => ?_, fun f0 x1 x2 x3 => ?_⟩
    · obtain ⟨f1, f2, f3, f4⟩ := h.f (show b ≤ pos' by omega) q1
      have h1 := r3 pos' (Nat.le_refl _) q1 q2
      rw [q2, ← hgp] at f3
      have := e6 (wk_f B pos') f1 f3
      omega
    · obtain ⟨f1, a1, a2, a3⟩ := kid w f0 h3 h0
      have hd := ta_dn hn hde a3 a2 hwn
      exact r5 f1 (by omega) (e6 f1 a3 a2) a2 f0 ⟨h0.1, h0.2.1, h0.2.2.1, a1⟩
    · refine r6 f0 x1 x2 (fun f1 a1 a2 a3 a4 => x3 ?_)
      exact li_an_par (by omega) a3 48 (nI f0) (li_en_48 hup hn x1) a4
/-- a record put together: all that the reference tells of it -/
theorem pr_all (H : pr_H A S I B J n lw b e N ch wn) (hbe : b ≤ e) (hT : (ev_L B wn e b (-1)).length ≤ 4096) {C : Nat → Int32} (hcu : ∀ f0, f0 < n → B 3 f0 = 0 → ¬ st_hv ch (nI (mo_lv (B 3) f0)) = 0 → pc_at col C (mo_lv (B 3) f0) (fi_rec (B 4) (B 6) (B 5) (wy_W A f0) (wy_D A f0) (wy_R A f0) (wk_dn A f0) b e ++ rest f0) ∧ rs_ok 0 (rest f0)) : (pu_all A S ch N n col (C, [])).2 = ev_L B wn e b (-1) := by
  have H0 := H
  obtain ⟨hS, hx, h, hk, hz, hN, hw⟩ := H
  have hn := hS.1
  have hup := hS.2.2.2.2.2.2.1
  have hde := hS.2.2.2.2.2.2.2.1
  have he := h.le
  have hO : wk_O B e (-1) b b := ⟨Nat.le_refl _, by omega, fun z => by rw [h.2.1.2.1 z]; exact rc_rf _, fun q q1 q2 => by omega⟩
  have hcu1 : ∀ f1, 0 ≤ f1 → f1 < n → A 0 f1 = -1 → ∀ f0, pr_in A B n ch f1 f0 → pc_at col C (mo_lv (B 3) f0) (pf_L A B e f0 (-1) b f1 0 ++ rest f0) ∧ rs_ok (rl_n A (-1)) (rest f0) := fun f1 _ a2 a3 f0 h0 => by
    obtain ⟨c1, c2⟩ := hcu f0 h0.1 h0.2.1 h0.2.2.1
    obtain ⟨-, -, -, t7, -⟩ := ta_mkP hS hx h0.1 h0.2.1
    have hd1 := ta_dn0 hn hde a2 a3
    obtain ⟨x1, x2, x3, x4, x5⟩ := t7 f1 h0.2.2.2
    have eL : pf_L A B e f0 (-1) b f1 0 = fi_rec (B 4) (B 6) (B 5) (wy_W A f0) (wy_D A f0) (wy_R A f0) (wk_dn A f0) b e := by
      unfold pf_L ta_fe fi_rec
      rw [hd1] at x1 x3
      rw [hd1, a3, ← x1, ← x3]
      rfl
    rw [eL]
    exact ⟨c1, c2⟩
  obtain ⟨pos', l1, O1, hi1, ev1, -⟩ := pr_loop (g := -1) (gq := -1) (lo := b) (hi := n) (m := 15) (re := fun _ => 0) (rest := rest) (T := ev_L B wn e b (-1)) (col := col) H0 (pr_fields H0 hT 15) (Or.inl ⟨rfl, rfl⟩) rfl (Nat.le_refl _) (fun f hf hp => by rw [ta_dn0 hn hde hf hp]) hT hk.2.1 n 0 b (C, []) (by omega) hO (fun q q1 q2 => by omega) (fun q q1 q2 q3 => Nat.zero_le _) rfl hcu1
  have hpe : pos' = e := by
    have h1 := O1.2.1
    rcases Nat.lt_or_ge pos' e with z | z
    · exfalso
      have h2 := O1.2.2.1 z
      have h3 : B 6 pos' = -1 := by
        rcases h2 with y | ⟨q, q1, q2, -⟩
        · exact y.symm
        · exact absurd q2.symm (nI_nm1 (by omega))
      have h4 := hi1 pos' (Nat.le_refl _) z h3
      have h5 := (h.f (by omega) z).1
      omega
    · omega
  subst hpe
  have e0 : ev_L B wn pos' pos' (-1) = [] := by
    unfold ev_L
    rw [Nat.sub_self]
    show as_pp (B 4) (B 6) (-1) 2048 (-1) = []
    exact if_pos rfl
  rw [e0, List.append_nil] at ev1
  exact ev1.symm
end PS
