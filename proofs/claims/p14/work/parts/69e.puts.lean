/-! A RECORD PUT TOGETHER, 4: what putFields tells is what the reference tells. -/
/-- leaf f0 is chosen, and lies in f -/
def pr_in (A B : Nat → Nat → Int32) (n : Nat) (ch : Int64) (f f0 : Nat) : Prop := f0 < n ∧ B 3 f0 = 0 ∧ ¬ st_hv ch (nI (mo_lv (B 3) f0)) = 0 ∧ ta_an A f0 f
def pr_H (A : Nat → Nat → Int32) (S : Nat → Int64) (I : Nat → Int32) (B : Nat → Nat → Int32) (J : Nat → Int32) (n lw b e N : Nat) (ch : Int64) (wn : Nat → Int32) : Prop := li_S A I B J n lw ∧ gx_S A S B n ∧ wk_P A n B b e ∧ rk_P A n B b e ∧ (∀ t, b ≤ t → t < e → ¬ B 3 (wk_f B t) = 0 → B 5 t = 0) ∧ N = lw ∧ ∀ f, f < n → (¬ wn f = 0 ↔ ∃ f0, pr_in A B n ch f f0)
/-- field f is through: its cursors stand at rest, all others where they were -/
def pr_st (A B : Nat → Nat → Int32) (n : Nat) (ch : Int64) (col : Nat → List co_E) (f : Nat) (rest : Nat → List co_E) (s s' : pu_S) : Prop := (∀ f0, pr_in A B n ch f f0 → pc_at col s'.1 (mo_lv (B 3) f0) (rest f0)) ∧ ∀ f0, f0 < n → B 3 f0 = 0 → ¬ ta_an A f0 f → s'.1 (mo_lv (B 3) f0) = s.1 (mo_lv (B 3) f0)
/-- putFields on an occurrence p of group w -/
def pr_R (A : Nat → Nat → Int32) (S : Nat → Int64) (B : Nat → Nat → Int32) (n b e N : Nat) (col : Nat → List co_E) (ch : Int64) (wn : Nat → Int32) (T : List as_E) (m : Nat) : Prop := ∀ (p w : Nat) (s : pu_S) (re : Nat → Int32) (rest : Nat → List co_E), b ≤ p → p < e → wk_f B p = w → w < n → ¬ B 3 w = 0 → wk_dn A w + m = 16 → T = s.2 ++ ev_L B wn e (p + 1) (nI p) → (∀ f0, pr_in A B n ch w f0 → pc_at col s.1 (mo_lv (B 3) f0) (pe_L A B e f0 w p (re f0) ++ rest f0) ∧ rs_ok (rl_n A (nI w)) (rest f0)) → ∃ pos', wk_O B e (nI p) (p + 1) pos' ∧ (pos' < e → ¬ B 6 pos' = nI p) ∧ T = (pu_fields A S ch N col m w s).2 ++ ev_L B wn e pos' (nI p) ∧ pr_st A B n ch col w rest s (pu_fields A S ch N col m w s)
section PR
variable {A : Nat → Nat → Int32} {S : Nat → Int64} {I : Nat → Int32} {B : Nat → Nat → Int32} {J : Nat → Int32} {n lw b e N : Nat} {col : Nat → List co_E} {ch : Int64} {wn : Nat → Int32} {T : List as_E} {g : Int32} {lo pos f m : Nat} {s : pu_S} {re : Nat → Int32} {rest : Nat → List co_E}
theorem pr_up (H : pr_H A S I B J n lw b e N ch wn) : wn_up B wn b e := by
  obtain ⟨hS, hx, h, hk, hz, hN, hw⟩ := H
  have hn := hS.1
  have hup := hS.2.2.2.2.2.2.1
  intro q q1 q2 q3
  obtain ⟨f1, f2, f3, f4⟩ := h.f q1 q2
  obtain ⟨f0, p1, p2, p3, p4⟩ := (hw _ f1).mp q3
  obtain ⟨w, hw1, e4, z⟩ := h.2.1.1 q q1 q2
  have ew : wk_f B q = w := by unfold wk_f; rw [e4, nI_clamp (by omega)]
  rcases z with ⟨z, -⟩ | ⟨p, u, u1, u2, u3, u4, u5, u6⟩
  · exact Or.inl z
  · refine Or.inr ⟨p, u1, u2, u3, ?_⟩
    have eu : wk_f B p = u := by unfold wk_f; rw [u4, nI_clamp (by omega)]
    rw [eu]
    rw [ew] at p4
    exact (hw u u5).mpr ⟨f0, p1, p2, p3, li_an_par (by omega) u6 48 (nI f0) (li_en_48 hup hn p1) p4⟩
/-- a leaf lies in no leaf but itself -/
theorem pr_leaf (hS : li_S A I B J n lw) (hx : gx_S A S B n) {f f0 : Nat} (hf : f < n) (h3 : B 3 f = 0) (hf0 : f0 < n) (h : ta_an A f0 f) : f0 = f := by
  have hn := hS.1
  have hup := hS.2.2.2.2.2.2.1
  rcases ta_kid hup hn 48 f0 f hf0 (li_en_48 hup hn hf0) h with x | ⟨u, u1, u2⟩
  · exact x
  · have := li_an_of_le hup hn 48 f0 u hf0 u1
    exact absurd h3 (hx.2 u f (by omega) u2 hf)
/-- one occurrence -/
theorem pr_occ (H : pr_H A S I B J n lw b e N ch wn) (hrec : pr_R A S B n b e N col ch wn T m) (hl : wk_lo b e g lo) (hO : wk_O B e g lo pos) (hh : ta_hit B e f pos) (hfg : A 0 f = wk_g B g) (hfn : f < n) (hm : wk_dn A f + m = 16) (hT : T.length ≤ 4096) (hev : T = s.2 ++ ev_L B wn e pos g) (hin : ∃ f0, pr_in A B n ch f f0) (hcu : ∀ f0, pr_in A B n ch f f0 → pc_at col s.1 (mo_lv (B 3) f0) (pe_L A B e f0 f pos (re f0) ++ rest f0) ∧ rs_ok (rl_n A (nI f)) (rest f0)) :
    ∃ pos', pos < pos' ∧ wk_O B e g lo pos' ∧ (∀ q, pos < q → q < pos' → ¬ B 6 q = g) ∧ T = (pu_occ A N col (pu_fields A S ch N col m) f s).2 ++ ev_L B wn e pos' g ∧ pr_st A B n ch col f rest s (pu_occ A N col (pu_fields A S ch N col m) f s) := by
  have hup := pr_up H
  obtain ⟨hS, hx, h, hk, hz, hN, hw⟩ := H
  have hn := hS.1
  have he := h.le
  have hb := ta_lo hl hO
  have hg := ta_g h hl hO hh hfg
  have hpe := hh.1
  have hf4 := (h.f hb hpe).2.1
  rw [hh.2] at hf4
  have hwn : ¬ wn (wk_f B pos) = 0 := by rw [hh.2]; exact (hw f hfn).mpr hin
  rw [ev_yes hpe hwn, hg, show as_pp (B 4) (B 6) g 2048 g = [] from if_pos rfl, List.nil_append, hh.2, hf4] at hev
  unfold pu_occ
  by_cases z : B 3 f = 0
  · have a5 : A 5 f = nI (mo_lv (B 3) f) := by
      have := hS.2.2.2.2.2.2.2.2.2.1 f hfn
      rw [if_pos z] at this
      exact this
    have hlv := mo_lv_le (B 3) f
    have hlv2 := mlv_lt hfn z
    have hlw := hS.2.2.2.2.2.1
    have hlwn := mo_lv_le (B 3) n
    rw [if_neg (by rw [a5]; exact nI_nm1 (by omega)), a5]
    rw [if_pos z] at hev
    have hff : pr_in A B n ch f f := by
      obtain ⟨f0, p1, p2, p3, p4⟩ := hin
      have := pr_leaf hS hx hfn z p1 p4
      subst this
      exact ⟨p1, p2, p3, p4⟩
    obtain ⟨c1, c2⟩ := hcu f hff
    have eL : pe_L A B e f f pos (re f) = [(re f, A 4 f, B 5 pos)] := by
      unfold pe_L ta_en
      rw [Nat.sub_self]
      show [(re f, wy_D A f (wk_dn A f - 1), B 5 pos)] = _
      obtain ⟨-, -, -, t7, -⟩ := ta_mkP hS hx hfn z
      rw [(t7 f hff.2.2.2).2.1]
    rw [eL] at c1
    have hpk : pu_peek N col s.1 (nI (mo_lv (B 3) f)) 2 = B 5 pos := pc_rd (by omega) (by omega) c1 (Or.inr (Or.inr rfl))
    rw [hpk]
    refine ⟨pos + 1, by omega, wk_leaf h hl hO hpe hg (by rw [hh.2]; exact z), fun q q1 q2 => by omega, (es_ad_ok hev hT).2, fun f0 h0 => ?_, fun f0 h1 h2 h3 => ?_⟩
    · have := pr_leaf hS hx hfn z h0.1 h0.2.2.2
      subst this
      exact pc_next c1 ((pass_at (by omega)).trans (if_pos rfl))
    · show pu_pass s.1 (nI (mo_lv (B 3) f)) (mo_lv (B 3) f0) = _
      rw [pass_at (by omega), if_neg (fun y => h3 ?_)]
      rw [lv_inj h2 z y]
      exact ⟨nI_nm1 (by omega), Or.inl (nI_clamp (by omega))⟩
  · rw [if_pos ((li_grp hS hfn).mpr z)]
    rw [if_neg z, hz pos hb hpe (by rw [hh.2]; exact z)] at hev
    obtain ⟨x1, x2⟩ := es_ad_ok hev hT
    obtain ⟨pos', r2, r3, r4, r5⟩ := hrec pos f (s.1, es_ad s.2 (2 * nI f, 0)) re rest hb hpe hh.2 hfn z hm x2 hcu
    have hO2 := wk_out h hl hO hpe hg r2 r3
    rw [ev_pop h hb hpe hg (e - pos') pos' (by have := r2.2.1; omega) (ev_K h hup hl hO2), hf4] at r4
    obtain ⟨y1, y2⟩ := es_ad_ok r4 hT
    refine ⟨pos', by have := r2.1; omega, hO2, fun q q1 q2 y => ?_, y2, r5.1, r5.2⟩
    have hgv : g = -1 ∨ ∃ p, p < lo ∧ p < e ∧ g = nI p := by
      rcases hl with ⟨x, -⟩ | ⟨p, p1, p2, x, x2⟩
      · exact Or.inl x
      · exact Or.inr ⟨p, by omega, p2, x⟩
    have hlo := hO.1
    have hpe2 := r2.2.1
    rcases r2.2.2.2 q (by omega) q2 with x | ⟨u, u1, u2, x⟩
    · rcases hgv with w | ⟨p, p1, p2, w⟩
      · exact nI_nm1 (by omega) (x.symm.trans (y.trans w))
      · have := (nI_eq (by omega) (by omega)).mp (x.symm.trans (y.trans w))
        omega
    · rcases hgv with w | ⟨p, p1, p2, w⟩
      · exact nI_nm1 (by omega) (x.symm.trans (y.trans w))
      · have := (nI_eq (by omega) (by omega)).mp (x.symm.trans (y.trans w))
        omega
/-- the further ones -/
theorem pr_rep (H : pr_H A S I B J n lw b e N ch wn) (hrec : pr_R A S B n b e N col ch wn T m) (hl : wk_lo b e g lo) (hfg : A 0 f = wk_g B g) (hfn : f < n) (hm : wk_dn A f + m = 16) (hT : T.length ≤ 4096) {fg : Nat} (hgd : pr_in A B n ch f fg) (hrs : ∀ f0, pr_in A B n ch f f0 → rs_ok (rl_n A (A 0 f)) (rest f0)) : ∀ (t pos u : Nat) (s : pu_S), e ≤ pos + t → e ≤ pos + u → wk_O B e g lo pos → (∀ q, pos ≤ q → q < e → B 6 q = g → f ≤ wk_f B q) → (ta_hit B e f pos → A 1 f = 2) → T = s.2 ++ ev_L B wn e pos g → (∀ f0, pr_in A B n ch f f0 → (ta_hit B e f pos → pc_at col s.1 (mo_lv (B 3) f0) (ps_L A B e f0 g f u pos (A 3 f) ++ rest f0)) ∧ (¬ ta_hit B e f pos → pc_at col s.1 (mo_lv (B 3) f0) (rest f0))) →
    ∃ pos', pos ≤ pos' ∧ wk_O B e g lo pos' ∧ ¬ ta_hit B e f pos' ∧ (∀ q, pos ≤ q → q < pos' → B 6 q = g → wk_f B q = f) ∧ T = (pu_rep A N col (pu_occ A N col (pu_fields A S ch N col m) f) f (nI (mo_lv (B 3) fg)) t s).2 ++ ev_L B wn e pos' g ∧ pr_st A B n ch col f rest s (pu_rep A N col (pu_occ A N col (pu_fields A S ch N col m) f) f (nI (mo_lv (B 3) fg)) t s) := by
  have H0 := H
  obtain ⟨hS, hx, h, hk, hz, hN, hw⟩ := H
  have hn := hS.1
  have he := h.le
  have hlw := hS.2.2.2.2.2.1
  have hlwn := mo_lv_le (B 3) n
  have hlvg := mlv_lt hgd.1 hgd.2.1
  obtain ⟨r1, r2, r3, r4⟩ := rl_up hS hx hfn
  intro t
  induction t with
  | zero =>
    intro pos u s ht hu hO hi h2 hev hc
    have no : ¬ ta_hit B e f pos := fun z => by have := z.1; omega
    exact ⟨pos, Nat.le_refl _, hO, no, fun q q1 q2 => by omega, hev, fun f0 h0 => (hc f0 h0).2 no, fun _ _ _ _ => rfl⟩
  | succ t ih =>
    intro pos u s ht hu hO hi h2 hev hc
    have hb := ta_lo hl hO
    have eS : pu_rep A N col (pu_occ A N col (pu_fields A S ch N col m) f) f (nI (mo_lv (B 3) fg)) (t + 1) s = if A 1 f = 2 ∧ pu_peek N col s.1 (nI (mo_lv (B 3) fg)) 0 = A 3 f then pu_rep A N col (pu_occ A N col (pu_fields A S ch N col m) f) f (nI (mo_lv (B 3) fg)) t (pu_occ A N col (pu_fields A S ch N col m) f s) else s := rfl
    rw [eS]
    by_cases z : ta_hit B e f pos
    · have a2 := h2 z
      have hpe := z.1
      have hg := ta_g h hl hO z hfg
      obtain ⟨u, rfl⟩ : ∃ v, u = v + 1 := ⟨u - 1, by omega⟩
      have hcu : ∀ f0, pr_in A B n ch f f0 → pc_at col s.1 (mo_lv (B 3) f0) (pe_L A B e f0 f pos (A 3 f) ++ ((if fi_nx (B 4) (B 6) (nI f) g e (pos + 1) = -1 then [] else ps_L A B e f0 g f u (fi_nx (B 4) (B 6) (nI f) g e (pos + 1)).toNatClampNeg (A 3 f)) ++ rest f0)) := fun f0 h0 => by
        have := (hc f0 h0).1 z
        rw [ps_eq, List.append_assoc] at this
        exact this
      have hpk : pu_peek N col s.1 (nI (mo_lv (B 3) fg)) 0 = A 3 f := by
        obtain ⟨k, v, tl, e1, -⟩ := pe_hd hS hx h hk.1 hgd.1 hgd.2.1 (by omega) _ f hgd.2.2.2 rfl pos (A 3 f) hb hpe
        have := hcu fg hgd
        rw [e1] at this
        exact pc_rd (by omega) (by omega) this (Or.inl rfl)
      rw [if_pos ⟨a2, hpk⟩]
      obtain ⟨p1, l1, O1, n1, ev1, st1⟩ := pr_occ (re := fun _ => A 3 f) (rest := fun f0 => (if fi_nx (B 4) (B 6) (nI f) g e (pos + 1) = -1 then [] else ps_L A B e f0 g f u (fi_nx (B 4) (B 6) (nI f) g e (pos + 1)).toNatClampNeg (A 3 f)) ++ rest f0) H0 hrec hl hO z hfg hfn hm hT hev ⟨fg, hgd⟩ (fun f0 h0 => ⟨hcu f0 h0, by
        show rs_ok _ ((if fi_nx (B 4) (B 6) (nI f) g e (pos + 1) = -1 then [] else ps_L A B e f0 g f u (fi_nx (B 4) (B 6) (nI f) g e (pos + 1)).toNatClampNeg (A 3 f)) ++ rest f0)
        rcases nx_spec (ofs := B 4) (aro := B 6) (w := nI f) (ins := g) (e := e) (k := pos + 1) with y | ⟨q', q1, q2, y, y4, y6⟩
        · rw [y, if_pos rfl]
          exact (hrs f0 h0).le r3
        · rw [y, if_neg (nI_nm1 (by omega)), nI_clamp (by omega)]
          obtain ⟨k', v', t', x1, -⟩ := ps_hd hS hx h hk.1 hfn (f0 := f0) (d := dl_n A (nI f)) (fun p re hb' hp' => pe_hd hS hx h hk.1 h0.1 h0.2.1 (by omega) _ f h0.2.2.2 rfl p re hb' hp') u q' (A 3 f) (by omega) q2 (by omega) y4 y6
          rw [x1]
          intro en tt ett
          cases ett
          exact ⟨_, r1, Nat.le_refl _⟩⟩)
      have hi1 : ∀ q, p1 ≤ q → q < e → B 6 q = g → f ≤ wk_f B q := fun q q1 q2 q3 => hi q (by omega) q2 q3
      have hp1e := O1.2.1
      have hc1 : ∀ f0, pr_in A B n ch f f0 → (ta_hit B e f p1 → pc_at col (pu_occ A N col (pu_fields A S ch N col m) f s).1 (mo_lv (B 3) f0) (ps_L A B e f0 g f u p1 (A 3 f) ++ rest f0)) ∧ (¬ ta_hit B e f p1 → pc_at col (pu_occ A N col (pu_fields A S ch N col m) f s).1 (mo_lv (B 3) f0) (rest f0)) := by
        intro f0 h0
        have hst : pc_at col (pu_occ A N col (pu_fields A S ch N col m) f s).1 (mo_lv (B 3) f0) ((if fi_nx (B 4) (B 6) (nI f) g e (pos + 1) = -1 then [] else ps_L A B e f0 g f u (fi_nx (B 4) (B 6) (nI f) g e (pos + 1)).toNatClampNeg (A 3 f)) ++ rest f0) := st1.1 f0 h0
        refine ⟨fun y => ?_, fun y => ?_⟩
        · have hg1 := ta_g h hl O1 y hfg
          have hf1 := (h.f (by omega) y.1).2.1
          rw [y.2] at hf1
          have enx : fi_nx (B 4) (B 6) (nI f) g e (pos + 1) = nI p1 := nx_hit hf1 hg1 _ _ (by omega) (by have := y.1; omega) (fun q q1 q2 x => n1 q (by omega) q2 x.2)
          rw [enx, if_neg (nI_nm1 (by omega)), nI_clamp (by omega)] at hst
          exact hst
        · have enx : fi_nx (B 4) (B 6) (nI f) g e (pos + 1) = -1 := nx_none _ _ (fun q q1 q2 x => by
            rcases Nat.lt_or_ge q p1 with w | w
            · exact n1 q (by omega) w x.2
            · have hq : q < e := by omega
              have := ta_no h hl O1 y hi1 q w hq x.2
              have e4 := (h.f (by omega) hq).2.1
              have := (nI_eq (by have := (h.f (by omega) hq).1; omega) (by omega)).mp (e4.symm.trans x.1)
              omega)
          rw [enx, if_pos rfl] at hst
          exact hst
      obtain ⟨p2, l2, O2, no2, m2, ev2, st2⟩ := ih p1 u (pu_occ A N col (pu_fields A S ch N col m) f s) (by omega) (by omega) O1 hi1 (fun _ => a2) ev1 hc1
      refine ⟨p2, by omega, O2, no2, fun q q1 q2 q3 => ?_, ev2, st2.1, fun f0 x1 x2 x3 => (st2.2 f0 x1 x2 x3).trans (st1.2 f0 x1 x2 x3)⟩
      rcases Nat.lt_or_ge q p1 with y | y
      · by_cases x : q = pos
        · rw [x]; exact z.2
        · exact absurd q3 (n1 q (by omega) y)
      · exact m2 q y q2 q3
    · have no : ¬ (A 1 f = 2 ∧ pu_peek N col s.1 (nI (mo_lv (B 3) fg)) 0 = A 3 f) := fun ⟨y1, y2⟩ => by
        have hcf := (hc fg hgd).2 z
        have hr4 := r4 y1
        cases hrl : rest fg with
        | nil =>
          rw [hrl] at hcf
          rw [pc_end (by omega) (by omega) hcf, r1] at y2
          exact nI_nm1 (by omega) y2.symm
        | cons en tl =>
          rw [hrl] at hcf
          obtain ⟨r, x1, x2⟩ := hrs fg hgd en tl hrl
          rw [pc_rd (by omega) (by omega) hcf (Or.inl rfl)] at y2
          have y3 : en.1 = A 3 f := y2
          rw [x1, r1] at y3
          have := (nI_eq (by omega) (by omega)).mp y3
          omega
      rw [if_neg no]
      exact ⟨pos, Nat.le_refl _, hO, z, fun q q1 q2 => by omega, hev, fun f0 h0 => (hc f0 h0).2 z, fun _ _ _ _ => rfl⟩
end PR
