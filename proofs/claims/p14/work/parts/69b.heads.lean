/-! A RECORD PUT TOGETHER, 1: levels, heads of lists, cursors. -/
/-- how many are repeated, not required, on the way from g -/
def rl_n (A : Nat → Nat → Int32) (g : Int32) : Nat := mo_ct (A 0) (A 1) 2 48 g
def dl_n (A : Nat → Nat → Int32) (g : Int32) : Nat := mo_ct (A 0) (A 1) 1 48 g
theorem ct_b {par kin : Nat → Int32} {l : Int32} : ∀ (m : Nat) (f : Int32), mo_ct par kin l m f ≤ m
  | 0, _ => Nat.le_refl _
  | m + 1, f => by
    show (if f = -1 then 0 else (if kin f.toNatClampNeg < l then 0 else 1) + mo_ct par kin l m (par f.toNatClampNeg)) ≤ m + 1
    have := ct_b (par := par) (kin := kin) (l := l) m (par f.toNatClampNeg)
    split
    · omega
    · split <;> omega
section HD
variable {A : Nat → Nat → Int32} {S : Nat → Int64} {I : Nat → Int32} {B : Nat → Nat → Int32} {J : Nat → Int32} {n lw b e : Nat} {g : Int32}
theorem ct_up (hS : li_S A I B J n lw) {f : Nat} (hf : f < n) (l : Int32) : mo_ct (A 0) (A 1) l 48 (nI f) = (if A 1 f < l then 0 else 1) + mo_ct (A 0) (A 1) l 48 (A 0 f) := by
  obtain ⟨hn, hI8, hJ4, hr, hI9, hlw, hup, hde, -⟩ := hS
  show (if nI f = -1 then 0 else (if A 1 (nI f).toNatClampNeg < l then 0 else 1) + mo_ct (A 0) (A 1) l 47 (A 0 (nI f).toNatClampNeg)) = _
  rw [if_neg (nI_nm1 (by omega)), nI_clamp (by omega)]
  congr 1
  rcases hup f hf with z | ⟨p, hp, z⟩
  · rw [z]; rfl
  · rw [z]
    have h1 : li_en (A 0) n (nI p) := li_en_up hup hn n _ (Or.inr ⟨p, by omega, rfl⟩) (Nat.le_refl _)
    exact ct_eq (by
      have h2 : li_en (A 0) (p + 1) (nI p) := li_en_up hup hn (p + 1) _ (Or.inr ⟨p, by omega, rfl⟩) (by omega)
      have := li_en_le h2 (47 - (p + 1))
      rw [show p + 1 + (47 - (p + 1)) = 47 by omega] at this
      exact this) (li_en_48 hup hn (by omega))
theorem rl_up (hS : li_S A I B J n lw) (hx : gx_S A S B n) {f : Nat} (hf : f < n) : A 3 f = nI (rl_n A (nI f)) ∧ rl_n A (nI f) ≤ 48 ∧ rl_n A (A 0 f) ≤ rl_n A (nI f) ∧ (A 1 f = 2 → rl_n A (nI f) = rl_n A (A 0 f) + 1) := by
  have h := ct_up hS hf 2
  obtain ⟨k1, k2, -⟩ := hx.1.1 f hf
  refine ⟨k2, ct_b _ _, ?_, fun z => ?_⟩
  · unfold rl_n
    omega
  · unfold rl_n
    rw [z, if_neg (by decide)] at h
    omega
theorem dl_up (hS : li_S A I B J n lw) (hx : gx_S A S B n) {f : Nat} (hf : f < n) : A 4 f = nI (dl_n A (nI f)) ∧ dl_n A (nI f) ≤ 48 ∧ dl_n A (A 0 f) ≤ dl_n A (nI f) ∧ (¬ A 1 f = 0 → dl_n A (nI f) = dl_n A (A 0 f) + 1) ∧ sc_of A 4 (A 0 f) = nI (dl_n A (A 0 f)) := by
  have h := ct_up hS hf 1
  obtain ⟨k1, -, k2⟩ := hx.1.1 f hf
  refine ⟨k2, ct_b _ _, ?_, fun z => ?_, ?_⟩
  · unfold dl_n
    omega
  · unfold dl_n
    rcases k1 with y | y | y
    · exact absurd y z
    · rw [y, if_neg (by decide)] at h; omega
    · rw [y, if_neg (by decide)] at h; omega
  · unfold sc_of
    obtain ⟨hn, hI8, hJ4, hr, hI9, hlw, hup, -⟩ := hS
    rcases hup f hf with z | ⟨p, hp, z⟩
    · rw [z, if_pos rfl]; rfl
    · rw [z, if_neg (nI_nm1 (by omega)), nI_clamp (by omega)]
      exact (hx.1.1 p (by omega)).2.2
/-- the entries of leaf f0: of an occurrence p of w; of field f in g; of the occurrence q of f and its further ones -/
def pe_L (A B : Nat → Nat → Int32) (e f0 w p : Nat) (re : Int32) : List co_E := ta_en A B e (wk_dn A f0) (wy_W A f0) (wy_D A f0) (wy_R A f0) w p re
def pf_L (A B : Nat → Nat → Int32) (e f0 : Nat) (g : Int32) (lo f : Nat) (re : Int32) : List co_E := ta_fe A B e (wk_dn A f0) (wy_W A f0) (wy_D A f0) (wy_R A f0) g lo f re
def ps_L (A B : Nat → Nat → Int32) (e f0 : Nat) (g : Int32) (f u q : Nat) (re : Int32) : List co_E := fi_sib (fi_nx (B 4) (B 6) (nI f) g e) (fi_ent (B 4) (B 6) (B 5) (wy_W A f0) (wy_D A f0) (wy_R A f0) e (wk_dn A f0 - wk_dn A f) (wk_dn A f - 1)) (A 3 f) u q re
theorem pf_eq {f0 lo f : Nat} {re : Int32} : pf_L A B e f0 g lo f re = if fi_nx (B 4) (B 6) (nI f) g e lo = -1 then [(re, sc_of A 4 (A 0 f), 0)] else ps_L A B e f0 g f e (fi_nx (B 4) (B 6) (nI f) g e lo).toNatClampNeg re := rfl
theorem ps_eq {f0 f u q : Nat} {re : Int32} : ps_L A B e f0 g f (u + 1) q re = pe_L A B e f0 f q re ++ (if fi_nx (B 4) (B 6) (nI f) g e (q + 1) = -1 then [] else ps_L A B e f0 g f u (fi_nx (B 4) (B 6) (nI f) g e (q + 1)).toNatClampNeg (A 3 f)) := rfl
/-- a list with its first entry told: repetition re, definition at least d; all others' repetition is not 0 -/
def hd_L (re : Int32) (d : Nat) (L : List co_E) : Prop := ∃ (k : Nat) (v : Int32) (t : List co_E), L = (re, nI k, v) :: t ∧ d ≤ k ∧ k ≤ 48 ∧ ∀ en, en ∈ t → ¬ en.1 = 0
theorem hd_L.le {re : Int32} {d d' : Nat} {L : List co_E} (h : hd_L re d L) (hd : d' ≤ d) : hd_L re d' L := by
  obtain ⟨k, v, t, h1, h2, h3⟩ := h
  exact ⟨k, v, t, h1, by omega, h3⟩
theorem nx_spec {ofs aro : Nat → Int32} {w ins : Int32} {e k : Nat} : fi_nx ofs aro w ins e k = -1 ∨ ∃ q, k ≤ q ∧ q < e ∧ fi_nx ofs aro w ins e k = nI q ∧ ofs q = w ∧ aro q = ins := by
  rcases mo_nx_or ofs aro w ins (e - k) k with z | ⟨q, q1, q2, q3, q4, q5⟩
  · exact Or.inl z
  · exact Or.inr ⟨q, q1, by omega, q3, q4, q5⟩
theorem ps_hd (hS : li_S A I B J n lw) (hx : gx_S A S B n) (h : wk_P A n B b e) (hk : rk_s A B b e) {f0 f d : Nat} (hf : f < n) (hd : ∀ p re, b ≤ p → p < e → hd_L re d (pe_L A B e f0 f p re)) : ∀ (u q : Nat) (re : Int32), b ≤ q → q < e → e ≤ q + u → B 4 q = nI f → B 6 q = g → hd_L re d (ps_L A B e f0 g f u q re)
  | 0, q, re, _, h1, h2, _, _ => by omega
  | u + 1, q, re, hb, h1, h2, h4, h6 => by
    have he := h.le
    have hn := hS.1
    obtain ⟨k, v, t, e1, e2, e3, e4⟩ := hd q re hb h1
    rw [ps_eq, e1]
    rcases nx_spec (ofs := B 4) (aro := B 6) (w := nI f) (ins := g) (e := e) (k := q + 1) with z | ⟨q', q1, q2, z, z4, z6⟩
    · rw [z, if_pos rfl, List.append_nil]
      exact ⟨k, v, t, rfl, e2, e3, e4⟩
    · rw [z, if_neg (nI_nm1 (by omega)), nI_clamp (by omega)]
      obtain ⟨k', v', t', x1, -, -, x4⟩ := ps_hd hS hx h hk hf hd u q' (A 3 f) (by omega) q2 (by omega) z4 z6
      rw [x1]
      refine ⟨k, v, t ++ (A 3 f, nI k', v') :: t', rfl, e2, e3, fun en hen => ?_⟩
      have a2 : A 1 f = 2 := by
        have ef : wk_f B q = f := by unfold wk_f; rw [h4, nI_clamp (by omega)]
        have ef' : wk_f B q' = f := by unfold wk_f; rw [z4, nI_clamp (by omega)]
        have := (hk q q' hb (by omega) q2 (h6.trans z6.symm)).2 (ef.trans ef'.symm)
        rw [ef] at this
        exact this
      obtain ⟨r1, r2, -, r3⟩ := rl_up hS hx hf
      rcases List.mem_append.mp hen with y | y
      · exact e4 en y
      · rcases List.mem_cons.mp y with y | y
        · rw [y]
          show ¬ A 3 f = 0
          rw [r1]
          have := r3 a2
          exact nI_ne0 (by omega) (by omega)
        · exact x4 en y
/-- the first entry of an occurrence -/
theorem pe_hd (hS : li_S A I B J n lw) (hx : gx_S A S B n) (h : wk_P A n B b e) (hk : rk_s A B b e) {f0 : Nat} (hf0 : f0 < n) (h0 : B 3 f0 = 0) (hbe : b ≤ e) : ∀ (m w : Nat), ta_an A f0 w → wk_dn A f0 - wk_dn A w = m → ∀ p re, b ≤ p → p < e → hd_L re (dl_n A (nI w)) (pe_L A B e f0 w p re) := by
  have hT := ta_mkP hS hx hf0 h0
  have hn := hS.1
  have hup := hS.2.2.2.2.2.2.1
  have hde := hS.2.2.2.2.2.2.2.1
  have he := h.le
  obtain ⟨⟨t1, t2, t3, t4⟩, t5, t6, t7, t8⟩ := id hT
  intro m
  induction m with
  | zero =>
    intro w hw hm p re hb hp
    obtain ⟨w1, w2, w3, w4, w5⟩ := t7 w hw
    obtain ⟨d1, d2, -⟩ := dl_up hS hx w4
    refine ⟨dl_n A (nI w), B 5 p, [], ?_, Nat.le_refl _, d2, fun en hen => by cases hen⟩
    unfold pe_L ta_en
    rw [hm]
    show [(re, wy_D A f0 (wk_dn A w - 1), B 5 p)] = _
    rw [w2, d1]
  | succ m ih =>
    intro w hw hm p re hb hp
    obtain ⟨w1, w2, w3, w4, w5⟩ := t7 w hw
    obtain ⟨f1, f2, f3⟩ : ∃ f1, ta_an A f0 f1 ∧ A 0 f1 = nI w := by
      rcases ta_kid hup hn 48 f0 w hf0 (li_en_48 hup hn hf0) hw with z | z
      · rw [z] at hm; omega
      · exact z
    have f4 := (t7 f1 f2).2.2.2.1
    have hdn := ta_dn hn hde f4 f3 w4
    have ex : pe_L A B e f0 w p re = pf_L A B e f0 (nI p) (p + 1) f1 re := (ta_next hT hn hde f2 hw f3).symm
    obtain ⟨d1, d2, d3, d4, d5⟩ := dl_up hS hx f4
    rw [ex, pf_eq]
    rw [f3] at d3 d5
    rcases nx_spec (ofs := B 4) (aro := B 6) (w := nI f1) (ins := nI p) (e := e) (k := p + 1) with z | ⟨q, q1, q2, z, z4, z6⟩
    · rw [z, if_pos rfl, f3, d5]
      exact ⟨dl_n A (nI w), 0, [], rfl, Nat.le_refl _, (dl_up hS hx w4).2.1, fun en hen => by cases hen⟩
    · rw [z, if_neg (nI_nm1 (by omega)), nI_clamp (by omega)]
      refine (ps_hd hS hx h hk f4 (d := dl_n A (nI f1)) (fun p' re' hb' hp' => ?_) e q re (by omega) q2 (by omega) z4 z6).le d3
      exact ih f1 f2 (by omega) p' re' hb' hp'
end HD
