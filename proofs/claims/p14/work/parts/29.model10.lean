/-! THE REFERENCE: finds. A record's entries of the way's leaf, as a list. -/
abbrev fi_E : Type := Int32 × Int32 × Int32
def fi_nx (ofs aro : Nat → Int32) (w ins : Int32) (e k : Nat) : Int32 := mo_nx ofs aro w ins (e - k) k
/-- an occurrence and its further ones -/
def fi_sib (nx : Nat → Int32) (en : Nat → Int32 → List fi_E) (R : Int32) : Nat → Nat → Int32 → List fi_E
  | 0, _, _ => []
  | u + 1, p, rep => en p rep ++ (if nx (p + 1) = -1 then [] else fi_sib nx en R u (nx (p + 1)).toNatClampNeg R)
/-- the entries that an occurrence p of the way's field j has, t steps above the leaf -/
def fi_ent (ofs aro val way D R : Nat → Int32) (e : Nat) : Nat → Nat → Nat → Int32 → List fi_E
  | 0, j, p, rep => [(rep, D j, val p)]
  | t + 1, j, p, rep => if fi_nx ofs aro (way (j + 1)) (nI p) e (p + 1) = -1 then [(rep, D j, 0)] else fi_sib (fi_nx ofs aro (way (j + 1)) (nI p) e) (fi_ent ofs aro val way D R e t (j + 1)) (R (j + 1)) e (fi_nx ofs aro (way (j + 1)) (nI p) e (p + 1)).toNatClampNeg rep
/-- a record's, b .. e - 1 -/
def fi_rec (ofs aro val way D R : Nat → Int32) (s b e : Nat) : List fi_E := if fi_nx ofs aro (way 0) (-1) e b = -1 then [(0, 0, 0)] else fi_sib (fi_nx ofs aro (way 0) (-1) e) (fi_ent ofs aro val way D R e (s - 1) 0) (R 0) e (fi_nx ofs aro (way 0) (-1) e b).toNatClampNeg 0
/-- of the field j of the way: how many are not required, are repeated -/
def fi_D (A : Nat → Nat → Int32) (n : Nat) (j : Nat) : Int32 := nI (mo_ct (A 0) (A 1) 1 n (A 8 j))
def fi_R (A : Nat → Nat → Int32) (n : Nat) (j : Nat) : Int32 := nI (mo_ct (A 0) (A 1) 2 n (A 8 j))
section FI
variable {d o : Nat} {A : Nat → Nat → Int32} {I : Nat → Int32} {σ0 : ri_S} {Q : Option Value → ri_S → Prop}
set_option maxRecDepth 100000 in
set_option maxHeartbeats 1000000 in
/-- at the loop's head with an entry at field j of the way -/
theorem fi_here {k rep : Int32} {rc : Int32} {n s j p cnt : Nat} {at_ : Nat → Int32} {σ : ri_S} {v : Int32} (hn : n ≤ 48) (hup : mo_up (A 0) n) (hs : I 16 = nI s) (hs2 : s ≤ 16) (hj : j < s) (hway : ∃ w, w < n ∧ A 8 j = nI w) (hp : at_ j = nI p) (hp2 : p < 2048) (hv : v = if j + 1 = s then A 5 p else 0)
    (hW : mo_W o (va_up A 9 at_) (va_up I 24 (nI cnt)) σ0 σ)
    (early : k = nI cnt → ∀ σ' : ri_S, mo_W o (va_up A 9 at_) (va_up (va_up (va_up (va_up I 24 (nI cnt)) 17 rep) 18 (fi_D A n j)) 19 v) σ0 σ' → Q (some (.int 1)) σ')
    (on : ¬ k = nI cnt → ∀ σ' : ri_S, mo_W o (va_up A 9 at_) (va_up I 24 (nI (cnt + 1))) σ0 σ' → ev_W (d + 2) mMo_finds (147, [some (.ref o), some (.int k), some (.int rc), some (.int (nI j)), some (.int rep), some (.int 1), some (.int (-1))], []) σ' Q) :
    ∀ x : Option Value, ev_W (d + 2) mMo_finds (60, [some (.ref o), some (.int k), some (.int rc), some (.int (nI j)), some (.int rep), some (.int 1), x], []) σ Q := by
  intro x
  obtain ⟨w, hw, ew⟩ := hway
  refine g_br rfl rfl rfl rfl rfl rfl (fun h1 => absurd h1 (by decide)) (fun h1 => ?_)
  refine g_get rfl rfl rfl hW.1.1 rfl ?_
  refine g_br rfl rfl rfl rfl rfl rfl (fun h2 => ?_) (fun h2 => ?_)
  · refine mo_set hW rfl rfl rfl rfl rfl rfl rfl (fun σ1 hW1 => ?_)
    refine g_br rfl rfl rfl rfl rfl rfl (fun h3 => absurd h3 (by intro z; have := nI_pos' (n := j) (by omega); rw [z] at this; exact absurd this (by decide))) (fun h3 => ?_)
    refine g_get rfl rfl rfl hW1.1.1 rfl ?_
    refine mo_ald hW1.1 8 rfl rfl rfl rfl (show j < 17 by omega) (by decide) rfl ?_
    refine g_clV rfl rfl rfl rfl hW1.1.1 rfl rfl rfl ?_
    refine mo_count hW1.1 ew hw hn hup ?_
    refine mo_set hW1 rfl rfl rfl rfl rfl rfl rfl (fun σ2 hW2 => ?_)
    refine g_get rfl rfl rfl hW2.1.1 rfl ?_
    have fin : ∀ y : Int32, y = v → ev_W (d + 2) mMo_finds (129, [some (.ref o), some (.int k), some (.int rc), some (.int (nI j)), some (.int rep), some (.int 1), x], [.int y, .ref o]) σ2 Q := by
      intro y hy
      subst hy
      refine mo_set hW2 rfl rfl rfl rfl rfl rfl rfl (fun σ3 hW3 => ?_)
      exact g_rt rfl rfl rfl (early h2.symm σ3 hW3)
    have es : I 16 - 1 = nI (s - 1) := by rw [hs, show s = (s - 1) + 1 by omega]; exact nI_pred (s - 1)
    refine g_br rfl rfl rfl rfl rfl rfl (fun h4 => ?_) (fun h4 => ?_)
    · have e1 : j + 1 = s := by
        have h5 : nI j = nI (s - 1) := by rw [← es]; exact h4
        have := (nI_eq (by omega) (by omega)).mp h5
        omega
      rw [if_pos e1] at hv
      refine g_get rfl rfl rfl hW2.1.1 rfl ?_
      refine g_get rfl rfl rfl hW2.1.1 rfl ?_
      refine mo_ald hW2.1 9 rfl rfl rfl rfl (show j < 17 by omega) (by decide) rfl ?_
      refine mo_ald hW2.1 5 rfl rfl rfl (i := p) hp hp2 (by decide) rfl ?_
      refine ev_go 1 rfl ?_
      exact fin _ hv.symm
    · have e1 : ¬ j + 1 = s := by
        intro z
        apply h4
        show nI j = I 16 - 1
        rw [es, show s - 1 = j by omega]
      rw [if_neg e1] at hv
      refine ev_go 1 rfl ?_
      exact fin _ hv.symm
  · refine g_get rfl rfl rfl hW.1.1 rfl ?_
    refine mo_set hW rfl rfl rfl rfl rfl rfl rfl (fun σ1 hW1 => ?_)
    refine ev_go 2 rfl ?_
    refine on (fun z => h2 z.symm) σ1 ?_
    have e1 : va_up (va_up I 24 (nI cnt)) 24 (va_up I 24 (nI cnt) 24 + 1) = va_up I 24 (nI (cnt + 1)) := by
      rw [bx_uu]
      show va_up I 24 (nI cnt + 1) = _
      rw [nI_1]
    rw [e1] at hW1
    exact hW1
set_option maxRecDepth 100000 in
set_option maxHeartbeats 1000000 in
/-- behind an entry, at field j of the way: its next occurrence, or back -/
theorem fi_up {k rep : Int32} {rc : Int32} {n s j p e u : Nat} {at_ : Nat → Int32} {σ : ri_S} {J : Nat → Int32} (hJ : J 16 = I 16) (hn : n ≤ 48) (hup : mo_up (A 0) n) (hs : I 16 = nI s) (hs2 : s ≤ 16) (hj : j < s) (hway : ∃ w, w < n ∧ A 8 j = nI w) (hp : at_ j = nI p) (hpe : p < e) (he2 : e ≤ 2048) (hrc : rc + 1 = nI u) (hu : u < 129) (he : A 7 u = nI e)
    (hW : mo_W o (va_up A 9 at_) J σ0 σ)
    (knone : fi_nx (A 4) (A 6) (A 8 j) (mo_ins at_ j) e (p + 1) = -1 → ev_W (d + 2) mMo_finds (147, [some (.ref o), some (.int k), some (.int rc), some (.int (nI j - 1)), some (.int rep), some (.int 1), some (.int (-1))], []) σ Q)
    (ksome : ∀ (p' : Nat) (σ' : ri_S), fi_nx (A 4) (A 6) (A 8 j) (mo_ins at_ j) e (p + 1) = nI p' → p < p' → p' < e → mo_W o (va_up A 9 (mo_dp (A 4) (A 6) (A 8) e (s - 1 - j) (upd at_ j (nI p')) j).1) J σ0 σ' → ev_W (d + 2) mMo_finds (60, [some (.ref o), some (.int k), some (.int rc), some (.int (nI (mo_dp (A 4) (A 6) (A 8) e (s - 1 - j) (upd at_ j (nI p')) j).2)), some (.int (fi_R A n j)), some (.int 1), some (.int (nI p'))], []) σ' Q) :
    ev_W (d + 2) mMo_finds (147, [some (.ref o), some (.int k), some (.int rc), some (.int (nI j)), some (.int rep), some (.int 1), some (.int (-1))], []) σ Q := by
  obtain ⟨w, hw, ew⟩ := hway
  refine g_br rfl rfl rfl rfl rfl rfl (fun h1 => absurd h1 (nI_pos (by omega))) (fun h1 => ?_)
  refine g_br rfl rfl rfl rfl rfl rfl (fun h2 => ?_) (fun h2 => absurd rfl h2)
  refine g_get rfl rfl rfl hW.1.1 rfl ?_
  refine mo_ald hW.1 9 rfl rfl rfl rfl (show j < 17 by omega) (by decide) rfl ?_
  refine g_clV rfl rfl rfl rfl hW.1.1 rfl rfl rfl ?_
  have ex : (va_up A 9 at_ 9 j) + 1 = nI (p + 1) := by show at_ j + 1 = _; rw [hp]; exact nI_1 p
  refine mo_next (e := e) hW.1 hrc hu he he2 rfl (show j < 17 by omega) ex (by omega) ?_
  have hor := mo_nx_or (A 4) (A 6) (A 8 j) (mo_ins at_ j) (e - (p + 1)) (p + 1)
  unfold fi_nx at knone ksome
  show ev_W (d + 2) mMo_finds (171, [some (.ref o), some (.int k), some (.int rc), some (.int (nI j)), some (.int rep), some (.int 1), some (.int (-1))], [.int (mo_nx (A 4) (A 6) (A 8 j) (mo_ins at_ j) (e - (p + 1)) (p + 1))]) σ Q
  generalize mo_nx (A 4) (A 6) (A 8 j) (mo_ins at_ j) (e - (p + 1)) (p + 1) = x at knone ksome hor ⊢
  refine g_br rfl rfl rfl rfl rfl rfl (fun h3 => ?_) (fun h3 => ?_)
  · subst h3
    refine ev_go 5 rfl ?_
    exact knone rfl
  · obtain ⟨p', q1, q2, q3, -⟩ : ∃ q, p + 1 ≤ q ∧ q < p + 1 + (e - (p + 1)) ∧ x = nI q ∧ A 4 q = A 8 j ∧ A 6 q = mo_ins at_ j := by
      rcases hor with z | z
      · exact absurd z h3
      · exact z
    subst q3
    refine ev_go 4 rfl ?_
    show ev_W (d + 2) mMo_finds (147, [some (.ref o), some (.int k), some (.int rc), some (.int (nI j - 0)), some (.int rep), some (.int 1), some (.int (nI p'))], []) σ Q
    rw [Int32.sub_zero]
    refine g_br rfl rfl rfl rfl rfl rfl (fun h4 => absurd h4 (nI_pos (by omega))) (fun h4 => ?_)
    refine g_br rfl rfl rfl rfl rfl rfl (fun h5 => absurd h5 h3) (fun h5 => ?_)
    refine g_br rfl rfl rfl rfl rfl rfl (fun h6 => absurd h6 h3) (fun h6 => ?_)
    refine g_br rfl rfl rfl rfl rfl rfl (fun h7 => absurd h7 (by decide)) (fun h7 => ?_)
    refine g_get rfl rfl rfl hW.1.1 rfl ?_
    refine mo_ast hW 9 rfl rfl rfl rfl (show j < 17 by omega) (by decide) rfl (fun σ1 hW1 => ?_)
    rw [bx_uu] at hW1
    change mo_W o (va_up A 9 (upd at_ j (nI p'))) J σ0 σ1 at hW1
    refine g_get rfl rfl rfl hW1.1.1 rfl ?_
    refine mo_ald hW1.1 8 rfl rfl rfl rfl (show j < 17 by omega) (by decide) rfl ?_
    refine g_clV rfl rfl rfl rfl hW1.1.1 rfl rfl rfl ?_
    refine mo_count hW1.1 ew hw hn hup ?_
    refine g_clV rfl rfl rfl rfl hW1.1.1 rfl rfl rfl ?_
    refine mo_deeper hW1 (by rw [hJ]; exact hs) hs2 hrc hu he he2 rfl hj ⟨p', by omega, pk_us⟩ (fun σ2 hW2 => ?_)
    refine ev_go 2 rfl ?_
    exact ksome p' σ2 rfl (by omega) (by omega) hW2
end FI
