/-! WHAT IS KEPT BESIDE THE LINKS: levels and sets, the draft's rows, each record's own order, the columns. -/
/-- a leaf's way and the levels along it -/
def wy_W (A : Nat → Nat → Int32) (f : Nat) : Nat → Int32 := mo_wy (A 0) (wk_dn A f) (nI f) (fun _ => 0)
def wy_D (A : Nat → Nat → Int32) (f j : Nat) : Int32 := A 4 (wy_W A f j).toNatClampNeg
def wy_R (A : Nat → Nat → Int32) (f j : Nat) : Int32 := A 3 (wy_W A f j).toNatClampNeg
/-- where the reference's record i begins -/
def bn_of (B : Nat → Nat → Int32) (i : Nat) : Nat := (B 7 i).toNatClampNeg
/-- the entries of leaf f in the first r records -/
def en_of (A B : Nat → Nat → Int32) (f r : Nat) : List fi_E := en_fr (B 4) (B 6) (B 5) (wy_W A f) (wy_D A f) (wy_R A f) (wk_dn A f) (bn_of B) r 0
/-- siblings in order; what is not repeated comes once -/
def rk_s (A B : Nat → Nat → Int32) (b e : Nat) : Prop := ∀ q1 q2, b ≤ q1 → q1 < q2 → q2 < e → B 6 q1 = B 6 q2 → wk_f B q1 ≤ wk_f B q2 ∧ (wk_f B q1 = wk_f B q2 → A 1 (wk_f B q1) = 2)
/-- what is required is there -/
def rk_q (A : Nat → Nat → Int32) (n : Nat) (B : Nat → Nat → Int32) (b e : Nat) (g G : Int32) : Prop := ∀ w, w < n → A 0 w = G → A 1 w = 0 → ∃ t, b ≤ t ∧ t < e ∧ B 4 t = nI w ∧ B 6 t = g
/-- a record that has ended -/
def rk_P (A : Nat → Nat → Int32) (n : Nat) (B : Nat → Nat → Int32) (b e : Nat) : Prop := rk_s A B b e ∧ rk_q A n B b e (-1) (-1) ∧ ∀ t, b ≤ t → t < e → ¬ B 3 (wk_f B t) = 0 → rk_q A n B b e (nI t) (B 4 t)
def gx_S (A : Nat → Nat → Int32) (S : Nat → Int64) (B : Nat → Nat → Int32) (n : Nat) : Prop := li_V A S B n ∧ ∀ g f, g < n → A 0 g = nI f → f < n → ¬ B 3 f = 0
def gx_D (A : Nat → Nat → Int32) (n : Nat) (F V : Nat → Int32) (k : Nat) (B : Nat → Nat → Int32) (J : Nat → Int32) (b : Nat) : Prop := (∀ j, j < k → F j = B 4 (b + j) ∧ V j = B 5 (b + j)) ∧ rk_s A B b (b + k) ∧ (∀ t, b ≤ t → t < b + k → ¬ B 3 (wk_f B t) = 0 → ¬ as_rc (B 6) 2048 (nI t) 2048 (J 13) → rk_q A n B b (b + k) (nI t) (B 4 t)) ∧ ∀ t, t < b + k → ¬ B 3 (wk_f B t) = 0 → B 5 t = 0
def gx_K (A : Nat → Nat → Int32) (n : Nat) (B : Nat → Nat → Int32) (r : Nat) : Prop := ∀ i, i < r → rk_P A n B (bn_of B i) (bn_of B (i + 1))
def gx_C (A : Nat → Nat → Int32) (n N : Nat) (col : Nat → List co_E) (B : Nat → Nat → Int32) (J : Nat → Int32) (lw b r : Nat) : Prop := ¬ J 5 = 0 → N = lw ∧ ∀ f, f < n → B 3 f = 0 → col (mo_lv (B 3) f) = en_of A B f r ∧ (en_of A B f r).length ≤ r + b
section KE
variable {A : Nat → Nat → Int32} {S : Nat → Int64} {I F V F' V' G W : Nat → Int32} {k dp : Nat} {bg cr co : Int32} {N : Nat} {col : Nat → List co_E} {B B' : Nat → Nat → Int32} {J J' : Nat → Int32} {n lw b e r : Nat}
theorem tr_A.bn (h : tr_A A n B J b k r) (hb : b ≤ 2048) : (∀ i, i ≤ r → B 7 i = nI (bn_of B i) ∧ bn_of B i ≤ b) ∧ bn_of B r = b ∧ ∀ i, i < r → bn_of B i ≤ bn_of B (i + 1) ∧ tr_R A n B (bn_of B i) (bn_of B (i + 1)) := by
  obtain ⟨Bn, h1, h2, h3, -⟩ := h
  have e : ∀ i, i ≤ r → bn_of B i = Bn i := fun i hi => by
    have := (h1 i hi).2
    unfold bn_of
    rw [(h1 i hi).1, nI_clamp (by omega)]
  refine ⟨fun i hi => ?_, (e r (Nat.le_refl _)).trans h2, fun i hi => ?_⟩
  · rw [e i hi]; exact h1 i hi
  · rw [e i (by omega), e (i + 1) (by omega)]; exact h3 i hi
theorem rk_P.cg (h : rk_P A n B b e) (h4 : ∀ q, q < e → B' 4 q = B 4 q) (h6 : ∀ q, q < e → B' 6 q = B 6 q) (h3 : B' 3 = B 3) : rk_P A n B' b e := by
  have hf : ∀ q, q < e → wk_f B' q = wk_f B q := fun q hq => by unfold wk_f; rw [h4 q hq]
  have hq : ∀ g G, rk_q A n B b e g G → rk_q A n B' b e g G := fun g G z w w1 w2 w3 => by
    obtain ⟨t, t1, t2, t3, t4⟩ := z w w1 w2 w3
    exact ⟨t, t1, t2, (h4 t t2).trans t3, (h6 t t2).trans t4⟩
  obtain ⟨a1, a2, a3⟩ := h
  refine ⟨fun q1 q2 z1 z2 z3 z4 => ?_, hq _ _ a2, fun t t1 t2 t3 => ?_⟩
  · rw [hf q1 (by omega), hf q2 z3]
    rw [h6 q1 (by omega), h6 q2 z3] at z4
    exact a1 q1 q2 z1 z2 z3 z4
  · rw [h4 t t2]
    rw [h3, hf t t2] at t3
    exact hq _ _ (a3 t t1 t2 t3)
/-- rows that change from b on, or not at all -/
theorem gx_K.cg (h : gx_K A n B r) (hT : tr_A A n B J b k r) (hb : b ≤ 2048) (h4 : ∀ q, q < b → B' 4 q = B 4 q) (h6 : ∀ q, q < b → B' 6 q = B 6 q) (h3 : B' 3 = B 3) (h7 : ∀ i, i ≤ r → B' 7 i = B 7 i) : gx_K A n B' r := fun i hi => by
  obtain ⟨t1, t2, t3⟩ := hT.bn hb
  have e : ∀ j, j ≤ r → bn_of B' j = bn_of B j := fun j hj => by unfold bn_of; rw [h7 j hj]
  rw [e i (by omega), e (i + 1) (by omega)]
  have := (t1 (i + 1) (by omega)).2
  exact (h i hi).cg (fun q hq => h4 q (by omega)) (fun q hq => h6 q (by omega)) h3
theorem en_of.cg (hT : tr_A A n B J b k r) (hb : b ≤ 2048) {f : Nat} (hf : 0 < wk_dn A f) (h4 : ∀ q, q < b → B' 4 q = B 4 q) (h6 : ∀ q, q < b → B' 6 q = B 6 q) (h5 : ∀ q, q < b → B' 5 q = B 5 q) (h7 : ∀ i, i ≤ r → B' 7 i = B 7 i) : en_of A B' f r = en_of A B f r := by
  obtain ⟨t1, t2, t3⟩ := hT.bn hb
  unfold en_of
  refine en_cg hb hf (fun q hq => ⟨⟨h4 q hq, h6 q hq⟩, h5 q hq⟩) (fun i _ => ⟨rfl, rfl, rfl⟩) r 0 (fun i _ hi => ?_)
  have := (t1 i (by omega)).2
  refine ⟨?_, this⟩
  unfold bn_of
  rw [h7 i (by omega)]
theorem dn_pos (hn : n ≤ 48) (hde : mo_de (A 0) (A 2) n) {f : Nat} (hf : f < n) : 0 < wk_dn A f ∧ wk_dn A f ≤ 16 ∧ A 2 f = nI (wk_dn A f) := by
  obtain ⟨q, hq, e, -⟩ := hde f hf
  unfold wk_dn
  rw [e, nI_clamp (by omega)]
  exact ⟨by omega, by omega, rfl⟩
theorem gx_C.cg (h : gx_C A n N col B J lw b r) (hn : n ≤ 48) (hde : mo_de (A 0) (A 2) n) (hT : tr_A A n B J b k r) (hb : b ≤ 2048) (h4 : ∀ q, q < b → B' 4 q = B 4 q) (h6 : ∀ q, q < b → B' 6 q = B 6 q) (h5 : ∀ q, q < b → B' 5 q = B 5 q) (h3 : B' 3 = B 3) (h7 : ∀ i, i ≤ r → B' 7 i = B 7 i) (hJ : J' 5 = J 5) : gx_C A n N col B' J' lw b r := fun z => by
  rw [hJ] at z
  obtain ⟨c1, c2⟩ := h z
  refine ⟨c1, fun f hf h0 => ?_⟩
  rw [en_of.cg hT hb (dn_pos hn hde hf).1 h4 h6 h5 h7, h3]
  rw [h3] at h0
  exact c2 f hf h0
/-- an occurrence comes -/
theorem gx_D.come (hD : gx_D A n F V k B J b) (hd : tr_d (B 6) b (b + k)) (hb : b + k < 2048) (hv13 : tr_v b (b + k) (b + k) (J 13)) {w : Nat} {v : Int32} (hw : w < 48) (hF : ∀ j, j < k → F' j = F j ∧ V' j = V j) (hFk : F' k = nI w) (hVk : V' k = v)
    (e3 : B' 3 = B 3) (n4 : ∀ t, t < b + k → B' 4 t = B 4 t) (m4 : B' 4 (b + k) = nI w) (n5 : ∀ t, t < b + k → B' 5 t = B 5 t) (m5 : B' 5 (b + k) = v) (n6 : ∀ t, t < b + k → B' 6 t = B 6 t) (m6 : B' 6 (b + k) = J 13)
    (hsib : ∀ t, b ≤ t → t < b + k → B 6 t = J 13 → wk_f B t ≤ w ∧ (wk_f B t = w → A 1 w = 2)) (hv : B 3 w = 0 ∧ J' 13 = J 13 ∨ ¬ B 3 w = 0 ∧ J' 13 = nI (b + k) ∧ v = 0) : gx_D A n F' V' (k + 1) B' J' b := by
  obtain ⟨a1, a2, a3, a4⟩ := hD
  have hf : ∀ t, t < b + k → wk_f B' t = wk_f B t := fun t ht => by unfold wk_f; rw [n4 t ht]
  have hfk : wk_f B' (b + k) = w := by unfold wk_f; rw [m4, nI_clamp (by omega)]
  refine ⟨fun j hj => ?_, fun q1 q2 z1 z2 z3 z4 => ?_, fun t t1 t2 t3 t4 => ?_, fun t t2 t3 => ?_⟩
  · by_cases z : j = k
    · subst z
      rw [m4, m5]
      exact ⟨hFk, hVk⟩
    · have := a1 j (by omega)
      rw [n4 _ (by omega), n5 _ (by omega), (hF j (by omega)).1, (hF j (by omega)).2]
      exact this
  · by_cases z : q2 = b + k
    · subst z
      rw [n6 q1 z2, m6] at z4
      rw [hf q1 z2, hfk]
      have := hsib q1 z1 z2 z4
      exact ⟨this.1, fun y => by rw [y]; exact this.2 y⟩
    · rw [n6 q1 (by omega), n6 q2 (by omega)] at z4
      rw [hf q1 (by omega), hf q2 (by omega)]
      exact a2 q1 q2 z1 z2 (by omega) z4
  · have hk : t < b + k := by
      rcases Nat.lt_or_ge t (b + k) with y | y
      · exact y
      · exfalso
        have : t = b + k := by omega
        subst this
        rw [e3, hfk] at t3
        rcases hv with ⟨y1, -⟩ | ⟨-, y2, -⟩
        · exact t3 y1
        · rw [y2] at t4; exact t4 (rc_rf _)
    rw [e3, hf t hk] at t3
    have old : ¬ as_rc (B 6) 2048 (nI t) 2048 (J 13) := fun y => t4 (by
      have y1 := rc_cut hd (by omega) (b + k) 2048 (J 13) hv13 y
      have y2 : as_rc (B' 6) 2048 (nI t) (b + k) (J 13) := rc_cg hd (by omega) (fun q _ q2 => n6 q q2) (b + k) _ hv13 y1
      rcases hv with ⟨-, y3⟩ | ⟨-, y3, -⟩
      · rw [y3]; exact rc_up y2 (by omega)
      · rw [y3]
        refine Or.inr ⟨b + k, hb, rfl, ?_⟩
        rw [m6]
        exact rc_up y2 (show b + k ≤ 2047 by omega))
    rw [n4 t hk]
    intro u u1 u2 u3
    obtain ⟨q, q1, q2, q3, q4⟩ := a3 t t1 hk t3 old u u1 u2 u3
    exact ⟨q, q1, by omega, (n4 q q2).trans q3, (n6 q q2).trans q4⟩
  · by_cases z : t = b + k
    · subst z
      rw [e3, hfk] at t3
      rcases hv with ⟨y1, -⟩ | ⟨-, -, y3⟩
      · exact absurd y1 t3
      · exact m5.trans y3
    · rw [n5 t (by omega)]
      rw [e3, hf t (by omega)] at t3
      exact a4 t (by omega) t3
theorem gx_D.inner (h : gx_D A n F V k B J b) {q : Nat} (hq : J 13 = nI q) (q2 : q < 2048) (hb : b + k ≤ 2048) (hfull : rk_q A n B b (b + k) (nI q) (B 4 q)) (hJ : J' 13 = B 6 q) : gx_D A n F V k B J' b := by
  obtain ⟨a1, a2, a3, a4⟩ := h
  refine ⟨a1, a2, fun t t1 t2 t3 t4 => ?_, a4⟩
  by_cases z : t = q
  · rw [z]; exact hfull
  · refine a3 t t1 t2 t3 (fun y => t4 ?_)
    rw [hq] at y
    rw [hJ]
    rcases y with y | ⟨p, p1, p2, p3⟩
    · exact absurd ((nI_eq (by omega) (by omega)).mp y).symm z
    · have : q = p := (nI_eq (by omega) (by omega)).mp p2
      subst this
      exact rc_s _ _ p3
theorem gx_D.nil (h : gx_D A n F V k B J b) : gx_D A n F V 0 B J' b := ⟨fun j hj => absurd hj (Nat.not_lt_zero _), fun q1 q2 z1 z2 z3 _ => by omega, fun t t1 t2 => by omega, fun t t1 t2 => h.2.2.2 t (by omega) t2⟩
theorem rc_none {aro : Nat → Int32} {t : Nat} (ht : t < 2048) : ∀ m, ¬ as_rc aro 2048 (nI t) m (-1)
  | 0, h => nI_nm1 (by omega) (Eq.symm h)
  | m + 1, h => by
    rcases h with z | ⟨q, q1, q2, -⟩
    · exact nI_nm1 (by omega) z.symm
    · exact nI_nm1 (by omega) q2.symm
theorem rk_end (hS : li_S A I B J n lw) (h : mo_end B J n b (b + k)) : rk_q A n B b (b + k) (J 13) (mo_ps B J) := fun w w1 w2 w3 => by
  obtain ⟨-, -, -, -, -, -, -, -, ⟨e0, e1, -⟩, -⟩ := hS
  have := h w w1 (by rw [e0]; exact w2) (by rw [e1]; exact w3)
  unfold mo_hs at this
  rw [Nat.add_sub_cancel_left, li_cn] at this
  exact this
/-- the record that ends is a whole one -/
theorem gx_D.out (h : gx_D A n F V k B J b) (hS : li_S A I B J n lw) (hb : b + k ≤ 2048) (h13 : J 13 = -1) (hme : mo_end B J n b (b + k)) : rk_P A n B b (b + k) := by
  obtain ⟨a1, a2, a3, a4⟩ := h
  refine ⟨a2, ?_, fun t t1 t2 t3 => a3 t t1 t2 t3 (by rw [h13]; exact rc_none (by omega) _)⟩
  have := rk_end hS hme
  unfold mo_ps at this
  rw [h13, if_pos rfl] at this
  exact this
theorem gx_K.out (h : gx_K A n B r) (hR : rk_P A n B b (b + k)) (hT : tr_A A n B J b k r) (hb : b + k ≤ 2048) : gx_K A n (va_up B 7 (upd (B 7) (r + 1) (nI (b + k)))) (r + 1) := fun i hi => by
  obtain ⟨t1, t2, t3⟩ := hT.bn (by omega)
  have e : ∀ j, j ≤ r → bn_of (va_up B 7 (upd (B 7) (r + 1) (nI (b + k)))) j = bn_of B j := fun j hj => by
    show (upd (B 7) (r + 1) (nI (b + k)) j).toNatClampNeg = (B 7 j).toNatClampNeg
    rw [pk_un (by omega)]
  have e2 : bn_of (va_up B 7 (upd (B 7) (r + 1) (nI (b + k)))) (r + 1) = b + k := by
    show (upd (B 7) (r + 1) (nI (b + k)) (r + 1)).toNatClampNeg = b + k
    rw [pk_us, nI_clamp (by omega)]
  by_cases z : i = r
  · subst z
    rw [e i (Nat.le_refl _), e2, t2]
    exact hR.cg (fun _ _ => rfl) (fun _ _ => rfl) rfl
  · rw [e i (by omega), e (i + 1) (by omega)]
    exact (h i (by omega)).cg (fun _ _ => rfl) (fun _ _ => rfl) rfl
/-- the newest of the open group's lie below what comes -/
theorem li_sib (hn : n ≤ 48) (h : li_D A n G W k dp bg cr co B J b r) (hbg : ¬ bg = 0) {w : Nat} (hw : w < n) (hge : ¬ nI w < W dp) (h2 : nI w = W dp → A 1 w = 2) : ∀ t, b ≤ t → t < b + k → B 6 t = J 13 → wk_f B t ≤ w ∧ (wk_f B t = w → A 1 w = 2) := by
  obtain ⟨-, -, -, d12⟩ := h
  obtain ⟨P, o1, o2, o3, o4, o5, o6, o7⟩ := d12 hbg
  intro t t1 t2 t3
  obtain ⟨u, hu, u1, u2⟩ := (o7 dp (Nat.le_refl _)).2.1 t t1 t2 (t3.trans o4)
  have ef : wk_f B t = u := by unfold wk_f; rw [u1, nI_clamp (by omega)]
  have hW := Int32.not_lt.mp hge
  rw [ef]
  have h3 : nI u ≤ nI w := Int32.le_trans u2 hW
  refine ⟨(nI_leI (by omega) (by omega)).mp h3, fun y => h2 ?_⟩
  rw [y] at u2
  exact Int32.le_antisymm u2 hW
theorem li_in2 (h : li_D A n G W k dp bg cr co B J b r) : tr_v b (b + k) (b + k) (J 13) := by
  obtain ⟨⟨d1, d2', d3, d4⟩, ⟨d5, d6, d7, d8, d9, d10, d11⟩, d13, d12⟩ := h
  by_cases z : bg = 0
  · exact Or.inl (d3 z).2
  · obtain ⟨P, o1, o2, o3, o4, o5, o6, o7⟩ := d12 z
    rw [o4]
    match dp, o6 with
    | 0, _ => exact Or.inl o2
    | j + 1, o6 =>
      obtain ⟨q, w, e1, e2, e3, -⟩ := o6 j (by omega)
      exact Or.inr ⟨q, e2, e3, e3, e1⟩
end KE
