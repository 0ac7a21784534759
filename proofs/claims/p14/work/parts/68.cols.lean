/-! THE COLUMNS WHEN A RECORD ENDS. -/
theorem hv_ts {w : Int64} {s : UInt64} {j : Nat} (hj : j < 64) (hs : s.toNat = j) : ((w.toUInt64 >>> s).toInt64 &&& 1) = 0 ↔ w.toBitVec.getLsbD j = false := by
  have e : (w.toUInt64 >>> s).toInt64.toBitVec = w.toBitVec >>> j := by
    apply BitVec.eq_of_toNat_eq
    show (w.toUInt64 >>> s).toNat = _
    rw [UInt64.toNat_shiftRight, hs, Nat.mod_eq_of_lt hj, BitVec.toNat_ushiftRight]
    rfl
  rw [← Int64.toBitVec_inj, Int64.toBitVec_and, e]
  show w.toBitVec >>> j &&& 1#64 = 0#64 ↔ _
  constructor
  · intro h
    have t := congrArg (fun x => x.getLsbD 0) h
    simpa using t
  · intro h
    apply BitVec.eq_of_getLsbD_eq
    intro i hi
    cases i with
    | zero => simp [h]
    | succ i => simp
theorem hv_cu : ∀ k, k < 48 → ((nI k).toInt64.toUInt64 &&& Int64.toUInt64 63) = UInt64.ofNat k := by decide +kernel
theorem hv_bit {s : Int64} {c : Nat} (hc : c < 48) : ¬ st_hv s (nI c) = 0 ↔ s.toBitVec.getLsbD c = true := by
  unfold st_hv
  rw [lg_cmp_eq, hv_cu c hc]
  have h := hv_ts (w := s) (s := UInt64.ofNat c) (j := c) (by omega) (Nat.mod_eq_of_lt (by omega))
  rw [show lN 1 = (1 : Int64) from rfl, show lN 0 = (0 : Int64) from rfl, h]
  cases s.toBitVec.getLsbD c <;> simp
theorem lv_mono {G : Nat → Int32} {f : Nat} : ∀ d, mo_lv G f ≤ mo_lv G (f + d)
  | 0 => Nat.le_refl _
  | d + 1 => by
    have := lv_mono (G := G) (f := f) d
    show _ ≤ mo_lv G (f + d) + (if G (f + d) = 0 then 1 else 0)
    omega
theorem mlv_lt {G : Nat → Int32} {f g : Nat} (h : f < g) (h0 : G f = 0) : mo_lv G f < mo_lv G g := by
  have h1 := lv_mono (G := G) (f := f + 1) (g - (f + 1))
  rw [show f + 1 + (g - (f + 1)) = g by omega] at h1
  have h2 : mo_lv G (f + 1) = mo_lv G f + (if G f = 0 then 1 else 0) := rfl
  rw [if_pos h0] at h2
  omega
theorem lv_inj {G : Nat → Int32} {f g : Nat} (h1 : G f = 0) (h2 : G g = 0) (h : mo_lv G f = mo_lv G g) : f = g := by
  rcases Nat.lt_trichotomy f g with z | z | z
  · have := mlv_lt z h1; omega
  · exact z
  · have := mlv_lt z h2; omega
section CO
variable {A : Nat → Nat → Int32} {S : Nat → Int64} {I F V G W : Nat → Int32} {k dp : Nat} {bg cr co : Int32} {N : Nat} {col : Nat → List co_E} {B B' : Nat → Nat → Int32} {J J' : Nat → Int32} {n lw b e r : Nat}
theorem an_dn (hn : n ≤ 48) (hup : mo_up (A 0) n) (hde : mo_de (A 0) (A 2) n) : ∀ (m q w : Nat), q < n → li_an (A 0) m (nI q) w → wk_dn A w ≤ wk_dn A q
  | 0, _, _, _, h => h.elim
  | m + 1, q, w, hq, h => by
    obtain ⟨-, h2⟩ := h
    rw [nI_clamp (by omega)] at h2
    rcases h2 with z | z
    · rw [z]; exact Nat.le_refl _
    · rcases hup q hq with y | ⟨p, hp, y⟩
      · rw [y] at z
        match m, z with
        | m + 1, z => exact absurd rfl z.1
      · rw [y] at z
        have h1 := an_dn hn hup hde m p w (by omega) z
        have h2 := ta_dn hn hde hq y (by omega)
        omega
/-- each depth of a field's way has its group -/
theorem an_at (hn : n ≤ 48) (hup : mo_up (A 0) n) (hde : mo_de (A 0) (A 2) n) : ∀ (m f i : Nat), f < n → li_en (A 0) m (nI f) → i < wk_dn A f → ∃ u, li_an (A 0) m (nI f) u ∧ wk_dn A u = i + 1
  | 0, f, i, hf, h, _ => absurd h (nI_nm1 (by omega))
  | m + 1, f, i, hf, h, hi => by
    by_cases z : i + 1 = wk_dn A f
    · exact ⟨f, ⟨nI_nm1 (by omega), Or.inl (nI_clamp (by omega))⟩, z.symm⟩
    · have h2 := Or.resolve_left h (nI_nm1 (by omega))
      rw [nI_clamp (by omega)] at h2
      rcases hup f hf with y | ⟨p, hp, y⟩
      · have := ta_dn0 hn hde hf y
        omega
      · rw [y] at h2
        have hd := ta_dn hn hde hf y (by omega)
        obtain ⟨u, u1, u2⟩ := an_at hn hup hde m p i (by omega) h2 (by omega)
        exact ⟨u, ⟨nI_nm1 (by omega), Or.inr (by rw [nI_clamp (by omega), y]; exact u1)⟩, u2⟩
/-- a leaf's column -/
theorem ta_mkP (hS : li_S A I B J n lw) (hx : gx_S A S B n) {f : Nat} (hf : f < n) (h0 : B 3 f = 0) : ta_P A B n (mo_lv (B 3) f) f (wk_dn A f) (wy_W A f) (wy_D A f) (wy_R A f) := by
  have hgr := fun w hw => li_grp (w := w) hS hw
  obtain ⟨hn, hI8, hJ4, hr, hI9, hlw, hup, hde, ⟨e0, e1, e2⟩, h5, hE⟩ := hS
  have hlv := mo_lv_le (B 3) f
  obtain ⟨d1, d2, d3⟩ := dn_pos hn hde hf
  refine ⟨⟨hf, h0, rfl, by omega⟩, fun g hg g0 => ?_, fun g hg => hgr g hg, fun w hw => ?_, hx.2⟩
  · have hlg := mo_lv_le (B 3) g
    have e := h5 g hg
    rw [if_pos g0] at e
    refine ⟨?_, mo_lv (B 3) g, by omega, e⟩
    rw [e, nI_eq (by omega) (by omega)]
    exact ⟨fun y => lv_inj g0 h0 y, fun y => by rw [y]⟩
  · have hwf := li_an_of_le hup hn 48 f w hf hw
    obtain ⟨w1, w2, w3⟩ := dn_pos hn hde (show w < n by omega)
    have hy : wy_W A f (wk_dn A w - 1) = nI w := (wy_at hn hde (wk_dn A f) f (fun _ => 0) d2 hf d3).2 48 w (wk_dn A w - 1) hw (by rw [w3]; congr 1; omega) (by omega)
    refine ⟨hy, ?_, ?_, by omega, an_dn hn hup hde 48 f w hf hw⟩
    · unfold wy_D; rw [hy, nI_clamp (by omega)]
    · unfold wy_R; rw [hy, nI_clamp (by omega)]
/-- the set of a field's columns, asked for a leaf -/
theorem hv_an (hS : li_S A I B J n lw) (hx : gx_S A S B n) {f g : Nat} (hf : f < n) (h0 : B 3 f = 0) (hg : g < n) : ¬ st_hv (S g) (nI (mo_lv (B 3) f)) = 0 ↔ ta_an A f g := by
  have hn := hS.1
  have hlv := mo_lv_le (B 3) f
  rw [hv_bit (by omega), hx.1.2.1 g _ hg (by omega)]
  constructor
  · rintro ⟨u, u1, u2, u3, u4⟩
    have := lv_inj u2 h0 u3
    rw [this] at u4
    exact u4
  · exact fun y => ⟨f, hf, h0, rfl, y⟩
theorem ta_mkH (hS : li_S A I B J n lw) (hx : gx_S A S B n) (hD : gx_D A n F V k B J b) (hR : tr_R A n B b (b + k)) (hb : b + k ≤ 2048) (hN : N = lw) {f : Nat} (hf : f < n) (h0 : B 3 f = 0) : ta_H A B S F V k N n b (b + k) (mo_lv (B 3) f) f (wk_dn A f) (wy_W A f) (wy_D A f) (wy_R A f) := by
  have hP := ta_mkP hS hx hf h0
  have ha := fun g hg => hv_an (g := g) hS hx hf h0 hg
  obtain ⟨hn, hI8, hJ4, hr, hI9, hlw, hup, hde, ⟨e0, e1, e2⟩, h5, hE⟩ := hS
  have hl := mlv_lt hf h0
  have hl2 := mo_lv_le (B 3) n
  exact ⟨⟨⟨hn, hb, hup, hde⟩, hR, fun q1 q2 z1 z2 z3 z4 => (hD.2.1 q1 q2 z1 z2 z3 z4).1⟩, hD.1, rfl, hP, ⟨by omega, by omega⟩, ha, hE⟩
/-- the columns behind the record's end -/
theorem gx_C.out (h : gx_C A n N col B J lw b r) (hS : li_S A I B J n lw) (hx : gx_S A S B n) (hD : gx_D A n F V k B J b) (hT : tr_A A n B J b k r) (hb : b + k ≤ 2048) (hr : r < 128) (hJ : J' 5 = J 5) : gx_C A n N (tk_all A S F V k N n col).2 (va_up B 7 (upd (B 7) (r + 1) (nI (b + k)))) J' lw (b + k) (r + 1) := fun z => by
  rw [hJ] at z
  obtain ⟨c1, c2⟩ := h z
  have hR : tr_R A n B b (b + k) := by obtain ⟨Bn, -, -, -, h4, -⟩ := id hT; exact h4
  obtain ⟨t1, t2, t3⟩ := hT.bn (by omega)
  refine ⟨c1, fun f hf h0 => ?_⟩
  have h0' : B 3 f = 0 := h0
  obtain ⟨c3, c4⟩ := c2 f hf h0'
  obtain ⟨a1, a2⟩ := ta_all (ta_mkH hS hx hD hR hb c1 hf h0') (col := col)
  have hdn := (dn_pos hS.1 hS.2.2.2.2.2.2.2.1 hf).1
  have eN : en_of A (va_up B 7 (upd (B 7) (r + 1) (nI (b + k)))) f (r + 1) = en_of A B f r ++ fi_rec (B 4) (B 6) (B 5) (wy_W A f) (wy_D A f) (wy_R A f) (wk_dn A f) b (b + k) := by
    have e1 : en_of A (va_up B 7 (upd (B 7) (r + 1) (nI (b + k)))) f r = en_of A B f r := en_of.cg hT (by omega) hdn (fun _ _ => rfl) (fun _ _ => rfl) (fun _ _ => rfl) (fun i hi => pk_un (by omega))
    rw [← e1]
    unfold en_of
    rw [en_snoc]
    have e2 : bn_of (va_up B 7 (upd (B 7) (r + 1) (nI (b + k)))) (0 + r) = b := by
      rw [Nat.zero_add]
      refine Eq.trans ?_ t2
      show (upd (B 7) (r + 1) (nI (b + k)) r).toNatClampNeg = (B 7 r).toNatClampNeg
      rw [pk_un (by omega)]
    have e3 : bn_of (va_up B 7 (upd (B 7) (r + 1) (nI (b + k)))) (0 + r + 1) = b + k := by
      rw [Nat.zero_add]
      show (upd (B 7) (r + 1) (nI (b + k)) (r + 1)).toNatClampNeg = _
      rw [pk_us, nI_clamp (by omega)]
    rw [e2, e3]
    rfl
  rw [eN]
  refine ⟨?_, ?_⟩
  · show (tk_all A S F V k N n col).2 (mo_lv (B 3) f) = _
    rw [a2 (by rw [c3]; omega), c3]
  · rw [List.length_append]
    omega
/-- the reference's entries are those -/
theorem ents_eq (hS : li_S A I B J n lw) (hx : gx_S A S B n) (hT : tr_A A n B J b k r) (hb : b ≤ 2048) {f kk : Nat} {Bn : Nat → Nat} (hBn : ∀ i, i ≤ r → B 7 i = nI (Bn i) ∧ Bn i ≤ 2048) (hf : f < n) (h0 : B 3 f = 0) (hk : B 2 f = nI kk) (hk2 : kk ≤ 16) : mo_ents B n r Bn f kk = en_of A B f r := by
  obtain ⟨⟨p1, p2, p3, p4⟩, -, -, p5, -⟩ := ta_mkP hS hx hf h0
  obtain ⟨hn, hI8, hJ4, hr, hI9, hlw, hup, hde, ⟨e0, e1, e2⟩, h5, hE⟩ := hS
  obtain ⟨d1, d2, d3⟩ := dn_pos hn hde hf
  obtain ⟨t1, t2, t3⟩ := hT.bn hb
  have ek : kk = wk_dn A f := by
    rw [e2, d3] at hk
    exact ((nI_eq (by omega) (by omega)).mp hk).symm
  subst ek
  obtain ⟨w1, w2⟩ := wy_at hn hde (wk_dn A f) f (B 8) d2 hf d3
  have key : ∀ i, i < wk_dn A f → ∃ u, u < n ∧ li_an (A 0) 48 (nI f) u ∧ mo_wy (A 0) (wk_dn A f) (nI f) (B 8) i = nI u ∧ wy_W A f i = nI u := fun i hi => by
    obtain ⟨u, u1, u2⟩ := an_at hn hup hde 48 f i hf (li_en_48 hup hn hf) hi
    have hwf := li_an_of_le hup hn 48 f u hf u1
    obtain ⟨x1, x2, x3⟩ := dn_pos hn hde (show u < n by omega)
    refine ⟨u, by omega, u1, w2 48 u i u1 (by rw [x3, u2]) (by omega), ?_⟩
    have := (p5 u u1).1
    rw [u2, Nat.add_sub_cancel] at this
    exact this
  have lev : ∀ u, u < n → ∀ l : Int32, mo_ct (A 0) (A 1) l n (nI u) = mo_ct (A 0) (A 1) l 48 (nI u) := fun u hu l => ct_eq (li_en_up hup hn n (nI u) (Or.inr ⟨u, hu, rfl⟩) (Nat.le_refl _)) (li_en_48 hup hn hu)
  unfold mo_ents en_of
  have main : ∀ (m q : Nat), q + m = r → fi_from (va_up B 8 (mo_wy (B 0) (wk_dn A f) (nI f) (B 8))) n (wk_dn A f) Bn m q = en_fr (B 4) (B 6) (B 5) (wy_W A f) (wy_D A f) (wy_R A f) (wk_dn A f) (bn_of B) m q := by
    intro m
    induction m with
    | zero => intro q _; rfl
    | succ m ih =>
      intro q hq
      show fi_rec (B 4) (B 6) (B 5) (mo_wy (B 0) (wk_dn A f) (nI f) (B 8)) (fi_D (va_up B 8 (mo_wy (B 0) (wk_dn A f) (nI f) (B 8))) n) (fi_R (va_up B 8 (mo_wy (B 0) (wk_dn A f) (nI f) (B 8))) n) (wk_dn A f) (Bn q) (Bn (q + 1)) ++ fi_from (va_up B 8 (mo_wy (B 0) (wk_dn A f) (nI f) (B 8))) n (wk_dn A f) Bn m (q + 1) = fi_rec (B 4) (B 6) (B 5) (wy_W A f) (wy_D A f) (wy_R A f) (wk_dn A f) (bn_of B q) (bn_of B (q + 1)) ++ en_fr (B 4) (B 6) (B 5) (wy_W A f) (wy_D A f) (wy_R A f) (wk_dn A f) (bn_of B) m (q + 1)
      rw [ih (q + 1) (by omega)]
      have b1 : bn_of B q = Bn q := by unfold bn_of; rw [(hBn q (by omega)).1, nI_clamp (by have := (hBn q (by omega)).2; omega)]
      have b2 : bn_of B (q + 1) = Bn (q + 1) := by unfold bn_of; rw [(hBn (q + 1) (by omega)).1, nI_clamp (by have := (hBn (q + 1) (by omega)).2; omega)]
      rw [b1, b2]
      congr 1
      refine rec_cg (hBn (q + 1) (by omega)).2 d1 (fun _ _ => ⟨⟨rfl, rfl⟩, rfl⟩) (fun i hi => ?_)
      obtain ⟨u, u1, u2, u3, u4⟩ := key i hi
      rw [e0, u3, u4]
      refine ⟨rfl, ?_, ?_⟩
      · show nI (mo_ct (B 0) (B 1) 1 n (mo_wy (A 0) (wk_dn A f) (nI f) (B 8) i)) = A 4 (wy_W A f i).toNatClampNeg
        rw [e0, e1, u3, u4, nI_clamp (by omega), lev u u1, (hx.1.1 u u1).2.2]
      · show nI (mo_ct (B 0) (B 1) 2 n (mo_wy (A 0) (wk_dn A f) (nI f) (B 8) i)) = A 3 (wy_W A f i).toNatClampNeg
        rw [e0, e1, u3, u4, nI_clamp (by omega), lev u u1, (hx.1.1 u u1).2.1]
  exact main r 0 (by omega)
end CO
