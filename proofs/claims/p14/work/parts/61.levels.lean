/-! LINKS, 4: the levels and the sets of columns. -/
theorem ct_s {par kin : Nat → Int32} {l : Int32} : ∀ (m : Nat) (f : Int32), li_en par m f → mo_ct par kin l (m + 1) f = mo_ct par kin l m f
  | 0, f, h => if_pos h
  | m + 1, f, h => by
    show (if f = -1 then 0 else (if kin f.toNatClampNeg < l then 0 else 1) + mo_ct par kin l (m + 1) (par f.toNatClampNeg)) = (if f = -1 then 0 else (if kin f.toNatClampNeg < l then 0 else 1) + mo_ct par kin l m (par f.toNatClampNeg))
    by_cases z : f = -1
    · rw [if_pos z, if_pos z]
    · rw [if_neg z, if_neg z, ct_s m _ (Or.resolve_left h z)]
theorem ct_le {par kin : Nat → Int32} {l f : Int32} {m : Nat} (h : li_en par m f) : ∀ k, mo_ct par kin l (m + k) f = mo_ct par kin l m f
  | 0 => rfl
  | k + 1 => (ct_s (m + k) f (li_en_le h k)).trans (ct_le h k)
theorem ct_eq {par kin : Nat → Int32} {l f : Int32} {m k : Nat} (h : li_en par m f) (h2 : li_en par k f) : mo_ct par kin l m f = mo_ct par kin l k f := by
  rw [← ct_le h k, ← ct_le h2 m, Nat.add_comm]
theorem ct_ext {par kin : Nat → Int32} {n : Nat} {x y l : Int32} (hup : mo_up par n) (hn : n ≤ 48) : ∀ (m : Nat) (f : Int32), (f = -1 ∨ ∃ p, p < n ∧ f = nI p) → mo_ct (upd par n x) (upd kin n y) l m f = mo_ct par kin l m f
  | 0, _, _ => rfl
  | m + 1, f, h => by
    show (if f = -1 then 0 else (if upd kin n y f.toNatClampNeg < l then 0 else 1) + mo_ct (upd par n x) (upd kin n y) l m (upd par n x f.toNatClampNeg)) = (if f = -1 then 0 else (if kin f.toNatClampNeg < l then 0 else 1) + mo_ct par kin l m (par f.toNatClampNeg))
    rcases h with z | ⟨p, hp, z⟩
    · rw [if_pos z, if_pos z]
    · rw [z, if_neg (nI_nm1 (by omega)), if_neg (nI_nm1 (by omega)), nI_clamp (by omega), show upd kin n y p = kin p from if_neg (by omega), show upd par n x p = par p from if_neg (by omega), ct_ext hup hn m (par p) ?_]
      rcases hup p hp with q | ⟨g, hg, q⟩
      · exact Or.inl q
      · exact Or.inr ⟨g, by omega, q⟩
/-- kinds, levels, sets -/
def li_V (A : Nat → Nat → Int32) (S : Nat → Int64) (B : Nat → Nat → Int32) (n : Nat) : Prop := (∀ f, f < n → (A 1 f = 0 ∨ A 1 f = 1 ∨ A 1 f = 2) ∧ A 3 f = nI (mo_ct (A 0) (A 1) 2 48 (nI f)) ∧ A 4 f = nI (mo_ct (A 0) (A 1) 1 48 (nI f))) ∧ (∀ f c, f < n → c < 48 → ((S f).toBitVec.getLsbD c = true ↔ ∃ g, g < n ∧ B 3 g = 0 ∧ mo_lv (B 3) g = c ∧ li_an (A 0) 48 (nI g) f)) ∧ ∀ f, n ≤ f → S f = 0
/-- what stretch does to the sets -/
theorem st_set {par : Nat → Int32} {v : Int32} {s : Int64} {n : Nat} (hup : mo_up par n) (hn : n ≤ 48) : ∀ (m : Nat) (f : Int32) (x : (Nat → Int32) × (Nat → Int64)), (f = -1 ∨ ∃ p, p < n ∧ f = nI p) → (∀ g, li_an par m f g → (sc_st par v s m f x).2 g = x.2 g ||| s) ∧ (∀ g, ¬ li_an par m f g → (sc_st par v s m f x).2 g = x.2 g)
  | 0, _, _, _ => ⟨fun _ z => z.elim, fun _ _ => rfl⟩
  | m + 1, f, x, hf => by
    have eS : sc_st par v s (m + 1) f x = if f = -1 then x else sc_st par v s m (par f.toNatClampNeg) (upd x.1 f.toNatClampNeg v, vp_updL x.2 f.toNatClampNeg (x.2 f.toNatClampNeg ||| s)) := rfl
    rw [eS]
    by_cases z : f = -1
    · rw [if_pos z]
      exact ⟨fun g y => absurd z y.1, fun _ _ => rfl⟩
    · rw [if_neg z]
      obtain ⟨p, hp, ep⟩ := hf.resolve_left z
      have hnx : par f.toNatClampNeg = -1 ∨ ∃ q, q < n ∧ par f.toNatClampNeg = nI q := by
        rw [ep, nI_clamp (by omega)]
        rcases hup p hp with q | ⟨g, hg, q⟩
        · exact Or.inl q
        · exact Or.inr ⟨g, by omega, q⟩
      obtain ⟨h1, h2⟩ := st_set (v := v) (s := s) hup hn m (par f.toNatClampNeg) (upd x.1 f.toNatClampNeg v, vp_updL x.2 f.toNatClampNeg (x.2 f.toNatClampNeg ||| s)) hnx
      have below : ∀ g, li_an par m (par f.toNatClampNeg) g → g ≠ f.toNatClampNeg := fun g y e => by
        rw [ep, nI_clamp (by omega)] at y e
        rcases hup p hp with q | ⟨u, hu, q⟩
        · rw [q] at y
          match m, y with
          | m + 1, y => exact absurd rfl y.1
        · rw [q] at y
          have := li_an_of_le hup hn m u g (by omega) y
          omega
      refine ⟨fun g y => ?_, fun g y => ?_⟩
      · by_cases q : li_an par m (par f.toNatClampNeg) g
        · rw [h1 g q]
          show (if g = f.toNatClampNeg then _ else x.2 g) ||| s = _
          rw [if_neg (below g q)]
        · rw [h2 g q]
          exact (if_pos (y.2.resolve_right q).symm).trans (by rw [y.2.resolve_right q])
      · rw [h2 g (fun q => y ⟨z, Or.inr q⟩)]
        exact if_neg (fun q => y ⟨z, Or.inl q.symm⟩)
theorem bit_or (x y : Int64) (c : Nat) : (x ||| y).toBitVec.getLsbD c = (x.toBitVec.getLsbD c || y.toBitVec.getLsbD c) := by
  rw [Int64.toBitVec_or, BitVec.getLsbD_or]
theorem bit_0 (c : Nat) : (0 : Int64).toBitVec.getLsbD c = false := by
  rw [show (0 : Int64).toBitVec = 0#64 from rfl, BitVec.getLsbD_zero]
theorem bit_1 : ∀ l, l < 48 → ∀ c, c < 48 → (sc_bit l).toBitVec.getLsbD c = decide (c = l) := by decide +kernel
theorem li_V.add {A : Nat → Nat → Int32} {S : Nat → Int64} {I : Nat → Int32} {B : Nat → Nat → Int32} {J : Nat → Int32} {n lw : Nat} {p kd gb : Int32} (h : li_V A S B n) (hS : li_S A I B J n lw) (hy : sc_yes A I n p kd) (hgb : gb = 0 ∨ gb = 1) :
    li_V (va_up (sc_A1 A n lw p kd gb) 6 (sc_st1 A S n lw p gb).1) (sc_st1 A S n lw p gb).2 (va_up (va_up (va_up (va_up B 0 (upd (B 0) n p)) 1 (upd (B 1) n kd)) 3 (upd (B 3) n gb)) 2 (upd (B 2) n (if p = -1 then 1 else B 2 p.toNatClampNeg + 1))) (n + 1) := by
  have hn48 := hy.2.1
  have hy2 := hy.2.2.2.2
  have hk : kd = 0 ∨ kd = 1 ∨ kd = 2 := by
    obtain ⟨j, hj, e⟩ := nI_of2 (M := 2) (n := 2) (by decide) hy.2.2.1 hy.2.2.2.1
    rw [e]
    match j, hj with
    | 0, _ => exact Or.inl rfl
    | 1, _ => exact Or.inr (Or.inl rfl)
    | 2, _ => exact Or.inr (Or.inr rfl)
  have hSn := hS.add (S := S) (gb := gb) hy
  obtain ⟨hn, hI8, hJ4, hr, hI9, hlw, hup, hde, ⟨e0, e1, e2⟩, h5, hE⟩ := hS
  obtain ⟨v1, v2, v3⟩ := h
  have hp : p = -1 ∨ ∃ w, w < n ∧ p = nI w := by
    rcases hy2 with z | ⟨w, hw, z, -⟩
    · exact Or.inl z
    · exact Or.inr ⟨w, hw, z⟩
  have hup1 : mo_up (upd (A 0) n p) (n + 1) := sc_up_ext hup hp
  have hde1 := hSn.2.2.2.2.2.2.2.1
  have hen16 : li_en (upd (A 0) n p) 16 (nI n) := by
    obtain ⟨k, hk, ek, -⟩ := hde1 n (by omega)
    have := li_en_le (li_en_de hde1 (by omega) (k + 1) n (by omega) ek (by omega)) (16 - (k + 1))
    rw [show k + 1 + (16 - (k + 1)) = 16 by omega] at this
    exact this
  have hen48 : li_en (upd (A 0) n p) 48 (nI n) := li_en_48 hup1 (by omega) (by omega)
  have an48 : ∀ w, li_an (upd (A 0) n p) 48 (nI n) w ↔ li_an (upd (A 0) n p) 16 (nI n) w := fun w => li_an_eq hen48 hen16
  have lev : ∀ (l : Int32) (k : Nat) (x : Int32), (∀ w, w < n → A k w = nI (mo_ct (A 0) (A 1) l 48 (nI w))) → x = (if kd < l then 0 else 1) → sc_of A k p + x = nI (mo_ct (upd (A 0) n p) (upd (A 1) n kd) l 48 (nI n)) := by
    intro l k x hA hx
    show _ = nI (if nI n = -1 then 0 else (if upd (A 1) n kd (nI n).toNatClampNeg < l then 0 else 1) + mo_ct (upd (A 0) n p) (upd (A 1) n kd) l 47 (upd (A 0) n p (nI n).toNatClampNeg))
    rw [if_neg (nI_nm1 (by omega)), nI_clamp (by omega), show upd (A 1) n kd n = kd from if_pos rfl, show upd (A 0) n p n = p from if_pos rfl, ct_ext hup hn 47 p hp]
    unfold sc_of
    have hx2 : x = nI (if kd < l then 0 else 1) := by
      rw [hx]; split <;> rfl
    rcases hp with z | ⟨w, hw, z⟩
    · rw [if_pos z, z, hx2, show mo_ct (A 0) (A 1) l 47 (-1) = 0 from rfl, Nat.add_zero]
      exact Int32.zero_add _
    · have e47 : mo_ct (A 0) (A 1) l 47 (nI w) = mo_ct (A 0) (A 1) l 48 (nI w) := by
        have h1 : li_en (A 0) n (nI w) := li_en_up hup hn n _ (Or.inr ⟨w, hw, rfl⟩) (Nat.le_refl _)
        have h2 := li_en_le h1 (47 - n)
        rw [show n + (47 - n) = 47 by omega] at h2
        exact (ct_s 47 _ h2).symm
      rw [z, if_neg (nI_nm1 (by omega)), nI_clamp (by omega), hA w hw, hx2, e47, nI_add, Nat.add_comm]
  refine ⟨fun f hf => ?_, fun f c hf hc => ?_, fun f hf => ?_⟩
  · show (upd (A 1) n kd f = 0 ∨ upd (A 1) n kd f = 1 ∨ upd (A 1) n kd f = 2) ∧ upd (A 3) n (sc_of A 3 p + if kd = 2 then 1 else 0) f = nI (mo_ct (upd (A 0) n p) (upd (A 1) n kd) 2 48 (nI f)) ∧ upd (A 4) n (sc_of A 4 p + if kd = 0 then 0 else 1) f = nI (mo_ct (upd (A 0) n p) (upd (A 1) n kd) 1 48 (nI f))
    by_cases z : f = n
    · rw [z, show upd (A 1) n kd n = kd from if_pos rfl, show upd (A 3) n (sc_of A 3 p + if kd = 2 then 1 else 0) n = _ from if_pos rfl, show upd (A 4) n (sc_of A 4 p + if kd = 0 then 0 else 1) n = _ from if_pos rfl]
      refine ⟨hk, lev 2 3 _ (fun w hw => (v1 w hw).2.1) ?_, lev 1 4 _ (fun w hw => (v1 w hw).2.2) ?_⟩
      · rcases hk with q | q | q <;> rw [q] <;> decide
      · rcases hk with q | q | q <;> rw [q] <;> decide
    · have hfn : f < n := by omega
      rw [show upd (A 1) n kd f = A 1 f from if_neg z, show upd (A 3) n (sc_of A 3 p + if kd = 2 then 1 else 0) f = A 3 f from if_neg z, show upd (A 4) n (sc_of A 4 p + if kd = 0 then 0 else 1) f = A 4 f from if_neg z, ct_ext hup hn 48 (nI f) (Or.inr ⟨f, hfn, rfl⟩), ct_ext hup hn 48 (nI f) (Or.inr ⟨f, hfn, rfl⟩)]
      exact v1 f hfn
  · show ((sc_st1 A S n lw p gb).2 f).toBitVec.getLsbD c = true ↔ ∃ g, g < n + 1 ∧ upd (B 3) n gb g = 0 ∧ mo_lv (upd (B 3) n gb) g = c ∧ li_an (upd (A 0) n p) 48 (nI g) f
    have hlw48 : lw < 48 := by
      have := mo_lv_le (B 3) n
      omega
    obtain ⟨s1, s2⟩ := st_set (par := upd (A 0) n p) (v := nI n + 1) (s := if gb = 0 then sc_bit lw else 0) hup1 (by omega) 16 (nI n) (A 6, S) (Or.inr ⟨n, by omega, rfl⟩)
    -- what was there before
    have old : (S f).toBitVec.getLsbD c = true ↔ ∃ g, g < n ∧ B 3 g = 0 ∧ mo_lv (B 3) g = c ∧ li_an (A 0) 48 (nI g) f := by
      rcases Nat.lt_or_ge f n with y | y
      · exact v2 f c y hc
      · rw [v3 f y, bit_0]
        refine ⟨fun x => absurd x (by decide), fun ⟨g, hg, _, _, x⟩ => ?_⟩
        have := li_an_of_le hup hn 48 g f hg x
        omega
    have split : (∃ g, g < n + 1 ∧ upd (B 3) n gb g = 0 ∧ mo_lv (upd (B 3) n gb) g = c ∧ li_an (upd (A 0) n p) 48 (nI g) f) ↔ ((∃ g, g < n ∧ B 3 g = 0 ∧ mo_lv (B 3) g = c ∧ li_an (A 0) 48 (nI g) f) ∨ (gb = 0 ∧ lw = c ∧ li_an (upd (A 0) n p) 48 (nI n) f)) := by
      constructor
      · rintro ⟨g, hg, g1, g2, g3⟩
        rw [li_lv_ext g (by omega)] at g2
        by_cases y : g = n
        · rw [y] at g1 g2 g3
          rw [show upd (B 3) n gb n = gb from if_pos rfl] at g1
          exact Or.inr ⟨g1, hlw.trans g2, g3⟩
        · rw [show upd (B 3) n gb g = B 3 g from if_neg y] at g1
          exact Or.inl ⟨g, by omega, g1, g2, (li_an_ext hup hn 48 (nI g) (Or.inr ⟨g, by omega, rfl⟩)).mp g3⟩
      · rintro (⟨g, hg, g1, g2, g3⟩ | ⟨g1, g2, g3⟩)
        · exact ⟨g, by omega, (if_neg (by omega)).trans g1, (li_lv_ext g (by omega)).trans g2, (li_an_ext hup hn 48 (nI g) (Or.inr ⟨g, hg, rfl⟩)).mpr g3⟩
        · exact ⟨n, by omega, (if_pos rfl).trans g1, (li_lv_ext n (Nat.le_refl _)).trans (hlw.symm.trans g2), g3⟩
    rw [split, ← old]
    by_cases z : li_an (upd (A 0) n p) 16 (nI n) f
    · have e : (sc_st1 A S n lw p gb).2 f = S f ||| (if gb = 0 then sc_bit lw else 0) := s1 f z
      rw [e, bit_or]
      rcases hgb with q | q
      · rw [if_pos q, bit_1 lw hlw48 c hc]
        simp only [Bool.or_eq_true, decide_eq_true_eq]
        exact or_congr_right ⟨fun x => ⟨q, x.symm, (an48 f).mpr z⟩, fun x => x.2.1.symm⟩
      · rw [if_neg (by rw [q]; decide), bit_0, Bool.or_false]
        exact ⟨Or.inl, fun x => x.resolve_right (fun y => by rw [q] at y; exact absurd y.1 (by decide))⟩
    · have e : (sc_st1 A S n lw p gb).2 f = S f := s2 f z
      rw [e]
      exact ⟨Or.inl, fun x => x.resolve_right (fun y => z ((an48 f).mp y.2.2))⟩
  · obtain ⟨s1, s2⟩ := st_set (par := upd (A 0) n p) (v := nI n + 1) (s := if gb = 0 then sc_bit lw else 0) hup1 (by omega) 16 (nI n) (A 6, S) (Or.inr ⟨n, by omega, rfl⟩)
    have e : (sc_st1 A S n lw p gb).2 f = S f := s2 f (fun x => by
      have := li_an_of_le hup1 (by omega) 16 n f (by omega) x
      omega)
    rw [e]
    exact v3 f (by omega)
